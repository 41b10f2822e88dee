def wp_LogDisk_writeVote (Ln : gI → Nat) (Q : gS → Prop) (x0 : gI)  (S : gS) : Prop :=
  wp_Frame_begin Ln (fun S1 => wp_Frame_add Ln (fun S2 => wp_Frame_add Ln (fun S3 => wp_Frame_add Ln (fun S4 => wp_Frame_close Ln (fun S5 => vp_in (S5.1 (grf x0 5) 3) (Ln (grf x0 1)) ∧ (wp_DiskFile_cutTo Ln (fun S7 => vp_in (S7.1 (grf x0 5) 3) (Ln (grf x0 1)) ∧ (wp_DiskFile_write Ln (fun S9 => Q S9) (grf (grf x0 1) (S7.1 (grf x0 5) 3).toNatClampNeg) (grf (grf x0 4) 0) (S7.1 (grf x0 4) 1) S7)) (grf (grf x0 1) (S5.1 (grf x0 5) 3).toNatClampNeg) 0 S5)) (grf x0 4) S4) (grf x0 4) ((S3.1 (grf x0 5) 1).toInt64) 8 S3) (grf x0 4) ((S2.1 (grf x0 5) 0).toInt64) 8 S2) (grf x0 4) (S1.2 (grf x0 5) 2) 8 S1) (grf x0 4) S
set_option maxHeartbeats 4000000 in
set_option maxRecDepth 100000 in
theorem mw_LogDisk_writeVote {p : Program} {l : Launch} {e : Env} {s : State} {m : MethodId} {args : Array Value} {below : List Frame} {meth : Method} {c : Code} {Y : gY} {Q : gS → Prop} (C : gCx p s m args meth c Y "LogDisk" c_LogDisk_writeVote 1 (Option.none : Option Jvm.ClassFile.FieldType) w_LogDisk_writeVote) : ∀ (x0 : gI)  (S : gS) (H : Heap) (locs : List Loc) (ls : Array Slot), gis Y 9 x0 → wp_LogDisk_writeVote (gLn Y) Q x0 S → gWd Y S H → va_S (gA Y s.heap.size) s.heap H locs → lv_has ls 1 [(0, .ref (gad Y x0))] → W p l e (gRm 4 110) s m args below meth c H locs 0 0 (MQ below (va_Qv Q (gB Y) (gA Y s.heap.size)) args s 0 0 (gA Y s.heap.size)) (F0 m 0 ls []) := by
  have C0 := C
  obtain ⟨hx, hb, hml, hown, hts, hr, hlocks, hK, hY, hSt⟩ := C
  intro x0 S H locs ls hx0 hw hP hS hl
  unfold wp_LogDisk_writeVote at hw
  refine lv_aload_n hx hb d_LogDisk_writeVote_0 rfl (lv_at hl 0 rfl) ?_
  refine g_get hx hb hts (fun w h => List.mem_cons_of_mem _ (in_LogDisk w h)) hown hK hP hx0 (gce_LogDisk hx0.1) rfl 4 (by decide) (hts _ (List.mem_cons_of_mem _ gw_233)) rfl d_LogDisk_writeVote_1 ?_
  refine g_callv (va_runV (As := []) (rest := []) ⟨hx, hb, hml, hown, hts⟩ (k_Frame_begin l Y hY H.size (grf x0 4) (gis_LogDisk_frame hY hx0) S _) (cwV 0 hts (gG_V gw_563 gw_564 gw_565 gw_3 gw_566) rfl rfl rfl (by decide +kernel) ⟨Nat.le_of_ble_eq_true rfl, Nat.le_of_ble_eq_true rfl⟩) ⟨gPre_blind, g_recv hK hP (gis_LogDisk_frame hY hx0) (gce_Frame (gis_LogDisk_frame hY hx0).1) rfl, g_pre hK hSt hS hP hw⟩ rfl rfl hl.1 rfl (lv_room (Nat.le_of_ble_eq_true rfl)) d_LogDisk_writeVote_4 ⟨Nat.zero_le _, Nat.zero_le _⟩) hS (fun S1 H locs hw hP hS => ?_)
  refine lv_aload_n hx hb d_LogDisk_writeVote_7 rfl (lv_at hl 0 rfl) ?_
  refine g_get hx hb hts (fun w h => List.mem_cons_of_mem _ (in_LogDisk w h)) hown hK hP hx0 (gce_LogDisk hx0.1) rfl 4 (by decide) (hts _ (List.mem_cons_of_mem _ gw_233)) rfl d_LogDisk_writeVote_8 ?_
  refine lv_aload_n hx hb d_LogDisk_writeVote_11 rfl (lv_at hl 0 rfl) ?_
  refine g_get hx hb hts (fun w h => List.mem_cons_of_mem _ (in_LogDisk w h)) hown hK hP hx0 (gce_LogDisk hx0.1) rfl 5 (by decide) (hts _ (List.mem_cons_of_mem _ gw_234)) rfl d_LogDisk_writeVote_12 ?_
  refine g_get hx hb hts (fun w h => List.mem_cons_of_mem _ (in_Vote w h)) hown hK hP (gis_LogDisk_vote hY hx0) (gce_Vote (gis_LogDisk_vote hY hx0).1) rfl 2 (by decide) (hts _ (List.mem_cons_of_mem _ gw_75)) rfl d_LogDisk_writeVote_15 ?_
  refine lv_bipush (v := 8) hx hb d_LogDisk_writeVote_18 (by decide) ?_
  refine g_callv (va_runV (As := [.long (S1.2 (grf x0 5) 2), .int 8]) (rest := []) ⟨hx, hb, hml, hown, hts⟩ (k_Frame_add l Y hY H.size (grf x0 4) (S1.2 (grf x0 5) 2) 8 (gis_LogDisk_frame hY hx0) S1 _) (cwV 2 hts (gG_V gw_567 gw_568 gw_569 gw_3 gw_570) rfl rfl rfl (by decide +kernel) ⟨Nat.le_of_ble_eq_true rfl, Nat.le_of_ble_eq_true rfl⟩) ⟨gPre_blind, g_recv hK hP (gis_LogDisk_frame hY hx0) (gce_Frame (gis_LogDisk_frame hY hx0).1) rfl, g_pre hK hSt hS hP hw⟩ rfl rfl hl.1 rfl (lv_room (Nat.le_of_ble_eq_true rfl)) d_LogDisk_writeVote_20 ⟨Nat.zero_le _, Nat.zero_le _⟩) hS (fun S2 H locs hw hP hS => ?_)
  refine lv_aload_n hx hb d_LogDisk_writeVote_23 rfl (lv_at hl 0 rfl) ?_
  refine g_get hx hb hts (fun w h => List.mem_cons_of_mem _ (in_LogDisk w h)) hown hK hP hx0 (gce_LogDisk hx0.1) rfl 4 (by decide) (hts _ (List.mem_cons_of_mem _ gw_233)) rfl d_LogDisk_writeVote_24 ?_
  refine lv_aload_n hx hb d_LogDisk_writeVote_27 rfl (lv_at hl 0 rfl) ?_
  refine g_get hx hb hts (fun w h => List.mem_cons_of_mem _ (in_LogDisk w h)) hown hK hP hx0 (gce_LogDisk hx0.1) rfl 5 (by decide) (hts _ (List.mem_cons_of_mem _ gw_234)) rfl d_LogDisk_writeVote_28 ?_
  refine g_get hx hb hts (fun w h => List.mem_cons_of_mem _ (in_Vote w h)) hown hK hP (gis_LogDisk_vote hY hx0) (gce_Vote (gis_LogDisk_vote hY hx0).1) rfl 0 (by decide) (hts _ (List.mem_cons_of_mem _ gw_71)) rfl d_LogDisk_writeVote_31 ?_
  refine lv_i2l hx hb d_LogDisk_writeVote_34 rfl ?_
  refine lv_bipush (v := 8) hx hb d_LogDisk_writeVote_35 (by decide) ?_
  refine g_callv (va_runV (As := [.long ((S2.1 (grf x0 5) 0).toInt64), .int 8]) (rest := []) ⟨hx, hb, hml, hown, hts⟩ (k_Frame_add l Y hY H.size (grf x0 4) ((S2.1 (grf x0 5) 0).toInt64) 8 (gis_LogDisk_frame hY hx0) S2 _) (cwV 2 hts (gG_V gw_567 gw_568 gw_569 gw_3 gw_570) rfl rfl rfl (by decide +kernel) ⟨Nat.le_of_ble_eq_true rfl, Nat.le_of_ble_eq_true rfl⟩) ⟨gPre_blind, g_recv hK hP (gis_LogDisk_frame hY hx0) (gce_Frame (gis_LogDisk_frame hY hx0).1) rfl, g_pre hK hSt hS hP hw⟩ rfl rfl hl.1 rfl (lv_room (Nat.le_of_ble_eq_true rfl)) d_LogDisk_writeVote_37 ⟨Nat.zero_le _, Nat.zero_le _⟩) hS (fun S3 H locs hw hP hS => ?_)
  refine lv_aload_n hx hb d_LogDisk_writeVote_40 rfl (lv_at hl 0 rfl) ?_
  refine g_get hx hb hts (fun w h => List.mem_cons_of_mem _ (in_LogDisk w h)) hown hK hP hx0 (gce_LogDisk hx0.1) rfl 4 (by decide) (hts _ (List.mem_cons_of_mem _ gw_233)) rfl d_LogDisk_writeVote_41 ?_
  refine lv_aload_n hx hb d_LogDisk_writeVote_44 rfl (lv_at hl 0 rfl) ?_
  refine g_get hx hb hts (fun w h => List.mem_cons_of_mem _ (in_LogDisk w h)) hown hK hP hx0 (gce_LogDisk hx0.1) rfl 5 (by decide) (hts _ (List.mem_cons_of_mem _ gw_234)) rfl d_LogDisk_writeVote_45 ?_
  refine g_get hx hb hts (fun w h => List.mem_cons_of_mem _ (in_Vote w h)) hown hK hP (gis_LogDisk_vote hY hx0) (gce_Vote (gis_LogDisk_vote hY hx0).1) rfl 1 (by decide) (hts _ (List.mem_cons_of_mem _ gw_73)) rfl d_LogDisk_writeVote_48 ?_
  refine lv_i2l hx hb d_LogDisk_writeVote_51 rfl ?_
  refine lv_bipush (v := 8) hx hb d_LogDisk_writeVote_52 (by decide) ?_
  refine g_callv (va_runV (As := [.long ((S3.1 (grf x0 5) 1).toInt64), .int 8]) (rest := []) ⟨hx, hb, hml, hown, hts⟩ (k_Frame_add l Y hY H.size (grf x0 4) ((S3.1 (grf x0 5) 1).toInt64) 8 (gis_LogDisk_frame hY hx0) S3 _) (cwV 2 hts (gG_V gw_567 gw_568 gw_569 gw_3 gw_570) rfl rfl rfl (by decide +kernel) ⟨Nat.le_of_ble_eq_true rfl, Nat.le_of_ble_eq_true rfl⟩) ⟨gPre_blind, g_recv hK hP (gis_LogDisk_frame hY hx0) (gce_Frame (gis_LogDisk_frame hY hx0).1) rfl, g_pre hK hSt hS hP hw⟩ rfl rfl hl.1 rfl (lv_room (Nat.le_of_ble_eq_true rfl)) d_LogDisk_writeVote_54 ⟨Nat.zero_le _, Nat.zero_le _⟩) hS (fun S4 H locs hw hP hS => ?_)
  refine lv_aload_n hx hb d_LogDisk_writeVote_57 rfl (lv_at hl 0 rfl) ?_
  refine g_get hx hb hts (fun w h => List.mem_cons_of_mem _ (in_LogDisk w h)) hown hK hP hx0 (gce_LogDisk hx0.1) rfl 4 (by decide) (hts _ (List.mem_cons_of_mem _ gw_233)) rfl d_LogDisk_writeVote_58 ?_
  refine g_callv (va_runV (As := []) (rest := []) ⟨hx, hb, hml, hown, hts⟩ (k_Frame_close l Y hY H.size (grf x0 4) (gis_LogDisk_frame hY hx0) S4 _) (cwV 0 hts (gG_V gw_575 gw_576 gw_577 gw_3 gw_578) rfl rfl rfl (by decide +kernel) ⟨Nat.le_of_ble_eq_true rfl, Nat.le_of_ble_eq_true rfl⟩) ⟨gPre_blind, g_recv hK hP (gis_LogDisk_frame hY hx0) (gce_Frame (gis_LogDisk_frame hY hx0).1) rfl, g_pre hK hSt hS hP hw⟩ rfl rfl hl.1 rfl (lv_room (Nat.le_of_ble_eq_true rfl)) d_LogDisk_writeVote_61 ⟨Nat.zero_le _, Nat.zero_le _⟩) hS (fun S5 H locs hw hP hS => ?_)
  refine lv_aload_n hx hb d_LogDisk_writeVote_64 rfl (lv_at hl 0 rfl) ?_
  refine g_get hx hb hts (fun w h => List.mem_cons_of_mem _ (in_LogDisk w h)) hown hK hP hx0 (gce_LogDisk hx0.1) rfl 1 (by decide) (hts _ (List.mem_cons_of_mem _ gw_230)) rfl d_LogDisk_writeVote_65 ?_
  refine lv_aload_n hx hb d_LogDisk_writeVote_68 rfl (lv_at hl 0 rfl) ?_
  refine g_get hx hb hts (fun w h => List.mem_cons_of_mem _ (in_LogDisk w h)) hown hK hP hx0 (gce_LogDisk hx0.1) rfl 5 (by decide) (hts _ (List.mem_cons_of_mem _ gw_234)) rfl d_LogDisk_writeVote_69 ?_
  refine g_get hx hb hts (fun w h => List.mem_cons_of_mem _ (in_Vote w h)) hown hK hP (gis_LogDisk_vote hY hx0) (gce_Vote (gis_LogDisk_vote hY hx0).1) rfl 3 (by decide) (hts _ (List.mem_cons_of_mem _ gw_77)) rfl d_LogDisk_writeVote_72 ?_
  obtain ⟨hin, hw⟩ := hw
  refine g_aaload hx hb hK hP (gis_LogDisk_files hY hx0) hin d_LogDisk_writeVote_75 ?_
  have hin6 := hin
  refine lv_iconst (v := 0) hx hb d_LogDisk_writeVote_76 (by decide) ?_
  refine g_callv (va_runV (As := [.int 0]) (rest := []) ⟨hx, hb, hml, hown, hts⟩ (k_DiskFile_cutTo l Y hY H.size (grf (grf x0 1) (S5.1 (grf x0 5) 3).toNatClampNeg) 0 (gis_elem_DiskFile hY (gis_LogDisk_files hY hx0) hin6) S5 _) (cwV 1 hts (gG_V gw_392 gw_318 gw_319 gw_10 gw_320) rfl rfl rfl (by decide +kernel) ⟨Nat.le_of_ble_eq_true rfl, Nat.le_of_ble_eq_true rfl⟩) ⟨gPre_blind, g_recv hK hP (gis_elem_DiskFile hY (gis_LogDisk_files hY hx0) hin6) (gce_DiskFile (gis_elem_DiskFile hY (gis_LogDisk_files hY hx0) hin6).1) rfl, g_pre hK hSt hS hP hw⟩ rfl rfl hl.1 rfl (lv_room (Nat.le_of_ble_eq_true rfl)) d_LogDisk_writeVote_77 ⟨Nat.zero_le _, Nat.zero_le _⟩) hS (fun S7 H locs hw hP hS => ?_)
  refine lv_aload_n hx hb d_LogDisk_writeVote_80 rfl (lv_at hl 0 rfl) ?_
  refine g_get hx hb hts (fun w h => List.mem_cons_of_mem _ (in_LogDisk w h)) hown hK hP hx0 (gce_LogDisk hx0.1) rfl 1 (by decide) (hts _ (List.mem_cons_of_mem _ gw_230)) rfl d_LogDisk_writeVote_81 ?_
  refine lv_aload_n hx hb d_LogDisk_writeVote_84 rfl (lv_at hl 0 rfl) ?_
  refine g_get hx hb hts (fun w h => List.mem_cons_of_mem _ (in_LogDisk w h)) hown hK hP hx0 (gce_LogDisk hx0.1) rfl 5 (by decide) (hts _ (List.mem_cons_of_mem _ gw_234)) rfl d_LogDisk_writeVote_85 ?_
  refine g_get hx hb hts (fun w h => List.mem_cons_of_mem _ (in_Vote w h)) hown hK hP (gis_LogDisk_vote hY hx0) (gce_Vote (gis_LogDisk_vote hY hx0).1) rfl 3 (by decide) (hts _ (List.mem_cons_of_mem _ gw_77)) rfl d_LogDisk_writeVote_88 ?_
  obtain ⟨hin, hw⟩ := hw
  refine g_aaload hx hb hK hP (gis_LogDisk_files hY hx0) hin d_LogDisk_writeVote_91 ?_
  have hin8 := hin
  refine lv_aload_n hx hb d_LogDisk_writeVote_92 rfl (lv_at hl 0 rfl) ?_
  refine g_get hx hb hts (fun w h => List.mem_cons_of_mem _ (in_LogDisk w h)) hown hK hP hx0 (gce_LogDisk hx0.1) rfl 4 (by decide) (hts _ (List.mem_cons_of_mem _ gw_233)) rfl d_LogDisk_writeVote_93 ?_
  refine g_get hx hb hts (fun w h => List.mem_cons_of_mem _ (in_Frame w h)) hown hK hP (gis_LogDisk_frame hY hx0) (gce_Frame (gis_LogDisk_frame hY hx0).1) rfl 0 (by decide) (hts _ (List.mem_cons_of_mem _ gw_56)) rfl d_LogDisk_writeVote_96 ?_
  refine lv_aload_n hx hb d_LogDisk_writeVote_99 rfl (lv_at hl 0 rfl) ?_
  refine g_get hx hb hts (fun w h => List.mem_cons_of_mem _ (in_LogDisk w h)) hown hK hP hx0 (gce_LogDisk hx0.1) rfl 4 (by decide) (hts _ (List.mem_cons_of_mem _ gw_233)) rfl d_LogDisk_writeVote_100 ?_
  refine g_get hx hb hts (fun w h => List.mem_cons_of_mem _ (in_Frame w h)) hown hK hP (gis_LogDisk_frame hY hx0) (gce_Frame (gis_LogDisk_frame hY hx0).1) rfl 1 (by decide) (hts _ (List.mem_cons_of_mem _ gw_58)) rfl d_LogDisk_writeVote_103 ?_
  refine g_callv (va_runV (As := [.ref (gad Y (grf (grf x0 4) 0)), .int (S7.1 (grf x0 4) 1)]) (rest := []) ⟨hx, hb, hml, hown, hts⟩ (k_DiskFile_write l Y hY H.size (grf (grf x0 1) (S7.1 (grf x0 5) 3).toNatClampNeg) (grf (grf x0 4) 0) (S7.1 (grf x0 4) 1) (gis_elem_DiskFile hY (gis_LogDisk_files hY hx0) hin8) (gis_Frame_bytes hY (gis_LogDisk_frame hY hx0)) S7 _) (cwV 2 hts (gG_V gw_580 gw_581 gw_582 gw_10 gw_583) rfl rfl rfl (by decide +kernel) ⟨Nat.le_of_ble_eq_true rfl, Nat.le_of_ble_eq_true rfl⟩) ⟨gPre_blind, g_recv hK hP (gis_elem_DiskFile hY (gis_LogDisk_files hY hx0) hin8) (gce_DiskFile (gis_elem_DiskFile hY (gis_LogDisk_files hY hx0) hin8).1) rfl, g_pre hK hSt hS hP hw⟩ rfl rfl hl.1 rfl (lv_room (Nat.le_of_ble_eq_true rfl)) d_LogDisk_writeVote_106 ⟨Nat.zero_le _, Nat.zero_le _⟩) hS (fun S9 H locs hw hP hS => ?_)
  exact W.vret hx hb hr (fun t ht hW => ⟨⟨S9, rfl, hw, by rw [ht]; exact hP, va_K.moved hW.alike hK⟩, hS.F ht⟩) hS.2.2 d_LogDisk_writeVote_109
set_option maxHeartbeats 4000000 in
set_option maxRecDepth 100000 in
theorem k_LogDisk_writeVote (l : Launch) (Y : gY) (hY : gOK Y) (sz : Nat) (x0 : gI)  (hx0 : gis Y 9 x0) (S : gS) (Q : gS → Prop) : Met l y_LogDisk_writeVote w_LogDisk_writeVote (gRm 4 110) (gPre Y [.ref (gad Y x0)] S sz (wp_LogDisk_writeVote (gLn Y) Q x0 S)) (va_Qv Q (gB Y) (gA Y sz)) 0 0 (gA Y sz) := by
  refine Met.ofW (cc := c_LogDisk_writeVote) (maxL := 1) (ret := (Option.none : Option Jvm.ClassFile.FieldType)) (by decide) rfl ?_
  intro p e s m args below meth c s₁ B hml hv
  obtain ⟨rfl, hsz, hP, hK, hSt, hw⟩ := hv
  subst hsz
  have hts := atoms_spec (ws := w_LogDisk_writeVote) B.pre
  have hl := lv_entry ([.ref (gad Y x0)]) (n := 1) (Nat.le_of_ble_eq_true rfl)
  rw [lg_entry_eq]
  generalize (lg_sl ([.ref (gad Y x0)]) ++ List.replicate (1 - (lg_sl ([.ref (gad Y x0)])).length) Slot.unset).toArray = ls at hl ⊢
  exact mw_LogDisk_writeVote ⟨B.exec, B.bytes, hml, findClass_of_methodNamed B.named, hts, B.returns, B.notSynchronized, hK, hY, hSt⟩ x0 S s.heap [] ls hx0 hw hP va_S.rf hl

def wp_LogDisk_isInLog (Ln : gI → Nat) (Q : Int32 → gS → Prop) (x0 : gI) (x1 : Int32)  (S : gS) : Prop :=
  ((x1 ≤ (S.1 (grf x0 6) 1)) → (Q 0 S)) ∧ ((¬ x1 ≤ (S.1 (grf x0 6) 1)) → ((((S.1 x0 10) < x1) → (Q 0 S)) ∧ ((¬ (S.1 x0 10) < x1) → (Q 1 S))))
set_option maxHeartbeats 4000000 in
set_option maxRecDepth 100000 in
theorem mw_LogDisk_isInLog {p : Program} {l : Launch} {e : Env} {s : State} {m : MethodId} {args : Array Value} {below : List Frame} {meth : Method} {c : Code} {Y : gY} {Q : Int32 → gS → Prop} (C : gCx p s m args meth c Y "LogDisk" c_LogDisk_isInLog 2 (Option.some Jvm.ClassFile.FieldType.boolean) w_LogDisk_isInLog) : ∀ (x0 : gI) (x1 : Int32)  (S : gS) (H : Heap) (locs : List Loc) (ls : Array Slot), gis Y 9 x0 → wp_LogDisk_isInLog (gLn Y) Q x0 x1 S → gWd Y S H → va_S (gA Y s.heap.size) s.heap H locs → lv_has ls 2 [(0, .ref (gad Y x0)), (1, .int x1)] → W p l e (gRm 0 0) s m args below meth c H locs 0 0 (MQ below (va_Qi Q (gB Y) (gA Y s.heap.size)) args s 0 0 (gA Y s.heap.size)) (F0 m 0 ls []) := by
  have C0 := C
  obtain ⟨hx, hb, hml, hown, hts, hr, hlocks, hK, hY, hSt⟩ := C
  intro x0 x1 S H locs ls hx0 hw hP hS hl
  unfold wp_LogDisk_isInLog at hw
  refine lv_iload_n hx hb d_LogDisk_isInLog_0 rfl (lv_at hl 1 rfl) ?_
  refine lv_aload_n hx hb d_LogDisk_isInLog_1 rfl (lv_at hl 0 rfl) ?_
  refine g_get hx hb hts (fun w h => List.mem_cons_of_mem _ (in_LogDisk w h)) hown hK hP hx0 (gce_LogDisk hx0.1) rfl 6 (by decide) (hts _ (List.mem_cons_of_mem _ gw_235)) rfl d_LogDisk_isInLog_2 ?_
  refine g_get hx hb hts (fun w h => List.mem_cons_of_mem _ (in_Snapshot w h)) hown hK hP (gis_LogDisk_snapshot hY hx0) (gce_Snapshot (gis_LogDisk_snapshot hY hx0).1) rfl 1 (by decide) (hts _ (List.mem_cons_of_mem _ gw_100)) rfl d_LogDisk_isInLog_5 ?_
  refine lv_icmp_le (tgt := 23) hx hb d_LogDisk_isInLog_8 (by decide) (fun c1 => ?_) (fun c1 => ?_)
  · replace hw := hw.1 c1
    refine lv_iconst (v := 0) hx hb d_LogDisk_isInLog_23 (by decide) ?_
    exact W.zret (v := 0) hx hb hr rfl (fun t ht hW => ⟨⟨0, S, rfl, hw, by rw [ht]; exact hP, va_K.moved hW.alike hK⟩, hS.F ht⟩) hS.2.2 d_LogDisk_isInLog_24
  · replace hw := hw.2 c1
    refine lv_iload_n hx hb d_LogDisk_isInLog_11 rfl (lv_at hl 1 rfl) ?_
    refine lv_aload_n hx hb d_LogDisk_isInLog_12 rfl (lv_at hl 0 rfl) ?_
    refine g_get hx hb hts (fun w h => List.mem_cons_of_mem _ (in_LogDisk w h)) hown hK hP hx0 (gce_LogDisk hx0.1) rfl 10 (by decide) (hts _ (List.mem_cons_of_mem _ gw_239)) rfl d_LogDisk_isInLog_13 ?_
    refine lv_icmp_gt (tgt := 23) hx hb d_LogDisk_isInLog_16 (by decide) (fun c2 => ?_) (fun c2 => ?_)
    · replace hw := hw.1 c2
      refine lv_iconst (v := 0) hx hb d_LogDisk_isInLog_23 (by decide) ?_
      exact W.zret (v := 0) hx hb hr rfl (fun t ht hW => ⟨⟨0, S, rfl, hw, by rw [ht]; exact hP, va_K.moved hW.alike hK⟩, hS.F ht⟩) hS.2.2 d_LogDisk_isInLog_24
    · replace hw := hw.2 c2
      refine lv_iconst (v := 1) hx hb d_LogDisk_isInLog_19 (by decide) ?_
      refine lv_goto (tgt := 24) hx hb d_LogDisk_isInLog_20 (by decide) ?_
      exact W.zret (v := 1) hx hb hr rfl (fun t ht hW => ⟨⟨1, S, rfl, hw, by rw [ht]; exact hP, va_K.moved hW.alike hK⟩, hS.F ht⟩) hS.2.2 d_LogDisk_isInLog_24
set_option maxHeartbeats 4000000 in
set_option maxRecDepth 100000 in
theorem k_LogDisk_isInLog (l : Launch) (Y : gY) (hY : gOK Y) (sz : Nat) (x0 : gI) (x1 : Int32)  (hx0 : gis Y 9 x0) (S : gS) (Q : Int32 → gS → Prop) : Met l y_LogDisk_isInLog w_LogDisk_isInLog (gRm 0 0) (gPre Y [.ref (gad Y x0), .int x1] S sz (wp_LogDisk_isInLog (gLn Y) Q x0 x1 S)) (va_Qi Q (gB Y) (gA Y sz)) 0 0 (gA Y sz) := by
  refine Met.ofW (cc := c_LogDisk_isInLog) (maxL := 2) (ret := (Option.some Jvm.ClassFile.FieldType.boolean)) (by decide) rfl ?_
  intro p e s m args below meth c s₁ B hml hv
  obtain ⟨rfl, hsz, hP, hK, hSt, hw⟩ := hv
  subst hsz
  have hts := atoms_spec (ws := w_LogDisk_isInLog) B.pre
  have hl := lv_entry ([.ref (gad Y x0), .int x1]) (n := 2) (Nat.le_of_ble_eq_true rfl)
  rw [lg_entry_eq]
  generalize (lg_sl ([.ref (gad Y x0), .int x1]) ++ List.replicate (2 - (lg_sl ([.ref (gad Y x0), .int x1])).length) Slot.unset).toArray = ls at hl ⊢
  exact mw_LogDisk_isInLog ⟨B.exec, B.bytes, hml, findClass_of_methodNamed B.named, hts, B.returns, B.notSynchronized, hK, hY, hSt⟩ x0 x1 S s.heap [] ls hx0 hw hP va_S.rf hl

def wp_LogDisk_termAt (Ln : gI → Nat) (Q : Int32 → gS → Prop) (x0 : gI) (x1 : Int32)  (S : gS) : Prop :=
  wp_LogDisk_isInLog Ln (fun r2 S1 => ((r2 = 0) → (Q (S1.1 (grf x0 6) 2) S1)) ∧ ((¬ r2 = 0) → (wp_Entries_slot Ln (fun r5 S4 => vp_in r5 (Ln (grf (grf x0 8) 2)) ∧ (Q (S4.1 (grf (grf x0 8) 2) r5.toNatClampNeg) S4)) (grf x0 8) x1 S1))) x0 x1 S
set_option maxHeartbeats 4000000 in
set_option maxRecDepth 100000 in
theorem mw_LogDisk_termAt {p : Program} {l : Launch} {e : Env} {s : State} {m : MethodId} {args : Array Value} {below : List Frame} {meth : Method} {c : Code} {Y : gY} {Q : Int32 → gS → Prop} (C : gCx p s m args meth c Y "LogDisk" c_LogDisk_termAt 2 (Option.some Jvm.ClassFile.FieldType.int) w_LogDisk_termAt) : ∀ (x0 : gI) (x1 : Int32)  (S : gS) (H : Heap) (locs : List Loc) (ls : Array Slot), gis Y 9 x0 → wp_LogDisk_termAt (gLn Y) Q x0 x1 S → gWd Y S H → va_S (gA Y s.heap.size) s.heap H locs → lv_has ls 2 [(0, .ref (gad Y x0)), (1, .int x1)] → W p l e (gRm 2 43) s m args below meth c H locs 0 0 (MQ below (va_Qi Q (gB Y) (gA Y s.heap.size)) args s 0 0 (gA Y s.heap.size)) (F0 m 0 ls []) := by
  have C0 := C
  obtain ⟨hx, hb, hml, hown, hts, hr, hlocks, hK, hY, hSt⟩ := C
  intro x0 x1 S H locs ls hx0 hw hP hS hl
  unfold wp_LogDisk_termAt at hw
  refine lv_aload_n hx hb d_LogDisk_termAt_0 rfl (lv_at hl 0 rfl) ?_
  refine lv_iload_n hx hb d_LogDisk_termAt_1 rfl (lv_at hl 1 rfl) ?_
  refine g_calli (va_runV (As := [.int x1]) (rest := []) ⟨hx, hb, hml, hown, hts⟩ (k_LogDisk_isInLog l Y hY H.size x0 x1 hx0 S _) (cwV 1 hts (gG_V gw_615 gw_617 gs_13 gw_1 gw_618) rfl rfl rfl (by decide +kernel) ⟨Nat.le_of_ble_eq_true rfl, Nat.le_of_ble_eq_true rfl⟩) ⟨gPre_blind, g_recv hK hP hx0 (gce_LogDisk hx0.1) rfl, g_pre hK hSt hS hP hw⟩ rfl rfl hl.1 rfl (lv_room (Nat.le_of_ble_eq_true rfl)) d_LogDisk_termAt_2 ⟨Nat.zero_le _, Nat.zero_le _⟩) hS (fun r2 S1 H locs hw hP hS => ?_)
  refine lv_if_eq (tgt := 27) hx hb d_LogDisk_termAt_5 (by decide) (fun c3 => ?_) (fun c3 => ?_)
  · replace hw := hw.1 c3
    refine lv_aload_n hx hb d_LogDisk_termAt_27 rfl (lv_at hl 0 rfl) ?_
    refine g_get hx hb hts (fun w h => List.mem_cons_of_mem _ (in_LogDisk w h)) hown hK hP hx0 (gce_LogDisk hx0.1) rfl 6 (by decide) (hts _ (List.mem_cons_of_mem _ gw_235)) rfl d_LogDisk_termAt_28 ?_
    refine g_get hx hb hts (fun w h => List.mem_cons_of_mem _ (in_Snapshot w h)) hown hK hP (gis_LogDisk_snapshot hY hx0) (gce_Snapshot (gis_LogDisk_snapshot hY hx0).1) rfl 2 (by decide) (hts _ (List.mem_cons_of_mem _ gw_102)) rfl d_LogDisk_termAt_31 ?_
    exact W.iret (v := (S1.1 (grf x0 6) 2)) hx hb hr (fun t ht hW => ⟨⟨(S1.1 (grf x0 6) 2), S1, rfl, hw, by rw [ht]; exact hP, va_K.moved hW.alike hK⟩, hS.F ht⟩) hS.2.2 d_LogDisk_termAt_34
  · replace hw := hw.2 c3
    refine lv_aload_n hx hb d_LogDisk_termAt_8 rfl (lv_at hl 0 rfl) ?_
    refine g_get hx hb hts (fun w h => List.mem_cons_of_mem _ (in_LogDisk w h)) hown hK hP hx0 (gce_LogDisk hx0.1) rfl 8 (by decide) (hts _ (List.mem_cons_of_mem _ gw_237)) rfl d_LogDisk_termAt_9 ?_
    refine g_get hx hb hts (fun w h => List.mem_cons_of_mem _ (in_Entries w h)) hown hK hP (gis_LogDisk_entries hY hx0) (gce_Entries (gis_LogDisk_entries hY hx0).1) rfl 2 (by decide) (hts _ (List.mem_cons_of_mem _ gw_144)) rfl d_LogDisk_termAt_12 ?_
    refine lv_aload_n hx hb d_LogDisk_termAt_15 rfl (lv_at hl 0 rfl) ?_
    refine g_get hx hb hts (fun w h => List.mem_cons_of_mem _ (in_LogDisk w h)) hown hK hP hx0 (gce_LogDisk hx0.1) rfl 8 (by decide) (hts _ (List.mem_cons_of_mem _ gw_237)) rfl d_LogDisk_termAt_16 ?_
    refine lv_iload_n hx hb d_LogDisk_termAt_19 rfl (lv_at hl 1 rfl) ?_
    refine g_calli (va_runV (As := [.int x1]) (rest := [.ref (gad Y (grf (grf x0 8) 2))]) ⟨hx, hb, hml, hown, hts⟩ (k_Entries_slot l Y hY H.size (grf x0 8) x1 (gis_LogDisk_entries hY hx0) S1 _) (cwV 1 hts (gG_V gw_401 gw_386 gw_387 gw_7 gw_388) rfl rfl rfl (by decide +kernel) ⟨Nat.le_of_ble_eq_true rfl, Nat.le_of_ble_eq_true rfl⟩) ⟨gPre_blind, g_recv hK hP (gis_LogDisk_entries hY hx0) (gce_Entries (gis_LogDisk_entries hY hx0).1) rfl, g_pre hK hSt hS hP hw⟩ rfl rfl hl.1 rfl (lv_room (Nat.le_of_ble_eq_true rfl)) d_LogDisk_termAt_20 ⟨Nat.zero_le _, Nat.zero_le _⟩) hS (fun r5 S4 H locs hw hP hS => ?_)
    obtain ⟨hin, hw⟩ := hw
    refine g_iaload hx hb hK hP (gis_Entries_term hY (gis_LogDisk_entries hY hx0)) hin d_LogDisk_termAt_23 ?_
    refine lv_goto (tgt := 34) hx hb d_LogDisk_termAt_24 (by decide) ?_
    exact W.iret (v := (S4.1 (grf (grf x0 8) 2) r5.toNatClampNeg)) hx hb hr (fun t ht hW => ⟨⟨(S4.1 (grf (grf x0 8) 2) r5.toNatClampNeg), S4, rfl, hw, by rw [ht]; exact hP, va_K.moved hW.alike hK⟩, hS.F ht⟩) hS.2.2 d_LogDisk_termAt_34
set_option maxHeartbeats 4000000 in
set_option maxRecDepth 100000 in
theorem k_LogDisk_termAt (l : Launch) (Y : gY) (hY : gOK Y) (sz : Nat) (x0 : gI) (x1 : Int32)  (hx0 : gis Y 9 x0) (S : gS) (Q : Int32 → gS → Prop) : Met l y_LogDisk_termAt w_LogDisk_termAt (gRm 2 43) (gPre Y [.ref (gad Y x0), .int x1] S sz (wp_LogDisk_termAt (gLn Y) Q x0 x1 S)) (va_Qi Q (gB Y) (gA Y sz)) 0 0 (gA Y sz) := by
  refine Met.ofW (cc := c_LogDisk_termAt) (maxL := 2) (ret := (Option.some Jvm.ClassFile.FieldType.int)) (by decide) rfl ?_
  intro p e s m args below meth c s₁ B hml hv
  obtain ⟨rfl, hsz, hP, hK, hSt, hw⟩ := hv
  subst hsz
  have hts := atoms_spec (ws := w_LogDisk_termAt) B.pre
  have hl := lv_entry ([.ref (gad Y x0), .int x1]) (n := 2) (Nat.le_of_ble_eq_true rfl)
  rw [lg_entry_eq]
  generalize (lg_sl ([.ref (gad Y x0), .int x1]) ++ List.replicate (2 - (lg_sl ([.ref (gad Y x0), .int x1])).length) Slot.unset).toArray = ls at hl ⊢
  exact mw_LogDisk_termAt ⟨B.exec, B.bytes, hml, findClass_of_methodNamed B.named, hts, B.returns, B.notSynchronized, hK, hY, hSt⟩ x0 x1 S s.heap [] ls hx0 hw hP va_S.rf hl

def wp_LogDisk_needsNewSegment_34 (Ln : gI → Nat) (Q : Int32 → gS → Prop)  (S : gS) : Prop :=
  Q 1 S
def wp_LogDisk_needsNewSegment (Ln : gI → Nat) (Q : Int32 → gS → Prop) (x0 : gI)  (S : gS) : Prop :=
  (((S.1 (grf x0 7) 2) = 0) → (wp_LogDisk_needsNewSegment_34 Ln Q S)) ∧ ((¬ (S.1 (grf x0 7) 2) = 0) → (wp_Segments_lastFile Ln (fun r3 S2 => vp_in r3 (Ln (grf x0 1)) ∧ ((((S2.1 (grf (grf (grf x0 1) r3.toNatClampNeg) 1) 2) ≤ 8000) → (Q 0 S2)) ∧ ((¬ (S2.1 (grf (grf (grf x0 1) r3.toNatClampNeg) 1) 2) ≤ 8000) → (wp_LogDisk_needsNewSegment_34 Ln Q S2)))) (grf x0 7) S))
set_option maxHeartbeats 4000000 in
set_option maxRecDepth 100000 in
theorem mw_LogDisk_needsNewSegment_34 {p : Program} {l : Launch} {e : Env} {s : State} {m : MethodId} {args : Array Value} {below : List Frame} {meth : Method} {c : Code} {Y : gY} {Q : Int32 → gS → Prop} (C : gCx p s m args meth c Y "LogDisk" c_LogDisk_needsNewSegment 1 (Option.some Jvm.ClassFile.FieldType.boolean) w_LogDisk_needsNewSegment) : ∀  (S : gS) (H : Heap) (locs : List Loc) (ls : Array Slot), wp_LogDisk_needsNewSegment_34 (gLn Y) Q S → gWd Y S H → va_S (gA Y s.heap.size) s.heap H locs → lv_has ls 1 [] → W p l e (gRm 1 20) s m args below meth c H locs 0 0 (MQ below (va_Qi Q (gB Y) (gA Y s.heap.size)) args s 0 0 (gA Y s.heap.size)) (F0 m 34 ls []) := by
  have C0 := C
  obtain ⟨hx, hb, hml, hown, hts, hr, hlocks, hK, hY, hSt⟩ := C
  intro S H locs ls hw hP hS hl
  unfold wp_LogDisk_needsNewSegment_34 at hw
  refine lv_iconst (v := 1) hx hb d_LogDisk_needsNewSegment_34 (by decide) ?_
  refine lv_goto (tgt := 39) hx hb d_LogDisk_needsNewSegment_35 (by decide) ?_
  exact W.zret (v := 1) hx hb hr rfl (fun t ht hW => ⟨⟨1, S, rfl, hw, by rw [ht]; exact hP, va_K.moved hW.alike hK⟩, hS.F ht⟩) hS.2.2 d_LogDisk_needsNewSegment_39
set_option maxHeartbeats 4000000 in
set_option maxRecDepth 100000 in
theorem mw_LogDisk_needsNewSegment {p : Program} {l : Launch} {e : Env} {s : State} {m : MethodId} {args : Array Value} {below : List Frame} {meth : Method} {c : Code} {Y : gY} {Q : Int32 → gS → Prop} (C : gCx p s m args meth c Y "LogDisk" c_LogDisk_needsNewSegment 1 (Option.some Jvm.ClassFile.FieldType.boolean) w_LogDisk_needsNewSegment) : ∀ (x0 : gI)  (S : gS) (H : Heap) (locs : List Loc) (ls : Array Slot), gis Y 9 x0 → wp_LogDisk_needsNewSegment (gLn Y) Q x0 S → gWd Y S H → va_S (gA Y s.heap.size) s.heap H locs → lv_has ls 1 [(0, .ref (gad Y x0))] → W p l e (gRm 1 20) s m args below meth c H locs 0 0 (MQ below (va_Qi Q (gB Y) (gA Y s.heap.size)) args s 0 0 (gA Y s.heap.size)) (F0 m 0 ls []) := by
  have C0 := C
  obtain ⟨hx, hb, hml, hown, hts, hr, hlocks, hK, hY, hSt⟩ := C
  intro x0 S H locs ls hx0 hw hP hS hl
  unfold wp_LogDisk_needsNewSegment at hw
  refine lv_aload_n hx hb d_LogDisk_needsNewSegment_0 rfl (lv_at hl 0 rfl) ?_
  refine g_get hx hb hts (fun w h => List.mem_cons_of_mem _ (in_LogDisk w h)) hown hK hP hx0 (gce_LogDisk hx0.1) rfl 7 (by decide) (hts _ (List.mem_cons_of_mem _ gw_236)) rfl d_LogDisk_needsNewSegment_1 ?_
  refine g_get hx hb hts (fun w h => List.mem_cons_of_mem _ (in_Segments w h)) hown hK hP (gis_LogDisk_segments hY hx0) (gce_Segments (gis_LogDisk_segments hY hx0).1) rfl 2 (by decide) (hts _ (List.mem_cons_of_mem _ gw_125)) rfl d_LogDisk_needsNewSegment_4 ?_
  refine lv_if_eq (tgt := 34) hx hb d_LogDisk_needsNewSegment_7 (by decide) (fun c1 => ?_) (fun c1 => ?_)
  · replace hw := hw.1 c1
    exact mw_LogDisk_needsNewSegment_34 C0 S H locs ls hw hP hS (lv_sub hl [] rfl)
  · replace hw := hw.2 c1
    refine lv_aload_n hx hb d_LogDisk_needsNewSegment_10 rfl (lv_at hl 0 rfl) ?_
    refine g_get hx hb hts (fun w h => List.mem_cons_of_mem _ (in_LogDisk w h)) hown hK hP hx0 (gce_LogDisk hx0.1) rfl 1 (by decide) (hts _ (List.mem_cons_of_mem _ gw_230)) rfl d_LogDisk_needsNewSegment_11 ?_
    refine lv_aload_n hx hb d_LogDisk_needsNewSegment_14 rfl (lv_at hl 0 rfl) ?_
    refine g_get hx hb hts (fun w h => List.mem_cons_of_mem _ (in_LogDisk w h)) hown hK hP hx0 (gce_LogDisk hx0.1) rfl 7 (by decide) (hts _ (List.mem_cons_of_mem _ gw_236)) rfl d_LogDisk_needsNewSegment_15 ?_
    refine g_calli (va_runV (As := []) (rest := [.ref (gad Y (grf x0 1))]) ⟨hx, hb, hml, hown, hts⟩ (k_Segments_lastFile l Y hY H.size (grf x0 7) (gis_LogDisk_segments hY hx0) S _) (cwV 0 hts (gG_V gw_626 gw_627 gw_628 gw_6 gw_629) rfl rfl rfl (by decide +kernel) ⟨Nat.le_of_ble_eq_true rfl, Nat.le_of_ble_eq_true rfl⟩) ⟨gPre_blind, g_recv hK hP (gis_LogDisk_segments hY hx0) (gce_Segments (gis_LogDisk_segments hY hx0).1) rfl, g_pre hK hSt hS hP hw⟩ rfl rfl hl.1 rfl (lv_room (Nat.le_of_ble_eq_true rfl)) d_LogDisk_needsNewSegment_18 ⟨Nat.zero_le _, Nat.zero_le _⟩) hS (fun r3 S2 H locs hw hP hS => ?_)
    obtain ⟨hin, hw⟩ := hw
    refine g_aaload hx hb hK hP (gis_LogDisk_files hY hx0) hin d_LogDisk_needsNewSegment_21 ?_
    have hin4 := hin
    refine g_get hx hb hts (fun w h => List.mem_cons_of_mem _ (in_DiskFile w h)) hown hK hP (gis_elem_DiskFile hY (gis_LogDisk_files hY hx0) hin4) (gce_DiskFile (gis_elem_DiskFile hY (gis_LogDisk_files hY hx0) hin4).1) rfl 1 (by decide) (hts _ (List.mem_cons_of_mem _ gw_215)) rfl d_LogDisk_needsNewSegment_22 ?_
    refine g_get hx hb hts (fun w h => List.mem_cons_of_mem _ (in_Content w h)) hown hK hP (gis_DiskFile_now hY (gis_elem_DiskFile hY (gis_LogDisk_files hY hx0) hin4)) (gce_Content (gis_DiskFile_now hY (gis_elem_DiskFile hY (gis_LogDisk_files hY hx0) hin4)).1) rfl 2 (by decide) (hts _ (List.mem_cons_of_mem _ gw_205)) rfl d_LogDisk_needsNewSegment_25 ?_
    refine lv_sipush (v := 8000) hx hb d_LogDisk_needsNewSegment_28 (by decide) ?_
    refine lv_icmp_le (tgt := 38) hx hb d_LogDisk_needsNewSegment_31 (by decide) (fun c5 => ?_) (fun c5 => ?_)
    · replace hw := hw.1 c5
      refine lv_iconst (v := 0) hx hb d_LogDisk_needsNewSegment_38 (by decide) ?_
      exact W.zret (v := 0) hx hb hr rfl (fun t ht hW => ⟨⟨0, S2, rfl, hw, by rw [ht]; exact hP, va_K.moved hW.alike hK⟩, hS.F ht⟩) hS.2.2 d_LogDisk_needsNewSegment_39
    · replace hw := hw.2 c5
      exact mw_LogDisk_needsNewSegment_34 C0 S2 H locs ls hw hP hS (lv_sub hl [] rfl)
set_option maxHeartbeats 4000000 in
set_option maxRecDepth 100000 in
theorem k_LogDisk_needsNewSegment (l : Launch) (Y : gY) (hY : gOK Y) (sz : Nat) (x0 : gI)  (hx0 : gis Y 9 x0) (S : gS) (Q : Int32 → gS → Prop) : Met l y_LogDisk_needsNewSegment w_LogDisk_needsNewSegment (gRm 1 20) (gPre Y [.ref (gad Y x0)] S sz (wp_LogDisk_needsNewSegment (gLn Y) Q x0 S)) (va_Qi Q (gB Y) (gA Y sz)) 0 0 (gA Y sz) := by
  refine Met.ofW (cc := c_LogDisk_needsNewSegment) (maxL := 1) (ret := (Option.some Jvm.ClassFile.FieldType.boolean)) (by decide) rfl ?_
  intro p e s m args below meth c s₁ B hml hv
  obtain ⟨rfl, hsz, hP, hK, hSt, hw⟩ := hv
  subst hsz
  have hts := atoms_spec (ws := w_LogDisk_needsNewSegment) B.pre
  have hl := lv_entry ([.ref (gad Y x0)]) (n := 1) (Nat.le_of_ble_eq_true rfl)
  rw [lg_entry_eq]
  generalize (lg_sl ([.ref (gad Y x0)]) ++ List.replicate (1 - (lg_sl ([.ref (gad Y x0)])).length) Slot.unset).toArray = ls at hl ⊢
  exact mw_LogDisk_needsNewSegment ⟨B.exec, B.bytes, hml, findClass_of_methodNamed B.named, hts, B.returns, B.notSynchronized, hK, hY, hSt⟩ x0 S s.heap [] ls hx0 hw hP va_S.rf hl

def wp_LogDisk_lowestFreeFile_2 (Ln : gI → Nat) (Q : Int32 → gS → Prop) : Nat → gI → Int32 → gS → Prop
  | 0, _, _, _ => False
  | n2 + 1, x0, x1, S => ((16 ≤ x1) → (Q (-1 : Int32) S)) ∧ ((¬ 16 ≤ x1) → (vp_in x1 (Ln (grf x0 1)) ∧ (((¬ (S.1 (grf (grf (grf x0 1) x1.toNatClampNeg) 1) 1) = 0) → (∀ v1_4 : Int32, v1_4 = x1 + 1 → (wp_LogDisk_lowestFreeFile_2 Ln Q n2 x0 v1_4 S))) ∧ (((S.1 (grf (grf (grf x0 1) x1.toNatClampNeg) 1) 1) = 0) → (Q x1 S)))))
def wp_LogDisk_lowestFreeFile (Ln : gI → Nat) (Q : Int32 → gS → Prop) (x0 : gI)  (S : gS) : Prop :=
  ∃ n2 : Nat, wp_LogDisk_lowestFreeFile_2 Ln Q n2 x0 4 S
set_option maxHeartbeats 4000000 in
set_option maxRecDepth 100000 in
theorem mw_LogDisk_lowestFreeFile_2 {p : Program} {l : Launch} {e : Env} {s : State} {m : MethodId} {args : Array Value} {below : List Frame} {meth : Method} {c : Code} {Y : gY} {Q : Int32 → gS → Prop} (C : gCx p s m args meth c Y "LogDisk" c_LogDisk_lowestFreeFile 2 (Option.some Jvm.ClassFile.FieldType.int) w_LogDisk_lowestFreeFile) : ∀ (n : Nat), ∀ (x0 : gI) (x1 : Int32)  (S : gS) (H : Heap) (locs : List Loc) (ls : Array Slot), gis Y 9 x0 → wp_LogDisk_lowestFreeFile_2 (gLn Y) Q n x0 x1 S → gWd Y S H → va_S (gA Y s.heap.size) s.heap H locs → lv_has ls 2 [(0, .ref (gad Y x0)), (1, .int x1)] → W p l e (gRm 0 0) s m args below meth c H locs 0 0 (MQ below (va_Qi Q (gB Y) (gA Y s.heap.size)) args s 0 0 (gA Y s.heap.size)) (F0 m 2 ls []) := by
  have C0 := C
  obtain ⟨hx, hb, hml, hown, hts, hr, hlocks, hK, hY, hSt⟩ := C
  intro n
  induction n with
  | zero =>
    intro x0 x1 S H locs ls hx0 hw
    exact False.elim hw
  | succ n ih =>
    intro x0 x1 S H locs ls hx0 hw hP hS hl
    unfold wp_LogDisk_lowestFreeFile_2 at hw
    refine lv_iload_n hx hb d_LogDisk_lowestFreeFile_2 rfl (lv_at hl 1 rfl) ?_
    refine lv_bipush (v := 16) hx hb d_LogDisk_lowestFreeFile_3 (by decide) ?_
    refine lv_icmp_ge (tgt := 31) hx hb d_LogDisk_lowestFreeFile_5 (by decide) (fun c1 => ?_) (fun c1 => ?_)
    · replace hw := hw.1 c1
      refine lv_iconst (v := (-1 : Int32)) hx hb d_LogDisk_lowestFreeFile_31 (by decide) ?_
      exact W.iret (v := (-1 : Int32)) hx hb hr (fun t ht hW => ⟨⟨(-1 : Int32), S, rfl, hw, by rw [ht]; exact hP, va_K.moved hW.alike hK⟩, hS.F ht⟩) hS.2.2 d_LogDisk_lowestFreeFile_32
    · replace hw := hw.2 c1
      refine lv_aload_n hx hb d_LogDisk_lowestFreeFile_8 rfl (lv_at hl 0 rfl) ?_
      refine g_get hx hb hts (fun w h => List.mem_cons_of_mem _ (in_LogDisk w h)) hown hK hP hx0 (gce_LogDisk hx0.1) rfl 1 (by decide) (hts _ (List.mem_cons_of_mem _ gw_230)) rfl d_LogDisk_lowestFreeFile_9 ?_
      refine lv_iload_n hx hb d_LogDisk_lowestFreeFile_12 rfl (lv_at hl 1 rfl) ?_
      obtain ⟨hin, hw⟩ := hw
      refine g_aaload hx hb hK hP (gis_LogDisk_files hY hx0) hin d_LogDisk_lowestFreeFile_13 ?_
      have hin2 := hin
      refine g_get hx hb hts (fun w h => List.mem_cons_of_mem _ (in_DiskFile w h)) hown hK hP (gis_elem_DiskFile hY (gis_LogDisk_files hY hx0) hin2) (gce_DiskFile (gis_elem_DiskFile hY (gis_LogDisk_files hY hx0) hin2).1) rfl 1 (by decide) (hts _ (List.mem_cons_of_mem _ gw_215)) rfl d_LogDisk_lowestFreeFile_14 ?_
      refine g_get hx hb hts (fun w h => List.mem_cons_of_mem _ (in_Content w h)) hown hK hP (gis_DiskFile_now hY (gis_elem_DiskFile hY (gis_LogDisk_files hY hx0) hin2)) (gce_Content (gis_DiskFile_now hY (gis_elem_DiskFile hY (gis_LogDisk_files hY hx0) hin2)).1) rfl 1 (by decide) (hts _ (List.mem_cons_of_mem _ gw_202)) rfl d_LogDisk_lowestFreeFile_17 ?_
      refine lv_if_ne (tgt := 25) hx hb d_LogDisk_lowestFreeFile_20 (by decide) (fun c3 => ?_) (fun c3 => ?_)
      · replace hw := hw.1 c3
        obtain ⟨v1_4, ev1_4⟩ : ∃ y : Int32, y = x1 + 1 := ⟨_, rfl⟩
        replace hw := hw v1_4 ev1_4
        refine lv_iinc (v := v1_4) (lv' := [(1, .int v1_4), (0, .ref (gad Y x0))]) hx hb d_LogDisk_lowestFreeFile_25 hl (k := 1) rfl (by rw [ev1_4]; rfl) (by decide) rfl (fun ls hl => ?_)
        refine lv_goto (tgt := 2) hx hb d_LogDisk_lowestFreeFile_28 (by decide) ?_
        exact ih x0 v1_4 S H locs ls hx0 hw hP hS (lv_sub hl [1, 0] rfl)
      · replace hw := hw.2 c3
        refine lv_iload_n hx hb d_LogDisk_lowestFreeFile_23 rfl (lv_at hl 1 rfl) ?_
        exact W.iret (v := x1) hx hb hr (fun t ht hW => ⟨⟨x1, S, rfl, hw, by rw [ht]; exact hP, va_K.moved hW.alike hK⟩, hS.F ht⟩) hS.2.2 d_LogDisk_lowestFreeFile_24
set_option maxHeartbeats 4000000 in
set_option maxRecDepth 100000 in
theorem mw_LogDisk_lowestFreeFile {p : Program} {l : Launch} {e : Env} {s : State} {m : MethodId} {args : Array Value} {below : List Frame} {meth : Method} {c : Code} {Y : gY} {Q : Int32 → gS → Prop} (C : gCx p s m args meth c Y "LogDisk" c_LogDisk_lowestFreeFile 2 (Option.some Jvm.ClassFile.FieldType.int) w_LogDisk_lowestFreeFile) : ∀ (x0 : gI)  (S : gS) (H : Heap) (locs : List Loc) (ls : Array Slot), gis Y 9 x0 → wp_LogDisk_lowestFreeFile (gLn Y) Q x0 S → gWd Y S H → va_S (gA Y s.heap.size) s.heap H locs → lv_has ls 2 [(0, .ref (gad Y x0))] → W p l e (gRm 0 0) s m args below meth c H locs 0 0 (MQ below (va_Qi Q (gB Y) (gA Y s.heap.size)) args s 0 0 (gA Y s.heap.size)) (F0 m 0 ls []) := by
  have C0 := C
  obtain ⟨hx, hb, hml, hown, hts, hr, hlocks, hK, hY, hSt⟩ := C
  intro x0 S H locs ls hx0 hw hP hS hl
  unfold wp_LogDisk_lowestFreeFile at hw
  refine lv_iconst (v := 4) hx hb d_LogDisk_lowestFreeFile_0 (by decide) ?_
  refine lv_istore_n (lv' := [(1, .int 4), (0, .ref (gad Y x0))]) hx hb d_LogDisk_lowestFreeFile_1 rfl hl (by decide) rfl (fun ls hl => ?_)
  obtain ⟨n, hw⟩ := hw
  exact mw_LogDisk_lowestFreeFile_2 C0 n x0 4 S H locs ls hx0 hw hP hS (lv_sub hl [1, 0] rfl)
set_option maxHeartbeats 4000000 in
set_option maxRecDepth 100000 in
theorem k_LogDisk_lowestFreeFile (l : Launch) (Y : gY) (hY : gOK Y) (sz : Nat) (x0 : gI)  (hx0 : gis Y 9 x0) (S : gS) (Q : Int32 → gS → Prop) : Met l y_LogDisk_lowestFreeFile w_LogDisk_lowestFreeFile (gRm 0 0) (gPre Y [.ref (gad Y x0)] S sz (wp_LogDisk_lowestFreeFile (gLn Y) Q x0 S)) (va_Qi Q (gB Y) (gA Y sz)) 0 0 (gA Y sz) := by
  refine Met.ofW (cc := c_LogDisk_lowestFreeFile) (maxL := 2) (ret := (Option.some Jvm.ClassFile.FieldType.int)) (by decide) rfl ?_
  intro p e s m args below meth c s₁ B hml hv
  obtain ⟨rfl, hsz, hP, hK, hSt, hw⟩ := hv
  subst hsz
  have hts := atoms_spec (ws := w_LogDisk_lowestFreeFile) B.pre
  have hl := lv_entry ([.ref (gad Y x0)]) (n := 2) (Nat.le_of_ble_eq_true rfl)
  rw [lg_entry_eq]
  generalize (lg_sl ([.ref (gad Y x0)]) ++ List.replicate (2 - (lg_sl ([.ref (gad Y x0)])).length) Slot.unset).toArray = ls at hl ⊢
  exact mw_LogDisk_lowestFreeFile ⟨B.exec, B.bytes, hml, findClass_of_methodNamed B.named, hts, B.returns, B.notSynchronized, hK, hY, hSt⟩ x0 S s.heap [] ls hx0 hw hP va_S.rf hl

def wp_LogDisk_openSegment (Ln : gI → Nat) (Q : gS → Prop) (x0 : gI) (x1 : Int32)  (S : gS) : Prop :=
  wp_Frame_begin Ln (fun S1 => wp_Frame_add Ln (fun S2 => wp_LogDisk_termAt Ln (fun r4 S3 => wp_Frame_add Ln (fun S5 => wp_Frame_close Ln (fun S6 => vp_in x1 (Ln (grf x0 1)) ∧ (wp_DiskFile_write Ln (fun S8 => wp_Segments_add Ln (fun S9 => Q S9) (grf x0 7) x1 ((S8.1 x0 10) + 1) S8) (grf (grf x0 1) x1.toNatClampNeg) (grf (grf x0 4) 0) (S6.1 (grf x0 4) 1) S6)) (grf x0 4) S5) (grf x0 4) (r4.toInt64) 8 S3) x0 (S2.1 x0 10) S2) (grf x0 4) (((S1.1 x0 10) + 1).toInt64) 8 S1) (grf x0 4) S
set_option maxHeartbeats 4000000 in
set_option maxRecDepth 100000 in
theorem mw_LogDisk_openSegment {p : Program} {l : Launch} {e : Env} {s : State} {m : MethodId} {args : Array Value} {below : List Frame} {meth : Method} {c : Code} {Y : gY} {Q : gS → Prop} (C : gCx p s m args meth c Y "LogDisk" c_LogDisk_openSegment 2 (Option.none : Option Jvm.ClassFile.FieldType) w_LogDisk_openSegment) : ∀ (x0 : gI) (x1 : Int32)  (S : gS) (H : Heap) (locs : List Loc) (ls : Array Slot), gis Y 9 x0 → wp_LogDisk_openSegment (gLn Y) Q x0 x1 S → gWd Y S H → va_S (gA Y s.heap.size) s.heap H locs → lv_has ls 2 [(0, .ref (gad Y x0)), (1, .int x1)] → W p l e (gRm 4 110) s m args below meth c H locs 0 0 (MQ below (va_Qv Q (gB Y) (gA Y s.heap.size)) args s 0 0 (gA Y s.heap.size)) (F0 m 0 ls []) := by
  have C0 := C
  obtain ⟨hx, hb, hml, hown, hts, hr, hlocks, hK, hY, hSt⟩ := C
  intro x0 x1 S H locs ls hx0 hw hP hS hl
  unfold wp_LogDisk_openSegment at hw
  refine lv_aload_n hx hb d_LogDisk_openSegment_0 rfl (lv_at hl 0 rfl) ?_
  refine g_get hx hb hts (fun w h => List.mem_cons_of_mem _ (in_LogDisk w h)) hown hK hP hx0 (gce_LogDisk hx0.1) rfl 4 (by decide) (hts _ (List.mem_cons_of_mem _ gw_233)) rfl d_LogDisk_openSegment_1 ?_
  refine g_callv (va_runV (As := []) (rest := []) ⟨hx, hb, hml, hown, hts⟩ (k_Frame_begin l Y hY H.size (grf x0 4) (gis_LogDisk_frame hY hx0) S _) (cwV 0 hts (gG_V gw_563 gw_564 gw_565 gw_3 gw_566) rfl rfl rfl (by decide +kernel) ⟨Nat.le_of_ble_eq_true rfl, Nat.le_of_ble_eq_true rfl⟩) ⟨gPre_blind, g_recv hK hP (gis_LogDisk_frame hY hx0) (gce_Frame (gis_LogDisk_frame hY hx0).1) rfl, g_pre hK hSt hS hP hw⟩ rfl rfl hl.1 rfl (lv_room (Nat.le_of_ble_eq_true rfl)) d_LogDisk_openSegment_4 ⟨Nat.zero_le _, Nat.zero_le _⟩) hS (fun S1 H locs hw hP hS => ?_)
  refine lv_aload_n hx hb d_LogDisk_openSegment_7 rfl (lv_at hl 0 rfl) ?_
  refine g_get hx hb hts (fun w h => List.mem_cons_of_mem _ (in_LogDisk w h)) hown hK hP hx0 (gce_LogDisk hx0.1) rfl 4 (by decide) (hts _ (List.mem_cons_of_mem _ gw_233)) rfl d_LogDisk_openSegment_8 ?_
  refine lv_aload_n hx hb d_LogDisk_openSegment_11 rfl (lv_at hl 0 rfl) ?_
  refine g_get hx hb hts (fun w h => List.mem_cons_of_mem _ (in_LogDisk w h)) hown hK hP hx0 (gce_LogDisk hx0.1) rfl 10 (by decide) (hts _ (List.mem_cons_of_mem _ gw_239)) rfl d_LogDisk_openSegment_12 ?_
  refine lv_iconst (v := 1) hx hb d_LogDisk_openSegment_15 (by decide) ?_
  refine lv_iadd hx hb d_LogDisk_openSegment_16 ?_
  refine lv_i2l hx hb d_LogDisk_openSegment_17 rfl ?_
  refine lv_bipush (v := 8) hx hb d_LogDisk_openSegment_18 (by decide) ?_
  refine g_callv (va_runV (As := [.long (((S1.1 x0 10) + 1).toInt64), .int 8]) (rest := []) ⟨hx, hb, hml, hown, hts⟩ (k_Frame_add l Y hY H.size (grf x0 4) (((S1.1 x0 10) + 1).toInt64) 8 (gis_LogDisk_frame hY hx0) S1 _) (cwV 2 hts (gG_V gw_567 gw_568 gw_569 gw_3 gw_570) rfl rfl rfl (by decide +kernel) ⟨Nat.le_of_ble_eq_true rfl, Nat.le_of_ble_eq_true rfl⟩) ⟨gPre_blind, g_recv hK hP (gis_LogDisk_frame hY hx0) (gce_Frame (gis_LogDisk_frame hY hx0).1) rfl, g_pre hK hSt hS hP hw⟩ rfl rfl hl.1 rfl (lv_room (Nat.le_of_ble_eq_true rfl)) d_LogDisk_openSegment_20 ⟨Nat.zero_le _, Nat.zero_le _⟩) hS (fun S2 H locs hw hP hS => ?_)
  refine lv_aload_n hx hb d_LogDisk_openSegment_23 rfl (lv_at hl 0 rfl) ?_
  refine g_get hx hb hts (fun w h => List.mem_cons_of_mem _ (in_LogDisk w h)) hown hK hP hx0 (gce_LogDisk hx0.1) rfl 4 (by decide) (hts _ (List.mem_cons_of_mem _ gw_233)) rfl d_LogDisk_openSegment_24 ?_
  refine lv_aload_n hx hb d_LogDisk_openSegment_27 rfl (lv_at hl 0 rfl) ?_
  refine lv_aload_n hx hb d_LogDisk_openSegment_28 rfl (lv_at hl 0 rfl) ?_
  refine g_get hx hb hts (fun w h => List.mem_cons_of_mem _ (in_LogDisk w h)) hown hK hP hx0 (gce_LogDisk hx0.1) rfl 10 (by decide) (hts _ (List.mem_cons_of_mem _ gw_239)) rfl d_LogDisk_openSegment_29 ?_
  refine g_calli (va_runV (As := [.int (S2.1 x0 10)]) (rest := [.ref (gad Y (grf x0 4))]) ⟨hx, hb, hml, hown, hts⟩ (k_LogDisk_termAt l Y hY H.size x0 (S2.1 x0 10) hx0 S2 _) (cwV 1 hts (gG_V gw_611 gw_613 gs_12 gw_1 gw_614) rfl rfl rfl (by decide +kernel) ⟨Nat.le_of_ble_eq_true rfl, Nat.le_of_ble_eq_true rfl⟩) ⟨gPre_blind, g_recv hK hP hx0 (gce_LogDisk hx0.1) rfl, g_pre hK hSt hS hP hw⟩ rfl rfl hl.1 rfl (lv_room (Nat.le_of_ble_eq_true rfl)) d_LogDisk_openSegment_32 ⟨Nat.zero_le _, Nat.zero_le _⟩) hS (fun r4 S3 H locs hw hP hS => ?_)
  refine lv_i2l hx hb d_LogDisk_openSegment_35 rfl ?_
  refine lv_bipush (v := 8) hx hb d_LogDisk_openSegment_36 (by decide) ?_
  refine g_callv (va_runV (As := [.long (r4.toInt64), .int 8]) (rest := []) ⟨hx, hb, hml, hown, hts⟩ (k_Frame_add l Y hY H.size (grf x0 4) (r4.toInt64) 8 (gis_LogDisk_frame hY hx0) S3 _) (cwV 2 hts (gG_V gw_567 gw_568 gw_569 gw_3 gw_570) rfl rfl rfl (by decide +kernel) ⟨Nat.le_of_ble_eq_true rfl, Nat.le_of_ble_eq_true rfl⟩) ⟨gPre_blind, g_recv hK hP (gis_LogDisk_frame hY hx0) (gce_Frame (gis_LogDisk_frame hY hx0).1) rfl, g_pre hK hSt hS hP hw⟩ rfl rfl hl.1 rfl (lv_room (Nat.le_of_ble_eq_true rfl)) d_LogDisk_openSegment_38 ⟨Nat.zero_le _, Nat.zero_le _⟩) hS (fun S5 H locs hw hP hS => ?_)
  refine lv_aload_n hx hb d_LogDisk_openSegment_41 rfl (lv_at hl 0 rfl) ?_
  refine g_get hx hb hts (fun w h => List.mem_cons_of_mem _ (in_LogDisk w h)) hown hK hP hx0 (gce_LogDisk hx0.1) rfl 4 (by decide) (hts _ (List.mem_cons_of_mem _ gw_233)) rfl d_LogDisk_openSegment_42 ?_
  refine g_callv (va_runV (As := []) (rest := []) ⟨hx, hb, hml, hown, hts⟩ (k_Frame_close l Y hY H.size (grf x0 4) (gis_LogDisk_frame hY hx0) S5 _) (cwV 0 hts (gG_V gw_575 gw_576 gw_577 gw_3 gw_578) rfl rfl rfl (by decide +kernel) ⟨Nat.le_of_ble_eq_true rfl, Nat.le_of_ble_eq_true rfl⟩) ⟨gPre_blind, g_recv hK hP (gis_LogDisk_frame hY hx0) (gce_Frame (gis_LogDisk_frame hY hx0).1) rfl, g_pre hK hSt hS hP hw⟩ rfl rfl hl.1 rfl (lv_room (Nat.le_of_ble_eq_true rfl)) d_LogDisk_openSegment_45 ⟨Nat.zero_le _, Nat.zero_le _⟩) hS (fun S6 H locs hw hP hS => ?_)
  refine lv_aload_n hx hb d_LogDisk_openSegment_48 rfl (lv_at hl 0 rfl) ?_
  refine g_get hx hb hts (fun w h => List.mem_cons_of_mem _ (in_LogDisk w h)) hown hK hP hx0 (gce_LogDisk hx0.1) rfl 1 (by decide) (hts _ (List.mem_cons_of_mem _ gw_230)) rfl d_LogDisk_openSegment_49 ?_
  refine lv_iload_n hx hb d_LogDisk_openSegment_52 rfl (lv_at hl 1 rfl) ?_
  obtain ⟨hin, hw⟩ := hw
  refine g_aaload hx hb hK hP (gis_LogDisk_files hY hx0) hin d_LogDisk_openSegment_53 ?_
  have hin7 := hin
  refine lv_aload_n hx hb d_LogDisk_openSegment_54 rfl (lv_at hl 0 rfl) ?_
  refine g_get hx hb hts (fun w h => List.mem_cons_of_mem _ (in_LogDisk w h)) hown hK hP hx0 (gce_LogDisk hx0.1) rfl 4 (by decide) (hts _ (List.mem_cons_of_mem _ gw_233)) rfl d_LogDisk_openSegment_55 ?_
  refine g_get hx hb hts (fun w h => List.mem_cons_of_mem _ (in_Frame w h)) hown hK hP (gis_LogDisk_frame hY hx0) (gce_Frame (gis_LogDisk_frame hY hx0).1) rfl 0 (by decide) (hts _ (List.mem_cons_of_mem _ gw_56)) rfl d_LogDisk_openSegment_58 ?_
  refine lv_aload_n hx hb d_LogDisk_openSegment_61 rfl (lv_at hl 0 rfl) ?_
  refine g_get hx hb hts (fun w h => List.mem_cons_of_mem _ (in_LogDisk w h)) hown hK hP hx0 (gce_LogDisk hx0.1) rfl 4 (by decide) (hts _ (List.mem_cons_of_mem _ gw_233)) rfl d_LogDisk_openSegment_62 ?_
  refine g_get hx hb hts (fun w h => List.mem_cons_of_mem _ (in_Frame w h)) hown hK hP (gis_LogDisk_frame hY hx0) (gce_Frame (gis_LogDisk_frame hY hx0).1) rfl 1 (by decide) (hts _ (List.mem_cons_of_mem _ gw_58)) rfl d_LogDisk_openSegment_65 ?_
  refine g_callv (va_runV (As := [.ref (gad Y (grf (grf x0 4) 0)), .int (S6.1 (grf x0 4) 1)]) (rest := []) ⟨hx, hb, hml, hown, hts⟩ (k_DiskFile_write l Y hY H.size (grf (grf x0 1) x1.toNatClampNeg) (grf (grf x0 4) 0) (S6.1 (grf x0 4) 1) (gis_elem_DiskFile hY (gis_LogDisk_files hY hx0) hin7) (gis_Frame_bytes hY (gis_LogDisk_frame hY hx0)) S6 _) (cwV 2 hts (gG_V gw_580 gw_581 gw_582 gw_10 gw_583) rfl rfl rfl (by decide +kernel) ⟨Nat.le_of_ble_eq_true rfl, Nat.le_of_ble_eq_true rfl⟩) ⟨gPre_blind, g_recv hK hP (gis_elem_DiskFile hY (gis_LogDisk_files hY hx0) hin7) (gce_DiskFile (gis_elem_DiskFile hY (gis_LogDisk_files hY hx0) hin7).1) rfl, g_pre hK hSt hS hP hw⟩ rfl rfl hl.1 rfl (lv_room (Nat.le_of_ble_eq_true rfl)) d_LogDisk_openSegment_68 ⟨Nat.zero_le _, Nat.zero_le _⟩) hS (fun S8 H locs hw hP hS => ?_)
  refine lv_aload_n hx hb d_LogDisk_openSegment_71 rfl (lv_at hl 0 rfl) ?_
  refine g_get hx hb hts (fun w h => List.mem_cons_of_mem _ (in_LogDisk w h)) hown hK hP hx0 (gce_LogDisk hx0.1) rfl 7 (by decide) (hts _ (List.mem_cons_of_mem _ gw_236)) rfl d_LogDisk_openSegment_72 ?_
  refine lv_iload_n hx hb d_LogDisk_openSegment_75 rfl (lv_at hl 1 rfl) ?_
  refine lv_aload_n hx hb d_LogDisk_openSegment_76 rfl (lv_at hl 0 rfl) ?_
  refine g_get hx hb hts (fun w h => List.mem_cons_of_mem _ (in_LogDisk w h)) hown hK hP hx0 (gce_LogDisk hx0.1) rfl 10 (by decide) (hts _ (List.mem_cons_of_mem _ gw_239)) rfl d_LogDisk_openSegment_77 ?_
  refine lv_iconst (v := 1) hx hb d_LogDisk_openSegment_80 (by decide) ?_
  refine lv_iadd hx hb d_LogDisk_openSegment_81 ?_
  refine g_callv (va_runV (As := [.int x1, .int ((S8.1 x0 10) + 1)]) (rest := []) ⟨hx, hb, hml, hown, hts⟩ (k_Segments_add l Y hY H.size (grf x0 7) x1 ((S8.1 x0 10) + 1) (gis_LogDisk_segments hY hx0) S8 _) (cwV 2 hts (gG_V gw_406 gw_407 gw_408 gw_6 gw_409) rfl rfl rfl (by decide +kernel) ⟨Nat.le_of_ble_eq_true rfl, Nat.le_of_ble_eq_true rfl⟩) ⟨gPre_blind, g_recv hK hP (gis_LogDisk_segments hY hx0) (gce_Segments (gis_LogDisk_segments hY hx0).1) rfl, g_pre hK hSt hS hP hw⟩ rfl rfl hl.1 rfl (lv_room (Nat.le_of_ble_eq_true rfl)) d_LogDisk_openSegment_82 ⟨Nat.zero_le _, Nat.zero_le _⟩) hS (fun S9 H locs hw hP hS => ?_)
  exact W.vret hx hb hr (fun t ht hW => ⟨⟨S9, rfl, hw, by rw [ht]; exact hP, va_K.moved hW.alike hK⟩, hS.F ht⟩) hS.2.2 d_LogDisk_openSegment_85
set_option maxHeartbeats 4000000 in
set_option maxRecDepth 100000 in
theorem k_LogDisk_openSegment (l : Launch) (Y : gY) (hY : gOK Y) (sz : Nat) (x0 : gI) (x1 : Int32)  (hx0 : gis Y 9 x0) (S : gS) (Q : gS → Prop) : Met l y_LogDisk_openSegment w_LogDisk_openSegment (gRm 4 110) (gPre Y [.ref (gad Y x0), .int x1] S sz (wp_LogDisk_openSegment (gLn Y) Q x0 x1 S)) (va_Qv Q (gB Y) (gA Y sz)) 0 0 (gA Y sz) := by
  refine Met.ofW (cc := c_LogDisk_openSegment) (maxL := 2) (ret := (Option.none : Option Jvm.ClassFile.FieldType)) (by decide) rfl ?_
  intro p e s m args below meth c s₁ B hml hv
  obtain ⟨rfl, hsz, hP, hK, hSt, hw⟩ := hv
  subst hsz
  have hts := atoms_spec (ws := w_LogDisk_openSegment) B.pre
  have hl := lv_entry ([.ref (gad Y x0), .int x1]) (n := 2) (Nat.le_of_ble_eq_true rfl)
  rw [lg_entry_eq]
  generalize (lg_sl ([.ref (gad Y x0), .int x1]) ++ List.replicate (2 - (lg_sl ([.ref (gad Y x0), .int x1])).length) Slot.unset).toArray = ls at hl ⊢
  exact mw_LogDisk_openSegment ⟨B.exec, B.bytes, hml, findClass_of_methodNamed B.named, hts, B.returns, B.notSynchronized, hK, hY, hSt⟩ x0 x1 S s.heap [] ls hx0 hw hP va_S.rf hl

def wp_LogDisk_writeEntry (Ln : gI → Nat) (Q : gS → Prop) (x0 : gI) (x1 : Int32) (x2 : Int32) (x3 : Int32) (x4 : Int32)  (S : gS) : Prop :=
  ∀ S1 : gS, S1 = gset S x0 10 ((S.1 x0 10) + 1) → (vp_in x1 (Ln (grf x0 1)) ∧ (wp_Entries_set Ln (fun S3 => wp_Frame_begin Ln (fun S4 => wp_Frame_add Ln (fun S5 => wp_Frame_add Ln (fun S6 => wp_Frame_add Ln (fun S7 => wp_Frame_addBytes Ln (fun S8 => wp_Frame_close Ln (fun S9 => vp_in x1 (Ln (grf x0 1)) ∧ (wp_DiskFile_write Ln (fun S11 => Q S11) (grf (grf x0 1) x1.toNatClampNeg) (grf (grf x0 4) 0) (S9.1 (grf x0 4) 1) S9)) (grf x0 4) S8) (grf x0 4) (grf (grf x0 3) 0) x4 S7) (grf x0 4) (x3.toInt64) 1 S6) (grf x0 4) (x2.toInt64) 8 S5) (grf x0 4) ((S4.1 x0 10).toInt64) 8 S4) (grf x0 4) S3) (grf x0 8) (S1.1 x0 10) x1 (S1.1 (grf (grf (grf x0 1) x1.toNatClampNeg) 1) 2) x2 x3 x4 S1))
set_option maxHeartbeats 4000000 in
set_option maxRecDepth 100000 in
theorem mw_LogDisk_writeEntry {p : Program} {l : Launch} {e : Env} {s : State} {m : MethodId} {args : Array Value} {below : List Frame} {meth : Method} {c : Code} {Y : gY} {Q : gS → Prop} (C : gCx p s m args meth c Y "LogDisk" c_LogDisk_writeEntry 5 (Option.none : Option Jvm.ClassFile.FieldType) w_LogDisk_writeEntry) : ∀ (x0 : gI) (x1 : Int32) (x2 : Int32) (x3 : Int32) (x4 : Int32)  (S : gS) (H : Heap) (locs : List Loc) (ls : Array Slot), gis Y 9 x0 → wp_LogDisk_writeEntry (gLn Y) Q x0 x1 x2 x3 x4 S → gWd Y S H → va_S (gA Y s.heap.size) s.heap H locs → lv_has ls 5 [(0, .ref (gad Y x0)), (1, .int x1), (2, .int x2), (3, .int x3), (4, .int x4)] → W p l e (gRm 4 110) s m args below meth c H locs 0 0 (MQ below (va_Qv Q (gB Y) (gA Y s.heap.size)) args s 0 0 (gA Y s.heap.size)) (F0 m 0 ls []) := by
  have C0 := C
  obtain ⟨hx, hb, hml, hown, hts, hr, hlocks, hK, hY, hSt⟩ := C
  intro x0 x1 x2 x3 x4 S H locs ls hx0 hw hP hS hl
  unfold wp_LogDisk_writeEntry at hw
  refine lv_aload_n hx hb d_LogDisk_writeEntry_0 rfl (lv_at hl 0 rfl) ?_
  refine lv_dup hx hb d_LogDisk_writeEntry_1 rfl ?_
  refine g_get hx hb hts (fun w h => List.mem_cons_of_mem _ (in_LogDisk w h)) hown hK hP hx0 (gce_LogDisk hx0.1) rfl 10 (by decide) (hts _ (List.mem_cons_of_mem _ gw_239)) rfl d_LogDisk_writeEntry_2 ?_
  refine lv_iconst (v := 1) hx hb d_LogDisk_writeEntry_5 (by decide) ?_
  refine lv_iadd hx hb d_LogDisk_writeEntry_6 ?_
  refine g_put (ty := .int) (v := .int ((S.1 x0 10) + 1)) (S' := gset S x0 10 ((S.1 x0 10) + 1)) hx hb hts (fun w h => List.mem_cons_of_mem _ (in_LogDisk w h)) ty_LogDisk tyok_LogDisk nm_LogDisk hown hK hY.1 hP hS hx0 (gce_LogDisk hx0.1) rfl 10 (by decide) (hts _ (List.mem_cons_of_mem _ gw_239)) rfl (by decide +kernel) rfl rfl (Nat.le_of_ble_eq_true rfl) (gp_LogDisk_last hx0.1) gce_gset d_LogDisk_writeEntry_7 (fun H locs hP hS => ?_)
  obtain ⟨S1, eS1⟩ : ∃ z, z = gset S x0 10 ((S.1 x0 10) + 1) := ⟨_, rfl⟩
  rw [← eS1] at hP
  replace hw := hw S1 eS1
  refine lv_aload_n hx hb d_LogDisk_writeEntry_10 rfl (lv_at hl 0 rfl) ?_
  refine g_get hx hb hts (fun w h => List.mem_cons_of_mem _ (in_LogDisk w h)) hown hK hP hx0 (gce_LogDisk hx0.1) rfl 8 (by decide) (hts _ (List.mem_cons_of_mem _ gw_237)) rfl d_LogDisk_writeEntry_11 ?_
  refine lv_aload_n hx hb d_LogDisk_writeEntry_14 rfl (lv_at hl 0 rfl) ?_
  refine g_get hx hb hts (fun w h => List.mem_cons_of_mem _ (in_LogDisk w h)) hown hK hP hx0 (gce_LogDisk hx0.1) rfl 10 (by decide) (hts _ (List.mem_cons_of_mem _ gw_239)) rfl d_LogDisk_writeEntry_15 ?_
  refine lv_iload_n hx hb d_LogDisk_writeEntry_18 rfl (lv_at hl 1 rfl) ?_
  refine lv_aload_n hx hb d_LogDisk_writeEntry_19 rfl (lv_at hl 0 rfl) ?_
  refine g_get hx hb hts (fun w h => List.mem_cons_of_mem _ (in_LogDisk w h)) hown hK hP hx0 (gce_LogDisk hx0.1) rfl 1 (by decide) (hts _ (List.mem_cons_of_mem _ gw_230)) rfl d_LogDisk_writeEntry_20 ?_
  refine lv_iload_n hx hb d_LogDisk_writeEntry_23 rfl (lv_at hl 1 rfl) ?_
  obtain ⟨hin, hw⟩ := hw
  refine g_aaload hx hb hK hP (gis_LogDisk_files hY hx0) hin d_LogDisk_writeEntry_24 ?_
  have hin2 := hin
  refine g_get hx hb hts (fun w h => List.mem_cons_of_mem _ (in_DiskFile w h)) hown hK hP (gis_elem_DiskFile hY (gis_LogDisk_files hY hx0) hin2) (gce_DiskFile (gis_elem_DiskFile hY (gis_LogDisk_files hY hx0) hin2).1) rfl 1 (by decide) (hts _ (List.mem_cons_of_mem _ gw_215)) rfl d_LogDisk_writeEntry_25 ?_
  refine g_get hx hb hts (fun w h => List.mem_cons_of_mem _ (in_Content w h)) hown hK hP (gis_DiskFile_now hY (gis_elem_DiskFile hY (gis_LogDisk_files hY hx0) hin2)) (gce_Content (gis_DiskFile_now hY (gis_elem_DiskFile hY (gis_LogDisk_files hY hx0) hin2)).1) rfl 2 (by decide) (hts _ (List.mem_cons_of_mem _ gw_205)) rfl d_LogDisk_writeEntry_28 ?_
  refine lv_iload_n hx hb d_LogDisk_writeEntry_31 rfl (lv_at hl 2 rfl) ?_
  refine lv_iload_n hx hb d_LogDisk_writeEntry_32 rfl (lv_at hl 3 rfl) ?_
  refine lv_iload hx hb d_LogDisk_writeEntry_33 (lv_at hl 4 rfl) ?_
  refine g_callv (va_runV (As := [.int (S1.1 x0 10), .int x1, .int (S1.1 (grf (grf (grf x0 1) x1.toNatClampNeg) 1) 2), .int x2, .int x3, .int x4]) (rest := []) ⟨hx, hb, hml, hown, hts⟩ (k_Entries_set l Y hY H.size (grf x0 8) (S1.1 x0 10) x1 (S1.1 (grf (grf (grf x0 1) x1.toNatClampNeg) 1) 2) x2 x3 x4 (gis_LogDisk_entries hY hx0) S1 _) (cwV 6 hts (gG_V gw_381 gw_382 gw_383 gw_7 gw_384) rfl rfl rfl (by decide +kernel) ⟨Nat.le_of_ble_eq_true rfl, Nat.le_of_ble_eq_true rfl⟩) ⟨gPre_blind, g_recv hK hP (gis_LogDisk_entries hY hx0) (gce_Entries (gis_LogDisk_entries hY hx0).1) rfl, g_pre hK hSt hS hP hw⟩ rfl rfl hl.1 rfl (lv_room (Nat.le_of_ble_eq_true rfl)) d_LogDisk_writeEntry_35 ⟨Nat.zero_le _, Nat.zero_le _⟩) hS (fun S3 H locs hw hP hS => ?_)
  refine lv_aload_n hx hb d_LogDisk_writeEntry_38 rfl (lv_at hl 0 rfl) ?_
  refine g_get hx hb hts (fun w h => List.mem_cons_of_mem _ (in_LogDisk w h)) hown hK hP hx0 (gce_LogDisk hx0.1) rfl 4 (by decide) (hts _ (List.mem_cons_of_mem _ gw_233)) rfl d_LogDisk_writeEntry_39 ?_
  refine g_callv (va_runV (As := []) (rest := []) ⟨hx, hb, hml, hown, hts⟩ (k_Frame_begin l Y hY H.size (grf x0 4) (gis_LogDisk_frame hY hx0) S3 _) (cwV 0 hts (gG_V gw_563 gw_564 gw_565 gw_3 gw_566) rfl rfl rfl (by decide +kernel) ⟨Nat.le_of_ble_eq_true rfl, Nat.le_of_ble_eq_true rfl⟩) ⟨gPre_blind, g_recv hK hP (gis_LogDisk_frame hY hx0) (gce_Frame (gis_LogDisk_frame hY hx0).1) rfl, g_pre hK hSt hS hP hw⟩ rfl rfl hl.1 rfl (lv_room (Nat.le_of_ble_eq_true rfl)) d_LogDisk_writeEntry_42 ⟨Nat.zero_le _, Nat.zero_le _⟩) hS (fun S4 H locs hw hP hS => ?_)
  refine lv_aload_n hx hb d_LogDisk_writeEntry_45 rfl (lv_at hl 0 rfl) ?_
  refine g_get hx hb hts (fun w h => List.mem_cons_of_mem _ (in_LogDisk w h)) hown hK hP hx0 (gce_LogDisk hx0.1) rfl 4 (by decide) (hts _ (List.mem_cons_of_mem _ gw_233)) rfl d_LogDisk_writeEntry_46 ?_
  refine lv_aload_n hx hb d_LogDisk_writeEntry_49 rfl (lv_at hl 0 rfl) ?_
  refine g_get hx hb hts (fun w h => List.mem_cons_of_mem _ (in_LogDisk w h)) hown hK hP hx0 (gce_LogDisk hx0.1) rfl 10 (by decide) (hts _ (List.mem_cons_of_mem _ gw_239)) rfl d_LogDisk_writeEntry_50 ?_
  refine lv_i2l hx hb d_LogDisk_writeEntry_53 rfl ?_
  refine lv_bipush (v := 8) hx hb d_LogDisk_writeEntry_54 (by decide) ?_
  refine g_callv (va_runV (As := [.long ((S4.1 x0 10).toInt64), .int 8]) (rest := []) ⟨hx, hb, hml, hown, hts⟩ (k_Frame_add l Y hY H.size (grf x0 4) ((S4.1 x0 10).toInt64) 8 (gis_LogDisk_frame hY hx0) S4 _) (cwV 2 hts (gG_V gw_567 gw_568 gw_569 gw_3 gw_570) rfl rfl rfl (by decide +kernel) ⟨Nat.le_of_ble_eq_true rfl, Nat.le_of_ble_eq_true rfl⟩) ⟨gPre_blind, g_recv hK hP (gis_LogDisk_frame hY hx0) (gce_Frame (gis_LogDisk_frame hY hx0).1) rfl, g_pre hK hSt hS hP hw⟩ rfl rfl hl.1 rfl (lv_room (Nat.le_of_ble_eq_true rfl)) d_LogDisk_writeEntry_56 ⟨Nat.zero_le _, Nat.zero_le _⟩) hS (fun S5 H locs hw hP hS => ?_)
  refine lv_aload_n hx hb d_LogDisk_writeEntry_59 rfl (lv_at hl 0 rfl) ?_
  refine g_get hx hb hts (fun w h => List.mem_cons_of_mem _ (in_LogDisk w h)) hown hK hP hx0 (gce_LogDisk hx0.1) rfl 4 (by decide) (hts _ (List.mem_cons_of_mem _ gw_233)) rfl d_LogDisk_writeEntry_60 ?_
  refine lv_iload_n hx hb d_LogDisk_writeEntry_63 rfl (lv_at hl 2 rfl) ?_
  refine lv_i2l hx hb d_LogDisk_writeEntry_64 rfl ?_
  refine lv_bipush (v := 8) hx hb d_LogDisk_writeEntry_65 (by decide) ?_
  refine g_callv (va_runV (As := [.long (x2.toInt64), .int 8]) (rest := []) ⟨hx, hb, hml, hown, hts⟩ (k_Frame_add l Y hY H.size (grf x0 4) (x2.toInt64) 8 (gis_LogDisk_frame hY hx0) S5 _) (cwV 2 hts (gG_V gw_567 gw_568 gw_569 gw_3 gw_570) rfl rfl rfl (by decide +kernel) ⟨Nat.le_of_ble_eq_true rfl, Nat.le_of_ble_eq_true rfl⟩) ⟨gPre_blind, g_recv hK hP (gis_LogDisk_frame hY hx0) (gce_Frame (gis_LogDisk_frame hY hx0).1) rfl, g_pre hK hSt hS hP hw⟩ rfl rfl hl.1 rfl (lv_room (Nat.le_of_ble_eq_true rfl)) d_LogDisk_writeEntry_67 ⟨Nat.zero_le _, Nat.zero_le _⟩) hS (fun S6 H locs hw hP hS => ?_)
  refine lv_aload_n hx hb d_LogDisk_writeEntry_70 rfl (lv_at hl 0 rfl) ?_
  refine g_get hx hb hts (fun w h => List.mem_cons_of_mem _ (in_LogDisk w h)) hown hK hP hx0 (gce_LogDisk hx0.1) rfl 4 (by decide) (hts _ (List.mem_cons_of_mem _ gw_233)) rfl d_LogDisk_writeEntry_71 ?_
  refine lv_iload_n hx hb d_LogDisk_writeEntry_74 rfl (lv_at hl 3 rfl) ?_
  refine lv_i2l hx hb d_LogDisk_writeEntry_75 rfl ?_
  refine lv_iconst (v := 1) hx hb d_LogDisk_writeEntry_76 (by decide) ?_
  refine g_callv (va_runV (As := [.long (x3.toInt64), .int 1]) (rest := []) ⟨hx, hb, hml, hown, hts⟩ (k_Frame_add l Y hY H.size (grf x0 4) (x3.toInt64) 1 (gis_LogDisk_frame hY hx0) S6 _) (cwV 2 hts (gG_V gw_567 gw_568 gw_569 gw_3 gw_570) rfl rfl rfl (by decide +kernel) ⟨Nat.le_of_ble_eq_true rfl, Nat.le_of_ble_eq_true rfl⟩) ⟨gPre_blind, g_recv hK hP (gis_LogDisk_frame hY hx0) (gce_Frame (gis_LogDisk_frame hY hx0).1) rfl, g_pre hK hSt hS hP hw⟩ rfl rfl hl.1 rfl (lv_room (Nat.le_of_ble_eq_true rfl)) d_LogDisk_writeEntry_77 ⟨Nat.zero_le _, Nat.zero_le _⟩) hS (fun S7 H locs hw hP hS => ?_)
  refine lv_aload_n hx hb d_LogDisk_writeEntry_80 rfl (lv_at hl 0 rfl) ?_
  refine g_get hx hb hts (fun w h => List.mem_cons_of_mem _ (in_LogDisk w h)) hown hK hP hx0 (gce_LogDisk hx0.1) rfl 4 (by decide) (hts _ (List.mem_cons_of_mem _ gw_233)) rfl d_LogDisk_writeEntry_81 ?_
  refine lv_aload_n hx hb d_LogDisk_writeEntry_84 rfl (lv_at hl 0 rfl) ?_
  refine g_get hx hb hts (fun w h => List.mem_cons_of_mem _ (in_LogDisk w h)) hown hK hP hx0 (gce_LogDisk hx0.1) rfl 3 (by decide) (hts _ (List.mem_cons_of_mem _ gw_232)) rfl d_LogDisk_writeEntry_85 ?_
  refine g_get hx hb hts (fun w h => List.mem_cons_of_mem _ (in_Tape w h)) hown hK hP (gis_LogDisk_tape hY hx0) (gce_Tape (gis_LogDisk_tape hY hx0).1) rfl 0 (by decide) (hts _ (List.mem_cons_of_mem _ gw_39)) rfl d_LogDisk_writeEntry_88 ?_
  refine lv_iload hx hb d_LogDisk_writeEntry_91 (lv_at hl 4 rfl) ?_
  refine g_callv (va_runV (As := [.ref (gad Y (grf (grf x0 3) 0)), .int x4]) (rest := []) ⟨hx, hb, hml, hown, hts⟩ (k_Frame_addBytes l Y hY H.size (grf x0 4) (grf (grf x0 3) 0) x4 (gis_LogDisk_frame hY hx0) (gis_Tape_bytes hY (gis_LogDisk_tape hY hx0)) S7 _) (cwV 2 hts (gG_V gw_646 gw_647 gw_648 gw_3 gw_649) rfl rfl rfl (by decide +kernel) ⟨Nat.le_of_ble_eq_true rfl, Nat.le_of_ble_eq_true rfl⟩) ⟨gPre_blind, g_recv hK hP (gis_LogDisk_frame hY hx0) (gce_Frame (gis_LogDisk_frame hY hx0).1) rfl, g_pre hK hSt hS hP hw⟩ rfl rfl hl.1 rfl (lv_room (Nat.le_of_ble_eq_true rfl)) d_LogDisk_writeEntry_93 ⟨Nat.zero_le _, Nat.zero_le _⟩) hS (fun S8 H locs hw hP hS => ?_)
  refine lv_aload_n hx hb d_LogDisk_writeEntry_96 rfl (lv_at hl 0 rfl) ?_
  refine g_get hx hb hts (fun w h => List.mem_cons_of_mem _ (in_LogDisk w h)) hown hK hP hx0 (gce_LogDisk hx0.1) rfl 4 (by decide) (hts _ (List.mem_cons_of_mem _ gw_233)) rfl d_LogDisk_writeEntry_97 ?_
  refine g_callv (va_runV (As := []) (rest := []) ⟨hx, hb, hml, hown, hts⟩ (k_Frame_close l Y hY H.size (grf x0 4) (gis_LogDisk_frame hY hx0) S8 _) (cwV 0 hts (gG_V gw_575 gw_576 gw_577 gw_3 gw_578) rfl rfl rfl (by decide +kernel) ⟨Nat.le_of_ble_eq_true rfl, Nat.le_of_ble_eq_true rfl⟩) ⟨gPre_blind, g_recv hK hP (gis_LogDisk_frame hY hx0) (gce_Frame (gis_LogDisk_frame hY hx0).1) rfl, g_pre hK hSt hS hP hw⟩ rfl rfl hl.1 rfl (lv_room (Nat.le_of_ble_eq_true rfl)) d_LogDisk_writeEntry_100 ⟨Nat.zero_le _, Nat.zero_le _⟩) hS (fun S9 H locs hw hP hS => ?_)
  refine lv_aload_n hx hb d_LogDisk_writeEntry_103 rfl (lv_at hl 0 rfl) ?_
  refine g_get hx hb hts (fun w h => List.mem_cons_of_mem _ (in_LogDisk w h)) hown hK hP hx0 (gce_LogDisk hx0.1) rfl 1 (by decide) (hts _ (List.mem_cons_of_mem _ gw_230)) rfl d_LogDisk_writeEntry_104 ?_
  refine lv_iload_n hx hb d_LogDisk_writeEntry_107 rfl (lv_at hl 1 rfl) ?_
  obtain ⟨hin, hw⟩ := hw
  refine g_aaload hx hb hK hP (gis_LogDisk_files hY hx0) hin d_LogDisk_writeEntry_108 ?_
  have hin10 := hin
  refine lv_aload_n hx hb d_LogDisk_writeEntry_109 rfl (lv_at hl 0 rfl) ?_
  refine g_get hx hb hts (fun w h => List.mem_cons_of_mem _ (in_LogDisk w h)) hown hK hP hx0 (gce_LogDisk hx0.1) rfl 4 (by decide) (hts _ (List.mem_cons_of_mem _ gw_233)) rfl d_LogDisk_writeEntry_110 ?_
  refine g_get hx hb hts (fun w h => List.mem_cons_of_mem _ (in_Frame w h)) hown hK hP (gis_LogDisk_frame hY hx0) (gce_Frame (gis_LogDisk_frame hY hx0).1) rfl 0 (by decide) (hts _ (List.mem_cons_of_mem _ gw_56)) rfl d_LogDisk_writeEntry_113 ?_
  refine lv_aload_n hx hb d_LogDisk_writeEntry_116 rfl (lv_at hl 0 rfl) ?_
  refine g_get hx hb hts (fun w h => List.mem_cons_of_mem _ (in_LogDisk w h)) hown hK hP hx0 (gce_LogDisk hx0.1) rfl 4 (by decide) (hts _ (List.mem_cons_of_mem _ gw_233)) rfl d_LogDisk_writeEntry_117 ?_
  refine g_get hx hb hts (fun w h => List.mem_cons_of_mem _ (in_Frame w h)) hown hK hP (gis_LogDisk_frame hY hx0) (gce_Frame (gis_LogDisk_frame hY hx0).1) rfl 1 (by decide) (hts _ (List.mem_cons_of_mem _ gw_58)) rfl d_LogDisk_writeEntry_120 ?_
  refine g_callv (va_runV (As := [.ref (gad Y (grf (grf x0 4) 0)), .int (S9.1 (grf x0 4) 1)]) (rest := []) ⟨hx, hb, hml, hown, hts⟩ (k_DiskFile_write l Y hY H.size (grf (grf x0 1) x1.toNatClampNeg) (grf (grf x0 4) 0) (S9.1 (grf x0 4) 1) (gis_elem_DiskFile hY (gis_LogDisk_files hY hx0) hin10) (gis_Frame_bytes hY (gis_LogDisk_frame hY hx0)) S9 _) (cwV 2 hts (gG_V gw_580 gw_581 gw_582 gw_10 gw_583) rfl rfl rfl (by decide +kernel) ⟨Nat.le_of_ble_eq_true rfl, Nat.le_of_ble_eq_true rfl⟩) ⟨gPre_blind, g_recv hK hP (gis_elem_DiskFile hY (gis_LogDisk_files hY hx0) hin10) (gce_DiskFile (gis_elem_DiskFile hY (gis_LogDisk_files hY hx0) hin10).1) rfl, g_pre hK hSt hS hP hw⟩ rfl rfl hl.1 rfl (lv_room (Nat.le_of_ble_eq_true rfl)) d_LogDisk_writeEntry_123 ⟨Nat.zero_le _, Nat.zero_le _⟩) hS (fun S11 H locs hw hP hS => ?_)
  exact W.vret hx hb hr (fun t ht hW => ⟨⟨S11, rfl, hw, by rw [ht]; exact hP, va_K.moved hW.alike hK⟩, hS.F ht⟩) hS.2.2 d_LogDisk_writeEntry_126
set_option maxHeartbeats 4000000 in
set_option maxRecDepth 100000 in
theorem k_LogDisk_writeEntry (l : Launch) (Y : gY) (hY : gOK Y) (sz : Nat) (x0 : gI) (x1 : Int32) (x2 : Int32) (x3 : Int32) (x4 : Int32)  (hx0 : gis Y 9 x0) (S : gS) (Q : gS → Prop) : Met l y_LogDisk_writeEntry w_LogDisk_writeEntry (gRm 4 110) (gPre Y [.ref (gad Y x0), .int x1, .int x2, .int x3, .int x4] S sz (wp_LogDisk_writeEntry (gLn Y) Q x0 x1 x2 x3 x4 S)) (va_Qv Q (gB Y) (gA Y sz)) 0 0 (gA Y sz) := by
  refine Met.ofW (cc := c_LogDisk_writeEntry) (maxL := 5) (ret := (Option.none : Option Jvm.ClassFile.FieldType)) (by decide) rfl ?_
  intro p e s m args below meth c s₁ B hml hv
  obtain ⟨rfl, hsz, hP, hK, hSt, hw⟩ := hv
  subst hsz
  have hts := atoms_spec (ws := w_LogDisk_writeEntry) B.pre
  have hl := lv_entry ([.ref (gad Y x0), .int x1, .int x2, .int x3, .int x4]) (n := 5) (Nat.le_of_ble_eq_true rfl)
  rw [lg_entry_eq]
  generalize (lg_sl ([.ref (gad Y x0), .int x1, .int x2, .int x3, .int x4]) ++ List.replicate (5 - (lg_sl ([.ref (gad Y x0), .int x1, .int x2, .int x3, .int x4])).length) Slot.unset).toArray = ls at hl ⊢
  exact mw_LogDisk_writeEntry ⟨B.exec, B.bytes, hml, findClass_of_methodNamed B.named, hts, B.returns, B.notSynchronized, hK, hY, hSt⟩ x0 x1 x2 x3 x4 S s.heap [] ls hx0 hw hP va_S.rf hl

def wp_LogDisk_dropSegments_41 (Ln : gI → Nat) (Q : gS → Prop) : Nat → gI → Int32 → Int32 → gS → Prop
  | 0, _, _, _, _ => False
  | n41 + 1, x0, x1, x2, S => ((x1 ≤ x2) → (wp_Segments_dropFront Ln (fun S5 => Q S5) (grf x0 7) x1 S)) ∧ ((¬ x1 ≤ x2) → (vp_in x2 (Ln (grf (grf x0 7) 0)) ∧ (vp_in (S.1 (grf (grf x0 7) 0) x2.toNatClampNeg) (Ln (grf x0 1)) ∧ (wp_DiskFile_remove Ln (fun S7 => ∀ v2_8 : Int32, v2_8 = x2 + 1 → (wp_LogDisk_dropSegments_41 Ln Q n41 x0 x1 v2_8 S7)) (grf (grf x0 1) (S.1 (grf (grf x0 7) 0) x2.toNatClampNeg).toNatClampNeg) S))))
def wp_LogDisk_dropSegments_38 (Ln : gI → Nat) (Q : gS → Prop) (x0 : gI) (y0 : Int32) (S : gS) : Prop :=
  ∃ n41 : Nat, wp_LogDisk_dropSegments_41 Ln Q n41 x0 y0 0 S
def wp_LogDisk_dropSegments (Ln : gI → Nat) (Q : gS → Prop) (x0 : gI)  (S : gS) : Prop :=
  ((¬ (S.1 x0 10) = (S.1 (grf x0 6) 1)) → (wp_Segments_endedBy Ln (fun r3 S2 => wp_LogDisk_dropSegments_38 Ln Q x0 r3 S2) (grf x0 7) (S.1 (grf x0 6) 1) S)) ∧ (((S.1 x0 10) = (S.1 (grf x0 6) 1)) → (wp_LogDisk_dropSegments_38 Ln Q x0 (S.1 (grf x0 7) 2) S))
set_option maxHeartbeats 4000000 in
set_option maxRecDepth 100000 in
theorem mw_LogDisk_dropSegments_41 {p : Program} {l : Launch} {e : Env} {s : State} {m : MethodId} {args : Array Value} {below : List Frame} {meth : Method} {c : Code} {Y : gY} {Q : gS → Prop} (C : gCx p s m args meth c Y "LogDisk" c_LogDisk_dropSegments 3 (Option.none : Option Jvm.ClassFile.FieldType) w_LogDisk_dropSegments) : ∀ (n : Nat), ∀ (x0 : gI) (x1 : Int32) (x2 : Int32)  (S : gS) (H : Heap) (locs : List Loc) (ls : Array Slot), gis Y 9 x0 → wp_LogDisk_dropSegments_41 (gLn Y) Q n x0 x1 x2 S → gWd Y S H → va_S (gA Y s.heap.size) s.heap H locs → lv_has ls 3 [(0, .ref (gad Y x0)), (1, .int x1), (2, .int x2)] → W p l e (gRm 3 65) s m args below meth c H locs 0 0 (MQ below (va_Qv Q (gB Y) (gA Y s.heap.size)) args s 0 0 (gA Y s.heap.size)) (F0 m 41 ls []) := by
  have C0 := C
  obtain ⟨hx, hb, hml, hown, hts, hr, hlocks, hK, hY, hSt⟩ := C
  intro n
  induction n with
  | zero =>
    intro x0 x1 x2 S H locs ls hx0 hw
    exact False.elim hw
  | succ n ih =>
    intro x0 x1 x2 S H locs ls hx0 hw hP hS hl
    unfold wp_LogDisk_dropSegments_41 at hw
    refine lv_iload_n hx hb d_LogDisk_dropSegments_41 rfl (lv_at hl 2 rfl) ?_
    refine lv_iload_n hx hb d_LogDisk_dropSegments_42 rfl (lv_at hl 1 rfl) ?_
    refine lv_icmp_ge (tgt := 69) hx hb d_LogDisk_dropSegments_43 (by decide) (fun c4 => ?_) (fun c4 => ?_)
    · replace hw := hw.1 c4
      refine lv_aload_n hx hb d_LogDisk_dropSegments_69 rfl (lv_at hl 0 rfl) ?_
      refine g_get hx hb hts (fun w h => List.mem_cons_of_mem _ (in_LogDisk w h)) hown hK hP hx0 (gce_LogDisk hx0.1) rfl 7 (by decide) (hts _ (List.mem_cons_of_mem _ gw_236)) rfl d_LogDisk_dropSegments_70 ?_
      refine lv_iload_n hx hb d_LogDisk_dropSegments_73 rfl (lv_at hl 1 rfl) ?_
      refine g_callv (va_runV (As := [.int x1]) (rest := []) ⟨hx, hb, hml, hown, hts⟩ (k_Segments_dropFront l Y hY H.size (grf x0 7) x1 (gis_LogDisk_segments hY hx0) S _) (cwV 1 hts (gG_V gw_698 gw_699 gw_700 gw_6 gw_701) rfl rfl rfl (by decide +kernel) ⟨Nat.le_of_ble_eq_true rfl, Nat.le_of_ble_eq_true rfl⟩) ⟨gPre_blind, g_recv hK hP (gis_LogDisk_segments hY hx0) (gce_Segments (gis_LogDisk_segments hY hx0).1) rfl, g_pre hK hSt hS hP hw⟩ rfl rfl hl.1 rfl (lv_room (Nat.le_of_ble_eq_true rfl)) d_LogDisk_dropSegments_74 ⟨Nat.zero_le _, Nat.zero_le _⟩) hS (fun S5 H locs hw hP hS => ?_)
      exact W.vret hx hb hr (fun t ht hW => ⟨⟨S5, rfl, hw, by rw [ht]; exact hP, va_K.moved hW.alike hK⟩, hS.F ht⟩) hS.2.2 d_LogDisk_dropSegments_77
    · replace hw := hw.2 c4
      refine lv_aload_n hx hb d_LogDisk_dropSegments_46 rfl (lv_at hl 0 rfl) ?_
      refine g_get hx hb hts (fun w h => List.mem_cons_of_mem _ (in_LogDisk w h)) hown hK hP hx0 (gce_LogDisk hx0.1) rfl 1 (by decide) (hts _ (List.mem_cons_of_mem _ gw_230)) rfl d_LogDisk_dropSegments_47 ?_
      refine lv_aload_n hx hb d_LogDisk_dropSegments_50 rfl (lv_at hl 0 rfl) ?_
      refine g_get hx hb hts (fun w h => List.mem_cons_of_mem _ (in_LogDisk w h)) hown hK hP hx0 (gce_LogDisk hx0.1) rfl 7 (by decide) (hts _ (List.mem_cons_of_mem _ gw_236)) rfl d_LogDisk_dropSegments_51 ?_
      refine g_get hx hb hts (fun w h => List.mem_cons_of_mem _ (in_Segments w h)) hown hK hP (gis_LogDisk_segments hY hx0) (gce_Segments (gis_LogDisk_segments hY hx0).1) rfl 0 (by decide) (hts _ (List.mem_cons_of_mem _ gw_121)) rfl d_LogDisk_dropSegments_54 ?_
      refine lv_iload_n hx hb d_LogDisk_dropSegments_57 rfl (lv_at hl 2 rfl) ?_
      obtain ⟨hin, hw⟩ := hw
      refine g_iaload hx hb hK hP (gis_Segments_file hY (gis_LogDisk_segments hY hx0)) hin d_LogDisk_dropSegments_58 ?_
      obtain ⟨hin, hw⟩ := hw
      refine g_aaload hx hb hK hP (gis_LogDisk_files hY hx0) hin d_LogDisk_dropSegments_59 ?_
      have hin6 := hin
      refine g_callv (va_runV (As := []) (rest := []) ⟨hx, hb, hml, hown, hts⟩ (k_DiskFile_remove l Y hY H.size (grf (grf x0 1) (S.1 (grf (grf x0 7) 0) x2.toNatClampNeg).toNatClampNeg) (gis_elem_DiskFile hY (gis_LogDisk_files hY hx0) hin6) S _) (cwV 0 hts (gG_V gw_418 gw_419 gw_420 gw_10 gw_421) rfl rfl rfl (by decide +kernel) ⟨Nat.le_of_ble_eq_true rfl, Nat.le_of_ble_eq_true rfl⟩) ⟨gPre_blind, g_recv hK hP (gis_elem_DiskFile hY (gis_LogDisk_files hY hx0) hin6) (gce_DiskFile (gis_elem_DiskFile hY (gis_LogDisk_files hY hx0) hin6).1) rfl, g_pre hK hSt hS hP hw⟩ rfl rfl hl.1 rfl (lv_room (Nat.le_of_ble_eq_true rfl)) d_LogDisk_dropSegments_60 ⟨Nat.zero_le _, Nat.zero_le _⟩) hS (fun S7 H locs hw hP hS => ?_)
      obtain ⟨v2_8, ev2_8⟩ : ∃ y : Int32, y = x2 + 1 := ⟨_, rfl⟩
      replace hw := hw v2_8 ev2_8
      refine lv_iinc (v := v2_8) (lv' := [(2, .int v2_8), (0, .ref (gad Y x0)), (1, .int x1)]) hx hb d_LogDisk_dropSegments_63 hl (k := 2) rfl (by rw [ev2_8]; rfl) (by decide) rfl (fun ls hl => ?_)
      refine lv_goto (tgt := 41) hx hb d_LogDisk_dropSegments_66 (by decide) ?_
      exact ih x0 x1 v2_8 S7 H locs ls hx0 hw hP hS (lv_sub hl [1, 2, 0] rfl)
set_option maxHeartbeats 4000000 in
set_option maxRecDepth 100000 in
theorem mw_LogDisk_dropSegments_38 {p : Program} {l : Launch} {e : Env} {s : State} {m : MethodId} {args : Array Value} {below : List Frame} {meth : Method} {c : Code} {Y : gY} {Q : gS → Prop} (C : gCx p s m args meth c Y "LogDisk" c_LogDisk_dropSegments 3 (Option.none : Option Jvm.ClassFile.FieldType) w_LogDisk_dropSegments) : ∀ (x0 : gI) (y0 : Int32) (S : gS) (H : Heap) (locs : List Loc) (ls : Array Slot), gis Y 9 x0 → wp_LogDisk_dropSegments_38 (gLn Y) Q x0 y0 S → gWd Y S H → va_S (gA Y s.heap.size) s.heap H locs → lv_has ls 3 [(0, .ref (gad Y x0))] → W p l e (gRm 3 65) s m args below meth c H locs 0 0 (MQ below (va_Qv Q (gB Y) (gA Y s.heap.size)) args s 0 0 (gA Y s.heap.size)) (F0 m 38 ls [.int y0]) := by
  have C0 := C
  obtain ⟨hx, hb, hml, hown, hts, hr, hlocks, hK, hY, hSt⟩ := C
  intro x0 y0 S H locs ls hx0 hw hP hS hl
  unfold wp_LogDisk_dropSegments_38 at hw
  refine lv_istore_n (lv' := [(1, .int y0), (0, .ref (gad Y x0))]) hx hb d_LogDisk_dropSegments_38 rfl hl (by decide) rfl (fun ls hl => ?_)
  refine lv_iconst (v := 0) hx hb d_LogDisk_dropSegments_39 (by decide) ?_
  refine lv_istore_n (lv' := [(2, .int 0), (1, .int y0), (0, .ref (gad Y x0))]) hx hb d_LogDisk_dropSegments_40 rfl hl (by decide) rfl (fun ls hl => ?_)
  obtain ⟨n, hw⟩ := hw
  exact mw_LogDisk_dropSegments_41 C0 n x0 y0 0 S H locs ls hx0 hw hP hS (lv_sub hl [2, 1, 0] rfl)
set_option maxHeartbeats 4000000 in
set_option maxRecDepth 100000 in
theorem mw_LogDisk_dropSegments {p : Program} {l : Launch} {e : Env} {s : State} {m : MethodId} {args : Array Value} {below : List Frame} {meth : Method} {c : Code} {Y : gY} {Q : gS → Prop} (C : gCx p s m args meth c Y "LogDisk" c_LogDisk_dropSegments 3 (Option.none : Option Jvm.ClassFile.FieldType) w_LogDisk_dropSegments) : ∀ (x0 : gI)  (S : gS) (H : Heap) (locs : List Loc) (ls : Array Slot), gis Y 9 x0 → wp_LogDisk_dropSegments (gLn Y) Q x0 S → gWd Y S H → va_S (gA Y s.heap.size) s.heap H locs → lv_has ls 3 [(0, .ref (gad Y x0))] → W p l e (gRm 3 65) s m args below meth c H locs 0 0 (MQ below (va_Qv Q (gB Y) (gA Y s.heap.size)) args s 0 0 (gA Y s.heap.size)) (F0 m 0 ls []) := by
  have C0 := C
  obtain ⟨hx, hb, hml, hown, hts, hr, hlocks, hK, hY, hSt⟩ := C
  intro x0 S H locs ls hx0 hw hP hS hl
  unfold wp_LogDisk_dropSegments at hw
  refine lv_aload_n hx hb d_LogDisk_dropSegments_0 rfl (lv_at hl 0 rfl) ?_
  refine g_get hx hb hts (fun w h => List.mem_cons_of_mem _ (in_LogDisk w h)) hown hK hP hx0 (gce_LogDisk hx0.1) rfl 10 (by decide) (hts _ (List.mem_cons_of_mem _ gw_239)) rfl d_LogDisk_dropSegments_1 ?_
  refine lv_aload_n hx hb d_LogDisk_dropSegments_4 rfl (lv_at hl 0 rfl) ?_
  refine g_get hx hb hts (fun w h => List.mem_cons_of_mem _ (in_LogDisk w h)) hown hK hP hx0 (gce_LogDisk hx0.1) rfl 6 (by decide) (hts _ (List.mem_cons_of_mem _ gw_235)) rfl d_LogDisk_dropSegments_5 ?_
  refine g_get hx hb hts (fun w h => List.mem_cons_of_mem _ (in_Snapshot w h)) hown hK hP (gis_LogDisk_snapshot hY hx0) (gce_Snapshot (gis_LogDisk_snapshot hY hx0).1) rfl 1 (by decide) (hts _ (List.mem_cons_of_mem _ gw_100)) rfl d_LogDisk_dropSegments_8 ?_
  refine lv_icmp_ne (tgt := 24) hx hb d_LogDisk_dropSegments_11 (by decide) (fun c1 => ?_) (fun c1 => ?_)
  · replace hw := hw.1 c1
    refine lv_aload_n hx hb d_LogDisk_dropSegments_24 rfl (lv_at hl 0 rfl) ?_
    refine g_get hx hb hts (fun w h => List.mem_cons_of_mem _ (in_LogDisk w h)) hown hK hP hx0 (gce_LogDisk hx0.1) rfl 7 (by decide) (hts _ (List.mem_cons_of_mem _ gw_236)) rfl d_LogDisk_dropSegments_25 ?_
    refine lv_aload_n hx hb d_LogDisk_dropSegments_28 rfl (lv_at hl 0 rfl) ?_
    refine g_get hx hb hts (fun w h => List.mem_cons_of_mem _ (in_LogDisk w h)) hown hK hP hx0 (gce_LogDisk hx0.1) rfl 6 (by decide) (hts _ (List.mem_cons_of_mem _ gw_235)) rfl d_LogDisk_dropSegments_29 ?_
    refine g_get hx hb hts (fun w h => List.mem_cons_of_mem _ (in_Snapshot w h)) hown hK hP (gis_LogDisk_snapshot hY hx0) (gce_Snapshot (gis_LogDisk_snapshot hY hx0).1) rfl 1 (by decide) (hts _ (List.mem_cons_of_mem _ gw_100)) rfl d_LogDisk_dropSegments_32 ?_
    refine g_calli (va_runV (As := [.int (S.1 (grf x0 6) 1)]) (rest := []) ⟨hx, hb, hml, hown, hts⟩ (k_Segments_endedBy l Y hY H.size (grf x0 7) (S.1 (grf x0 6) 1) (gis_LogDisk_segments hY hx0) S _) (cwV 1 hts (gG_V gw_694 gw_695 gw_696 gw_6 gw_697) rfl rfl rfl (by decide +kernel) ⟨Nat.le_of_ble_eq_true rfl, Nat.le_of_ble_eq_true rfl⟩) ⟨gPre_blind, g_recv hK hP (gis_LogDisk_segments hY hx0) (gce_Segments (gis_LogDisk_segments hY hx0).1) rfl, g_pre hK hSt hS hP hw⟩ rfl rfl hl.1 rfl (lv_room (Nat.le_of_ble_eq_true rfl)) d_LogDisk_dropSegments_35 ⟨Nat.zero_le _, Nat.zero_le _⟩) hS (fun r3 S2 H locs hw hP hS => ?_)
    exact mw_LogDisk_dropSegments_38 C0 x0 r3 S2 H locs ls hx0 hw hP hS (lv_sub hl [0] rfl)
  · replace hw := hw.2 c1
    refine lv_aload_n hx hb d_LogDisk_dropSegments_14 rfl (lv_at hl 0 rfl) ?_
    refine g_get hx hb hts (fun w h => List.mem_cons_of_mem _ (in_LogDisk w h)) hown hK hP hx0 (gce_LogDisk hx0.1) rfl 7 (by decide) (hts _ (List.mem_cons_of_mem _ gw_236)) rfl d_LogDisk_dropSegments_15 ?_
    refine g_get hx hb hts (fun w h => List.mem_cons_of_mem _ (in_Segments w h)) hown hK hP (gis_LogDisk_segments hY hx0) (gce_Segments (gis_LogDisk_segments hY hx0).1) rfl 2 (by decide) (hts _ (List.mem_cons_of_mem _ gw_125)) rfl d_LogDisk_dropSegments_18 ?_
    refine lv_goto (tgt := 38) hx hb d_LogDisk_dropSegments_21 (by decide) ?_
    exact mw_LogDisk_dropSegments_38 C0 x0 (S.1 (grf x0 7) 2) S H locs ls hx0 hw hP hS (lv_sub hl [0] rfl)
set_option maxHeartbeats 4000000 in
set_option maxRecDepth 100000 in
theorem k_LogDisk_dropSegments (l : Launch) (Y : gY) (hY : gOK Y) (sz : Nat) (x0 : gI)  (hx0 : gis Y 9 x0) (S : gS) (Q : gS → Prop) : Met l y_LogDisk_dropSegments w_LogDisk_dropSegments (gRm 3 65) (gPre Y [.ref (gad Y x0)] S sz (wp_LogDisk_dropSegments (gLn Y) Q x0 S)) (va_Qv Q (gB Y) (gA Y sz)) 0 0 (gA Y sz) := by
  refine Met.ofW (cc := c_LogDisk_dropSegments) (maxL := 3) (ret := (Option.none : Option Jvm.ClassFile.FieldType)) (by decide) rfl ?_
  intro p e s m args below meth c s₁ B hml hv
  obtain ⟨rfl, hsz, hP, hK, hSt, hw⟩ := hv
  subst hsz
  have hts := atoms_spec (ws := w_LogDisk_dropSegments) B.pre
  have hl := lv_entry ([.ref (gad Y x0)]) (n := 3) (Nat.le_of_ble_eq_true rfl)
  rw [lg_entry_eq]
  generalize (lg_sl ([.ref (gad Y x0)]) ++ List.replicate (3 - (lg_sl ([.ref (gad Y x0)])).length) Slot.unset).toArray = ls at hl ⊢
  exact mw_LogDisk_dropSegments ⟨B.exec, B.bytes, hml, findClass_of_methodNamed B.named, hts, B.returns, B.notSynchronized, hK, hY, hSt⟩ x0 S s.heap [] ls hx0 hw hP va_S.rf hl

def wp_LogDisk_moveBase (Ln : gI → Nat) (Q : gS → Prop) (x0 : gI) (x1 : Int32) (x2 : Int32) (x3 : Int32) (x4 : Int32)  (S : gS) : Prop :=
  wp_Snapshot_nextFile Ln (fun r2 S1 => wp_Snapshot_set Ln (fun S3 => wp_Frame_begin Ln (fun S4 => wp_Frame_add Ln (fun S5 => wp_Frame_add Ln (fun S6 => wp_Frame_add Ln (fun S7 => wp_Frame_close Ln (fun S8 => vp_in (S8.1 (grf x0 6) 0) (Ln (grf x0 1)) ∧ (wp_DiskFile_cutTo Ln (fun S10 => wp_DiskFile_write Ln (fun S11 => wp_DiskFile_write Ln (fun S12 => wp_DiskFile_settle Ln (fun S13 => wp_LogDisk_dropSegments Ln (fun S14 => ∀ S15 : gS, S15 = gset S14 x0 11 1 → (Q S15)) x0 S13) (grf (grf x0 1) (S8.1 (grf x0 6) 0).toNatClampNeg) S12) (grf (grf x0 1) (S8.1 (grf x0 6) 0).toNatClampNeg) (grf (grf x0 3) 0) x4 S11) (grf (grf x0 1) (S8.1 (grf x0 6) 0).toNatClampNeg) (grf (grf x0 4) 0) (S10.1 (grf x0 4) 1) S10) (grf (grf x0 1) (S8.1 (grf x0 6) 0).toNatClampNeg) 0 S8)) (grf x0 4) S7) (grf x0 4) (x3.toInt64) 4 S6) (grf x0 4) (x2.toInt64) 4 S5) (grf x0 4) (x1.toInt64) 4 S4) (grf x0 4) S3) (grf x0 6) r2 x1 x2 x3 S1) (grf x0 6) S
set_option maxHeartbeats 4000000 in
set_option maxRecDepth 100000 in
theorem mw_LogDisk_moveBase {p : Program} {l : Launch} {e : Env} {s : State} {m : MethodId} {args : Array Value} {below : List Frame} {meth : Method} {c : Code} {Y : gY} {Q : gS → Prop} (C : gCx p s m args meth c Y "LogDisk" c_LogDisk_moveBase 6 (Option.none : Option Jvm.ClassFile.FieldType) w_LogDisk_moveBase) : ∀ (x0 : gI) (x1 : Int32) (x2 : Int32) (x3 : Int32) (x4 : Int32)  (S : gS) (H : Heap) (locs : List Loc) (ls : Array Slot), gis Y 9 x0 → wp_LogDisk_moveBase (gLn Y) Q x0 x1 x2 x3 x4 S → gWd Y S H → va_S (gA Y s.heap.size) s.heap H locs → lv_has ls 6 [(0, .ref (gad Y x0)), (1, .int x1), (2, .int x2), (3, .int x3), (4, .int x4)] → W p l e (gRm 4 110) s m args below meth c H locs 0 0 (MQ below (va_Qv Q (gB Y) (gA Y s.heap.size)) args s 0 0 (gA Y s.heap.size)) (F0 m 0 ls []) := by
  have C0 := C
  obtain ⟨hx, hb, hml, hown, hts, hr, hlocks, hK, hY, hSt⟩ := C
  intro x0 x1 x2 x3 x4 S H locs ls hx0 hw hP hS hl
  unfold wp_LogDisk_moveBase at hw
  refine lv_aload_n hx hb d_LogDisk_moveBase_0 rfl (lv_at hl 0 rfl) ?_
  refine g_get hx hb hts (fun w h => List.mem_cons_of_mem _ (in_LogDisk w h)) hown hK hP hx0 (gce_LogDisk hx0.1) rfl 6 (by decide) (hts _ (List.mem_cons_of_mem _ gw_235)) rfl d_LogDisk_moveBase_1 ?_
  refine lv_aload_n hx hb d_LogDisk_moveBase_4 rfl (lv_at hl 0 rfl) ?_
  refine g_get hx hb hts (fun w h => List.mem_cons_of_mem _ (in_LogDisk w h)) hown hK hP hx0 (gce_LogDisk hx0.1) rfl 6 (by decide) (hts _ (List.mem_cons_of_mem _ gw_235)) rfl d_LogDisk_moveBase_5 ?_
  refine g_calli (va_runV (As := []) (rest := [.ref (gad Y (grf x0 6))]) ⟨hx, hb, hml, hown, hts⟩ (k_Snapshot_nextFile l Y hY H.size (grf x0 6) (gis_LogDisk_snapshot hY hx0) S _) (cwV 0 hts (gG_V gw_682 gw_683 gw_684 gw_5 gw_685) rfl rfl rfl (by decide +kernel) ⟨Nat.le_of_ble_eq_true rfl, Nat.le_of_ble_eq_true rfl⟩) ⟨gPre_blind, g_recv hK hP (gis_LogDisk_snapshot hY hx0) (gce_Snapshot (gis_LogDisk_snapshot hY hx0).1) rfl, g_pre hK hSt hS hP hw⟩ rfl rfl hl.1 rfl (lv_room (Nat.le_of_ble_eq_true rfl)) d_LogDisk_moveBase_8 ⟨Nat.zero_le _, Nat.zero_le _⟩) hS (fun r2 S1 H locs hw hP hS => ?_)
  refine lv_iload_n hx hb d_LogDisk_moveBase_11 rfl (lv_at hl 1 rfl) ?_
  refine lv_iload_n hx hb d_LogDisk_moveBase_12 rfl (lv_at hl 2 rfl) ?_
  refine lv_iload_n hx hb d_LogDisk_moveBase_13 rfl (lv_at hl 3 rfl) ?_
  refine g_callv (va_runV (As := [.int r2, .int x1, .int x2, .int x3]) (rest := []) ⟨hx, hb, hml, hown, hts⟩ (k_Snapshot_set l Y hY H.size (grf x0 6) r2 x1 x2 x3 (gis_LogDisk_snapshot hY hx0) S1 _) (cwV 4 hts (gG_V gw_359 gw_360 gw_361 gw_5 gw_362) rfl rfl rfl (by decide +kernel) ⟨Nat.le_of_ble_eq_true rfl, Nat.le_of_ble_eq_true rfl⟩) ⟨gPre_blind, g_recv hK hP (gis_LogDisk_snapshot hY hx0) (gce_Snapshot (gis_LogDisk_snapshot hY hx0).1) rfl, g_pre hK hSt hS hP hw⟩ rfl rfl hl.1 rfl (lv_room (Nat.le_of_ble_eq_true rfl)) d_LogDisk_moveBase_14 ⟨Nat.zero_le _, Nat.zero_le _⟩) hS (fun S3 H locs hw hP hS => ?_)
  refine lv_aload_n hx hb d_LogDisk_moveBase_17 rfl (lv_at hl 0 rfl) ?_
  refine g_get hx hb hts (fun w h => List.mem_cons_of_mem _ (in_LogDisk w h)) hown hK hP hx0 (gce_LogDisk hx0.1) rfl 4 (by decide) (hts _ (List.mem_cons_of_mem _ gw_233)) rfl d_LogDisk_moveBase_18 ?_
  refine g_callv (va_runV (As := []) (rest := []) ⟨hx, hb, hml, hown, hts⟩ (k_Frame_begin l Y hY H.size (grf x0 4) (gis_LogDisk_frame hY hx0) S3 _) (cwV 0 hts (gG_V gw_563 gw_564 gw_565 gw_3 gw_566) rfl rfl rfl (by decide +kernel) ⟨Nat.le_of_ble_eq_true rfl, Nat.le_of_ble_eq_true rfl⟩) ⟨gPre_blind, g_recv hK hP (gis_LogDisk_frame hY hx0) (gce_Frame (gis_LogDisk_frame hY hx0).1) rfl, g_pre hK hSt hS hP hw⟩ rfl rfl hl.1 rfl (lv_room (Nat.le_of_ble_eq_true rfl)) d_LogDisk_moveBase_21 ⟨Nat.zero_le _, Nat.zero_le _⟩) hS (fun S4 H locs hw hP hS => ?_)
  refine lv_aload_n hx hb d_LogDisk_moveBase_24 rfl (lv_at hl 0 rfl) ?_
  refine g_get hx hb hts (fun w h => List.mem_cons_of_mem _ (in_LogDisk w h)) hown hK hP hx0 (gce_LogDisk hx0.1) rfl 4 (by decide) (hts _ (List.mem_cons_of_mem _ gw_233)) rfl d_LogDisk_moveBase_25 ?_
  refine lv_iload_n hx hb d_LogDisk_moveBase_28 rfl (lv_at hl 1 rfl) ?_
  refine lv_i2l hx hb d_LogDisk_moveBase_29 rfl ?_
  refine lv_iconst (v := 4) hx hb d_LogDisk_moveBase_30 (by decide) ?_
  refine g_callv (va_runV (As := [.long (x1.toInt64), .int 4]) (rest := []) ⟨hx, hb, hml, hown, hts⟩ (k_Frame_add l Y hY H.size (grf x0 4) (x1.toInt64) 4 (gis_LogDisk_frame hY hx0) S4 _) (cwV 2 hts (gG_V gw_567 gw_568 gw_569 gw_3 gw_570) rfl rfl rfl (by decide +kernel) ⟨Nat.le_of_ble_eq_true rfl, Nat.le_of_ble_eq_true rfl⟩) ⟨gPre_blind, g_recv hK hP (gis_LogDisk_frame hY hx0) (gce_Frame (gis_LogDisk_frame hY hx0).1) rfl, g_pre hK hSt hS hP hw⟩ rfl rfl hl.1 rfl (lv_room (Nat.le_of_ble_eq_true rfl)) d_LogDisk_moveBase_31 ⟨Nat.zero_le _, Nat.zero_le _⟩) hS (fun S5 H locs hw hP hS => ?_)
  refine lv_aload_n hx hb d_LogDisk_moveBase_34 rfl (lv_at hl 0 rfl) ?_
  refine g_get hx hb hts (fun w h => List.mem_cons_of_mem _ (in_LogDisk w h)) hown hK hP hx0 (gce_LogDisk hx0.1) rfl 4 (by decide) (hts _ (List.mem_cons_of_mem _ gw_233)) rfl d_LogDisk_moveBase_35 ?_
  refine lv_iload_n hx hb d_LogDisk_moveBase_38 rfl (lv_at hl 2 rfl) ?_
  refine lv_i2l hx hb d_LogDisk_moveBase_39 rfl ?_
  refine lv_iconst (v := 4) hx hb d_LogDisk_moveBase_40 (by decide) ?_
  refine g_callv (va_runV (As := [.long (x2.toInt64), .int 4]) (rest := []) ⟨hx, hb, hml, hown, hts⟩ (k_Frame_add l Y hY H.size (grf x0 4) (x2.toInt64) 4 (gis_LogDisk_frame hY hx0) S5 _) (cwV 2 hts (gG_V gw_567 gw_568 gw_569 gw_3 gw_570) rfl rfl rfl (by decide +kernel) ⟨Nat.le_of_ble_eq_true rfl, Nat.le_of_ble_eq_true rfl⟩) ⟨gPre_blind, g_recv hK hP (gis_LogDisk_frame hY hx0) (gce_Frame (gis_LogDisk_frame hY hx0).1) rfl, g_pre hK hSt hS hP hw⟩ rfl rfl hl.1 rfl (lv_room (Nat.le_of_ble_eq_true rfl)) d_LogDisk_moveBase_41 ⟨Nat.zero_le _, Nat.zero_le _⟩) hS (fun S6 H locs hw hP hS => ?_)
  refine lv_aload_n hx hb d_LogDisk_moveBase_44 rfl (lv_at hl 0 rfl) ?_
  refine g_get hx hb hts (fun w h => List.mem_cons_of_mem _ (in_LogDisk w h)) hown hK hP hx0 (gce_LogDisk hx0.1) rfl 4 (by decide) (hts _ (List.mem_cons_of_mem _ gw_233)) rfl d_LogDisk_moveBase_45 ?_
  refine lv_iload_n hx hb d_LogDisk_moveBase_48 rfl (lv_at hl 3 rfl) ?_
  refine lv_i2l hx hb d_LogDisk_moveBase_49 rfl ?_
  refine lv_iconst (v := 4) hx hb d_LogDisk_moveBase_50 (by decide) ?_
  refine g_callv (va_runV (As := [.long (x3.toInt64), .int 4]) (rest := []) ⟨hx, hb, hml, hown, hts⟩ (k_Frame_add l Y hY H.size (grf x0 4) (x3.toInt64) 4 (gis_LogDisk_frame hY hx0) S6 _) (cwV 2 hts (gG_V gw_567 gw_568 gw_569 gw_3 gw_570) rfl rfl rfl (by decide +kernel) ⟨Nat.le_of_ble_eq_true rfl, Nat.le_of_ble_eq_true rfl⟩) ⟨gPre_blind, g_recv hK hP (gis_LogDisk_frame hY hx0) (gce_Frame (gis_LogDisk_frame hY hx0).1) rfl, g_pre hK hSt hS hP hw⟩ rfl rfl hl.1 rfl (lv_room (Nat.le_of_ble_eq_true rfl)) d_LogDisk_moveBase_51 ⟨Nat.zero_le _, Nat.zero_le _⟩) hS (fun S7 H locs hw hP hS => ?_)
  refine lv_aload_n hx hb d_LogDisk_moveBase_54 rfl (lv_at hl 0 rfl) ?_
  refine g_get hx hb hts (fun w h => List.mem_cons_of_mem _ (in_LogDisk w h)) hown hK hP hx0 (gce_LogDisk hx0.1) rfl 4 (by decide) (hts _ (List.mem_cons_of_mem _ gw_233)) rfl d_LogDisk_moveBase_55 ?_
  refine g_callv (va_runV (As := []) (rest := []) ⟨hx, hb, hml, hown, hts⟩ (k_Frame_close l Y hY H.size (grf x0 4) (gis_LogDisk_frame hY hx0) S7 _) (cwV 0 hts (gG_V gw_575 gw_576 gw_577 gw_3 gw_578) rfl rfl rfl (by decide +kernel) ⟨Nat.le_of_ble_eq_true rfl, Nat.le_of_ble_eq_true rfl⟩) ⟨gPre_blind, g_recv hK hP (gis_LogDisk_frame hY hx0) (gce_Frame (gis_LogDisk_frame hY hx0).1) rfl, g_pre hK hSt hS hP hw⟩ rfl rfl hl.1 rfl (lv_room (Nat.le_of_ble_eq_true rfl)) d_LogDisk_moveBase_58 ⟨Nat.zero_le _, Nat.zero_le _⟩) hS (fun S8 H locs hw hP hS => ?_)
  refine lv_aload_n hx hb d_LogDisk_moveBase_61 rfl (lv_at hl 0 rfl) ?_
  refine g_get hx hb hts (fun w h => List.mem_cons_of_mem _ (in_LogDisk w h)) hown hK hP hx0 (gce_LogDisk hx0.1) rfl 1 (by decide) (hts _ (List.mem_cons_of_mem _ gw_230)) rfl d_LogDisk_moveBase_62 ?_
  refine lv_aload_n hx hb d_LogDisk_moveBase_65 rfl (lv_at hl 0 rfl) ?_
  refine g_get hx hb hts (fun w h => List.mem_cons_of_mem _ (in_LogDisk w h)) hown hK hP hx0 (gce_LogDisk hx0.1) rfl 6 (by decide) (hts _ (List.mem_cons_of_mem _ gw_235)) rfl d_LogDisk_moveBase_66 ?_
  refine g_get hx hb hts (fun w h => List.mem_cons_of_mem _ (in_Snapshot w h)) hown hK hP (gis_LogDisk_snapshot hY hx0) (gce_Snapshot (gis_LogDisk_snapshot hY hx0).1) rfl 0 (by decide) (hts _ (List.mem_cons_of_mem _ gw_98)) rfl d_LogDisk_moveBase_69 ?_
  obtain ⟨hin, hw⟩ := hw
  refine g_aaload hx hb hK hP (gis_LogDisk_files hY hx0) hin d_LogDisk_moveBase_72 ?_
  have hin9 := hin
  refine lv_astore (lv' := [(5, .ref (gad Y (grf (grf x0 1) (S8.1 (grf x0 6) 0).toNatClampNeg))), (0, .ref (gad Y x0)), (1, .int x1), (2, .int x2), (3, .int x3), (4, .int x4)]) hx hb d_LogDisk_moveBase_73 hl (by decide) rfl (fun ls hl => ?_)
  refine lv_aload hx hb d_LogDisk_moveBase_75 (lv_at hl 0 rfl) ?_
  refine lv_iconst (v := 0) hx hb d_LogDisk_moveBase_77 (by decide) ?_
  refine g_callv (va_runV (As := [.int 0]) (rest := []) ⟨hx, hb, hml, hown, hts⟩ (k_DiskFile_cutTo l Y hY H.size (grf (grf x0 1) (S8.1 (grf x0 6) 0).toNatClampNeg) 0 (gis_elem_DiskFile hY (gis_LogDisk_files hY hx0) hin9) S8 _) (cwV 1 hts (gG_V gw_392 gw_318 gw_319 gw_10 gw_320) rfl rfl rfl (by decide +kernel) ⟨Nat.le_of_ble_eq_true rfl, Nat.le_of_ble_eq_true rfl⟩) ⟨gPre_blind, g_recv hK hP (gis_elem_DiskFile hY (gis_LogDisk_files hY hx0) hin9) (gce_DiskFile (gis_elem_DiskFile hY (gis_LogDisk_files hY hx0) hin9).1) rfl, g_pre hK hSt hS hP hw⟩ rfl rfl hl.1 rfl (lv_room (Nat.le_of_ble_eq_true rfl)) d_LogDisk_moveBase_78 ⟨Nat.zero_le _, Nat.zero_le _⟩) hS (fun S10 H locs hw hP hS => ?_)
  refine lv_aload hx hb d_LogDisk_moveBase_81 (lv_at hl 0 rfl) ?_
  refine lv_aload_n hx hb d_LogDisk_moveBase_83 rfl (lv_at hl 1 rfl) ?_
  refine g_get hx hb hts (fun w h => List.mem_cons_of_mem _ (in_LogDisk w h)) hown hK hP hx0 (gce_LogDisk hx0.1) rfl 4 (by decide) (hts _ (List.mem_cons_of_mem _ gw_233)) rfl d_LogDisk_moveBase_84 ?_
  refine g_get hx hb hts (fun w h => List.mem_cons_of_mem _ (in_Frame w h)) hown hK hP (gis_LogDisk_frame hY hx0) (gce_Frame (gis_LogDisk_frame hY hx0).1) rfl 0 (by decide) (hts _ (List.mem_cons_of_mem _ gw_56)) rfl d_LogDisk_moveBase_87 ?_
  refine lv_aload_n hx hb d_LogDisk_moveBase_90 rfl (lv_at hl 1 rfl) ?_
  refine g_get hx hb hts (fun w h => List.mem_cons_of_mem _ (in_LogDisk w h)) hown hK hP hx0 (gce_LogDisk hx0.1) rfl 4 (by decide) (hts _ (List.mem_cons_of_mem _ gw_233)) rfl d_LogDisk_moveBase_91 ?_
  refine g_get hx hb hts (fun w h => List.mem_cons_of_mem _ (in_Frame w h)) hown hK hP (gis_LogDisk_frame hY hx0) (gce_Frame (gis_LogDisk_frame hY hx0).1) rfl 1 (by decide) (hts _ (List.mem_cons_of_mem _ gw_58)) rfl d_LogDisk_moveBase_94 ?_
  refine g_callv (va_runV (As := [.ref (gad Y (grf (grf x0 4) 0)), .int (S10.1 (grf x0 4) 1)]) (rest := []) ⟨hx, hb, hml, hown, hts⟩ (k_DiskFile_write l Y hY H.size (grf (grf x0 1) (S8.1 (grf x0 6) 0).toNatClampNeg) (grf (grf x0 4) 0) (S10.1 (grf x0 4) 1) (gis_elem_DiskFile hY (gis_LogDisk_files hY hx0) hin9) (gis_Frame_bytes hY (gis_LogDisk_frame hY hx0)) S10 _) (cwV 2 hts (gG_V gw_580 gw_581 gw_582 gw_10 gw_583) rfl rfl rfl (by decide +kernel) ⟨Nat.le_of_ble_eq_true rfl, Nat.le_of_ble_eq_true rfl⟩) ⟨gPre_blind, g_recv hK hP (gis_elem_DiskFile hY (gis_LogDisk_files hY hx0) hin9) (gce_DiskFile (gis_elem_DiskFile hY (gis_LogDisk_files hY hx0) hin9).1) rfl, g_pre hK hSt hS hP hw⟩ rfl rfl hl.1 rfl (lv_room (Nat.le_of_ble_eq_true rfl)) d_LogDisk_moveBase_97 ⟨Nat.zero_le _, Nat.zero_le _⟩) hS (fun S11 H locs hw hP hS => ?_)
  refine lv_aload hx hb d_LogDisk_moveBase_100 (lv_at hl 0 rfl) ?_
  refine lv_aload_n hx hb d_LogDisk_moveBase_102 rfl (lv_at hl 1 rfl) ?_
  refine g_get hx hb hts (fun w h => List.mem_cons_of_mem _ (in_LogDisk w h)) hown hK hP hx0 (gce_LogDisk hx0.1) rfl 3 (by decide) (hts _ (List.mem_cons_of_mem _ gw_232)) rfl d_LogDisk_moveBase_103 ?_
  refine g_get hx hb hts (fun w h => List.mem_cons_of_mem _ (in_Tape w h)) hown hK hP (gis_LogDisk_tape hY hx0) (gce_Tape (gis_LogDisk_tape hY hx0).1) rfl 0 (by decide) (hts _ (List.mem_cons_of_mem _ gw_39)) rfl d_LogDisk_moveBase_106 ?_
  refine lv_iload hx hb d_LogDisk_moveBase_109 (lv_at hl 5 rfl) ?_
  refine g_callv (va_runV (As := [.ref (gad Y (grf (grf x0 3) 0)), .int x4]) (rest := []) ⟨hx, hb, hml, hown, hts⟩ (k_DiskFile_write l Y hY H.size (grf (grf x0 1) (S8.1 (grf x0 6) 0).toNatClampNeg) (grf (grf x0 3) 0) x4 (gis_elem_DiskFile hY (gis_LogDisk_files hY hx0) hin9) (gis_Tape_bytes hY (gis_LogDisk_tape hY hx0)) S11 _) (cwV 2 hts (gG_V gw_580 gw_581 gw_582 gw_10 gw_583) rfl rfl rfl (by decide +kernel) ⟨Nat.le_of_ble_eq_true rfl, Nat.le_of_ble_eq_true rfl⟩) ⟨gPre_blind, g_recv hK hP (gis_elem_DiskFile hY (gis_LogDisk_files hY hx0) hin9) (gce_DiskFile (gis_elem_DiskFile hY (gis_LogDisk_files hY hx0) hin9).1) rfl, g_pre hK hSt hS hP hw⟩ rfl rfl hl.1 rfl (lv_room (Nat.le_of_ble_eq_true rfl)) d_LogDisk_moveBase_111 ⟨Nat.zero_le _, Nat.zero_le _⟩) hS (fun S12 H locs hw hP hS => ?_)
  refine lv_aload hx hb d_LogDisk_moveBase_114 (lv_at hl 0 rfl) ?_
  refine g_callv (va_runV (As := []) (rest := []) ⟨hx, hb, hml, hown, hts⟩ (k_DiskFile_settle l Y hY H.size (grf (grf x0 1) (S8.1 (grf x0 6) 0).toNatClampNeg) (gis_elem_DiskFile hY (gis_LogDisk_files hY hx0) hin9) S12 _) (cwV 0 hts (gG_V gw_274 gw_275 gw_276 gw_10 gw_277) rfl rfl rfl (by decide +kernel) ⟨Nat.le_of_ble_eq_true rfl, Nat.le_of_ble_eq_true rfl⟩) ⟨gPre_blind, g_recv hK hP (gis_elem_DiskFile hY (gis_LogDisk_files hY hx0) hin9) (gce_DiskFile (gis_elem_DiskFile hY (gis_LogDisk_files hY hx0) hin9).1) rfl, g_pre hK hSt hS hP hw⟩ rfl rfl hl.1 rfl (lv_room (Nat.le_of_ble_eq_true rfl)) d_LogDisk_moveBase_116 ⟨Nat.zero_le _, Nat.zero_le _⟩) hS (fun S13 H locs hw hP hS => ?_)
  refine lv_aload_n hx hb d_LogDisk_moveBase_119 rfl (lv_at hl 1 rfl) ?_
  refine g_callv (va_runV (As := []) (rest := []) ⟨hx, hb, hml, hown, hts⟩ (k_LogDisk_dropSegments l Y hY H.size x0 hx0 S13 _) (cwV 0 hts (gG_V gw_690 gw_692 gs_19 gw_1 gw_693) rfl rfl rfl (by decide +kernel) ⟨Nat.le_of_ble_eq_true rfl, Nat.le_of_ble_eq_true rfl⟩) ⟨gPre_blind, g_recv hK hP hx0 (gce_LogDisk hx0.1) rfl, g_pre hK hSt hS hP hw⟩ rfl rfl hl.1 rfl (lv_room (Nat.le_of_ble_eq_true rfl)) d_LogDisk_moveBase_120 ⟨Nat.zero_le _, Nat.zero_le _⟩) hS (fun S14 H locs hw hP hS => ?_)
  refine lv_aload_n hx hb d_LogDisk_moveBase_123 rfl (lv_at hl 1 rfl) ?_
  refine lv_iconst (v := 1) hx hb d_LogDisk_moveBase_124 (by decide) ?_
  refine g_put (ty := .boolean) (v := .int 1) (S' := gset S14 x0 11 1) hx hb hts (fun w h => List.mem_cons_of_mem _ (in_LogDisk w h)) ty_LogDisk tyok_LogDisk nm_LogDisk hown hK hY.1 hP hS hx0 (gce_LogDisk hx0.1) rfl 11 (by decide) (hts _ (List.mem_cons_of_mem _ gw_240)) rfl (by decide +kernel) rfl rfl (Nat.le_of_ble_eq_true rfl) (gp_LogDisk_dirty hx0.1) gce_gset d_LogDisk_moveBase_125 (fun H locs hP hS => ?_)
  obtain ⟨S15, eS15⟩ : ∃ z, z = gset S14 x0 11 1 := ⟨_, rfl⟩
  rw [← eS15] at hP
  replace hw := hw S15 eS15
  exact W.vret hx hb hr (fun t ht hW => ⟨⟨S15, rfl, hw, by rw [ht]; exact hP, va_K.moved hW.alike hK⟩, hS.F ht⟩) hS.2.2 d_LogDisk_moveBase_128
set_option maxHeartbeats 4000000 in
set_option maxRecDepth 100000 in
theorem k_LogDisk_moveBase (l : Launch) (Y : gY) (hY : gOK Y) (sz : Nat) (x0 : gI) (x1 : Int32) (x2 : Int32) (x3 : Int32) (x4 : Int32)  (hx0 : gis Y 9 x0) (S : gS) (Q : gS → Prop) : Met l y_LogDisk_moveBase w_LogDisk_moveBase (gRm 4 110) (gPre Y [.ref (gad Y x0), .int x1, .int x2, .int x3, .int x4] S sz (wp_LogDisk_moveBase (gLn Y) Q x0 x1 x2 x3 x4 S)) (va_Qv Q (gB Y) (gA Y sz)) 0 0 (gA Y sz) := by
  refine Met.ofW (cc := c_LogDisk_moveBase) (maxL := 6) (ret := (Option.none : Option Jvm.ClassFile.FieldType)) (by decide) rfl ?_
  intro p e s m args below meth c s₁ B hml hv
  obtain ⟨rfl, hsz, hP, hK, hSt, hw⟩ := hv
  subst hsz
  have hts := atoms_spec (ws := w_LogDisk_moveBase) B.pre
  have hl := lv_entry ([.ref (gad Y x0), .int x1, .int x2, .int x3, .int x4]) (n := 6) (Nat.le_of_ble_eq_true rfl)
  rw [lg_entry_eq]
  generalize (lg_sl ([.ref (gad Y x0), .int x1, .int x2, .int x3, .int x4]) ++ List.replicate (6 - (lg_sl ([.ref (gad Y x0), .int x1, .int x2, .int x3, .int x4])).length) Slot.unset).toArray = ls at hl ⊢
  exact mw_LogDisk_moveBase ⟨B.exec, B.bytes, hml, findClass_of_methodNamed B.named, hts, B.returns, B.notSynchronized, hK, hY, hSt⟩ x0 x1 x2 x3 x4 S s.heap [] ls hx0 hw hP va_S.rf hl

def wp_LogDisk_syncFiles_2 (Ln : gI → Nat) (Q : gS → Prop) : Nat → gI → Int32 → gS → Prop
  | 0, _, _, _ => False
  | n2 + 1, x0, x1, S => ((16 ≤ x1) → (∀ S2 : gS, S2 = gset S (grf x0 5) 4 0 → (∀ S3 : gS, S3 = gset S2 x0 11 0 → (Q S3)))) ∧ ((¬ 16 ≤ x1) → (vp_in x1 (Ln (grf x0 1)) ∧ (wp_DiskFile_settle Ln (fun S5 => ∀ v1_6 : Int32, v1_6 = x1 + 1 → (wp_LogDisk_syncFiles_2 Ln Q n2 x0 v1_6 S5)) (grf (grf x0 1) x1.toNatClampNeg) S)))
def wp_LogDisk_syncFiles (Ln : gI → Nat) (Q : gS → Prop) (x0 : gI)  (S : gS) : Prop :=
  ∃ n2 : Nat, wp_LogDisk_syncFiles_2 Ln Q n2 x0 0 S
set_option maxHeartbeats 4000000 in
set_option maxRecDepth 100000 in
theorem mw_LogDisk_syncFiles_2 {p : Program} {l : Launch} {e : Env} {s : State} {m : MethodId} {args : Array Value} {below : List Frame} {meth : Method} {c : Code} {Y : gY} {Q : gS → Prop} (C : gCx p s m args meth c Y "LogDisk" c_LogDisk_syncFiles 2 (Option.none : Option Jvm.ClassFile.FieldType) w_LogDisk_syncFiles) : ∀ (n : Nat), ∀ (x0 : gI) (x1 : Int32)  (S : gS) (H : Heap) (locs : List Loc) (ls : Array Slot), gis Y 9 x0 → wp_LogDisk_syncFiles_2 (gLn Y) Q n x0 x1 S → gWd Y S H → va_S (gA Y s.heap.size) s.heap H locs → lv_has ls 2 [(0, .ref (gad Y x0)), (1, .int x1)] → W p l e (gRm 4 89) s m args below meth c H locs 0 0 (MQ below (va_Qv Q (gB Y) (gA Y s.heap.size)) args s 0 0 (gA Y s.heap.size)) (F0 m 2 ls []) := by
  have C0 := C
  obtain ⟨hx, hb, hml, hown, hts, hr, hlocks, hK, hY, hSt⟩ := C
  intro n
  induction n with
  | zero =>
    intro x0 x1 S H locs ls hx0 hw
    exact False.elim hw
  | succ n ih =>
    intro x0 x1 S H locs ls hx0 hw hP hS hl
    unfold wp_LogDisk_syncFiles_2 at hw
    refine lv_iload_n hx hb d_LogDisk_syncFiles_2 rfl (lv_at hl 1 rfl) ?_
    refine lv_bipush (v := 16) hx hb d_LogDisk_syncFiles_3 (by decide) ?_
    refine lv_icmp_ge (tgt := 23) hx hb d_LogDisk_syncFiles_5 (by decide) (fun c1 => ?_) (fun c1 => ?_)
    · replace hw := hw.1 c1
      refine lv_aload_n hx hb d_LogDisk_syncFiles_23 rfl (lv_at hl 0 rfl) ?_
      refine g_get hx hb hts (fun w h => List.mem_cons_of_mem _ (in_LogDisk w h)) hown hK hP hx0 (gce_LogDisk hx0.1) rfl 5 (by decide) (hts _ (List.mem_cons_of_mem _ gw_234)) rfl d_LogDisk_syncFiles_24 ?_
      refine lv_iconst (v := 0) hx hb d_LogDisk_syncFiles_27 (by decide) ?_
      refine g_put (ty := .boolean) (v := .int 0) (S' := gset S (grf x0 5) 4 0) hx hb hts (fun w h => List.mem_cons_of_mem _ (in_Vote w h)) ty_Vote tyok_Vote nm_Vote hown hK hY.1 hP hS (gis_LogDisk_vote hY hx0) (gce_Vote (gis_LogDisk_vote hY hx0).1) rfl 4 (by decide) (hts _ (List.mem_cons_of_mem _ gw_79)) rfl (by decide +kernel) rfl rfl (Nat.le_of_ble_eq_true rfl) (gp_Vote_fresh (gis_LogDisk_vote hY hx0).1) gce_gset d_LogDisk_syncFiles_28 (fun H locs hP hS => ?_)
      obtain ⟨S2, eS2⟩ : ∃ z, z = gset S (grf x0 5) 4 0 := ⟨_, rfl⟩
      rw [← eS2] at hP
      replace hw := hw S2 eS2
      refine lv_aload_n hx hb d_LogDisk_syncFiles_31 rfl (lv_at hl 0 rfl) ?_
      refine lv_iconst (v := 0) hx hb d_LogDisk_syncFiles_32 (by decide) ?_
      refine g_put (ty := .boolean) (v := .int 0) (S' := gset S2 x0 11 0) hx hb hts (fun w h => List.mem_cons_of_mem _ (in_LogDisk w h)) ty_LogDisk tyok_LogDisk nm_LogDisk hown hK hY.1 hP hS hx0 (gce_LogDisk hx0.1) rfl 11 (by decide) (hts _ (List.mem_cons_of_mem _ gw_240)) rfl (by decide +kernel) rfl rfl (Nat.le_of_ble_eq_true rfl) (gp_LogDisk_dirty hx0.1) gce_gset d_LogDisk_syncFiles_33 (fun H locs hP hS => ?_)
      obtain ⟨S3, eS3⟩ : ∃ z, z = gset S2 x0 11 0 := ⟨_, rfl⟩
      rw [← eS3] at hP
      replace hw := hw S3 eS3
      exact W.vret hx hb hr (fun t ht hW => ⟨⟨S3, rfl, hw, by rw [ht]; exact hP, va_K.moved hW.alike hK⟩, hS.F ht⟩) hS.2.2 d_LogDisk_syncFiles_36
    · replace hw := hw.2 c1
      refine lv_aload_n hx hb d_LogDisk_syncFiles_8 rfl (lv_at hl 0 rfl) ?_
      refine g_get hx hb hts (fun w h => List.mem_cons_of_mem _ (in_LogDisk w h)) hown hK hP hx0 (gce_LogDisk hx0.1) rfl 1 (by decide) (hts _ (List.mem_cons_of_mem _ gw_230)) rfl d_LogDisk_syncFiles_9 ?_
      refine lv_iload_n hx hb d_LogDisk_syncFiles_12 rfl (lv_at hl 1 rfl) ?_
      obtain ⟨hin, hw⟩ := hw
      refine g_aaload hx hb hK hP (gis_LogDisk_files hY hx0) hin d_LogDisk_syncFiles_13 ?_
      have hin4 := hin
      refine g_callv (va_runV (As := []) (rest := []) ⟨hx, hb, hml, hown, hts⟩ (k_DiskFile_settle l Y hY H.size (grf (grf x0 1) x1.toNatClampNeg) (gis_elem_DiskFile hY (gis_LogDisk_files hY hx0) hin4) S _) (cwV 0 hts (gG_V gw_274 gw_275 gw_276 gw_10 gw_277) rfl rfl rfl (by decide +kernel) ⟨Nat.le_of_ble_eq_true rfl, Nat.le_of_ble_eq_true rfl⟩) ⟨gPre_blind, g_recv hK hP (gis_elem_DiskFile hY (gis_LogDisk_files hY hx0) hin4) (gce_DiskFile (gis_elem_DiskFile hY (gis_LogDisk_files hY hx0) hin4).1) rfl, g_pre hK hSt hS hP hw⟩ rfl rfl hl.1 rfl (lv_room (Nat.le_of_ble_eq_true rfl)) d_LogDisk_syncFiles_14 ⟨Nat.zero_le _, Nat.zero_le _⟩) hS (fun S5 H locs hw hP hS => ?_)
      obtain ⟨v1_6, ev1_6⟩ : ∃ y : Int32, y = x1 + 1 := ⟨_, rfl⟩
      replace hw := hw v1_6 ev1_6
      refine lv_iinc (v := v1_6) (lv' := [(1, .int v1_6), (0, .ref (gad Y x0))]) hx hb d_LogDisk_syncFiles_17 hl (k := 1) rfl (by rw [ev1_6]; rfl) (by decide) rfl (fun ls hl => ?_)
      refine lv_goto (tgt := 2) hx hb d_LogDisk_syncFiles_20 (by decide) ?_
      exact ih x0 v1_6 S5 H locs ls hx0 hw hP hS (lv_sub hl [1, 0] rfl)
set_option maxHeartbeats 4000000 in
set_option maxRecDepth 100000 in
theorem mw_LogDisk_syncFiles {p : Program} {l : Launch} {e : Env} {s : State} {m : MethodId} {args : Array Value} {below : List Frame} {meth : Method} {c : Code} {Y : gY} {Q : gS → Prop} (C : gCx p s m args meth c Y "LogDisk" c_LogDisk_syncFiles 2 (Option.none : Option Jvm.ClassFile.FieldType) w_LogDisk_syncFiles) : ∀ (x0 : gI)  (S : gS) (H : Heap) (locs : List Loc) (ls : Array Slot), gis Y 9 x0 → wp_LogDisk_syncFiles (gLn Y) Q x0 S → gWd Y S H → va_S (gA Y s.heap.size) s.heap H locs → lv_has ls 2 [(0, .ref (gad Y x0))] → W p l e (gRm 4 89) s m args below meth c H locs 0 0 (MQ below (va_Qv Q (gB Y) (gA Y s.heap.size)) args s 0 0 (gA Y s.heap.size)) (F0 m 0 ls []) := by
  have C0 := C
  obtain ⟨hx, hb, hml, hown, hts, hr, hlocks, hK, hY, hSt⟩ := C
  intro x0 S H locs ls hx0 hw hP hS hl
  unfold wp_LogDisk_syncFiles at hw
  refine lv_iconst (v := 0) hx hb d_LogDisk_syncFiles_0 (by decide) ?_
  refine lv_istore_n (lv' := [(1, .int 0), (0, .ref (gad Y x0))]) hx hb d_LogDisk_syncFiles_1 rfl hl (by decide) rfl (fun ls hl => ?_)
  obtain ⟨n, hw⟩ := hw
  exact mw_LogDisk_syncFiles_2 C0 n x0 0 S H locs ls hx0 hw hP hS (lv_sub hl [1, 0] rfl)
set_option maxHeartbeats 4000000 in
set_option maxRecDepth 100000 in
theorem k_LogDisk_syncFiles (l : Launch) (Y : gY) (hY : gOK Y) (sz : Nat) (x0 : gI)  (hx0 : gis Y 9 x0) (S : gS) (Q : gS → Prop) : Met l y_LogDisk_syncFiles w_LogDisk_syncFiles (gRm 4 89) (gPre Y [.ref (gad Y x0)] S sz (wp_LogDisk_syncFiles (gLn Y) Q x0 S)) (va_Qv Q (gB Y) (gA Y sz)) 0 0 (gA Y sz) := by
  refine Met.ofW (cc := c_LogDisk_syncFiles) (maxL := 2) (ret := (Option.none : Option Jvm.ClassFile.FieldType)) (by decide) rfl ?_
  intro p e s m args below meth c s₁ B hml hv
  obtain ⟨rfl, hsz, hP, hK, hSt, hw⟩ := hv
  subst hsz
  have hts := atoms_spec (ws := w_LogDisk_syncFiles) B.pre
  have hl := lv_entry ([.ref (gad Y x0)]) (n := 2) (Nat.le_of_ble_eq_true rfl)
  rw [lg_entry_eq]
  generalize (lg_sl ([.ref (gad Y x0)]) ++ List.replicate (2 - (lg_sl ([.ref (gad Y x0)])).length) Slot.unset).toArray = ls at hl ⊢
  exact mw_LogDisk_syncFiles ⟨B.exec, B.bytes, hml, findClass_of_methodNamed B.named, hts, B.returns, B.notSynchronized, hK, hY, hSt⟩ x0 S s.heap [] ls hx0 hw hP va_S.rf hl

def wp_LogDisk_sync (Ln : gI → Nat) (Q : Int32 → gS → Prop) (x0 : gI)  (S : gS) : Prop :=
  ∀ v1_1 : Int32, v1_1 = S.1 x0 11 → (wp_LogDisk_syncFiles Ln (fun S2 => (v1_1 = 0 ∨ v1_1 = 1) ∧ Q v1_1 S2) x0 S)
set_option maxHeartbeats 4000000 in
set_option maxRecDepth 100000 in
theorem mw_LogDisk_sync {p : Program} {l : Launch} {e : Env} {s : State} {m : MethodId} {args : Array Value} {below : List Frame} {meth : Method} {c : Code} {Y : gY} {Q : Int32 → gS → Prop} (C : gCx p s m args meth c Y "LogDisk" c_LogDisk_sync 2 (Option.some Jvm.ClassFile.FieldType.boolean) w_LogDisk_sync) : ∀ (x0 : gI)  (S : gS) (H : Heap) (locs : List Loc) (ls : Array Slot), gis Y 9 x0 → wp_LogDisk_sync (gLn Y) Q x0 S → gWd Y S H → va_S (gA Y s.heap.size) s.heap H locs → lv_has ls 2 [(0, .ref (gad Y x0))] → W p l e (gRm 5 110) s m args below meth c H locs 0 0 (MQ below (va_Qi Q (gB Y) (gA Y s.heap.size)) args s 0 0 (gA Y s.heap.size)) (F0 m 0 ls []) := by
  have C0 := C
  obtain ⟨hx, hb, hml, hown, hts, hr, hlocks, hK, hY, hSt⟩ := C
  intro x0 S H locs ls hx0 hw hP hS hl
  unfold wp_LogDisk_sync at hw
  refine lv_aload_n hx hb d_LogDisk_sync_0 rfl (lv_at hl 0 rfl) ?_
  refine g_get hx hb hts (fun w h => List.mem_cons_of_mem _ (in_LogDisk w h)) hown hK hP hx0 (gce_LogDisk hx0.1) rfl 11 (by decide) (hts _ (List.mem_cons_of_mem _ gw_240)) rfl d_LogDisk_sync_1 ?_
  refine lv_topi (fun v1_1 ev1_1 => ?_)
  replace hw := hw v1_1 ev1_1
  refine lv_istore_n (lv' := [(1, .int v1_1), (0, .ref (gad Y x0))]) hx hb d_LogDisk_sync_4 rfl hl (by decide) rfl (fun ls hl => ?_)
  refine lv_aload_n hx hb d_LogDisk_sync_5 rfl (lv_at hl 1 rfl) ?_
  refine g_callv (va_runV (As := []) (rest := []) ⟨hx, hb, hml, hown, hts⟩ (k_LogDisk_syncFiles l Y hY H.size x0 hx0 S _) (cwV 0 hts (gG_V gw_270 gw_272 gs_0 gw_1 gw_273) rfl rfl rfl (by decide +kernel) ⟨Nat.le_of_ble_eq_true rfl, Nat.le_of_ble_eq_true rfl⟩) ⟨gPre_blind, g_recv hK hP hx0 (gce_LogDisk hx0.1) rfl, g_pre hK hSt hS hP hw⟩ rfl rfl hl.1 rfl (lv_room (Nat.le_of_ble_eq_true rfl)) d_LogDisk_sync_6 ⟨Nat.zero_le _, Nat.zero_le _⟩) hS (fun S2 H locs hw hP hS => ?_)
  refine lv_iload_n hx hb d_LogDisk_sync_9 rfl (lv_at hl 0 rfl) ?_
  obtain ⟨hbo, hw⟩ := hw
  exact W.zret (v := v1_1) hx hb hr (g_nb hbo) (fun t ht hW => ⟨⟨v1_1, S2, rfl, hw, by rw [ht]; exact hP, va_K.moved hW.alike hK⟩, hS.F ht⟩) hS.2.2 d_LogDisk_sync_10
set_option maxHeartbeats 4000000 in
set_option maxRecDepth 100000 in
theorem k_LogDisk_sync (l : Launch) (Y : gY) (hY : gOK Y) (sz : Nat) (x0 : gI)  (hx0 : gis Y 9 x0) (S : gS) (Q : Int32 → gS → Prop) : Met l y_LogDisk_sync w_LogDisk_sync (gRm 5 110) (gPre Y [.ref (gad Y x0)] S sz (wp_LogDisk_sync (gLn Y) Q x0 S)) (va_Qi Q (gB Y) (gA Y sz)) 0 0 (gA Y sz) := by
  refine Met.ofW (cc := c_LogDisk_sync) (maxL := 2) (ret := (Option.some Jvm.ClassFile.FieldType.boolean)) (by decide) rfl ?_
  intro p e s m args below meth c s₁ B hml hv
  obtain ⟨rfl, hsz, hP, hK, hSt, hw⟩ := hv
  subst hsz
  have hts := atoms_spec (ws := w_LogDisk_sync) B.pre
  have hl := lv_entry ([.ref (gad Y x0)]) (n := 2) (Nat.le_of_ble_eq_true rfl)
  rw [lg_entry_eq]
  generalize (lg_sl ([.ref (gad Y x0)]) ++ List.replicate (2 - (lg_sl ([.ref (gad Y x0)])).length) Slot.unset).toArray = ls at hl ⊢
  exact mw_LogDisk_sync ⟨B.exec, B.bytes, hml, findClass_of_methodNamed B.named, hts, B.returns, B.notSynchronized, hK, hY, hSt⟩ x0 S s.heap [] ls hx0 hw hP va_S.rf hl

def wp_LogDisk_isFile (Ln : gI → Nat) (Q : Int32 → gS → Prop) (x0 : Int32)  (S : gS) : Prop :=
  ((x0 < 0) → (Q 0 S)) ∧ ((¬ x0 < 0) → (((16 ≤ x0) → (Q 0 S)) ∧ ((¬ 16 ≤ x0) → (Q 1 S))))
set_option maxHeartbeats 4000000 in
set_option maxRecDepth 100000 in
theorem mw_LogDisk_isFile {p : Program} {l : Launch} {e : Env} {s : State} {m : MethodId} {args : Array Value} {below : List Frame} {meth : Method} {c : Code} {Y : gY} {Q : Int32 → gS → Prop} (C : gCx p s m args meth c Y "LogDisk" c_LogDisk_isFile 1 (Option.some Jvm.ClassFile.FieldType.boolean) w_LogDisk_isFile) : ∀ (x0 : Int32)  (S : gS) (H : Heap) (locs : List Loc) (ls : Array Slot), wp_LogDisk_isFile (gLn Y) Q x0 S → gWd Y S H → va_S (gA Y s.heap.size) s.heap H locs → lv_has ls 1 [(0, .int x0)] → W p l e (gRm 0 0) s m args below meth c H locs 0 0 (MQ below (va_Qi Q (gB Y) (gA Y s.heap.size)) args s 0 0 (gA Y s.heap.size)) (F0 m 0 ls []) := by
  have C0 := C
  obtain ⟨hx, hb, hml, hown, hts, hr, hlocks, hK, hY, hSt⟩ := C
  intro x0 S H locs ls hw hP hS hl
  unfold wp_LogDisk_isFile at hw
  refine lv_iload_n hx hb d_LogDisk_isFile_0 rfl (lv_at hl 0 rfl) ?_
  refine lv_if_lt (tgt := 14) hx hb d_LogDisk_isFile_1 (by decide) (fun c1 => ?_) (fun c1 => ?_)
  · replace hw := hw.1 c1
    refine lv_iconst (v := 0) hx hb d_LogDisk_isFile_14 (by decide) ?_
    exact W.zret (v := 0) hx hb hr rfl (fun t ht hW => ⟨⟨0, S, rfl, hw, by rw [ht]; exact hP, va_K.moved hW.alike hK⟩, hS.F ht⟩) hS.2.2 d_LogDisk_isFile_15
  · replace hw := hw.2 c1
    refine lv_iload_n hx hb d_LogDisk_isFile_4 rfl (lv_at hl 0 rfl) ?_
    refine lv_bipush (v := 16) hx hb d_LogDisk_isFile_5 (by decide) ?_
    refine lv_icmp_ge (tgt := 14) hx hb d_LogDisk_isFile_7 (by decide) (fun c2 => ?_) (fun c2 => ?_)
    · replace hw := hw.1 c2
      refine lv_iconst (v := 0) hx hb d_LogDisk_isFile_14 (by decide) ?_
      exact W.zret (v := 0) hx hb hr rfl (fun t ht hW => ⟨⟨0, S, rfl, hw, by rw [ht]; exact hP, va_K.moved hW.alike hK⟩, hS.F ht⟩) hS.2.2 d_LogDisk_isFile_15
    · replace hw := hw.2 c2
      refine lv_iconst (v := 1) hx hb d_LogDisk_isFile_10 (by decide) ?_
      refine lv_goto (tgt := 15) hx hb d_LogDisk_isFile_11 (by decide) ?_
      exact W.zret (v := 1) hx hb hr rfl (fun t ht hW => ⟨⟨1, S, rfl, hw, by rw [ht]; exact hP, va_K.moved hW.alike hK⟩, hS.F ht⟩) hS.2.2 d_LogDisk_isFile_15
set_option maxHeartbeats 4000000 in
set_option maxRecDepth 100000 in
theorem k_LogDisk_isFile (l : Launch) (Y : gY) (hY : gOK Y) (sz : Nat) (x0 : Int32)  (S : gS) (Q : Int32 → gS → Prop) : Met l y_LogDisk_isFile w_LogDisk_isFile (gRm 0 0) (gPre Y [.int x0] S sz (wp_LogDisk_isFile (gLn Y) Q x0 S)) (va_Qi Q (gB Y) (gA Y sz)) 0 0 (gA Y sz) := by
  refine Met.ofW (cc := c_LogDisk_isFile) (maxL := 1) (ret := (Option.some Jvm.ClassFile.FieldType.boolean)) (by decide) rfl ?_
  intro p e s m args below meth c s₁ B hml hv
  obtain ⟨rfl, hsz, hP, hK, hSt, hw⟩ := hv
  subst hsz
  have hts := atoms_spec (ws := w_LogDisk_isFile) B.pre
  have hl := lv_entry ([.int x0]) (n := 1) (Nat.le_of_ble_eq_true rfl)
  rw [lg_entry_eq]
  generalize (lg_sl ([.int x0]) ++ List.replicate (1 - (lg_sl ([.int x0])).length) Slot.unset).toArray = ls at hl ⊢
  exact mw_LogDisk_isFile ⟨B.exec, B.bytes, hml, findClass_of_methodNamed B.named, hts, B.returns, B.notSynchronized, hK, hY, hSt⟩ x0 S s.heap [] ls hw hP va_S.rf hl

def wp_LogDisk_crashFiles_54 (Ln : gI → Nat) (K5 : gI → Int64 → Int32 → gS → Prop) (Q : gS → Prop) (x0 : gI) (x3 : Int64) (x5 : Int32) (y0 : Int32) (S : gS) : Prop :=
  vp_in x5 (Ln (grf x0 1)) ∧ (wp_DiskFile_fail Ln (fun S5 => vp_in x5 (Ln (grf x0 2)) ∧ (∀ S6 : gS, S6 = gset S5 (grf x0 2) x5.toNatClampNeg (-1 : Int32) → (∀ v5_7 : Int32, v5_7 = x5 + 1 → (K5 x0 x3 v5_7 S6)))) (grf (grf x0 1) x5.toNatClampNeg) y0 S)
def wp_LogDisk_crashFiles_5 (Ln : gI → Nat) (Q : gS → Prop) : Nat → gI → Int64 → Int32 → gS → Prop
  | 0, _, _, _, _ => False
  | n5 + 1, x0, x3, x5, S => ((16 ≤ x5) → (Q S)) ∧ ((¬ 16 ≤ x5) → (∀ v3_2 : Int64, v3_2 = (x3 * (6364136223846793005 : Int64)) + (1442695040888963407 : Int64) → (vp_in x5 (Ln (grf x0 2)) ∧ (((¬ (S.1 (grf x0 2) x5.toNatClampNeg) = (-1 : Int32)) → (vp_in x5 (Ln (grf x0 2)) ∧ (wp_LogDisk_crashFiles_54 Ln (fun z0 z1 z2 zS => wp_LogDisk_crashFiles_5 Ln Q n5 z0 z1 z2 zS) Q x0 v3_2 x5 (S.1 (grf x0 2) x5.toNatClampNeg) S))) ∧ (((S.1 (grf x0 2) x5.toNatClampNeg) = (-1 : Int32)) → (vp_in x5 (Ln (grf x0 1)) ∧ (wp_DiskFile_drawnKeep Ln (fun r10 S9 => wp_LogDisk_crashFiles_54 Ln (fun z0 z1 z2 zS => wp_LogDisk_crashFiles_5 Ln Q n5 z0 z1 z2 zS) Q x0 v3_2 x5 r10 S9) (grf (grf x0 1) x5.toNatClampNeg) v3_2 S)))))))
def wp_LogDisk_crashFiles (Ln : gI → Nat) (Q : gS → Prop) (x0 : gI) (x1 : Int64)  (S : gS) : Prop :=
  ∃ n5 : Nat, wp_LogDisk_crashFiles_5 Ln Q n5 x0 x1 0 S
set_option maxHeartbeats 4000000 in
set_option maxRecDepth 100000 in
theorem mw_LogDisk_crashFiles_54 {p : Program} {l : Launch} {e : Env} {s : State} {m : MethodId} {args : Array Value} {below : List Frame} {meth : Method} {c : Code} {Y : gY} {Q : gS → Prop} {K5 : gI → Int64 → Int32 → gS → Prop} (C : gCx p s m args meth c Y "LogDisk" c_LogDisk_crashFiles 7 (Option.none : Option Jvm.ClassFile.FieldType) w_LogDisk_crashFiles) (hK5 : ∀ (x0 : gI) (x3 : Int64) (x5 : Int32)  (S : gS) (H : Heap) (locs : List Loc) (ls : Array Slot), gis Y 9 x0 → K5 x0 x3 x5 S → gWd Y S H → va_S (gA Y s.heap.size) s.heap H locs → lv_has ls 7 [(0, .ref (gad Y x0)), (3, .long x3), (5, .int x5)] → W p l e (gRm 5 112) s m args below meth c H locs 0 0 (MQ below (va_Qv Q (gB Y) (gA Y s.heap.size)) args s 0 0 (gA Y s.heap.size)) (F0 m 5 ls [])) : ∀ (x0 : gI) (x3 : Int64) (x5 : Int32) (y0 : Int32) (S : gS) (H : Heap) (locs : List Loc) (ls : Array Slot), gis Y 9 x0 → wp_LogDisk_crashFiles_54 (gLn Y) K5 Q x0 x3 x5 y0 S → gWd Y S H → va_S (gA Y s.heap.size) s.heap H locs → lv_has ls 7 [(0, .ref (gad Y x0)), (3, .long x3), (5, .int x5)] → W p l e (gRm 5 112) s m args below meth c H locs 0 0 (MQ below (va_Qv Q (gB Y) (gA Y s.heap.size)) args s 0 0 (gA Y s.heap.size)) (F0 m 54 ls [.int y0]) := by
  have C0 := C
  obtain ⟨hx, hb, hml, hown, hts, hr, hlocks, hK, hY, hSt⟩ := C
  intro x0 x3 x5 y0 S H locs ls hx0 hw hP hS hl
  unfold wp_LogDisk_crashFiles_54 at hw
  refine lv_istore (lv' := [(6, .int y0), (0, .ref (gad Y x0)), (3, .long x3), (5, .int x5)]) hx hb d_LogDisk_crashFiles_54 hl (by decide) rfl (fun ls hl => ?_)
  refine lv_aload_n hx hb d_LogDisk_crashFiles_56 rfl (lv_at hl 1 rfl) ?_
  refine g_get hx hb hts (fun w h => List.mem_cons_of_mem _ (in_LogDisk w h)) hown hK hP hx0 (gce_LogDisk hx0.1) rfl 1 (by decide) (hts _ (List.mem_cons_of_mem _ gw_230)) rfl d_LogDisk_crashFiles_57 ?_
  refine lv_iload hx hb d_LogDisk_crashFiles_60 (lv_at hl 3 rfl) ?_
  obtain ⟨hin, hw⟩ := hw
  refine g_aaload hx hb hK hP (gis_LogDisk_files hY hx0) hin d_LogDisk_crashFiles_62 ?_
  have hin4 := hin
  refine lv_iload hx hb d_LogDisk_crashFiles_63 (lv_at hl 0 rfl) ?_
  refine g_callv (va_runV (As := [.int y0]) (rest := []) ⟨hx, hb, hml, hown, hts⟩ (k_DiskFile_fail l Y hY H.size (grf (grf x0 1) x5.toNatClampNeg) y0 (gis_elem_DiskFile hY (gis_LogDisk_files hY hx0) hin4) S _) (cwV 1 hts (gG_V gw_313 gw_314 gw_315 gw_10 gw_316) rfl rfl rfl (by decide +kernel) ⟨Nat.le_of_ble_eq_true rfl, Nat.le_of_ble_eq_true rfl⟩) ⟨gPre_blind, g_recv hK hP (gis_elem_DiskFile hY (gis_LogDisk_files hY hx0) hin4) (gce_DiskFile (gis_elem_DiskFile hY (gis_LogDisk_files hY hx0) hin4).1) rfl, g_pre hK hSt hS hP hw⟩ rfl rfl hl.1 rfl (lv_room (Nat.le_of_ble_eq_true rfl)) d_LogDisk_crashFiles_65 ⟨Nat.zero_le _, Nat.zero_le _⟩) hS (fun S5 H locs hw hP hS => ?_)
  refine lv_aload_n hx hb d_LogDisk_crashFiles_68 rfl (lv_at hl 1 rfl) ?_
  refine g_get hx hb hts (fun w h => List.mem_cons_of_mem _ (in_LogDisk w h)) hown hK hP hx0 (gce_LogDisk hx0.1) rfl 2 (by decide) (hts _ (List.mem_cons_of_mem _ gw_231)) rfl d_LogDisk_crashFiles_69 ?_
  refine lv_iload hx hb d_LogDisk_crashFiles_72 (lv_at hl 3 rfl) ?_
  refine lv_iconst (v := (-1 : Int32)) hx hb d_LogDisk_crashFiles_74 (by decide) ?_
  obtain ⟨hin, hw⟩ := hw
  refine g_iastore hx hb hK hY.1 hP hS (gis_LogDisk_keeps hY hx0) hin d_LogDisk_crashFiles_75 (fun S6 eS6 H locs hP hS => ?_)
  replace hw := hw S6 eS6
  obtain ⟨v5_7, ev5_7⟩ : ∃ y : Int32, y = x5 + 1 := ⟨_, rfl⟩
  replace hw := hw v5_7 ev5_7
  refine lv_iinc (v := v5_7) (lv' := [(5, .int v5_7), (6, .int y0), (0, .ref (gad Y x0)), (3, .long x3)]) hx hb d_LogDisk_crashFiles_76 hl (k := 3) rfl (by rw [ev5_7]; rfl) (by decide) rfl (fun ls hl => ?_)
  refine lv_goto (tgt := 5) hx hb d_LogDisk_crashFiles_79 (by decide) ?_
  exact hK5 x0 x3 v5_7 S6 H locs ls hx0 hw hP hS (lv_sub hl [2, 3, 0] rfl)
set_option maxHeartbeats 4000000 in
set_option maxRecDepth 100000 in
theorem mw_LogDisk_crashFiles_5 {p : Program} {l : Launch} {e : Env} {s : State} {m : MethodId} {args : Array Value} {below : List Frame} {meth : Method} {c : Code} {Y : gY} {Q : gS → Prop} (C : gCx p s m args meth c Y "LogDisk" c_LogDisk_crashFiles 7 (Option.none : Option Jvm.ClassFile.FieldType) w_LogDisk_crashFiles) : ∀ (n : Nat), ∀ (x0 : gI) (x3 : Int64) (x5 : Int32)  (S : gS) (H : Heap) (locs : List Loc) (ls : Array Slot), gis Y 9 x0 → wp_LogDisk_crashFiles_5 (gLn Y) Q n x0 x3 x5 S → gWd Y S H → va_S (gA Y s.heap.size) s.heap H locs → lv_has ls 7 [(0, .ref (gad Y x0)), (3, .long x3), (5, .int x5)] → W p l e (gRm 5 112) s m args below meth c H locs 0 0 (MQ below (va_Qv Q (gB Y) (gA Y s.heap.size)) args s 0 0 (gA Y s.heap.size)) (F0 m 5 ls []) := by
  have C0 := C
  obtain ⟨hx, hb, hml, hown, hts, hr, hlocks, hK, hY, hSt⟩ := C
  intro n
  induction n with
  | zero =>
    intro x0 x3 x5 S H locs ls hx0 hw
    exact False.elim hw
  | succ n ih =>
    intro x0 x3 x5 S H locs ls hx0 hw hP hS hl
    unfold wp_LogDisk_crashFiles_5 at hw
    refine lv_iload hx hb d_LogDisk_crashFiles_5 (lv_at hl 2 rfl) ?_
    refine lv_bipush (v := 16) hx hb d_LogDisk_crashFiles_7 (by decide) ?_
    refine lv_icmp_ge (tgt := 82) hx hb d_LogDisk_crashFiles_9 (by decide) (fun c1 => ?_) (fun c1 => ?_)
    · replace hw := hw.1 c1
      exact W.vret hx hb hr (fun t ht hW => ⟨⟨S, rfl, hw, by rw [ht]; exact hP, va_K.moved hW.alike hK⟩, hS.F ht⟩) hS.2.2 d_LogDisk_crashFiles_82
    · replace hw := hw.2 c1
      refine lv_lload_n hx hb d_LogDisk_crashFiles_12 rfl (lv_at hl 1 rfl) ?_
      refine lv_ldc2 (v := 6364136223846793005) hx hb hown (hts _ (List.mem_cons_of_mem _ gw_305)) d_LogDisk_crashFiles_13 ?_
      refine lv_lmul hx hb d_LogDisk_crashFiles_16 ?_
      refine lv_ldc2 (v := 1442695040888963407) hx hb hown (hts _ (List.mem_cons_of_mem _ gw_306)) d_LogDisk_crashFiles_17 ?_
      refine lv_ladd hx hb d_LogDisk_crashFiles_20 ?_
      refine lv_topl (fun v3_2 ev3_2 => ?_)
      replace hw := hw v3_2 ev3_2
      refine lv_lstore_n (lv' := [(3, .long v3_2), (0, .ref (gad Y x0)), (5, .int x5)]) hx hb d_LogDisk_crashFiles_21 rfl hl (by decide) rfl (fun ls hl => ?_)
      refine lv_aload_n hx hb d_LogDisk_crashFiles_22 rfl (lv_at hl 1 rfl) ?_
      refine g_get hx hb hts (fun w h => List.mem_cons_of_mem _ (in_LogDisk w h)) hown hK hP hx0 (gce_LogDisk hx0.1) rfl 2 (by decide) (hts _ (List.mem_cons_of_mem _ gw_231)) rfl d_LogDisk_crashFiles_23 ?_
      refine lv_iload hx hb d_LogDisk_crashFiles_26 (lv_at hl 2 rfl) ?_
      obtain ⟨hin, hw⟩ := hw
      refine g_iaload hx hb hK hP (gis_LogDisk_keeps hY hx0) hin d_LogDisk_crashFiles_28 ?_
      refine lv_iconst (v := (-1 : Int32)) hx hb d_LogDisk_crashFiles_29 (by decide) ?_
      refine lv_icmp_ne (tgt := 47) hx hb d_LogDisk_crashFiles_30 (by decide) (fun c3 => ?_) (fun c3 => ?_)
      · replace hw := hw.1 c3
        refine lv_aload_n hx hb d_LogDisk_crashFiles_47 rfl (lv_at hl 1 rfl) ?_
        refine g_get hx hb hts (fun w h => List.mem_cons_of_mem _ (in_LogDisk w h)) hown hK hP hx0 (gce_LogDisk hx0.1) rfl 2 (by decide) (hts _ (List.mem_cons_of_mem _ gw_231)) rfl d_LogDisk_crashFiles_48 ?_
        refine lv_iload hx hb d_LogDisk_crashFiles_51 (lv_at hl 2 rfl) ?_
        obtain ⟨hin, hw⟩ := hw
        refine g_iaload hx hb hK hP (gis_LogDisk_keeps hY hx0) hin d_LogDisk_crashFiles_53 ?_
        exact mw_LogDisk_crashFiles_54 C0 ih x0 v3_2 x5 (S.1 (grf x0 2) x5.toNatClampNeg) S H locs ls hx0 hw hP hS (lv_sub hl [1, 0, 2] rfl)
      · replace hw := hw.2 c3
        refine lv_aload_n hx hb d_LogDisk_crashFiles_33 rfl (lv_at hl 1 rfl) ?_
        refine g_get hx hb hts (fun w h => List.mem_cons_of_mem _ (in_LogDisk w h)) hown hK hP hx0 (gce_LogDisk hx0.1) rfl 1 (by decide) (hts _ (List.mem_cons_of_mem _ gw_230)) rfl d_LogDisk_crashFiles_34 ?_
        refine lv_iload hx hb d_LogDisk_crashFiles_37 (lv_at hl 2 rfl) ?_
        obtain ⟨hin, hw⟩ := hw
        refine g_aaload hx hb hK hP (gis_LogDisk_files hY hx0) hin d_LogDisk_crashFiles_39 ?_
        have hin8 := hin
        refine lv_lload_n hx hb d_LogDisk_crashFiles_40 rfl (lv_at hl 0 rfl) ?_
        refine g_calli (va_runV (As := [.long v3_2]) (rest := []) ⟨hx, hb, hml, hown, hts⟩ (k_DiskFile_drawnKeep l Y hY H.size (grf (grf x0 1) x5.toNatClampNeg) v3_2 (gis_elem_DiskFile hY (gis_LogDisk_files hY hx0) hin8) S _) (cwV 1 hts (gG_V gw_307 gw_308 gw_309 gw_10 gw_310) rfl rfl rfl (by decide +kernel) ⟨Nat.le_of_ble_eq_true rfl, Nat.le_of_ble_eq_true rfl⟩) ⟨gPre_blind, g_recv hK hP (gis_elem_DiskFile hY (gis_LogDisk_files hY hx0) hin8) (gce_DiskFile (gis_elem_DiskFile hY (gis_LogDisk_files hY hx0) hin8).1) rfl, g_pre hK hSt hS hP hw⟩ rfl rfl hl.1 rfl (lv_room (Nat.le_of_ble_eq_true rfl)) d_LogDisk_crashFiles_41 ⟨Nat.zero_le _, Nat.zero_le _⟩) hS (fun r10 S9 H locs hw hP hS => ?_)
        refine lv_goto (tgt := 54) hx hb d_LogDisk_crashFiles_44 (by decide) ?_
        exact mw_LogDisk_crashFiles_54 C0 ih x0 v3_2 x5 r10 S9 H locs ls hx0 hw hP hS (lv_sub hl [1, 0, 2] rfl)
set_option maxHeartbeats 4000000 in
set_option maxRecDepth 100000 in
theorem mw_LogDisk_crashFiles {p : Program} {l : Launch} {e : Env} {s : State} {m : MethodId} {args : Array Value} {below : List Frame} {meth : Method} {c : Code} {Y : gY} {Q : gS → Prop} (C : gCx p s m args meth c Y "LogDisk" c_LogDisk_crashFiles 7 (Option.none : Option Jvm.ClassFile.FieldType) w_LogDisk_crashFiles) : ∀ (x0 : gI) (x1 : Int64)  (S : gS) (H : Heap) (locs : List Loc) (ls : Array Slot), gis Y 9 x0 → wp_LogDisk_crashFiles (gLn Y) Q x0 x1 S → gWd Y S H → va_S (gA Y s.heap.size) s.heap H locs → lv_has ls 7 [(0, .ref (gad Y x0)), (1, .long x1)] → W p l e (gRm 5 112) s m args below meth c H locs 0 0 (MQ below (va_Qv Q (gB Y) (gA Y s.heap.size)) args s 0 0 (gA Y s.heap.size)) (F0 m 0 ls []) := by
  have C0 := C
  obtain ⟨hx, hb, hml, hown, hts, hr, hlocks, hK, hY, hSt⟩ := C
  intro x0 x1 S H locs ls hx0 hw hP hS hl
  unfold wp_LogDisk_crashFiles at hw
  refine lv_lload_n hx hb d_LogDisk_crashFiles_0 rfl (lv_at hl 1 rfl) ?_
  refine lv_lstore_n (lv' := [(3, .long x1), (0, .ref (gad Y x0)), (1, .long x1)]) hx hb d_LogDisk_crashFiles_1 rfl hl (by decide) rfl (fun ls hl => ?_)
  refine lv_iconst (v := 0) hx hb d_LogDisk_crashFiles_2 (by decide) ?_
  refine lv_istore (lv' := [(5, .int 0), (3, .long x1), (0, .ref (gad Y x0)), (1, .long x1)]) hx hb d_LogDisk_crashFiles_3 hl (by decide) rfl (fun ls hl => ?_)
  obtain ⟨n, hw⟩ := hw
  exact mw_LogDisk_crashFiles_5 C0 n x0 x1 0 S H locs ls hx0 hw hP hS (lv_sub hl [2, 1, 0] rfl)
set_option maxHeartbeats 4000000 in
set_option maxRecDepth 100000 in
theorem k_LogDisk_crashFiles (l : Launch) (Y : gY) (hY : gOK Y) (sz : Nat) (x0 : gI) (x1 : Int64)  (hx0 : gis Y 9 x0) (S : gS) (Q : gS → Prop) : Met l y_LogDisk_crashFiles w_LogDisk_crashFiles (gRm 5 112) (gPre Y [.ref (gad Y x0), .long x1] S sz (wp_LogDisk_crashFiles (gLn Y) Q x0 x1 S)) (va_Qv Q (gB Y) (gA Y sz)) 0 0 (gA Y sz) := by
  refine Met.ofW (cc := c_LogDisk_crashFiles) (maxL := 7) (ret := (Option.none : Option Jvm.ClassFile.FieldType)) (by decide) rfl ?_
  intro p e s m args below meth c s₁ B hml hv
  obtain ⟨rfl, hsz, hP, hK, hSt, hw⟩ := hv
  subst hsz
  have hts := atoms_spec (ws := w_LogDisk_crashFiles) B.pre
  have hl := lv_entry ([.ref (gad Y x0), .long x1]) (n := 7) (Nat.le_of_ble_eq_true rfl)
  rw [lg_entry_eq]
  generalize (lg_sl ([.ref (gad Y x0), .long x1]) ++ List.replicate (7 - (lg_sl ([.ref (gad Y x0), .long x1])).length) Slot.unset).toArray = ls at hl ⊢
  exact mw_LogDisk_crashFiles ⟨B.exec, B.bytes, hml, findClass_of_methodNamed B.named, hts, B.returns, B.notSynchronized, hK, hY, hSt⟩ x0 x1 S s.heap [] ls hx0 hw hP va_S.rf hl

def wp_LogDisk_findVote_82 (Ln : gI → Nat) (K9 : gI → Int32 → gS → Prop) (Q : gS → Prop) (x0 : gI) (x1 : Int32)  (S : gS) : Prop :=
  ∀ v1_10 : Int32, v1_10 = x1 + 1 → (K9 x0 v1_10 S)
def wp_LogDisk_findVote_9 (Ln : gI → Nat) (Q : gS → Prop) : Nat → gI → Int32 → gS → Prop
  | 0, _, _, _ => False
  | n9 + 1, x0, x1, S => ((2 ≤ x1) → (Q S)) ∧ ((¬ 2 ≤ x1) → (vp_in x1 (Ln (grf x0 1)) ∧ (wp_DiskFile_wholeFrame Ln (fun r5 S4 => ((r5 = 24) → (wp_DiskFile_number Ln (fun r8 S7 => (((lg_cmp r8 (S7.2 (grf x0 5) 2)) ≤ 0) → (wp_LogDisk_findVote_82 Ln (fun z0 z1 zS => wp_LogDisk_findVote_9 Ln Q n9 z0 z1 zS) Q x0 x1 S7)) ∧ ((¬ (lg_cmp r8 (S7.2 (grf x0 5) 2)) ≤ 0) → (wp_DiskFile_number Ln (fun r12 S11 => wp_DiskFile_number Ln (fun r14 S13 => wp_Vote_set Ln (fun S15 => wp_LogDisk_findVote_82 Ln (fun z0 z1 zS => wp_LogDisk_findVote_9 Ln Q n9 z0 z1 zS) Q x0 x1 S15) (grf x0 5) x1 r8 (r12.toInt32) (r14.toInt32) S13) (grf (grf x0 1) x1.toNatClampNeg) 24 8 S11) (grf (grf x0 1) x1.toNatClampNeg) 16 8 S7))) (grf (grf x0 1) x1.toNatClampNeg) 8 8 S4)) ∧ ((¬ r5 = 24) → (wp_LogDisk_findVote_82 Ln (fun z0 z1 zS => wp_LogDisk_findVote_9 Ln Q n9 z0 z1 zS) Q x0 x1 S4))) (grf (grf x0 1) x1.toNatClampNeg) 0 S)))
def wp_LogDisk_findVote (Ln : gI → Nat) (Q : gS → Prop) (x0 : gI)  (S : gS) : Prop :=
  wp_Vote_forget Ln (fun S1 => ∃ n9 : Nat, wp_LogDisk_findVote_9 Ln Q n9 x0 0 S1) (grf x0 5) S
set_option maxHeartbeats 4000000 in
set_option maxRecDepth 100000 in
theorem mw_LogDisk_findVote_82 {p : Program} {l : Launch} {e : Env} {s : State} {m : MethodId} {args : Array Value} {below : List Frame} {meth : Method} {c : Code} {Y : gY} {Q : gS → Prop} {K9 : gI → Int32 → gS → Prop} (C : gCx p s m args meth c Y "LogDisk" c_LogDisk_findVote 5 (Option.none : Option Jvm.ClassFile.FieldType) w_LogDisk_findVote) (hK9 : ∀ (x0 : gI) (x1 : Int32)  (S : gS) (H : Heap) (locs : List Loc) (ls : Array Slot), gis Y 9 x0 → K9 x0 x1 S → gWd Y S H → va_S (gA Y s.heap.size) s.heap H locs → lv_has ls 5 [(0, .ref (gad Y x0)), (1, .int x1)] → W p l e (gRm 3 71) s m args below meth c H locs 0 0 (MQ below (va_Qv Q (gB Y) (gA Y s.heap.size)) args s 0 0 (gA Y s.heap.size)) (F0 m 9 ls [])) : ∀ (x0 : gI) (x1 : Int32)  (S : gS) (H : Heap) (locs : List Loc) (ls : Array Slot), gis Y 9 x0 → wp_LogDisk_findVote_82 (gLn Y) K9 Q x0 x1 S → gWd Y S H → va_S (gA Y s.heap.size) s.heap H locs → lv_has ls 5 [(0, .ref (gad Y x0)), (1, .int x1)] → W p l e (gRm 3 71) s m args below meth c H locs 0 0 (MQ below (va_Qv Q (gB Y) (gA Y s.heap.size)) args s 0 0 (gA Y s.heap.size)) (F0 m 82 ls []) := by
  have C0 := C
  obtain ⟨hx, hb, hml, hown, hts, hr, hlocks, hK, hY, hSt⟩ := C
  intro x0 x1 S H locs ls hx0 hw hP hS hl
  unfold wp_LogDisk_findVote_82 at hw
  obtain ⟨v1_10, ev1_10⟩ : ∃ y : Int32, y = x1 + 1 := ⟨_, rfl⟩
  replace hw := hw v1_10 ev1_10
  refine lv_iinc (v := v1_10) (lv' := [(1, .int v1_10), (0, .ref (gad Y x0))]) hx hb d_LogDisk_findVote_82 hl (k := 1) rfl (by rw [ev1_10]; rfl) (by decide) rfl (fun ls hl => ?_)
  refine lv_goto (tgt := 9) hx hb d_LogDisk_findVote_85 (by decide) ?_
  exact hK9 x0 v1_10 S H locs ls hx0 hw hP hS (lv_sub hl [1, 0] rfl)
set_option maxHeartbeats 4000000 in
set_option maxRecDepth 100000 in
theorem mw_LogDisk_findVote_9 {p : Program} {l : Launch} {e : Env} {s : State} {m : MethodId} {args : Array Value} {below : List Frame} {meth : Method} {c : Code} {Y : gY} {Q : gS → Prop} (C : gCx p s m args meth c Y "LogDisk" c_LogDisk_findVote 5 (Option.none : Option Jvm.ClassFile.FieldType) w_LogDisk_findVote) : ∀ (n : Nat), ∀ (x0 : gI) (x1 : Int32)  (S : gS) (H : Heap) (locs : List Loc) (ls : Array Slot), gis Y 9 x0 → wp_LogDisk_findVote_9 (gLn Y) Q n x0 x1 S → gWd Y S H → va_S (gA Y s.heap.size) s.heap H locs → lv_has ls 5 [(0, .ref (gad Y x0)), (1, .int x1)] → W p l e (gRm 3 71) s m args below meth c H locs 0 0 (MQ below (va_Qv Q (gB Y) (gA Y s.heap.size)) args s 0 0 (gA Y s.heap.size)) (F0 m 9 ls []) := by
  have C0 := C
  obtain ⟨hx, hb, hml, hown, hts, hr, hlocks, hK, hY, hSt⟩ := C
  intro n
  induction n with
  | zero =>
    intro x0 x1 S H locs ls hx0 hw
    exact False.elim hw
  | succ n ih =>
    intro x0 x1 S H locs ls hx0 hw hP hS hl
    unfold wp_LogDisk_findVote_9 at hw
    refine lv_iload_n hx hb d_LogDisk_findVote_9 rfl (lv_at hl 1 rfl) ?_
    refine lv_iconst (v := 2) hx hb d_LogDisk_findVote_10 (by decide) ?_
    refine lv_icmp_ge (tgt := 88) hx hb d_LogDisk_findVote_11 (by decide) (fun c2 => ?_) (fun c2 => ?_)
    · replace hw := hw.1 c2
      exact W.vret hx hb hr (fun t ht hW => ⟨⟨S, rfl, hw, by rw [ht]; exact hP, va_K.moved hW.alike hK⟩, hS.F ht⟩) hS.2.2 d_LogDisk_findVote_88
    · replace hw := hw.2 c2
      refine lv_aload_n hx hb d_LogDisk_findVote_14 rfl (lv_at hl 0 rfl) ?_
      refine g_get hx hb hts (fun w h => List.mem_cons_of_mem _ (in_LogDisk w h)) hown hK hP hx0 (gce_LogDisk hx0.1) rfl 1 (by decide) (hts _ (List.mem_cons_of_mem _ gw_230)) rfl d_LogDisk_findVote_15 ?_
      refine lv_iload_n hx hb d_LogDisk_findVote_18 rfl (lv_at hl 1 rfl) ?_
      obtain ⟨hin, hw⟩ := hw
      refine g_aaload hx hb hK hP (gis_LogDisk_files hY hx0) hin d_LogDisk_findVote_19 ?_
      have hin3 := hin
      refine lv_astore_n (lv' := [(2, .ref (gad Y (grf (grf x0 1) x1.toNatClampNeg))), (0, .ref (gad Y x0)), (1, .int x1)]) hx hb d_LogDisk_findVote_20 rfl hl (by decide) rfl (fun ls hl => ?_)
      refine lv_aload_n hx hb d_LogDisk_findVote_21 rfl (lv_at hl 0 rfl) ?_
      refine lv_iconst (v := 0) hx hb d_LogDisk_findVote_22 (by decide) ?_
      refine g_calli (va_runV (As := [.int 0]) (rest := []) ⟨hx, hb, hml, hown, hts⟩ (k_DiskFile_wholeFrame l Y hY H.size (grf (grf x0 1) x1.toNatClampNeg) 0 (gis_elem_DiskFile hY (gis_LogDisk_files hY hx0) hin3) S _) (cwV 1 hts (gG_V gw_336 gw_337 gw_338 gw_10 gw_339) rfl rfl rfl (by decide +kernel) ⟨Nat.le_of_ble_eq_true rfl, Nat.le_of_ble_eq_true rfl⟩) ⟨gPre_blind, g_recv hK hP (gis_elem_DiskFile hY (gis_LogDisk_files hY hx0) hin3) (gce_DiskFile (gis_elem_DiskFile hY (gis_LogDisk_files hY hx0) hin3).1) rfl, g_pre hK hSt hS hP hw⟩ rfl rfl hl.1 rfl (lv_room (Nat.le_of_ble_eq_true rfl)) d_LogDisk_findVote_23 ⟨Nat.zero_le _, Nat.zero_le _⟩) hS (fun r5 S4 H locs hw hP hS => ?_)
      refine lv_bipush (v := 24) hx hb d_LogDisk_findVote_26 (by decide) ?_
      refine lv_icmp_eq (tgt := 34) hx hb d_LogDisk_findVote_28 (by decide) (fun c6 => ?_) (fun c6 => ?_)
      · replace hw := hw.1 c6
        refine lv_aload_n hx hb d_LogDisk_findVote_34 rfl (lv_at hl 0 rfl) ?_
        refine lv_bipush (v := 8) hx hb d_LogDisk_findVote_35 (by decide) ?_
        refine lv_bipush (v := 8) hx hb d_LogDisk_findVote_37 (by decide) ?_
        refine g_calll (va_runV (As := [.int 8, .int 8]) (rest := []) ⟨hx, hb, hml, hown, hts⟩ (k_DiskFile_number l Y hY H.size (grf (grf x0 1) x1.toNatClampNeg) 8 8 (gis_elem_DiskFile hY (gis_LogDisk_files hY hx0) hin3) S4 _) (cwV 2 hts (gG_V gw_353 gw_341 gw_342 gw_10 gw_343) rfl rfl rfl (by decide +kernel) ⟨Nat.le_of_ble_eq_true rfl, Nat.le_of_ble_eq_true rfl⟩) ⟨gPre_blind, g_recv hK hP (gis_elem_DiskFile hY (gis_LogDisk_files hY hx0) hin3) (gce_DiskFile (gis_elem_DiskFile hY (gis_LogDisk_files hY hx0) hin3).1) rfl, g_pre hK hSt hS hP hw⟩ rfl rfl hl.1 rfl (lv_room (Nat.le_of_ble_eq_true rfl)) d_LogDisk_findVote_39 ⟨Nat.zero_le _, Nat.zero_le _⟩) hS (fun r8 S7 H locs hw hP hS => ?_)
        refine lv_lstore_n (lv' := [(3, .long r8), (2, .ref (gad Y (grf (grf x0 1) x1.toNatClampNeg))), (0, .ref (gad Y x0)), (1, .int x1)]) hx hb d_LogDisk_findVote_42 rfl hl (by decide) rfl (fun ls hl => ?_)
        refine lv_lload_n hx hb d_LogDisk_findVote_43 rfl (lv_at hl 0 rfl) ?_
        refine lv_aload_n hx hb d_LogDisk_findVote_44 rfl (lv_at hl 2 rfl) ?_
        refine g_get hx hb hts (fun w h => List.mem_cons_of_mem _ (in_LogDisk w h)) hown hK hP hx0 (gce_LogDisk hx0.1) rfl 5 (by decide) (hts _ (List.mem_cons_of_mem _ gw_234)) rfl d_LogDisk_findVote_45 ?_
        refine g_get hx hb hts (fun w h => List.mem_cons_of_mem _ (in_Vote w h)) hown hK hP (gis_LogDisk_vote hY hx0) (gce_Vote (gis_LogDisk_vote hY hx0).1) rfl 2 (by decide) (hts _ (List.mem_cons_of_mem _ gw_75)) rfl d_LogDisk_findVote_48 ?_
        refine W.lcmp hx hb d_LogDisk_findVote_51 ?_
        refine lv_if_le (tgt := 82) hx hb d_LogDisk_findVote_52 (by decide) (fun c9 => ?_) (fun c9 => ?_)
        · replace hw := hw.1 c9
          exact mw_LogDisk_findVote_82 C0 ih x0 x1 S7 H locs ls hx0 hw hP hS (lv_sub hl [2, 3] rfl)
        · replace hw := hw.2 c9
          refine lv_aload_n hx hb d_LogDisk_findVote_55 rfl (lv_at hl 2 rfl) ?_
          refine g_get hx hb hts (fun w h => List.mem_cons_of_mem _ (in_LogDisk w h)) hown hK hP hx0 (gce_LogDisk hx0.1) rfl 5 (by decide) (hts _ (List.mem_cons_of_mem _ gw_234)) rfl d_LogDisk_findVote_56 ?_
          refine lv_iload_n hx hb d_LogDisk_findVote_59 rfl (lv_at hl 3 rfl) ?_
          refine lv_lload_n hx hb d_LogDisk_findVote_60 rfl (lv_at hl 0 rfl) ?_
          refine lv_aload_n hx hb d_LogDisk_findVote_61 rfl (lv_at hl 1 rfl) ?_
          refine lv_bipush (v := 16) hx hb d_LogDisk_findVote_62 (by decide) ?_
          refine lv_bipush (v := 8) hx hb d_LogDisk_findVote_64 (by decide) ?_
          refine g_calll (va_runV (As := [.int 16, .int 8]) (rest := [.long r8, .int x1, .ref (gad Y (grf x0 5))]) ⟨hx, hb, hml, hown, hts⟩ (k_DiskFile_number l Y hY H.size (grf (grf x0 1) x1.toNatClampNeg) 16 8 (gis_elem_DiskFile hY (gis_LogDisk_files hY hx0) hin3) S7 _) (cwV 2 hts (gG_V gw_353 gw_341 gw_342 gw_10 gw_343) rfl rfl rfl (by decide +kernel) ⟨Nat.le_of_ble_eq_true rfl, Nat.le_of_ble_eq_true rfl⟩) ⟨gPre_blind, g_recv hK hP (gis_elem_DiskFile hY (gis_LogDisk_files hY hx0) hin3) (gce_DiskFile (gis_elem_DiskFile hY (gis_LogDisk_files hY hx0) hin3).1) rfl, g_pre hK hSt hS hP hw⟩ rfl rfl hl.1 rfl (lv_room (Nat.le_of_ble_eq_true rfl)) d_LogDisk_findVote_66 ⟨Nat.zero_le _, Nat.zero_le _⟩) hS (fun r12 S11 H locs hw hP hS => ?_)
          refine lv_l2i hx hb d_LogDisk_findVote_69 rfl ?_
          refine lv_aload_n hx hb d_LogDisk_findVote_70 rfl (lv_at hl 1 rfl) ?_
          refine lv_bipush (v := 24) hx hb d_LogDisk_findVote_71 (by decide) ?_
          refine lv_bipush (v := 8) hx hb d_LogDisk_findVote_73 (by decide) ?_
          refine g_calll (va_runV (As := [.int 24, .int 8]) (rest := [.int (r12.toInt32), .long r8, .int x1, .ref (gad Y (grf x0 5))]) ⟨hx, hb, hml, hown, hts⟩ (k_DiskFile_number l Y hY H.size (grf (grf x0 1) x1.toNatClampNeg) 24 8 (gis_elem_DiskFile hY (gis_LogDisk_files hY hx0) hin3) S11 _) (cwV 2 hts (gG_V gw_353 gw_341 gw_342 gw_10 gw_343) rfl rfl rfl (by decide +kernel) ⟨Nat.le_of_ble_eq_true rfl, Nat.le_of_ble_eq_true rfl⟩) ⟨gPre_blind, g_recv hK hP (gis_elem_DiskFile hY (gis_LogDisk_files hY hx0) hin3) (gce_DiskFile (gis_elem_DiskFile hY (gis_LogDisk_files hY hx0) hin3).1) rfl, g_pre hK hSt hS hP hw⟩ rfl rfl hl.1 rfl (lv_room (Nat.le_of_ble_eq_true rfl)) d_LogDisk_findVote_75 ⟨Nat.zero_le _, Nat.zero_le _⟩) hS (fun r14 S13 H locs hw hP hS => ?_)
          refine lv_l2i hx hb d_LogDisk_findVote_78 rfl ?_
          refine g_callv (va_runV (As := [.int x1, .long r8, .int (r12.toInt32), .int (r14.toInt32)]) (rest := []) ⟨hx, hb, hml, hown, hts⟩ (k_Vote_set l Y hY H.size (grf x0 5) x1 r8 (r12.toInt32) (r14.toInt32) (gis_LogDisk_vote hY hx0) S13 _) (cwV 4 hts (gG_V gw_354 gw_333 gw_334 gw_4 gw_335) rfl rfl rfl (by decide +kernel) ⟨Nat.le_of_ble_eq_true rfl, Nat.le_of_ble_eq_true rfl⟩) ⟨gPre_blind, g_recv hK hP (gis_LogDisk_vote hY hx0) (gce_Vote (gis_LogDisk_vote hY hx0).1) rfl, g_pre hK hSt hS hP hw⟩ rfl rfl hl.1 rfl (lv_room (Nat.le_of_ble_eq_true rfl)) d_LogDisk_findVote_79 ⟨Nat.zero_le _, Nat.zero_le _⟩) hS (fun S15 H locs hw hP hS => ?_)
          exact mw_LogDisk_findVote_82 C0 ih x0 x1 S15 H locs ls hx0 hw hP hS (lv_sub hl [2, 3] rfl)
      · replace hw := hw.2 c6
        refine lv_goto (tgt := 82) hx hb d_LogDisk_findVote_31 (by decide) ?_
        exact mw_LogDisk_findVote_82 C0 ih x0 x1 S4 H locs ls hx0 hw hP hS (lv_sub hl [1, 2] rfl)
set_option maxHeartbeats 4000000 in
set_option maxRecDepth 100000 in
theorem mw_LogDisk_findVote {p : Program} {l : Launch} {e : Env} {s : State} {m : MethodId} {args : Array Value} {below : List Frame} {meth : Method} {c : Code} {Y : gY} {Q : gS → Prop} (C : gCx p s m args meth c Y "LogDisk" c_LogDisk_findVote 5 (Option.none : Option Jvm.ClassFile.FieldType) w_LogDisk_findVote) : ∀ (x0 : gI)  (S : gS) (H : Heap) (locs : List Loc) (ls : Array Slot), gis Y 9 x0 → wp_LogDisk_findVote (gLn Y) Q x0 S → gWd Y S H → va_S (gA Y s.heap.size) s.heap H locs → lv_has ls 5 [(0, .ref (gad Y x0))] → W p l e (gRm 3 71) s m args below meth c H locs 0 0 (MQ below (va_Qv Q (gB Y) (gA Y s.heap.size)) args s 0 0 (gA Y s.heap.size)) (F0 m 0 ls []) := by
  have C0 := C
  obtain ⟨hx, hb, hml, hown, hts, hr, hlocks, hK, hY, hSt⟩ := C
  intro x0 S H locs ls hx0 hw hP hS hl
  unfold wp_LogDisk_findVote at hw
  refine lv_aload_n hx hb d_LogDisk_findVote_0 rfl (lv_at hl 0 rfl) ?_
  refine g_get hx hb hts (fun w h => List.mem_cons_of_mem _ (in_LogDisk w h)) hown hK hP hx0 (gce_LogDisk hx0.1) rfl 5 (by decide) (hts _ (List.mem_cons_of_mem _ gw_234)) rfl d_LogDisk_findVote_1 ?_
  refine g_callv (va_runV (As := []) (rest := []) ⟨hx, hb, hml, hown, hts⟩ (k_Vote_forget l Y hY H.size (grf x0 5) (gis_LogDisk_vote hY hx0) S _) (cwV 0 hts (gG_V gw_328 gw_329 gw_330 gw_4 gw_331) rfl rfl rfl (by decide +kernel) ⟨Nat.le_of_ble_eq_true rfl, Nat.le_of_ble_eq_true rfl⟩) ⟨gPre_blind, g_recv hK hP (gis_LogDisk_vote hY hx0) (gce_Vote (gis_LogDisk_vote hY hx0).1) rfl, g_pre hK hSt hS hP hw⟩ rfl rfl hl.1 rfl (lv_room (Nat.le_of_ble_eq_true rfl)) d_LogDisk_findVote_4 ⟨Nat.zero_le _, Nat.zero_le _⟩) hS (fun S1 H locs hw hP hS => ?_)
  refine lv_iconst (v := 0) hx hb d_LogDisk_findVote_7 (by decide) ?_
  refine lv_istore_n (lv' := [(1, .int 0), (0, .ref (gad Y x0))]) hx hb d_LogDisk_findVote_8 rfl hl (by decide) rfl (fun ls hl => ?_)
  obtain ⟨n, hw⟩ := hw
  exact mw_LogDisk_findVote_9 C0 n x0 0 S1 H locs ls hx0 hw hP hS (lv_sub hl [1, 0] rfl)
set_option maxHeartbeats 4000000 in
set_option maxRecDepth 100000 in
theorem k_LogDisk_findVote (l : Launch) (Y : gY) (hY : gOK Y) (sz : Nat) (x0 : gI)  (hx0 : gis Y 9 x0) (S : gS) (Q : gS → Prop) : Met l y_LogDisk_findVote w_LogDisk_findVote (gRm 3 71) (gPre Y [.ref (gad Y x0)] S sz (wp_LogDisk_findVote (gLn Y) Q x0 S)) (va_Qv Q (gB Y) (gA Y sz)) 0 0 (gA Y sz) := by
  refine Met.ofW (cc := c_LogDisk_findVote) (maxL := 5) (ret := (Option.none : Option Jvm.ClassFile.FieldType)) (by decide) rfl ?_
  intro p e s m args below meth c s₁ B hml hv
  obtain ⟨rfl, hsz, hP, hK, hSt, hw⟩ := hv
  subst hsz
  have hts := atoms_spec (ws := w_LogDisk_findVote) B.pre
  have hl := lv_entry ([.ref (gad Y x0)]) (n := 5) (Nat.le_of_ble_eq_true rfl)
  rw [lg_entry_eq]
  generalize (lg_sl ([.ref (gad Y x0)]) ++ List.replicate (5 - (lg_sl ([.ref (gad Y x0)])).length) Slot.unset).toArray = ls at hl ⊢
  exact mw_LogDisk_findVote ⟨B.exec, B.bytes, hml, findClass_of_methodNamed B.named, hts, B.returns, B.notSynchronized, hK, hY, hSt⟩ x0 S s.heap [] ls hx0 hw hP va_S.rf hl

def wp_LogDisk_findSnapshot_90 (Ln : gI → Nat) (K16 : gI → Int32 → gS → Prop) (Q : gS → Prop) (x0 : gI) (x1 : Int32)  (S : gS) : Prop :=
  ∀ v1_11 : Int32, v1_11 = x1 + 1 → (K16 x0 v1_11 S)
def wp_LogDisk_findSnapshot_16 (Ln : gI → Nat) (Q : gS → Prop) : Nat → gI → Int32 → gS → Prop
  | 0, _, _, _ => False
  | n16 + 1, x0, x1, S => ((4 ≤ x1) → (Q S)) ∧ ((¬ 4 ≤ x1) → (vp_in x1 (Ln (grf x0 1)) ∧ (wp_DiskFile_wholeFrame Ln (fun r5 S4 => ((r5 = 12) → (wp_DiskFile_number Ln (fun r8 S7 => ∀ v3_9 : Int32, v3_9 = r8.toInt32 → (((v3_9 ≤ (S7.1 (grf x0 6) 1)) → (wp_LogDisk_findSnapshot_90 Ln (fun z0 z1 zS => wp_LogDisk_findSnapshot_16 Ln Q n16 z0 z1 zS) Q x0 x1 S7)) ∧ ((¬ v3_9 ≤ (S7.1 (grf x0 6) 1)) → (wp_DiskFile_number Ln (fun r13 S12 => ∀ v4_14 : Int32, v4_14 = r13.toInt32 → (wp_DiskFile_number Ln (fun r16 S15 => wp_Snapshot_set Ln (fun S17 => wp_LogDisk_findSnapshot_90 Ln (fun z0 z1 zS => wp_LogDisk_findSnapshot_16 Ln Q n16 z0 z1 zS) Q x0 x1 S17) (grf x0 6) x1 v3_9 v4_14 (r16.toInt32) S15) (grf (grf x0 1) x1.toNatClampNeg) 16 4 S12)) (grf (grf x0 1) x1.toNatClampNeg) 12 4 S7)))) (grf (grf x0 1) x1.toNatClampNeg) 8 4 S4)) ∧ ((¬ r5 = 12) → (wp_LogDisk_findSnapshot_90 Ln (fun z0 z1 zS => wp_LogDisk_findSnapshot_16 Ln Q n16 z0 z1 zS) Q x0 x1 S4))) (grf (grf x0 1) x1.toNatClampNeg) 0 S)))
def wp_LogDisk_findSnapshot (Ln : gI → Nat) (Q : gS → Prop) (x0 : gI)  (S : gS) : Prop :=
  wp_Snapshot_set Ln (fun S1 => ∃ n16 : Nat, wp_LogDisk_findSnapshot_16 Ln Q n16 x0 2 S1) (grf x0 6) (-1 : Int32) 0 0 (S.1 x0 9) S
set_option maxHeartbeats 4000000 in
set_option maxRecDepth 100000 in
theorem mw_LogDisk_findSnapshot_90 {p : Program} {l : Launch} {e : Env} {s : State} {m : MethodId} {args : Array Value} {below : List Frame} {meth : Method} {c : Code} {Y : gY} {Q : gS → Prop} {K16 : gI → Int32 → gS → Prop} (C : gCx p s m args meth c Y "LogDisk" c_LogDisk_findSnapshot 5 (Option.none : Option Jvm.ClassFile.FieldType) w_LogDisk_findSnapshot) (hK16 : ∀ (x0 : gI) (x1 : Int32)  (S : gS) (H : Heap) (locs : List Loc) (ls : Array Slot), gis Y 9 x0 → K16 x0 x1 S → gWd Y S H → va_S (gA Y s.heap.size) s.heap H locs → lv_has ls 5 [(0, .ref (gad Y x0)), (1, .int x1)] → W p l e (gRm 3 71) s m args below meth c H locs 0 0 (MQ below (va_Qv Q (gB Y) (gA Y s.heap.size)) args s 0 0 (gA Y s.heap.size)) (F0 m 16 ls [])) : ∀ (x0 : gI) (x1 : Int32)  (S : gS) (H : Heap) (locs : List Loc) (ls : Array Slot), gis Y 9 x0 → wp_LogDisk_findSnapshot_90 (gLn Y) K16 Q x0 x1 S → gWd Y S H → va_S (gA Y s.heap.size) s.heap H locs → lv_has ls 5 [(0, .ref (gad Y x0)), (1, .int x1)] → W p l e (gRm 3 71) s m args below meth c H locs 0 0 (MQ below (va_Qv Q (gB Y) (gA Y s.heap.size)) args s 0 0 (gA Y s.heap.size)) (F0 m 90 ls []) := by
  have C0 := C
  obtain ⟨hx, hb, hml, hown, hts, hr, hlocks, hK, hY, hSt⟩ := C
  intro x0 x1 S H locs ls hx0 hw hP hS hl
  unfold wp_LogDisk_findSnapshot_90 at hw
  obtain ⟨v1_11, ev1_11⟩ : ∃ y : Int32, y = x1 + 1 := ⟨_, rfl⟩
  replace hw := hw v1_11 ev1_11
  refine lv_iinc (v := v1_11) (lv' := [(1, .int v1_11), (0, .ref (gad Y x0))]) hx hb d_LogDisk_findSnapshot_90 hl (k := 1) rfl (by rw [ev1_11]; rfl) (by decide) rfl (fun ls hl => ?_)
  refine lv_goto (tgt := 16) hx hb d_LogDisk_findSnapshot_93 (by decide) ?_
  exact hK16 x0 v1_11 S H locs ls hx0 hw hP hS (lv_sub hl [1, 0] rfl)
set_option maxHeartbeats 4000000 in
set_option maxRecDepth 100000 in
theorem mw_LogDisk_findSnapshot_16 {p : Program} {l : Launch} {e : Env} {s : State} {m : MethodId} {args : Array Value} {below : List Frame} {meth : Method} {c : Code} {Y : gY} {Q : gS → Prop} (C : gCx p s m args meth c Y "LogDisk" c_LogDisk_findSnapshot 5 (Option.none : Option Jvm.ClassFile.FieldType) w_LogDisk_findSnapshot) : ∀ (n : Nat), ∀ (x0 : gI) (x1 : Int32)  (S : gS) (H : Heap) (locs : List Loc) (ls : Array Slot), gis Y 9 x0 → wp_LogDisk_findSnapshot_16 (gLn Y) Q n x0 x1 S → gWd Y S H → va_S (gA Y s.heap.size) s.heap H locs → lv_has ls 5 [(0, .ref (gad Y x0)), (1, .int x1)] → W p l e (gRm 3 71) s m args below meth c H locs 0 0 (MQ below (va_Qv Q (gB Y) (gA Y s.heap.size)) args s 0 0 (gA Y s.heap.size)) (F0 m 16 ls []) := by
  have C0 := C
  obtain ⟨hx, hb, hml, hown, hts, hr, hlocks, hK, hY, hSt⟩ := C
  intro n
  induction n with
  | zero =>
    intro x0 x1 S H locs ls hx0 hw
    exact False.elim hw
  | succ n ih =>
    intro x0 x1 S H locs ls hx0 hw hP hS hl
    unfold wp_LogDisk_findSnapshot_16 at hw
    refine lv_iload_n hx hb d_LogDisk_findSnapshot_16 rfl (lv_at hl 1 rfl) ?_
    refine lv_iconst (v := 4) hx hb d_LogDisk_findSnapshot_17 (by decide) ?_
    refine lv_icmp_ge (tgt := 96) hx hb d_LogDisk_findSnapshot_18 (by decide) (fun c2 => ?_) (fun c2 => ?_)
    · replace hw := hw.1 c2
      exact W.vret hx hb hr (fun t ht hW => ⟨⟨S, rfl, hw, by rw [ht]; exact hP, va_K.moved hW.alike hK⟩, hS.F ht⟩) hS.2.2 d_LogDisk_findSnapshot_96
    · replace hw := hw.2 c2
      refine lv_aload_n hx hb d_LogDisk_findSnapshot_21 rfl (lv_at hl 0 rfl) ?_
      refine g_get hx hb hts (fun w h => List.mem_cons_of_mem _ (in_LogDisk w h)) hown hK hP hx0 (gce_LogDisk hx0.1) rfl 1 (by decide) (hts _ (List.mem_cons_of_mem _ gw_230)) rfl d_LogDisk_findSnapshot_22 ?_
      refine lv_iload_n hx hb d_LogDisk_findSnapshot_25 rfl (lv_at hl 1 rfl) ?_
      obtain ⟨hin, hw⟩ := hw
      refine g_aaload hx hb hK hP (gis_LogDisk_files hY hx0) hin d_LogDisk_findSnapshot_26 ?_
      have hin3 := hin
      refine lv_astore_n (lv' := [(2, .ref (gad Y (grf (grf x0 1) x1.toNatClampNeg))), (0, .ref (gad Y x0)), (1, .int x1)]) hx hb d_LogDisk_findSnapshot_27 rfl hl (by decide) rfl (fun ls hl => ?_)
      refine lv_aload_n hx hb d_LogDisk_findSnapshot_28 rfl (lv_at hl 0 rfl) ?_
      refine lv_iconst (v := 0) hx hb d_LogDisk_findSnapshot_29 (by decide) ?_
      refine g_calli (va_runV (As := [.int 0]) (rest := []) ⟨hx, hb, hml, hown, hts⟩ (k_DiskFile_wholeFrame l Y hY H.size (grf (grf x0 1) x1.toNatClampNeg) 0 (gis_elem_DiskFile hY (gis_LogDisk_files hY hx0) hin3) S _) (cwV 1 hts (gG_V gw_336 gw_337 gw_338 gw_10 gw_339) rfl rfl rfl (by decide +kernel) ⟨Nat.le_of_ble_eq_true rfl, Nat.le_of_ble_eq_true rfl⟩) ⟨gPre_blind, g_recv hK hP (gis_elem_DiskFile hY (gis_LogDisk_files hY hx0) hin3) (gce_DiskFile (gis_elem_DiskFile hY (gis_LogDisk_files hY hx0) hin3).1) rfl, g_pre hK hSt hS hP hw⟩ rfl rfl hl.1 rfl (lv_room (Nat.le_of_ble_eq_true rfl)) d_LogDisk_findSnapshot_30 ⟨Nat.zero_le _, Nat.zero_le _⟩) hS (fun r5 S4 H locs hw hP hS => ?_)
      refine lv_bipush (v := 12) hx hb d_LogDisk_findSnapshot_33 (by decide) ?_
      refine lv_icmp_eq (tgt := 41) hx hb d_LogDisk_findSnapshot_35 (by decide) (fun c6 => ?_) (fun c6 => ?_)
      · replace hw := hw.1 c6
        refine lv_aload_n hx hb d_LogDisk_findSnapshot_41 rfl (lv_at hl 0 rfl) ?_
        refine lv_bipush (v := 8) hx hb d_LogDisk_findSnapshot_42 (by decide) ?_
        refine lv_iconst (v := 4) hx hb d_LogDisk_findSnapshot_44 (by decide) ?_
        refine g_calll (va_runV (As := [.int 8, .int 4]) (rest := []) ⟨hx, hb, hml, hown, hts⟩ (k_DiskFile_number l Y hY H.size (grf (grf x0 1) x1.toNatClampNeg) 8 4 (gis_elem_DiskFile hY (gis_LogDisk_files hY hx0) hin3) S4 _) (cwV 2 hts (gG_V gw_353 gw_341 gw_342 gw_10 gw_343) rfl rfl rfl (by decide +kernel) ⟨Nat.le_of_ble_eq_true rfl, Nat.le_of_ble_eq_true rfl⟩) ⟨gPre_blind, g_recv hK hP (gis_elem_DiskFile hY (gis_LogDisk_files hY hx0) hin3) (gce_DiskFile (gis_elem_DiskFile hY (gis_LogDisk_files hY hx0) hin3).1) rfl, g_pre hK hSt hS hP hw⟩ rfl rfl hl.1 rfl (lv_room (Nat.le_of_ble_eq_true rfl)) d_LogDisk_findSnapshot_45 ⟨Nat.zero_le _, Nat.zero_le _⟩) hS (fun r8 S7 H locs hw hP hS => ?_)
        refine lv_l2i hx hb d_LogDisk_findSnapshot_48 rfl ?_
        refine lv_topi (fun v3_9 ev3_9 => ?_)
        replace hw := hw v3_9 ev3_9
        refine lv_istore_n (lv' := [(3, .int v3_9), (2, .ref (gad Y (grf (grf x0 1) x1.toNatClampNeg))), (0, .ref (gad Y x0)), (1, .int x1)]) hx hb d_LogDisk_findSnapshot_49 rfl hl (by decide) rfl (fun ls hl => ?_)
        refine lv_iload_n hx hb d_LogDisk_findSnapshot_50 rfl (lv_at hl 0 rfl) ?_
        refine lv_aload_n hx hb d_LogDisk_findSnapshot_51 rfl (lv_at hl 2 rfl) ?_
        refine g_get hx hb hts (fun w h => List.mem_cons_of_mem _ (in_LogDisk w h)) hown hK hP hx0 (gce_LogDisk hx0.1) rfl 6 (by decide) (hts _ (List.mem_cons_of_mem _ gw_235)) rfl d_LogDisk_findSnapshot_52 ?_
        refine g_get hx hb hts (fun w h => List.mem_cons_of_mem _ (in_Snapshot w h)) hown hK hP (gis_LogDisk_snapshot hY hx0) (gce_Snapshot (gis_LogDisk_snapshot hY hx0).1) rfl 1 (by decide) (hts _ (List.mem_cons_of_mem _ gw_100)) rfl d_LogDisk_findSnapshot_55 ?_
        refine lv_icmp_le (tgt := 90) hx hb d_LogDisk_findSnapshot_58 (by decide) (fun c10 => ?_) (fun c10 => ?_)
        · replace hw := hw.1 c10
          exact mw_LogDisk_findSnapshot_90 C0 ih x0 x1 S7 H locs ls hx0 hw hP hS (lv_sub hl [2, 3] rfl)
        · replace hw := hw.2 c10
          refine lv_aload_n hx hb d_LogDisk_findSnapshot_61 rfl (lv_at hl 1 rfl) ?_
          refine lv_bipush (v := 12) hx hb d_LogDisk_findSnapshot_62 (by decide) ?_
          refine lv_iconst (v := 4) hx hb d_LogDisk_findSnapshot_64 (by decide) ?_
          refine g_calll (va_runV (As := [.int 12, .int 4]) (rest := []) ⟨hx, hb, hml, hown, hts⟩ (k_DiskFile_number l Y hY H.size (grf (grf x0 1) x1.toNatClampNeg) 12 4 (gis_elem_DiskFile hY (gis_LogDisk_files hY hx0) hin3) S7 _) (cwV 2 hts (gG_V gw_353 gw_341 gw_342 gw_10 gw_343) rfl rfl rfl (by decide +kernel) ⟨Nat.le_of_ble_eq_true rfl, Nat.le_of_ble_eq_true rfl⟩) ⟨gPre_blind, g_recv hK hP (gis_elem_DiskFile hY (gis_LogDisk_files hY hx0) hin3) (gce_DiskFile (gis_elem_DiskFile hY (gis_LogDisk_files hY hx0) hin3).1) rfl, g_pre hK hSt hS hP hw⟩ rfl rfl hl.1 rfl (lv_room (Nat.le_of_ble_eq_true rfl)) d_LogDisk_findSnapshot_65 ⟨Nat.zero_le _, Nat.zero_le _⟩) hS (fun r13 S12 H locs hw hP hS => ?_)
          refine lv_l2i hx hb d_LogDisk_findSnapshot_68 rfl ?_
          refine lv_topi (fun v4_14 ev4_14 => ?_)
          replace hw := hw v4_14 ev4_14
          refine lv_istore (lv' := [(4, .int v4_14), (3, .int v3_9), (2, .ref (gad Y (grf (grf x0 1) x1.toNatClampNeg))), (0, .ref (gad Y x0)), (1, .int x1)]) hx hb d_LogDisk_findSnapshot_69 hl (by decide) rfl (fun ls hl => ?_)
          refine lv_aload_n hx hb d_LogDisk_findSnapshot_71 rfl (lv_at hl 3 rfl) ?_
          refine g_get hx hb hts (fun w h => List.mem_cons_of_mem _ (in_LogDisk w h)) hown hK hP hx0 (gce_LogDisk hx0.1) rfl 6 (by decide) (hts _ (List.mem_cons_of_mem _ gw_235)) rfl d_LogDisk_findSnapshot_72 ?_
          refine lv_iload_n hx hb d_LogDisk_findSnapshot_75 rfl (lv_at hl 4 rfl) ?_
          refine lv_iload_n hx hb d_LogDisk_findSnapshot_76 rfl (lv_at hl 1 rfl) ?_
          refine lv_iload hx hb d_LogDisk_findSnapshot_77 (lv_at hl 0 rfl) ?_
          refine lv_aload_n hx hb d_LogDisk_findSnapshot_79 rfl (lv_at hl 2 rfl) ?_
          refine lv_bipush (v := 16) hx hb d_LogDisk_findSnapshot_80 (by decide) ?_
          refine lv_iconst (v := 4) hx hb d_LogDisk_findSnapshot_82 (by decide) ?_
          refine g_calll (va_runV (As := [.int 16, .int 4]) (rest := [.int v4_14, .int v3_9, .int x1, .ref (gad Y (grf x0 6))]) ⟨hx, hb, hml, hown, hts⟩ (k_DiskFile_number l Y hY H.size (grf (grf x0 1) x1.toNatClampNeg) 16 4 (gis_elem_DiskFile hY (gis_LogDisk_files hY hx0) hin3) S12 _) (cwV 2 hts (gG_V gw_353 gw_341 gw_342 gw_10 gw_343) rfl rfl rfl (by decide +kernel) ⟨Nat.le_of_ble_eq_true rfl, Nat.le_of_ble_eq_true rfl⟩) ⟨gPre_blind, g_recv hK hP (gis_elem_DiskFile hY (gis_LogDisk_files hY hx0) hin3) (gce_DiskFile (gis_elem_DiskFile hY (gis_LogDisk_files hY hx0) hin3).1) rfl, g_pre hK hSt hS hP hw⟩ rfl rfl hl.1 rfl (lv_room (Nat.le_of_ble_eq_true rfl)) d_LogDisk_findSnapshot_83 ⟨Nat.zero_le _, Nat.zero_le _⟩) hS (fun r16 S15 H locs hw hP hS => ?_)
          refine lv_l2i hx hb d_LogDisk_findSnapshot_86 rfl ?_
          refine g_callv (va_runV (As := [.int x1, .int v3_9, .int v4_14, .int (r16.toInt32)]) (rest := []) ⟨hx, hb, hml, hown, hts⟩ (k_Snapshot_set l Y hY H.size (grf x0 6) x1 v3_9 v4_14 (r16.toInt32) (gis_LogDisk_snapshot hY hx0) S15 _) (cwV 4 hts (gG_V gw_359 gw_360 gw_361 gw_5 gw_362) rfl rfl rfl (by decide +kernel) ⟨Nat.le_of_ble_eq_true rfl, Nat.le_of_ble_eq_true rfl⟩) ⟨gPre_blind, g_recv hK hP (gis_LogDisk_snapshot hY hx0) (gce_Snapshot (gis_LogDisk_snapshot hY hx0).1) rfl, g_pre hK hSt hS hP hw⟩ rfl rfl hl.1 rfl (lv_room (Nat.le_of_ble_eq_true rfl)) d_LogDisk_findSnapshot_87 ⟨Nat.zero_le _, Nat.zero_le _⟩) hS (fun S17 H locs hw hP hS => ?_)
          exact mw_LogDisk_findSnapshot_90 C0 ih x0 x1 S17 H locs ls hx0 hw hP hS (lv_sub hl [3, 4] rfl)
      · replace hw := hw.2 c6
        refine lv_goto (tgt := 90) hx hb d_LogDisk_findSnapshot_38 (by decide) ?_
        exact mw_LogDisk_findSnapshot_90 C0 ih x0 x1 S4 H locs ls hx0 hw hP hS (lv_sub hl [1, 2] rfl)
set_option maxHeartbeats 4000000 in
set_option maxRecDepth 100000 in
theorem mw_LogDisk_findSnapshot {p : Program} {l : Launch} {e : Env} {s : State} {m : MethodId} {args : Array Value} {below : List Frame} {meth : Method} {c : Code} {Y : gY} {Q : gS → Prop} (C : gCx p s m args meth c Y "LogDisk" c_LogDisk_findSnapshot 5 (Option.none : Option Jvm.ClassFile.FieldType) w_LogDisk_findSnapshot) : ∀ (x0 : gI)  (S : gS) (H : Heap) (locs : List Loc) (ls : Array Slot), gis Y 9 x0 → wp_LogDisk_findSnapshot (gLn Y) Q x0 S → gWd Y S H → va_S (gA Y s.heap.size) s.heap H locs → lv_has ls 5 [(0, .ref (gad Y x0))] → W p l e (gRm 3 71) s m args below meth c H locs 0 0 (MQ below (va_Qv Q (gB Y) (gA Y s.heap.size)) args s 0 0 (gA Y s.heap.size)) (F0 m 0 ls []) := by
  have C0 := C
  obtain ⟨hx, hb, hml, hown, hts, hr, hlocks, hK, hY, hSt⟩ := C
  intro x0 S H locs ls hx0 hw hP hS hl
  unfold wp_LogDisk_findSnapshot at hw
  refine lv_aload_n hx hb d_LogDisk_findSnapshot_0 rfl (lv_at hl 0 rfl) ?_
  refine g_get hx hb hts (fun w h => List.mem_cons_of_mem _ (in_LogDisk w h)) hown hK hP hx0 (gce_LogDisk hx0.1) rfl 6 (by decide) (hts _ (List.mem_cons_of_mem _ gw_235)) rfl d_LogDisk_findSnapshot_1 ?_
  refine lv_iconst (v := (-1 : Int32)) hx hb d_LogDisk_findSnapshot_4 (by decide) ?_
  refine lv_iconst (v := 0) hx hb d_LogDisk_findSnapshot_5 (by decide) ?_
  refine lv_iconst (v := 0) hx hb d_LogDisk_findSnapshot_6 (by decide) ?_
  refine lv_aload_n hx hb d_LogDisk_findSnapshot_7 rfl (lv_at hl 0 rfl) ?_
  refine g_get hx hb hts (fun w h => List.mem_cons_of_mem _ (in_LogDisk w h)) hown hK hP hx0 (gce_LogDisk hx0.1) rfl 9 (by decide) (hts _ (List.mem_cons_of_mem _ gw_238)) rfl d_LogDisk_findSnapshot_8 ?_
  refine g_callv (va_runV (As := [.int (-1 : Int32), .int 0, .int 0, .int (S.1 x0 9)]) (rest := []) ⟨hx, hb, hml, hown, hts⟩ (k_Snapshot_set l Y hY H.size (grf x0 6) (-1 : Int32) 0 0 (S.1 x0 9) (gis_LogDisk_snapshot hY hx0) S _) (cwV 4 hts (gG_V gw_359 gw_360 gw_361 gw_5 gw_362) rfl rfl rfl (by decide +kernel) ⟨Nat.le_of_ble_eq_true rfl, Nat.le_of_ble_eq_true rfl⟩) ⟨gPre_blind, g_recv hK hP (gis_LogDisk_snapshot hY hx0) (gce_Snapshot (gis_LogDisk_snapshot hY hx0).1) rfl, g_pre hK hSt hS hP hw⟩ rfl rfl hl.1 rfl (lv_room (Nat.le_of_ble_eq_true rfl)) d_LogDisk_findSnapshot_11 ⟨Nat.zero_le _, Nat.zero_le _⟩) hS (fun S1 H locs hw hP hS => ?_)
  refine lv_iconst (v := 2) hx hb d_LogDisk_findSnapshot_14 (by decide) ?_
  refine lv_istore_n (lv' := [(1, .int 2), (0, .ref (gad Y x0))]) hx hb d_LogDisk_findSnapshot_15 rfl hl (by decide) rfl (fun ls hl => ?_)
  obtain ⟨n, hw⟩ := hw
  exact mw_LogDisk_findSnapshot_16 C0 n x0 2 S1 H locs ls hx0 hw hP hS (lv_sub hl [1, 0] rfl)
set_option maxHeartbeats 4000000 in
set_option maxRecDepth 100000 in
theorem k_LogDisk_findSnapshot (l : Launch) (Y : gY) (hY : gOK Y) (sz : Nat) (x0 : gI)  (hx0 : gis Y 9 x0) (S : gS) (Q : gS → Prop) : Met l y_LogDisk_findSnapshot w_LogDisk_findSnapshot (gRm 3 71) (gPre Y [.ref (gad Y x0)] S sz (wp_LogDisk_findSnapshot (gLn Y) Q x0 S)) (va_Qv Q (gB Y) (gA Y sz)) 0 0 (gA Y sz) := by
  refine Met.ofW (cc := c_LogDisk_findSnapshot) (maxL := 5) (ret := (Option.none : Option Jvm.ClassFile.FieldType)) (by decide) rfl ?_
  intro p e s m args below meth c s₁ B hml hv
  obtain ⟨rfl, hsz, hP, hK, hSt, hw⟩ := hv
  subst hsz
  have hts := atoms_spec (ws := w_LogDisk_findSnapshot) B.pre
  have hl := lv_entry ([.ref (gad Y x0)]) (n := 5) (Nat.le_of_ble_eq_true rfl)
  rw [lg_entry_eq]
  generalize (lg_sl ([.ref (gad Y x0)]) ++ List.replicate (5 - (lg_sl ([.ref (gad Y x0)])).length) Slot.unset).toArray = ls at hl ⊢
  exact mw_LogDisk_findSnapshot ⟨B.exec, B.bytes, hml, findClass_of_methodNamed B.named, hts, B.returns, B.notSynchronized, hK, hY, hSt⟩ x0 S s.heap [] ls hx0 hw hP va_S.rf hl

def wp_LogDisk_firstSegment_48 (Ln : gI → Nat) (K6 : gI → Int32 → Int32 → Int32 → gS → Prop) (Q : Int32 → gS → Prop) (x0 : gI) (x1 : Int32) (x2 : Int32) (x3 : Int32)  (S : gS) : Prop :=
  ∀ v3_6 : Int32, v3_6 = x3 + 1 → (K6 x0 x1 x2 v3_6 S)
def wp_LogDisk_firstSegment_6 (Ln : gI → Nat) (Q : Int32 → gS → Prop) : Nat → gI → Int32 → Int32 → Int32 → gS → Prop
  | 0, _, _, _, _, _ => False
  | n6 + 1, x0, x1, x2, x3, S => ((16 ≤ x3) → (Q x1 S)) ∧ ((¬ 16 ≤ x3) → (vp_in x3 (Ln (grf x0 1)) ∧ (wp_DiskFile_segmentFirst Ln (fun r4 S3 => ((r4 ≤ x2) → (wp_LogDisk_firstSegment_48 Ln (fun z0 z1 z2 z3 zS => wp_LogDisk_firstSegment_6 Ln Q n6 z0 z1 z2 z3 zS) Q x0 x1 x2 x3 S3)) ∧ ((¬ r4 ≤ x2) → (((((S3.1 (grf x0 6) 1) + 1) < r4) → (wp_LogDisk_firstSegment_48 Ln (fun z0 z1 z2 z3 zS => wp_LogDisk_firstSegment_6 Ln Q n6 z0 z1 z2 z3 zS) Q x0 x1 x2 x3 S3)) ∧ ((¬ ((S3.1 (grf x0 6) 1) + 1) < r4) → (wp_LogDisk_firstSegment_48 Ln (fun z0 z1 z2 z3 zS => wp_LogDisk_firstSegment_6 Ln Q n6 z0 z1 z2 z3 zS) Q x0 x3 r4 x3 S3))))) (grf (grf x0 1) x3.toNatClampNeg) S)))
def wp_LogDisk_firstSegment (Ln : gI → Nat) (Q : Int32 → gS → Prop) (x0 : gI)  (S : gS) : Prop :=
  ∃ n6 : Nat, wp_LogDisk_firstSegment_6 Ln Q n6 x0 (-1 : Int32) 0 4 S
set_option maxHeartbeats 4000000 in
set_option maxRecDepth 100000 in
theorem mw_LogDisk_firstSegment_48 {p : Program} {l : Launch} {e : Env} {s : State} {m : MethodId} {args : Array Value} {below : List Frame} {meth : Method} {c : Code} {Y : gY} {Q : Int32 → gS → Prop} {K6 : gI → Int32 → Int32 → Int32 → gS → Prop} (C : gCx p s m args meth c Y "LogDisk" c_LogDisk_firstSegment 5 (Option.some Jvm.ClassFile.FieldType.int) w_LogDisk_firstSegment) (hK6 : ∀ (x0 : gI) (x1 : Int32) (x2 : Int32) (x3 : Int32)  (S : gS) (H : Heap) (locs : List Loc) (ls : Array Slot), gis Y 9 x0 → K6 x0 x1 x2 x3 S → gWd Y S H → va_S (gA Y s.heap.size) s.heap H locs → lv_has ls 5 [(0, .ref (gad Y x0)), (1, .int x1), (2, .int x2), (3, .int x3)] → W p l e (gRm 4 91) s m args below meth c H locs 0 0 (MQ below (va_Qi Q (gB Y) (gA Y s.heap.size)) args s 0 0 (gA Y s.heap.size)) (F0 m 6 ls [])) : ∀ (x0 : gI) (x1 : Int32) (x2 : Int32) (x3 : Int32)  (S : gS) (H : Heap) (locs : List Loc) (ls : Array Slot), gis Y 9 x0 → wp_LogDisk_firstSegment_48 (gLn Y) K6 Q x0 x1 x2 x3 S → gWd Y S H → va_S (gA Y s.heap.size) s.heap H locs → lv_has ls 5 [(0, .ref (gad Y x0)), (1, .int x1), (2, .int x2), (3, .int x3)] → W p l e (gRm 4 91) s m args below meth c H locs 0 0 (MQ below (va_Qi Q (gB Y) (gA Y s.heap.size)) args s 0 0 (gA Y s.heap.size)) (F0 m 48 ls []) := by
  have C0 := C
  obtain ⟨hx, hb, hml, hown, hts, hr, hlocks, hK, hY, hSt⟩ := C
  intro x0 x1 x2 x3 S H locs ls hx0 hw hP hS hl
  unfold wp_LogDisk_firstSegment_48 at hw
  obtain ⟨v3_6, ev3_6⟩ : ∃ y : Int32, y = x3 + 1 := ⟨_, rfl⟩
  replace hw := hw v3_6 ev3_6
  refine lv_iinc (v := v3_6) (lv' := [(3, .int v3_6), (0, .ref (gad Y x0)), (1, .int x1), (2, .int x2)]) hx hb d_LogDisk_firstSegment_48 hl (k := 3) rfl (by rw [ev3_6]; rfl) (by decide) rfl (fun ls hl => ?_)
  refine lv_goto (tgt := 6) hx hb d_LogDisk_firstSegment_51 (by decide) ?_
  exact hK6 x0 x1 x2 v3_6 S H locs ls hx0 hw hP hS (lv_sub hl [1, 2, 3, 0] rfl)
set_option maxHeartbeats 4000000 in
set_option maxRecDepth 100000 in
theorem mw_LogDisk_firstSegment_6 {p : Program} {l : Launch} {e : Env} {s : State} {m : MethodId} {args : Array Value} {below : List Frame} {meth : Method} {c : Code} {Y : gY} {Q : Int32 → gS → Prop} (C : gCx p s m args meth c Y "LogDisk" c_LogDisk_firstSegment 5 (Option.some Jvm.ClassFile.FieldType.int) w_LogDisk_firstSegment) : ∀ (n : Nat), ∀ (x0 : gI) (x1 : Int32) (x2 : Int32) (x3 : Int32)  (S : gS) (H : Heap) (locs : List Loc) (ls : Array Slot), gis Y 9 x0 → wp_LogDisk_firstSegment_6 (gLn Y) Q n x0 x1 x2 x3 S → gWd Y S H → va_S (gA Y s.heap.size) s.heap H locs → lv_has ls 5 [(0, .ref (gad Y x0)), (1, .int x1), (2, .int x2), (3, .int x3)] → W p l e (gRm 4 91) s m args below meth c H locs 0 0 (MQ below (va_Qi Q (gB Y) (gA Y s.heap.size)) args s 0 0 (gA Y s.heap.size)) (F0 m 6 ls []) := by
  have C0 := C
  obtain ⟨hx, hb, hml, hown, hts, hr, hlocks, hK, hY, hSt⟩ := C
  intro n
  induction n with
  | zero =>
    intro x0 x1 x2 x3 S H locs ls hx0 hw
    exact False.elim hw
  | succ n ih =>
    intro x0 x1 x2 x3 S H locs ls hx0 hw hP hS hl
    unfold wp_LogDisk_firstSegment_6 at hw
    refine lv_iload_n hx hb d_LogDisk_firstSegment_6 rfl (lv_at hl 3 rfl) ?_
    refine lv_bipush (v := 16) hx hb d_LogDisk_firstSegment_7 (by decide) ?_
    refine lv_icmp_ge (tgt := 54) hx hb d_LogDisk_firstSegment_9 (by decide) (fun c1 => ?_) (fun c1 => ?_)
    · replace hw := hw.1 c1
      refine lv_iload_n hx hb d_LogDisk_firstSegment_54 rfl (lv_at hl 1 rfl) ?_
      exact W.iret (v := x1) hx hb hr (fun t ht hW => ⟨⟨x1, S, rfl, hw, by rw [ht]; exact hP, va_K.moved hW.alike hK⟩, hS.F ht⟩) hS.2.2 d_LogDisk_firstSegment_55
    · replace hw := hw.2 c1
      refine lv_aload_n hx hb d_LogDisk_firstSegment_12 rfl (lv_at hl 0 rfl) ?_
      refine g_get hx hb hts (fun w h => List.mem_cons_of_mem _ (in_LogDisk w h)) hown hK hP hx0 (gce_LogDisk hx0.1) rfl 1 (by decide) (hts _ (List.mem_cons_of_mem _ gw_230)) rfl d_LogDisk_firstSegment_13 ?_
      refine lv_iload_n hx hb d_LogDisk_firstSegment_16 rfl (lv_at hl 3 rfl) ?_
      obtain ⟨hin, hw⟩ := hw
      refine g_aaload hx hb hK hP (gis_LogDisk_files hY hx0) hin d_LogDisk_firstSegment_17 ?_
      have hin2 := hin
      refine g_calli (va_runV (As := []) (rest := []) ⟨hx, hb, hml, hown, hts⟩ (k_DiskFile_segmentFirst l Y hY H.size (grf (grf x0 1) x3.toNatClampNeg) (gis_elem_DiskFile hY (gis_LogDisk_files hY hx0) hin2) S _) (cwV 0 hts (gG_V gw_371 gw_372 gw_373 gw_10 gw_374) rfl rfl rfl (by decide +kernel) ⟨Nat.le_of_ble_eq_true rfl, Nat.le_of_ble_eq_true rfl⟩) ⟨gPre_blind, g_recv hK hP (gis_elem_DiskFile hY (gis_LogDisk_files hY hx0) hin2) (gce_DiskFile (gis_elem_DiskFile hY (gis_LogDisk_files hY hx0) hin2).1) rfl, g_pre hK hSt hS hP hw⟩ rfl rfl hl.1 rfl (lv_room (Nat.le_of_ble_eq_true rfl)) d_LogDisk_firstSegment_18 ⟨Nat.zero_le _, Nat.zero_le _⟩) hS (fun r4 S3 H locs hw hP hS => ?_)
      refine lv_istore (lv' := [(4, .int r4), (0, .ref (gad Y x0)), (1, .int x1), (2, .int x2), (3, .int x3)]) hx hb d_LogDisk_firstSegment_21 hl (by decide) rfl (fun ls hl => ?_)
      refine lv_iload hx hb d_LogDisk_firstSegment_23 (lv_at hl 0 rfl) ?_
      refine lv_iload_n hx hb d_LogDisk_firstSegment_25 rfl (lv_at hl 3 rfl) ?_
      refine lv_icmp_le (tgt := 48) hx hb d_LogDisk_firstSegment_26 (by decide) (fun c5 => ?_) (fun c5 => ?_)
      · replace hw := hw.1 c5
        exact mw_LogDisk_firstSegment_48 C0 ih x0 x1 x2 x3 S3 H locs ls hx0 hw hP hS (lv_sub hl [1, 2, 3, 4] rfl)
      · replace hw := hw.2 c5
        refine lv_iload hx hb d_LogDisk_firstSegment_29 (lv_at hl 0 rfl) ?_
        refine lv_aload_n hx hb d_LogDisk_firstSegment_31 rfl (lv_at hl 1 rfl) ?_
        refine g_get hx hb hts (fun w h => List.mem_cons_of_mem _ (in_LogDisk w h)) hown hK hP hx0 (gce_LogDisk hx0.1) rfl 6 (by decide) (hts _ (List.mem_cons_of_mem _ gw_235)) rfl d_LogDisk_firstSegment_32 ?_
        refine g_get hx hb hts (fun w h => List.mem_cons_of_mem _ (in_Snapshot w h)) hown hK hP (gis_LogDisk_snapshot hY hx0) (gce_Snapshot (gis_LogDisk_snapshot hY hx0).1) rfl 1 (by decide) (hts _ (List.mem_cons_of_mem _ gw_100)) rfl d_LogDisk_firstSegment_35 ?_
        refine lv_iconst (v := 1) hx hb d_LogDisk_firstSegment_38 (by decide) ?_
        refine lv_iadd hx hb d_LogDisk_firstSegment_39 ?_
        refine lv_icmp_gt (tgt := 48) hx hb d_LogDisk_firstSegment_40 (by decide) (fun c7 => ?_) (fun c7 => ?_)
        · replace hw := hw.1 c7
          exact mw_LogDisk_firstSegment_48 C0 ih x0 x1 x2 x3 S3 H locs ls hx0 hw hP hS (lv_sub hl [1, 2, 3, 4] rfl)
        · replace hw := hw.2 c7
          refine lv_iload_n hx hb d_LogDisk_firstSegment_43 rfl (lv_at hl 4 rfl) ?_
          refine lv_istore_n (lv' := [(1, .int x3), (4, .int r4), (0, .ref (gad Y x0)), (2, .int x2), (3, .int x3)]) hx hb d_LogDisk_firstSegment_44 rfl hl (by decide) rfl (fun ls hl => ?_)
          refine lv_iload hx hb d_LogDisk_firstSegment_45 (lv_at hl 1 rfl) ?_
          refine lv_istore_n (lv' := [(2, .int r4), (1, .int x3), (4, .int r4), (0, .ref (gad Y x0)), (3, .int x3)]) hx hb d_LogDisk_firstSegment_47 rfl hl (by decide) rfl (fun ls hl => ?_)
          exact mw_LogDisk_firstSegment_48 C0 ih x0 x3 r4 x3 S3 H locs ls hx0 hw hP hS (lv_sub hl [3, 1, 0, 4] rfl)
set_option maxHeartbeats 4000000 in
set_option maxRecDepth 100000 in
theorem mw_LogDisk_firstSegment {p : Program} {l : Launch} {e : Env} {s : State} {m : MethodId} {args : Array Value} {below : List Frame} {meth : Method} {c : Code} {Y : gY} {Q : Int32 → gS → Prop} (C : gCx p s m args meth c Y "LogDisk" c_LogDisk_firstSegment 5 (Option.some Jvm.ClassFile.FieldType.int) w_LogDisk_firstSegment) : ∀ (x0 : gI)  (S : gS) (H : Heap) (locs : List Loc) (ls : Array Slot), gis Y 9 x0 → wp_LogDisk_firstSegment (gLn Y) Q x0 S → gWd Y S H → va_S (gA Y s.heap.size) s.heap H locs → lv_has ls 5 [(0, .ref (gad Y x0))] → W p l e (gRm 4 91) s m args below meth c H locs 0 0 (MQ below (va_Qi Q (gB Y) (gA Y s.heap.size)) args s 0 0 (gA Y s.heap.size)) (F0 m 0 ls []) := by
  have C0 := C
  obtain ⟨hx, hb, hml, hown, hts, hr, hlocks, hK, hY, hSt⟩ := C
  intro x0 S H locs ls hx0 hw hP hS hl
  unfold wp_LogDisk_firstSegment at hw
  refine lv_iconst (v := (-1 : Int32)) hx hb d_LogDisk_firstSegment_0 (by decide) ?_
  refine lv_istore_n (lv' := [(1, .int (-1 : Int32)), (0, .ref (gad Y x0))]) hx hb d_LogDisk_firstSegment_1 rfl hl (by decide) rfl (fun ls hl => ?_)
  refine lv_iconst (v := 0) hx hb d_LogDisk_firstSegment_2 (by decide) ?_
  refine lv_istore_n (lv' := [(2, .int 0), (1, .int (-1 : Int32)), (0, .ref (gad Y x0))]) hx hb d_LogDisk_firstSegment_3 rfl hl (by decide) rfl (fun ls hl => ?_)
  refine lv_iconst (v := 4) hx hb d_LogDisk_firstSegment_4 (by decide) ?_
  refine lv_istore_n (lv' := [(3, .int 4), (2, .int 0), (1, .int (-1 : Int32)), (0, .ref (gad Y x0))]) hx hb d_LogDisk_firstSegment_5 rfl hl (by decide) rfl (fun ls hl => ?_)
  obtain ⟨n, hw⟩ := hw
  exact mw_LogDisk_firstSegment_6 C0 n x0 (-1 : Int32) 0 4 S H locs ls hx0 hw hP hS (lv_sub hl [3, 2, 1, 0] rfl)
set_option maxHeartbeats 4000000 in
set_option maxRecDepth 100000 in
theorem k_LogDisk_firstSegment (l : Launch) (Y : gY) (hY : gOK Y) (sz : Nat) (x0 : gI)  (hx0 : gis Y 9 x0) (S : gS) (Q : Int32 → gS → Prop) : Met l y_LogDisk_firstSegment w_LogDisk_firstSegment (gRm 4 91) (gPre Y [.ref (gad Y x0)] S sz (wp_LogDisk_firstSegment (gLn Y) Q x0 S)) (va_Qi Q (gB Y) (gA Y sz)) 0 0 (gA Y sz) := by
  refine Met.ofW (cc := c_LogDisk_firstSegment) (maxL := 5) (ret := (Option.some Jvm.ClassFile.FieldType.int)) (by decide) rfl ?_
  intro p e s m args below meth c s₁ B hml hv
  obtain ⟨rfl, hsz, hP, hK, hSt, hw⟩ := hv
  subst hsz
  have hts := atoms_spec (ws := w_LogDisk_firstSegment) B.pre
  have hl := lv_entry ([.ref (gad Y x0)]) (n := 5) (Nat.le_of_ble_eq_true rfl)
  rw [lg_entry_eq]
  generalize (lg_sl ([.ref (gad Y x0)]) ++ List.replicate (5 - (lg_sl ([.ref (gad Y x0)])).length) Slot.unset).toArray = ls at hl ⊢
  exact mw_LogDisk_firstSegment ⟨B.exec, B.bytes, hml, findClass_of_methodNamed B.named, hts, B.returns, B.notSynchronized, hK, hY, hSt⟩ x0 S s.heap [] ls hx0 hw hP va_S.rf hl

def wp_LogDisk_readSegment_124 (Ln : gI → Nat) (Q : Int32 → gS → Prop) (x2 : gI) (x3 : Int32) (x4 : Int32)  (S : gS) : Prop :=
  wp_DiskFile_cutTo Ln (fun S6 => Q x3 S6) x2 x4 S
def wp_LogDisk_readSegment_108 (Ln : gI → Nat) (K21 : gI → Int32 → gI → Int32 → Int32 → Int32 → gS → Prop) (Q : Int32 → gS → Prop) (x0 : gI) (x1 : Int32) (x2 : gI) (x3 : Int32) (x4 : Int32) (x5 : Int32) (x6 : Int32)  (S : gS) : Prop :=
  ∀ v4_12 : Int32, v4_12 = x4 + (8 + x6) → (∀ v5_13 : Int32, v5_13 = x5 + 1 → (K21 x0 x1 x2 x3 v4_12 v5_13 S))
def wp_LogDisk_readSegment_21 (Ln : gI → Nat) (Q : Int32 → gS → Prop) : Nat → gI → Int32 → gI → Int32 → Int32 → Int32 → gS → Prop
  | 0, _, _, _, _, _, _, _ => False
  | n21 + 1, x0, x1, x2, x3, x4, x5, S => ((1025 ≤ x5) → (wp_LogDisk_readSegment_124 Ln Q x2 x3 x4 S)) ∧ ((¬ 1025 ≤ x5) → (wp_DiskFile_wholeFrame Ln (fun r8 S7 => ((17 ≤ r8) → (∀ v3_10 : Int32, v3_10 = x3 + 1 → (((v3_10 < (S7.1 (grf x0 6) 1)) → (wp_LogDisk_readSegment_108 Ln (fun z0 z1 z2 z3 z4 z5 zS => wp_LogDisk_readSegment_21 Ln Q n21 z0 z1 z2 z3 z4 z5 zS) Q x0 x1 x2 v3_10 x4 x5 r8 S7)) ∧ ((¬ v3_10 < (S7.1 (grf x0 6) 1)) → (wp_DiskFile_number Ln (fun r15 S14 => ∀ v7_16 : Int32, v7_16 = r15.toInt32 → (wp_DiskFile_read Ln (fun r18 S17 => wp_Entries_set Ln (fun S19 => wp_LogDisk_readSegment_108 Ln (fun z0 z1 z2 z3 z4 z5 zS => wp_LogDisk_readSegment_21 Ln Q n21 z0 z1 z2 z3 z4 z5 zS) Q x0 x1 x2 v3_10 x4 x5 r8 S19) (grf x0 8) v3_10 x1 x4 v7_16 r18 (r8 - 17) S17) x2 ((x4 + 8) + 16) S14)) x2 ((x4 + 8) + 8) 8 S7))))) ∧ ((¬ 17 ≤ r8) → (wp_LogDisk_readSegment_124 Ln Q x2 x3 x4 S7))) x2 x4 S))
def wp_LogDisk_readSegment (Ln : gI → Nat) (Q : Int32 → gS → Prop) (x0 : gI) (x1 : Int32)  (S : gS) : Prop :=
  vp_in x1 (Ln (grf x0 1)) ∧ (wp_DiskFile_segmentFirst Ln (fun r3 S2 => ∀ v3_4 : Int32, v3_4 = r3 - 1 → (∃ n21 : Nat, wp_LogDisk_readSegment_21 Ln Q n21 x0 x1 (grf (grf x0 1) x1.toNatClampNeg) v3_4 24 0 S2)) (grf (grf x0 1) x1.toNatClampNeg) S)
set_option maxHeartbeats 4000000 in
set_option maxRecDepth 100000 in
theorem mw_LogDisk_readSegment_124 {p : Program} {l : Launch} {e : Env} {s : State} {m : MethodId} {args : Array Value} {below : List Frame} {meth : Method} {c : Code} {Y : gY} {Q : Int32 → gS → Prop} (C : gCx p s m args meth c Y "LogDisk" c_LogDisk_readSegment 8 (Option.some Jvm.ClassFile.FieldType.int) w_LogDisk_readSegment) : ∀ (x2 : gI) (x3 : Int32) (x4 : Int32)  (S : gS) (H : Heap) (locs : List Loc) (ls : Array Slot), gis Y 1 x2 → wp_LogDisk_readSegment_124 (gLn Y) Q x2 x3 x4 S → gWd Y S H → va_S (gA Y s.heap.size) s.heap H locs → lv_has ls 8 [(2, .ref (gad Y x2)), (3, .int x3), (4, .int x4)] → W p l e (gRm 4 91) s m args below meth c H locs 0 0 (MQ below (va_Qi Q (gB Y) (gA Y s.heap.size)) args s 0 0 (gA Y s.heap.size)) (F0 m 124 ls []) := by
  have C0 := C
  obtain ⟨hx, hb, hml, hown, hts, hr, hlocks, hK, hY, hSt⟩ := C
  intro x2 x3 x4 S H locs ls hx2 hw hP hS hl
  unfold wp_LogDisk_readSegment_124 at hw
  refine lv_aload_n hx hb d_LogDisk_readSegment_124 rfl (lv_at hl 0 rfl) ?_
  refine lv_iload hx hb d_LogDisk_readSegment_125 (lv_at hl 2 rfl) ?_
  refine g_callv (va_runV (As := [.int x4]) (rest := []) ⟨hx, hb, hml, hown, hts⟩ (k_DiskFile_cutTo l Y hY H.size x2 x4 hx2 S _) (cwV 1 hts (gG_V gw_392 gw_318 gw_319 gw_10 gw_320) rfl rfl rfl (by decide +kernel) ⟨Nat.le_of_ble_eq_true rfl, Nat.le_of_ble_eq_true rfl⟩) ⟨gPre_blind, g_recv hK hP hx2 (gce_DiskFile hx2.1) rfl, g_pre hK hSt hS hP hw⟩ rfl rfl hl.1 rfl (lv_room (Nat.le_of_ble_eq_true rfl)) d_LogDisk_readSegment_127 ⟨Nat.zero_le _, Nat.zero_le _⟩) hS (fun S6 H locs hw hP hS => ?_)
  refine lv_iload_n hx hb d_LogDisk_readSegment_130 rfl (lv_at hl 1 rfl) ?_
  exact W.iret (v := x3) hx hb hr (fun t ht hW => ⟨⟨x3, S6, rfl, hw, by rw [ht]; exact hP, va_K.moved hW.alike hK⟩, hS.F ht⟩) hS.2.2 d_LogDisk_readSegment_131
set_option maxHeartbeats 4000000 in
set_option maxRecDepth 100000 in
theorem mw_LogDisk_readSegment_108 {p : Program} {l : Launch} {e : Env} {s : State} {m : MethodId} {args : Array Value} {below : List Frame} {meth : Method} {c : Code} {Y : gY} {Q : Int32 → gS → Prop} {K21 : gI → Int32 → gI → Int32 → Int32 → Int32 → gS → Prop} (C : gCx p s m args meth c Y "LogDisk" c_LogDisk_readSegment 8 (Option.some Jvm.ClassFile.FieldType.int) w_LogDisk_readSegment) (hK21 : ∀ (x0 : gI) (x1 : Int32) (x2 : gI) (x3 : Int32) (x4 : Int32) (x5 : Int32)  (S : gS) (H : Heap) (locs : List Loc) (ls : Array Slot), gis Y 9 x0 → gis Y 1 x2 → K21 x0 x1 x2 x3 x4 x5 S → gWd Y S H → va_S (gA Y s.heap.size) s.heap H locs → lv_has ls 8 [(0, .ref (gad Y x0)), (1, .int x1), (2, .ref (gad Y x2)), (3, .int x3), (4, .int x4), (5, .int x5)] → W p l e (gRm 4 91) s m args below meth c H locs 0 0 (MQ below (va_Qi Q (gB Y) (gA Y s.heap.size)) args s 0 0 (gA Y s.heap.size)) (F0 m 21 ls [])) : ∀ (x0 : gI) (x1 : Int32) (x2 : gI) (x3 : Int32) (x4 : Int32) (x5 : Int32) (x6 : Int32)  (S : gS) (H : Heap) (locs : List Loc) (ls : Array Slot), gis Y 9 x0 → gis Y 1 x2 → wp_LogDisk_readSegment_108 (gLn Y) K21 Q x0 x1 x2 x3 x4 x5 x6 S → gWd Y S H → va_S (gA Y s.heap.size) s.heap H locs → lv_has ls 8 [(0, .ref (gad Y x0)), (1, .int x1), (2, .ref (gad Y x2)), (3, .int x3), (4, .int x4), (5, .int x5), (6, .int x6)] → W p l e (gRm 4 91) s m args below meth c H locs 0 0 (MQ below (va_Qi Q (gB Y) (gA Y s.heap.size)) args s 0 0 (gA Y s.heap.size)) (F0 m 108 ls []) := by
  have C0 := C
  obtain ⟨hx, hb, hml, hown, hts, hr, hlocks, hK, hY, hSt⟩ := C
  intro x0 x1 x2 x3 x4 x5 x6 S H locs ls hx0 hx2 hw hP hS hl
  unfold wp_LogDisk_readSegment_108 at hw
  refine lv_iload hx hb d_LogDisk_readSegment_108 (lv_at hl 4 rfl) ?_
  refine lv_bipush (v := 8) hx hb d_LogDisk_readSegment_110 (by decide) ?_
  refine lv_iload hx hb d_LogDisk_readSegment_112 (lv_at hl 6 rfl) ?_
  refine lv_iadd hx hb d_LogDisk_readSegment_114 ?_
  refine lv_iadd hx hb d_LogDisk_readSegment_115 ?_
  refine lv_topi (fun v4_12 ev4_12 => ?_)
  replace hw := hw v4_12 ev4_12
  refine lv_istore (lv' := [(4, .int v4_12), (0, .ref (gad Y x0)), (1, .int x1), (2, .ref (gad Y x2)), (3, .int x3), (5, .int x5), (6, .int x6)]) hx hb d_LogDisk_readSegment_116 hl (by decide) rfl (fun ls hl => ?_)
  obtain ⟨v5_13, ev5_13⟩ : ∃ y : Int32, y = x5 + 1 := ⟨_, rfl⟩
  replace hw := hw v5_13 ev5_13
  refine lv_iinc (v := v5_13) (lv' := [(5, .int v5_13), (4, .int v4_12), (0, .ref (gad Y x0)), (1, .int x1), (2, .ref (gad Y x2)), (3, .int x3), (6, .int x6)]) hx hb d_LogDisk_readSegment_118 hl (k := 5) rfl (by rw [ev5_13]; rfl) (by decide) rfl (fun ls hl => ?_)
  refine lv_goto (tgt := 21) hx hb d_LogDisk_readSegment_121 (by decide) ?_
  exact hK21 x0 x1 x2 x3 v4_12 v5_13 S H locs ls hx0 hx2 hw hP hS (lv_sub hl [2, 3, 4, 5, 1, 0] rfl)
set_option maxHeartbeats 4000000 in
set_option maxRecDepth 100000 in
theorem mw_LogDisk_readSegment_21 {p : Program} {l : Launch} {e : Env} {s : State} {m : MethodId} {args : Array Value} {below : List Frame} {meth : Method} {c : Code} {Y : gY} {Q : Int32 → gS → Prop} (C : gCx p s m args meth c Y "LogDisk" c_LogDisk_readSegment 8 (Option.some Jvm.ClassFile.FieldType.int) w_LogDisk_readSegment) : ∀ (n : Nat), ∀ (x0 : gI) (x1 : Int32) (x2 : gI) (x3 : Int32) (x4 : Int32) (x5 : Int32)  (S : gS) (H : Heap) (locs : List Loc) (ls : Array Slot), gis Y 9 x0 → gis Y 1 x2 → wp_LogDisk_readSegment_21 (gLn Y) Q n x0 x1 x2 x3 x4 x5 S → gWd Y S H → va_S (gA Y s.heap.size) s.heap H locs → lv_has ls 8 [(0, .ref (gad Y x0)), (1, .int x1), (2, .ref (gad Y x2)), (3, .int x3), (4, .int x4), (5, .int x5)] → W p l e (gRm 4 91) s m args below meth c H locs 0 0 (MQ below (va_Qi Q (gB Y) (gA Y s.heap.size)) args s 0 0 (gA Y s.heap.size)) (F0 m 21 ls []) := by
  have C0 := C
  obtain ⟨hx, hb, hml, hown, hts, hr, hlocks, hK, hY, hSt⟩ := C
  intro n
  induction n with
  | zero =>
    intro x0 x1 x2 x3 x4 x5 S H locs ls hx0 hx2 hw
    exact False.elim hw
  | succ n ih =>
    intro x0 x1 x2 x3 x4 x5 S H locs ls hx0 hx2 hw hP hS hl
    unfold wp_LogDisk_readSegment_21 at hw
    refine lv_iload hx hb d_LogDisk_readSegment_21 (lv_at hl 5 rfl) ?_
    refine lv_sipush (v := 1025) hx hb d_LogDisk_readSegment_23 (by decide) ?_
    refine lv_icmp_ge (tgt := 124) hx hb d_LogDisk_readSegment_26 (by decide) (fun c5 => ?_) (fun c5 => ?_)
    · replace hw := hw.1 c5
      exact mw_LogDisk_readSegment_124 C0 x2 x3 x4 S H locs ls hx2 hw hP hS (lv_sub hl [2, 3, 4] rfl)
    · replace hw := hw.2 c5
      refine lv_aload_n hx hb d_LogDisk_readSegment_29 rfl (lv_at hl 2 rfl) ?_
      refine lv_iload hx hb d_LogDisk_readSegment_30 (lv_at hl 4 rfl) ?_
      refine g_calli (va_runV (As := [.int x4]) (rest := []) ⟨hx, hb, hml, hown, hts⟩ (k_DiskFile_wholeFrame l Y hY H.size x2 x4 hx2 S _) (cwV 1 hts (gG_V gw_336 gw_337 gw_338 gw_10 gw_339) rfl rfl rfl (by decide +kernel) ⟨Nat.le_of_ble_eq_true rfl, Nat.le_of_ble_eq_true rfl⟩) ⟨gPre_blind, g_recv hK hP hx2 (gce_DiskFile hx2.1) rfl, g_pre hK hSt hS hP hw⟩ rfl rfl hl.1 rfl (lv_room (Nat.le_of_ble_eq_true rfl)) d_LogDisk_readSegment_32 ⟨Nat.zero_le _, Nat.zero_le _⟩) hS (fun r8 S7 H locs hw hP hS => ?_)
      refine lv_istore (lv' := [(6, .int r8), (0, .ref (gad Y x0)), (1, .int x1), (2, .ref (gad Y x2)), (3, .int x3), (4, .int x4), (5, .int x5)]) hx hb d_LogDisk_readSegment_35 hl (by decide) rfl (fun ls hl => ?_)
      refine lv_iload hx hb d_LogDisk_readSegment_37 (lv_at hl 0 rfl) ?_
      refine lv_bipush (v := 17) hx hb d_LogDisk_readSegment_39 (by decide) ?_
      refine lv_icmp_ge (tgt := 47) hx hb d_LogDisk_readSegment_41 (by decide) (fun c9 => ?_) (fun c9 => ?_)
      · replace hw := hw.1 c9
        obtain ⟨v3_10, ev3_10⟩ : ∃ y : Int32, y = x3 + 1 := ⟨_, rfl⟩
        replace hw := hw v3_10 ev3_10
        refine lv_iinc (v := v3_10) (lv' := [(3, .int v3_10), (6, .int r8), (0, .ref (gad Y x0)), (1, .int x1), (2, .ref (gad Y x2)), (4, .int x4), (5, .int x5)]) hx hb d_LogDisk_readSegment_47 hl (k := 4) rfl (by rw [ev3_10]; rfl) (by decide) rfl (fun ls hl => ?_)
        refine lv_iload_n hx hb d_LogDisk_readSegment_50 rfl (lv_at hl 0 rfl) ?_
        refine lv_aload_n hx hb d_LogDisk_readSegment_51 rfl (lv_at hl 2 rfl) ?_
        refine g_get hx hb hts (fun w h => List.mem_cons_of_mem _ (in_LogDisk w h)) hown hK hP hx0 (gce_LogDisk hx0.1) rfl 6 (by decide) (hts _ (List.mem_cons_of_mem _ gw_235)) rfl d_LogDisk_readSegment_52 ?_
        refine g_get hx hb hts (fun w h => List.mem_cons_of_mem _ (in_Snapshot w h)) hown hK hP (gis_LogDisk_snapshot hY hx0) (gce_Snapshot (gis_LogDisk_snapshot hY hx0).1) rfl 1 (by decide) (hts _ (List.mem_cons_of_mem _ gw_100)) rfl d_LogDisk_readSegment_55 ?_
        refine lv_icmp_lt (tgt := 108) hx hb d_LogDisk_readSegment_58 (by decide) (fun c11 => ?_) (fun c11 => ?_)
        · replace hw := hw.1 c11
          exact mw_LogDisk_readSegment_108 C0 ih x0 x1 x2 v3_10 x4 x5 r8 S7 H locs ls hx0 hx2 hw hP hS (lv_sub hl [2, 3, 4, 0, 5, 6, 1] rfl)
        · replace hw := hw.2 c11
          refine lv_aload_n hx hb d_LogDisk_readSegment_61 rfl (lv_at hl 4 rfl) ?_
          refine lv_iload hx hb d_LogDisk_readSegment_62 (lv_at hl 5 rfl) ?_
          refine lv_bipush (v := 8) hx hb d_LogDisk_readSegment_64 (by decide) ?_
          refine lv_iadd hx hb d_LogDisk_readSegment_66 ?_
          refine lv_bipush (v := 8) hx hb d_LogDisk_readSegment_67 (by decide) ?_
          refine lv_iadd hx hb d_LogDisk_readSegment_69 ?_
          refine lv_bipush (v := 8) hx hb d_LogDisk_readSegment_70 (by decide) ?_
          refine g_calll (va_runV (As := [.int ((x4 + 8) + 8), .int 8]) (rest := []) ⟨hx, hb, hml, hown, hts⟩ (k_DiskFile_number l Y hY H.size x2 ((x4 + 8) + 8) 8 hx2 S7 _) (cwV 2 hts (gG_V gw_353 gw_341 gw_342 gw_10 gw_343) rfl rfl rfl (by decide +kernel) ⟨Nat.le_of_ble_eq_true rfl, Nat.le_of_ble_eq_true rfl⟩) ⟨gPre_blind, g_recv hK hP hx2 (gce_DiskFile hx2.1) rfl, g_pre hK hSt hS hP hw⟩ rfl rfl hl.1 rfl (lv_room (Nat.le_of_ble_eq_true rfl)) d_LogDisk_readSegment_72 ⟨Nat.zero_le _, Nat.zero_le _⟩) hS (fun r15 S14 H locs hw hP hS => ?_)
          refine lv_l2i hx hb d_LogDisk_readSegment_75 rfl ?_
          refine lv_topi (fun v7_16 ev7_16 => ?_)
          replace hw := hw v7_16 ev7_16
          refine lv_istore (lv' := [(7, .int v7_16), (3, .int v3_10), (6, .int r8), (0, .ref (gad Y x0)), (1, .int x1), (2, .ref (gad Y x2)), (4, .int x4), (5, .int x5)]) hx hb d_LogDisk_readSegment_76 hl (by decide) rfl (fun ls hl => ?_)
          refine lv_aload_n hx hb d_LogDisk_readSegment_78 rfl (lv_at hl 3 rfl) ?_
          refine g_get hx hb hts (fun w h => List.mem_cons_of_mem _ (in_LogDisk w h)) hown hK hP hx0 (gce_LogDisk hx0.1) rfl 8 (by decide) (hts _ (List.mem_cons_of_mem _ gw_237)) rfl d_LogDisk_readSegment_79 ?_
          refine lv_iload_n hx hb d_LogDisk_readSegment_82 rfl (lv_at hl 1 rfl) ?_
          refine lv_iload_n hx hb d_LogDisk_readSegment_83 rfl (lv_at hl 4 rfl) ?_
          refine lv_iload hx hb d_LogDisk_readSegment_84 (lv_at hl 6 rfl) ?_
          refine lv_iload hx hb d_LogDisk_readSegment_86 (lv_at hl 0 rfl) ?_
          refine lv_aload_n hx hb d_LogDisk_readSegment_88 rfl (lv_at hl 5 rfl) ?_
          refine lv_iload hx hb d_LogDisk_readSegment_89 (lv_at hl 6 rfl) ?_
          refine lv_bipush (v := 8) hx hb d_LogDisk_readSegment_91 (by decide) ?_
          refine lv_iadd hx hb d_LogDisk_readSegment_93 ?_
          refine lv_bipush (v := 16) hx hb d_LogDisk_readSegment_94 (by decide) ?_
          refine lv_iadd hx hb d_LogDisk_readSegment_96 ?_
          refine g_calli (va_runV (As := [.int ((x4 + 8) + 16)]) (rest := [.int v7_16, .int x4, .int x1, .int v3_10, .ref (gad Y (grf x0 8))]) ⟨hx, hb, hml, hown, hts⟩ (k_DiskFile_read l Y hY H.size x2 ((x4 + 8) + 16) hx2 S14 _) (cwV 1 hts (gG_V gw_380 gw_345 gw_346 gw_10 gw_347) rfl rfl rfl (by decide +kernel) ⟨Nat.le_of_ble_eq_true rfl, Nat.le_of_ble_eq_true rfl⟩) ⟨gPre_blind, g_recv hK hP hx2 (gce_DiskFile hx2.1) rfl, g_pre hK hSt hS hP hw⟩ rfl rfl hl.1 rfl (lv_room (Nat.le_of_ble_eq_true rfl)) d_LogDisk_readSegment_97 ⟨Nat.zero_le _, Nat.zero_le _⟩) hS (fun r18 S17 H locs hw hP hS => ?_)
          refine lv_iload hx hb d_LogDisk_readSegment_100 (lv_at hl 2 rfl) ?_
          refine lv_bipush (v := 17) hx hb d_LogDisk_readSegment_102 (by decide) ?_
          refine lv_isub hx hb d_LogDisk_readSegment_104 ?_
          refine g_callv (va_runV (As := [.int v3_10, .int x1, .int x4, .int v7_16, .int r18, .int (r8 - 17)]) (rest := []) ⟨hx, hb, hml, hown, hts⟩ (k_Entries_set l Y hY H.size (grf x0 8) v3_10 x1 x4 v7_16 r18 (r8 - 17) (gis_LogDisk_entries hY hx0) S17 _) (cwV 6 hts (gG_V gw_381 gw_382 gw_383 gw_7 gw_384) rfl rfl rfl (by decide +kernel) ⟨Nat.le_of_ble_eq_true rfl, Nat.le_of_ble_eq_true rfl⟩) ⟨gPre_blind, g_recv hK hP (gis_LogDisk_entries hY hx0) (gce_Entries (gis_LogDisk_entries hY hx0).1) rfl, g_pre hK hSt hS hP hw⟩ rfl rfl hl.1 rfl (lv_room (Nat.le_of_ble_eq_true rfl)) d_LogDisk_readSegment_105 ⟨Nat.zero_le _, Nat.zero_le _⟩) hS (fun S19 H locs hw hP hS => ?_)
          exact mw_LogDisk_readSegment_108 C0 ih x0 x1 x2 v3_10 x4 x5 r8 S19 H locs ls hx0 hx2 hw hP hS (lv_sub hl [3, 4, 5, 1, 6, 7, 2] rfl)
      · replace hw := hw.2 c9
        refine lv_goto (tgt := 124) hx hb d_LogDisk_readSegment_44 (by decide) ?_
        exact mw_LogDisk_readSegment_124 C0 x2 x3 x4 S7 H locs ls hx2 hw hP hS (lv_sub hl [3, 4, 5] rfl)
set_option maxHeartbeats 4000000 in
set_option maxRecDepth 100000 in
theorem mw_LogDisk_readSegment {p : Program} {l : Launch} {e : Env} {s : State} {m : MethodId} {args : Array Value} {below : List Frame} {meth : Method} {c : Code} {Y : gY} {Q : Int32 → gS → Prop} (C : gCx p s m args meth c Y "LogDisk" c_LogDisk_readSegment 8 (Option.some Jvm.ClassFile.FieldType.int) w_LogDisk_readSegment) : ∀ (x0 : gI) (x1 : Int32)  (S : gS) (H : Heap) (locs : List Loc) (ls : Array Slot), gis Y 9 x0 → wp_LogDisk_readSegment (gLn Y) Q x0 x1 S → gWd Y S H → va_S (gA Y s.heap.size) s.heap H locs → lv_has ls 8 [(0, .ref (gad Y x0)), (1, .int x1)] → W p l e (gRm 4 91) s m args below meth c H locs 0 0 (MQ below (va_Qi Q (gB Y) (gA Y s.heap.size)) args s 0 0 (gA Y s.heap.size)) (F0 m 0 ls []) := by
  have C0 := C
  obtain ⟨hx, hb, hml, hown, hts, hr, hlocks, hK, hY, hSt⟩ := C
  intro x0 x1 S H locs ls hx0 hw hP hS hl
  unfold wp_LogDisk_readSegment at hw
  refine lv_aload_n hx hb d_LogDisk_readSegment_0 rfl (lv_at hl 0 rfl) ?_
  refine g_get hx hb hts (fun w h => List.mem_cons_of_mem _ (in_LogDisk w h)) hown hK hP hx0 (gce_LogDisk hx0.1) rfl 1 (by decide) (hts _ (List.mem_cons_of_mem _ gw_230)) rfl d_LogDisk_readSegment_1 ?_
  refine lv_iload_n hx hb d_LogDisk_readSegment_4 rfl (lv_at hl 1 rfl) ?_
  obtain ⟨hin, hw⟩ := hw
  refine g_aaload hx hb hK hP (gis_LogDisk_files hY hx0) hin d_LogDisk_readSegment_5 ?_
  have hin1 := hin
  refine lv_astore_n (lv' := [(2, .ref (gad Y (grf (grf x0 1) x1.toNatClampNeg))), (0, .ref (gad Y x0)), (1, .int x1)]) hx hb d_LogDisk_readSegment_6 rfl hl (by decide) rfl (fun ls hl => ?_)
  refine lv_aload_n hx hb d_LogDisk_readSegment_7 rfl (lv_at hl 0 rfl) ?_
  refine g_calli (va_runV (As := []) (rest := []) ⟨hx, hb, hml, hown, hts⟩ (k_DiskFile_segmentFirst l Y hY H.size (grf (grf x0 1) x1.toNatClampNeg) (gis_elem_DiskFile hY (gis_LogDisk_files hY hx0) hin1) S _) (cwV 0 hts (gG_V gw_371 gw_372 gw_373 gw_10 gw_374) rfl rfl rfl (by decide +kernel) ⟨Nat.le_of_ble_eq_true rfl, Nat.le_of_ble_eq_true rfl⟩) ⟨gPre_blind, g_recv hK hP (gis_elem_DiskFile hY (gis_LogDisk_files hY hx0) hin1) (gce_DiskFile (gis_elem_DiskFile hY (gis_LogDisk_files hY hx0) hin1).1) rfl, g_pre hK hSt hS hP hw⟩ rfl rfl hl.1 rfl (lv_room (Nat.le_of_ble_eq_true rfl)) d_LogDisk_readSegment_8 ⟨Nat.zero_le _, Nat.zero_le _⟩) hS (fun r3 S2 H locs hw hP hS => ?_)
  refine lv_iconst (v := 1) hx hb d_LogDisk_readSegment_11 (by decide) ?_
  refine lv_isub hx hb d_LogDisk_readSegment_12 ?_
  refine lv_topi (fun v3_4 ev3_4 => ?_)
  replace hw := hw v3_4 ev3_4
  refine lv_istore_n (lv' := [(3, .int v3_4), (2, .ref (gad Y (grf (grf x0 1) x1.toNatClampNeg))), (0, .ref (gad Y x0)), (1, .int x1)]) hx hb d_LogDisk_readSegment_13 rfl hl (by decide) rfl (fun ls hl => ?_)
  refine lv_bipush (v := 24) hx hb d_LogDisk_readSegment_14 (by decide) ?_
  refine lv_istore (lv' := [(4, .int 24), (3, .int v3_4), (2, .ref (gad Y (grf (grf x0 1) x1.toNatClampNeg))), (0, .ref (gad Y x0)), (1, .int x1)]) hx hb d_LogDisk_readSegment_16 hl (by decide) rfl (fun ls hl => ?_)
  refine lv_iconst (v := 0) hx hb d_LogDisk_readSegment_18 (by decide) ?_
  refine lv_istore (lv' := [(5, .int 0), (4, .int 24), (3, .int v3_4), (2, .ref (gad Y (grf (grf x0 1) x1.toNatClampNeg))), (0, .ref (gad Y x0)), (1, .int x1)]) hx hb d_LogDisk_readSegment_19 hl (by decide) rfl (fun ls hl => ?_)
  obtain ⟨n, hw⟩ := hw
  exact mw_LogDisk_readSegment_21 C0 n x0 x1 (grf (grf x0 1) x1.toNatClampNeg) v3_4 24 0 S2 H locs ls hx0 (gis_elem_DiskFile hY (gis_LogDisk_files hY hx0) hin1) hw hP hS (lv_sub hl [4, 5, 3, 2, 1, 0] rfl)
set_option maxHeartbeats 4000000 in
set_option maxRecDepth 100000 in
theorem k_LogDisk_readSegment (l : Launch) (Y : gY) (hY : gOK Y) (sz : Nat) (x0 : gI) (x1 : Int32)  (hx0 : gis Y 9 x0) (S : gS) (Q : Int32 → gS → Prop) : Met l y_LogDisk_readSegment w_LogDisk_readSegment (gRm 4 91) (gPre Y [.ref (gad Y x0), .int x1] S sz (wp_LogDisk_readSegment (gLn Y) Q x0 x1 S)) (va_Qi Q (gB Y) (gA Y sz)) 0 0 (gA Y sz) := by
  refine Met.ofW (cc := c_LogDisk_readSegment) (maxL := 8) (ret := (Option.some Jvm.ClassFile.FieldType.int)) (by decide) rfl ?_
  intro p e s m args below meth c s₁ B hml hv
  obtain ⟨rfl, hsz, hP, hK, hSt, hw⟩ := hv
  subst hsz
  have hts := atoms_spec (ws := w_LogDisk_readSegment) B.pre
  have hl := lv_entry ([.ref (gad Y x0), .int x1]) (n := 8) (Nat.le_of_ble_eq_true rfl)
  rw [lg_entry_eq]
  generalize (lg_sl ([.ref (gad Y x0), .int x1]) ++ List.replicate (8 - (lg_sl ([.ref (gad Y x0), .int x1])).length) Slot.unset).toArray = ls at hl ⊢
  exact mw_LogDisk_readSegment ⟨B.exec, B.bytes, hml, findClass_of_methodNamed B.named, hts, B.returns, B.notSynchronized, hK, hY, hSt⟩ x0 x1 S s.heap [] ls hx0 hw hP va_S.rf hl

def wp_LogDisk_holdsBase (Ln : gI → Nat) (Q : Int32 → gS → Prop) (x0 : gI) (x1 : Int32) (x2 : Int32)  (S : gS) : Prop :=
  vp_in x1 (Ln (grf x0 1)) ∧ (wp_DiskFile_segmentFirst Ln (fun r3 S2 => ((¬ r3 = ((S2.1 (grf x0 6) 1) + 1)) → (((x2 < (S2.1 (grf x0 6) 1)) → (Q 0 S2)) ∧ ((¬ x2 < (S2.1 (grf x0 6) 1)) → (wp_Entries_slot Ln (fun r7 S6 => vp_in r7 (Ln (grf (grf x0 8) 2)) ∧ (((¬ (S6.1 (grf (grf x0 8) 2) r7.toNatClampNeg) = (S6.1 (grf x0 6) 2)) → (Q 0 S6)) ∧ (((S6.1 (grf (grf x0 8) 2) r7.toNatClampNeg) = (S6.1 (grf x0 6) 2)) → (Q 1 S6)))) (grf x0 8) (S2.1 (grf x0 6) 1) S2)))) ∧ ((r3 = ((S2.1 (grf x0 6) 1) + 1)) → (vp_in x1 (Ln (grf x0 1)) ∧ (wp_DiskFile_termBefore Ln (fun r11 S10 => ((¬ r11 = (S10.1 (grf x0 6) 2)) → (Q 0 S10)) ∧ ((r11 = (S10.1 (grf x0 6) 2)) → (Q 1 S10))) (grf (grf x0 1) x1.toNatClampNeg) S2)))) (grf (grf x0 1) x1.toNatClampNeg) S)
set_option maxHeartbeats 4000000 in
set_option maxRecDepth 100000 in
theorem mw_LogDisk_holdsBase {p : Program} {l : Launch} {e : Env} {s : State} {m : MethodId} {args : Array Value} {below : List Frame} {meth : Method} {c : Code} {Y : gY} {Q : Int32 → gS → Prop} (C : gCx p s m args meth c Y "LogDisk" c_LogDisk_holdsBase 3 (Option.some Jvm.ClassFile.FieldType.boolean) w_LogDisk_holdsBase) : ∀ (x0 : gI) (x1 : Int32) (x2 : Int32)  (S : gS) (H : Heap) (locs : List Loc) (ls : Array Slot), gis Y 9 x0 → wp_LogDisk_holdsBase (gLn Y) Q x0 x1 x2 S → gWd Y S H → va_S (gA Y s.heap.size) s.heap H locs → lv_has ls 3 [(0, .ref (gad Y x0)), (1, .int x1), (2, .int x2)] → W p l e (gRm 4 91) s m args below meth c H locs 0 0 (MQ below (va_Qi Q (gB Y) (gA Y s.heap.size)) args s 0 0 (gA Y s.heap.size)) (F0 m 0 ls []) := by
  have C0 := C
  obtain ⟨hx, hb, hml, hown, hts, hr, hlocks, hK, hY, hSt⟩ := C
  intro x0 x1 x2 S H locs ls hx0 hw hP hS hl
  unfold wp_LogDisk_holdsBase at hw
  refine lv_aload_n hx hb d_LogDisk_holdsBase_0 rfl (lv_at hl 0 rfl) ?_
  refine g_get hx hb hts (fun w h => List.mem_cons_of_mem _ (in_LogDisk w h)) hown hK hP hx0 (gce_LogDisk hx0.1) rfl 1 (by decide) (hts _ (List.mem_cons_of_mem _ gw_230)) rfl d_LogDisk_holdsBase_1 ?_
  refine lv_iload_n hx hb d_LogDisk_holdsBase_4 rfl (lv_at hl 1 rfl) ?_
  obtain ⟨hin, hw⟩ := hw
  refine g_aaload hx hb hK hP (gis_LogDisk_files hY hx0) hin d_LogDisk_holdsBase_5 ?_
  have hin1 := hin
  refine g_calli (va_runV (As := []) (rest := []) ⟨hx, hb, hml, hown, hts⟩ (k_DiskFile_segmentFirst l Y hY H.size (grf (grf x0 1) x1.toNatClampNeg) (gis_elem_DiskFile hY (gis_LogDisk_files hY hx0) hin1) S _) (cwV 0 hts (gG_V gw_371 gw_372 gw_373 gw_10 gw_374) rfl rfl rfl (by decide +kernel) ⟨Nat.le_of_ble_eq_true rfl, Nat.le_of_ble_eq_true rfl⟩) ⟨gPre_blind, g_recv hK hP (gis_elem_DiskFile hY (gis_LogDisk_files hY hx0) hin1) (gce_DiskFile (gis_elem_DiskFile hY (gis_LogDisk_files hY hx0) hin1).1) rfl, g_pre hK hSt hS hP hw⟩ rfl rfl hl.1 rfl (lv_room (Nat.le_of_ble_eq_true rfl)) d_LogDisk_holdsBase_6 ⟨Nat.zero_le _, Nat.zero_le _⟩) hS (fun r3 S2 H locs hw hP hS => ?_)
  refine lv_aload_n hx hb d_LogDisk_holdsBase_9 rfl (lv_at hl 0 rfl) ?_
  refine g_get hx hb hts (fun w h => List.mem_cons_of_mem _ (in_LogDisk w h)) hown hK hP hx0 (gce_LogDisk hx0.1) rfl 6 (by decide) (hts _ (List.mem_cons_of_mem _ gw_235)) rfl d_LogDisk_holdsBase_10 ?_
  refine g_get hx hb hts (fun w h => List.mem_cons_of_mem _ (in_Snapshot w h)) hown hK hP (gis_LogDisk_snapshot hY hx0) (gce_Snapshot (gis_LogDisk_snapshot hY hx0).1) rfl 1 (by decide) (hts _ (List.mem_cons_of_mem _ gw_100)) rfl d_LogDisk_holdsBase_13 ?_
  refine lv_iconst (v := 1) hx hb d_LogDisk_holdsBase_16 (by decide) ?_
  refine lv_iadd hx hb d_LogDisk_holdsBase_17 ?_
  refine lv_icmp_ne (tgt := 46) hx hb d_LogDisk_holdsBase_18 (by decide) (fun c4 => ?_) (fun c4 => ?_)
  · replace hw := hw.1 c4
    refine lv_iload_n hx hb d_LogDisk_holdsBase_46 rfl (lv_at hl 2 rfl) ?_
    refine lv_aload_n hx hb d_LogDisk_holdsBase_47 rfl (lv_at hl 0 rfl) ?_
    refine g_get hx hb hts (fun w h => List.mem_cons_of_mem _ (in_LogDisk w h)) hown hK hP hx0 (gce_LogDisk hx0.1) rfl 6 (by decide) (hts _ (List.mem_cons_of_mem _ gw_235)) rfl d_LogDisk_holdsBase_48 ?_
    refine g_get hx hb hts (fun w h => List.mem_cons_of_mem _ (in_Snapshot w h)) hown hK hP (gis_LogDisk_snapshot hY hx0) (gce_Snapshot (gis_LogDisk_snapshot hY hx0).1) rfl 1 (by decide) (hts _ (List.mem_cons_of_mem _ gw_100)) rfl d_LogDisk_holdsBase_51 ?_
    refine lv_icmp_lt (tgt := 93) hx hb d_LogDisk_holdsBase_54 (by decide) (fun c5 => ?_) (fun c5 => ?_)
    · replace hw := hw.1 c5
      refine lv_iconst (v := 0) hx hb d_LogDisk_holdsBase_93 (by decide) ?_
      exact W.zret (v := 0) hx hb hr rfl (fun t ht hW => ⟨⟨0, S2, rfl, hw, by rw [ht]; exact hP, va_K.moved hW.alike hK⟩, hS.F ht⟩) hS.2.2 d_LogDisk_holdsBase_94
    · replace hw := hw.2 c5
      refine lv_aload_n hx hb d_LogDisk_holdsBase_57 rfl (lv_at hl 0 rfl) ?_
      refine g_get hx hb hts (fun w h => List.mem_cons_of_mem _ (in_LogDisk w h)) hown hK hP hx0 (gce_LogDisk hx0.1) rfl 8 (by decide) (hts _ (List.mem_cons_of_mem _ gw_237)) rfl d_LogDisk_holdsBase_58 ?_
      refine g_get hx hb hts (fun w h => List.mem_cons_of_mem _ (in_Entries w h)) hown hK hP (gis_LogDisk_entries hY hx0) (gce_Entries (gis_LogDisk_entries hY hx0).1) rfl 2 (by decide) (hts _ (List.mem_cons_of_mem _ gw_144)) rfl d_LogDisk_holdsBase_61 ?_
      refine lv_aload_n hx hb d_LogDisk_holdsBase_64 rfl (lv_at hl 0 rfl) ?_
      refine g_get hx hb hts (fun w h => List.mem_cons_of_mem _ (in_LogDisk w h)) hown hK hP hx0 (gce_LogDisk hx0.1) rfl 8 (by decide) (hts _ (List.mem_cons_of_mem _ gw_237)) rfl d_LogDisk_holdsBase_65 ?_
      refine lv_aload_n hx hb d_LogDisk_holdsBase_68 rfl (lv_at hl 0 rfl) ?_
      refine g_get hx hb hts (fun w h => List.mem_cons_of_mem _ (in_LogDisk w h)) hown hK hP hx0 (gce_LogDisk hx0.1) rfl 6 (by decide) (hts _ (List.mem_cons_of_mem _ gw_235)) rfl d_LogDisk_holdsBase_69 ?_
      refine g_get hx hb hts (fun w h => List.mem_cons_of_mem _ (in_Snapshot w h)) hown hK hP (gis_LogDisk_snapshot hY hx0) (gce_Snapshot (gis_LogDisk_snapshot hY hx0).1) rfl 1 (by decide) (hts _ (List.mem_cons_of_mem _ gw_100)) rfl d_LogDisk_holdsBase_72 ?_
      refine g_calli (va_runV (As := [.int (S2.1 (grf x0 6) 1)]) (rest := [.ref (gad Y (grf (grf x0 8) 2))]) ⟨hx, hb, hml, hown, hts⟩ (k_Entries_slot l Y hY H.size (grf x0 8) (S2.1 (grf x0 6) 1) (gis_LogDisk_entries hY hx0) S2 _) (cwV 1 hts (gG_V gw_401 gw_386 gw_387 gw_7 gw_388) rfl rfl rfl (by decide +kernel) ⟨Nat.le_of_ble_eq_true rfl, Nat.le_of_ble_eq_true rfl⟩) ⟨gPre_blind, g_recv hK hP (gis_LogDisk_entries hY hx0) (gce_Entries (gis_LogDisk_entries hY hx0).1) rfl, g_pre hK hSt hS hP hw⟩ rfl rfl hl.1 rfl (lv_room (Nat.le_of_ble_eq_true rfl)) d_LogDisk_holdsBase_75 ⟨Nat.zero_le _, Nat.zero_le _⟩) hS (fun r7 S6 H locs hw hP hS => ?_)
      obtain ⟨hin, hw⟩ := hw
      refine g_iaload hx hb hK hP (gis_Entries_term hY (gis_LogDisk_entries hY hx0)) hin d_LogDisk_holdsBase_78 ?_
      refine lv_aload_n hx hb d_LogDisk_holdsBase_79 rfl (lv_at hl 0 rfl) ?_
      refine g_get hx hb hts (fun w h => List.mem_cons_of_mem _ (in_LogDisk w h)) hown hK hP hx0 (gce_LogDisk hx0.1) rfl 6 (by decide) (hts _ (List.mem_cons_of_mem _ gw_235)) rfl d_LogDisk_holdsBase_80 ?_
      refine g_get hx hb hts (fun w h => List.mem_cons_of_mem _ (in_Snapshot w h)) hown hK hP (gis_LogDisk_snapshot hY hx0) (gce_Snapshot (gis_LogDisk_snapshot hY hx0).1) rfl 2 (by decide) (hts _ (List.mem_cons_of_mem _ gw_102)) rfl d_LogDisk_holdsBase_83 ?_
      refine lv_icmp_ne (tgt := 93) hx hb d_LogDisk_holdsBase_86 (by decide) (fun c8 => ?_) (fun c8 => ?_)
      · replace hw := hw.1 c8
        refine lv_iconst (v := 0) hx hb d_LogDisk_holdsBase_93 (by decide) ?_
        exact W.zret (v := 0) hx hb hr rfl (fun t ht hW => ⟨⟨0, S6, rfl, hw, by rw [ht]; exact hP, va_K.moved hW.alike hK⟩, hS.F ht⟩) hS.2.2 d_LogDisk_holdsBase_94
      · replace hw := hw.2 c8
        refine lv_iconst (v := 1) hx hb d_LogDisk_holdsBase_89 (by decide) ?_
        refine lv_goto (tgt := 94) hx hb d_LogDisk_holdsBase_90 (by decide) ?_
        exact W.zret (v := 1) hx hb hr rfl (fun t ht hW => ⟨⟨1, S6, rfl, hw, by rw [ht]; exact hP, va_K.moved hW.alike hK⟩, hS.F ht⟩) hS.2.2 d_LogDisk_holdsBase_94
  · replace hw := hw.2 c4
    refine lv_aload_n hx hb d_LogDisk_holdsBase_21 rfl (lv_at hl 0 rfl) ?_
    refine g_get hx hb hts (fun w h => List.mem_cons_of_mem _ (in_LogDisk w h)) hown hK hP hx0 (gce_LogDisk hx0.1) rfl 1 (by decide) (hts _ (List.mem_cons_of_mem _ gw_230)) rfl d_LogDisk_holdsBase_22 ?_
    refine lv_iload_n hx hb d_LogDisk_holdsBase_25 rfl (lv_at hl 1 rfl) ?_
    obtain ⟨hin, hw⟩ := hw
    refine g_aaload hx hb hK hP (gis_LogDisk_files hY hx0) hin d_LogDisk_holdsBase_26 ?_
    have hin9 := hin
    refine g_calli (va_runV (As := []) (rest := []) ⟨hx, hb, hml, hown, hts⟩ (k_DiskFile_termBefore l Y hY H.size (grf (grf x0 1) x1.toNatClampNeg) (gis_elem_DiskFile hY (gis_LogDisk_files hY hx0) hin9) S2 _) (cwV 0 hts (gG_V gw_397 gw_398 gw_399 gw_10 gw_400) rfl rfl rfl (by decide +kernel) ⟨Nat.le_of_ble_eq_true rfl, Nat.le_of_ble_eq_true rfl⟩) ⟨gPre_blind, g_recv hK hP (gis_elem_DiskFile hY (gis_LogDisk_files hY hx0) hin9) (gce_DiskFile (gis_elem_DiskFile hY (gis_LogDisk_files hY hx0) hin9).1) rfl, g_pre hK hSt hS hP hw⟩ rfl rfl hl.1 rfl (lv_room (Nat.le_of_ble_eq_true rfl)) d_LogDisk_holdsBase_27 ⟨Nat.zero_le _, Nat.zero_le _⟩) hS (fun r11 S10 H locs hw hP hS => ?_)
    refine lv_aload_n hx hb d_LogDisk_holdsBase_30 rfl (lv_at hl 0 rfl) ?_
    refine g_get hx hb hts (fun w h => List.mem_cons_of_mem _ (in_LogDisk w h)) hown hK hP hx0 (gce_LogDisk hx0.1) rfl 6 (by decide) (hts _ (List.mem_cons_of_mem _ gw_235)) rfl d_LogDisk_holdsBase_31 ?_
    refine g_get hx hb hts (fun w h => List.mem_cons_of_mem _ (in_Snapshot w h)) hown hK hP (gis_LogDisk_snapshot hY hx0) (gce_Snapshot (gis_LogDisk_snapshot hY hx0).1) rfl 2 (by decide) (hts _ (List.mem_cons_of_mem _ gw_102)) rfl d_LogDisk_holdsBase_34 ?_
    refine lv_icmp_ne (tgt := 44) hx hb d_LogDisk_holdsBase_37 (by decide) (fun c12 => ?_) (fun c12 => ?_)
    · replace hw := hw.1 c12
      refine lv_iconst (v := 0) hx hb d_LogDisk_holdsBase_44 (by decide) ?_
      exact W.zret (v := 0) hx hb hr rfl (fun t ht hW => ⟨⟨0, S10, rfl, hw, by rw [ht]; exact hP, va_K.moved hW.alike hK⟩, hS.F ht⟩) hS.2.2 d_LogDisk_holdsBase_45
    · replace hw := hw.2 c12
      refine lv_iconst (v := 1) hx hb d_LogDisk_holdsBase_40 (by decide) ?_
      refine lv_goto (tgt := 45) hx hb d_LogDisk_holdsBase_41 (by decide) ?_
      exact W.zret (v := 1) hx hb hr rfl (fun t ht hW => ⟨⟨1, S10, rfl, hw, by rw [ht]; exact hP, va_K.moved hW.alike hK⟩, hS.F ht⟩) hS.2.2 d_LogDisk_holdsBase_45
set_option maxHeartbeats 4000000 in
set_option maxRecDepth 100000 in
theorem k_LogDisk_holdsBase (l : Launch) (Y : gY) (hY : gOK Y) (sz : Nat) (x0 : gI) (x1 : Int32) (x2 : Int32)  (hx0 : gis Y 9 x0) (S : gS) (Q : Int32 → gS → Prop) : Met l y_LogDisk_holdsBase w_LogDisk_holdsBase (gRm 4 91) (gPre Y [.ref (gad Y x0), .int x1, .int x2] S sz (wp_LogDisk_holdsBase (gLn Y) Q x0 x1 x2 S)) (va_Qi Q (gB Y) (gA Y sz)) 0 0 (gA Y sz) := by
  refine Met.ofW (cc := c_LogDisk_holdsBase) (maxL := 3) (ret := (Option.some Jvm.ClassFile.FieldType.boolean)) (by decide) rfl ?_
  intro p e s m args below meth c s₁ B hml hv
  obtain ⟨rfl, hsz, hP, hK, hSt, hw⟩ := hv
  subst hsz
  have hts := atoms_spec (ws := w_LogDisk_holdsBase) B.pre
  have hl := lv_entry ([.ref (gad Y x0), .int x1, .int x2]) (n := 3) (Nat.le_of_ble_eq_true rfl)
  rw [lg_entry_eq]
  generalize (lg_sl ([.ref (gad Y x0), .int x1, .int x2]) ++ List.replicate (3 - (lg_sl ([.ref (gad Y x0), .int x1, .int x2])).length) Slot.unset).toArray = ls at hl ⊢
  exact mw_LogDisk_holdsBase ⟨B.exec, B.bytes, hml, findClass_of_methodNamed B.named, hts, B.returns, B.notSynchronized, hK, hY, hSt⟩ x0 x1 x2 S s.heap [] ls hx0 hw hP va_S.rf hl

def wp_LogDisk_segmentBehind_38 (Ln : gI → Nat) (K2 : gI → Int32 → Int32 → Int32 → gS → Prop) (Q : Int32 → gS → Prop) (x0 : gI) (x1 : Int32) (x2 : Int32) (x3 : Int32)  (S : gS) : Prop :=
  ∀ v3_6 : Int32, v3_6 = x3 + 1 → (K2 x0 x1 x2 v3_6 S)
def wp_LogDisk_segmentBehind_2 (Ln : gI → Nat) (Q : Int32 → gS → Prop) : Nat → gI → Int32 → Int32 → Int32 → gS → Prop
  | 0, _, _, _, _, _ => False
  | n2 + 1, x0, x1, x2, x3, S => ((16 ≤ x3) → (Q (-1 : Int32) S)) ∧ ((¬ 16 ≤ x3) → (vp_in x3 (Ln (grf x0 1)) ∧ (wp_DiskFile_segmentFirst Ln (fun r4 S3 => ((¬ r4 = (x1 + 1)) → (wp_LogDisk_segmentBehind_38 Ln (fun z0 z1 z2 z3 zS => wp_LogDisk_segmentBehind_2 Ln Q n2 z0 z1 z2 z3 zS) Q x0 x1 x2 x3 S3)) ∧ ((r4 = (x1 + 1)) → (vp_in x3 (Ln (grf x0 1)) ∧ (wp_DiskFile_termBefore Ln (fun r9 S8 => ((¬ r9 = x2) → (wp_LogDisk_segmentBehind_38 Ln (fun z0 z1 z2 z3 zS => wp_LogDisk_segmentBehind_2 Ln Q n2 z0 z1 z2 z3 zS) Q x0 x1 x2 x3 S8)) ∧ ((r9 = x2) → (Q x3 S8))) (grf (grf x0 1) x3.toNatClampNeg) S3)))) (grf (grf x0 1) x3.toNatClampNeg) S)))
def wp_LogDisk_segmentBehind (Ln : gI → Nat) (Q : Int32 → gS → Prop) (x0 : gI) (x1 : Int32) (x2 : Int32)  (S : gS) : Prop :=
  ∃ n2 : Nat, wp_LogDisk_segmentBehind_2 Ln Q n2 x0 x1 x2 4 S
set_option maxHeartbeats 4000000 in
set_option maxRecDepth 100000 in
theorem mw_LogDisk_segmentBehind_38 {p : Program} {l : Launch} {e : Env} {s : State} {m : MethodId} {args : Array Value} {below : List Frame} {meth : Method} {c : Code} {Y : gY} {Q : Int32 → gS → Prop} {K2 : gI → Int32 → Int32 → Int32 → gS → Prop} (C : gCx p s m args meth c Y "LogDisk" c_LogDisk_segmentBehind 4 (Option.some Jvm.ClassFile.FieldType.int) w_LogDisk_segmentBehind) (hK2 : ∀ (x0 : gI) (x1 : Int32) (x2 : Int32) (x3 : Int32)  (S : gS) (H : Heap) (locs : List Loc) (ls : Array Slot), gis Y 9 x0 → K2 x0 x1 x2 x3 S → gWd Y S H → va_S (gA Y s.heap.size) s.heap H locs → lv_has ls 4 [(0, .ref (gad Y x0)), (1, .int x1), (2, .int x2), (3, .int x3)] → W p l e (gRm 4 91) s m args below meth c H locs 0 0 (MQ below (va_Qi Q (gB Y) (gA Y s.heap.size)) args s 0 0 (gA Y s.heap.size)) (F0 m 2 ls [])) : ∀ (x0 : gI) (x1 : Int32) (x2 : Int32) (x3 : Int32)  (S : gS) (H : Heap) (locs : List Loc) (ls : Array Slot), gis Y 9 x0 → wp_LogDisk_segmentBehind_38 (gLn Y) K2 Q x0 x1 x2 x3 S → gWd Y S H → va_S (gA Y s.heap.size) s.heap H locs → lv_has ls 4 [(0, .ref (gad Y x0)), (1, .int x1), (2, .int x2), (3, .int x3)] → W p l e (gRm 4 91) s m args below meth c H locs 0 0 (MQ below (va_Qi Q (gB Y) (gA Y s.heap.size)) args s 0 0 (gA Y s.heap.size)) (F0 m 38 ls []) := by
  have C0 := C
  obtain ⟨hx, hb, hml, hown, hts, hr, hlocks, hK, hY, hSt⟩ := C
  intro x0 x1 x2 x3 S H locs ls hx0 hw hP hS hl
  unfold wp_LogDisk_segmentBehind_38 at hw
  obtain ⟨v3_6, ev3_6⟩ : ∃ y : Int32, y = x3 + 1 := ⟨_, rfl⟩
  replace hw := hw v3_6 ev3_6
  refine lv_iinc (v := v3_6) (lv' := [(3, .int v3_6), (0, .ref (gad Y x0)), (1, .int x1), (2, .int x2)]) hx hb d_LogDisk_segmentBehind_38 hl (k := 3) rfl (by rw [ev3_6]; rfl) (by decide) rfl (fun ls hl => ?_)
  refine lv_goto (tgt := 2) hx hb d_LogDisk_segmentBehind_41 (by decide) ?_
  exact hK2 x0 x1 x2 v3_6 S H locs ls hx0 hw hP hS (lv_sub hl [1, 2, 3, 0] rfl)
set_option maxHeartbeats 4000000 in
set_option maxRecDepth 100000 in
theorem mw_LogDisk_segmentBehind_2 {p : Program} {l : Launch} {e : Env} {s : State} {m : MethodId} {args : Array Value} {below : List Frame} {meth : Method} {c : Code} {Y : gY} {Q : Int32 → gS → Prop} (C : gCx p s m args meth c Y "LogDisk" c_LogDisk_segmentBehind 4 (Option.some Jvm.ClassFile.FieldType.int) w_LogDisk_segmentBehind) : ∀ (n : Nat), ∀ (x0 : gI) (x1 : Int32) (x2 : Int32) (x3 : Int32)  (S : gS) (H : Heap) (locs : List Loc) (ls : Array Slot), gis Y 9 x0 → wp_LogDisk_segmentBehind_2 (gLn Y) Q n x0 x1 x2 x3 S → gWd Y S H → va_S (gA Y s.heap.size) s.heap H locs → lv_has ls 4 [(0, .ref (gad Y x0)), (1, .int x1), (2, .int x2), (3, .int x3)] → W p l e (gRm 4 91) s m args below meth c H locs 0 0 (MQ below (va_Qi Q (gB Y) (gA Y s.heap.size)) args s 0 0 (gA Y s.heap.size)) (F0 m 2 ls []) := by
  have C0 := C
  obtain ⟨hx, hb, hml, hown, hts, hr, hlocks, hK, hY, hSt⟩ := C
  intro n
  induction n with
  | zero =>
    intro x0 x1 x2 x3 S H locs ls hx0 hw
    exact False.elim hw
  | succ n ih =>
    intro x0 x1 x2 x3 S H locs ls hx0 hw hP hS hl
    unfold wp_LogDisk_segmentBehind_2 at hw
    refine lv_iload_n hx hb d_LogDisk_segmentBehind_2 rfl (lv_at hl 3 rfl) ?_
    refine lv_bipush (v := 16) hx hb d_LogDisk_segmentBehind_3 (by decide) ?_
    refine lv_icmp_ge (tgt := 44) hx hb d_LogDisk_segmentBehind_5 (by decide) (fun c1 => ?_) (fun c1 => ?_)
    · replace hw := hw.1 c1
      refine lv_iconst (v := (-1 : Int32)) hx hb d_LogDisk_segmentBehind_44 (by decide) ?_
      exact W.iret (v := (-1 : Int32)) hx hb hr (fun t ht hW => ⟨⟨(-1 : Int32), S, rfl, hw, by rw [ht]; exact hP, va_K.moved hW.alike hK⟩, hS.F ht⟩) hS.2.2 d_LogDisk_segmentBehind_45
    · replace hw := hw.2 c1
      refine lv_aload_n hx hb d_LogDisk_segmentBehind_8 rfl (lv_at hl 0 rfl) ?_
      refine g_get hx hb hts (fun w h => List.mem_cons_of_mem _ (in_LogDisk w h)) hown hK hP hx0 (gce_LogDisk hx0.1) rfl 1 (by decide) (hts _ (List.mem_cons_of_mem _ gw_230)) rfl d_LogDisk_segmentBehind_9 ?_
      refine lv_iload_n hx hb d_LogDisk_segmentBehind_12 rfl (lv_at hl 3 rfl) ?_
      obtain ⟨hin, hw⟩ := hw
      refine g_aaload hx hb hK hP (gis_LogDisk_files hY hx0) hin d_LogDisk_segmentBehind_13 ?_
      have hin2 := hin
      refine g_calli (va_runV (As := []) (rest := []) ⟨hx, hb, hml, hown, hts⟩ (k_DiskFile_segmentFirst l Y hY H.size (grf (grf x0 1) x3.toNatClampNeg) (gis_elem_DiskFile hY (gis_LogDisk_files hY hx0) hin2) S _) (cwV 0 hts (gG_V gw_371 gw_372 gw_373 gw_10 gw_374) rfl rfl rfl (by decide +kernel) ⟨Nat.le_of_ble_eq_true rfl, Nat.le_of_ble_eq_true rfl⟩) ⟨gPre_blind, g_recv hK hP (gis_elem_DiskFile hY (gis_LogDisk_files hY hx0) hin2) (gce_DiskFile (gis_elem_DiskFile hY (gis_LogDisk_files hY hx0) hin2).1) rfl, g_pre hK hSt hS hP hw⟩ rfl rfl hl.1 rfl (lv_room (Nat.le_of_ble_eq_true rfl)) d_LogDisk_segmentBehind_14 ⟨Nat.zero_le _, Nat.zero_le _⟩) hS (fun r4 S3 H locs hw hP hS => ?_)
      refine lv_iload_n hx hb d_LogDisk_segmentBehind_17 rfl (lv_at hl 1 rfl) ?_
      refine lv_iconst (v := 1) hx hb d_LogDisk_segmentBehind_18 (by decide) ?_
      refine lv_iadd hx hb d_LogDisk_segmentBehind_19 ?_
      refine lv_icmp_ne (tgt := 38) hx hb d_LogDisk_segmentBehind_20 (by decide) (fun c5 => ?_) (fun c5 => ?_)
      · replace hw := hw.1 c5
        exact mw_LogDisk_segmentBehind_38 C0 ih x0 x1 x2 x3 S3 H locs ls hx0 hw hP hS (lv_sub hl [0, 1, 2, 3] rfl)
      · replace hw := hw.2 c5
        refine lv_aload_n hx hb d_LogDisk_segmentBehind_23 rfl (lv_at hl 0 rfl) ?_
        refine g_get hx hb hts (fun w h => List.mem_cons_of_mem _ (in_LogDisk w h)) hown hK hP hx0 (gce_LogDisk hx0.1) rfl 1 (by decide) (hts _ (List.mem_cons_of_mem _ gw_230)) rfl d_LogDisk_segmentBehind_24 ?_
        refine lv_iload_n hx hb d_LogDisk_segmentBehind_27 rfl (lv_at hl 3 rfl) ?_
        obtain ⟨hin, hw⟩ := hw
        refine g_aaload hx hb hK hP (gis_LogDisk_files hY hx0) hin d_LogDisk_segmentBehind_28 ?_
        have hin7 := hin
        refine g_calli (va_runV (As := []) (rest := []) ⟨hx, hb, hml, hown, hts⟩ (k_DiskFile_termBefore l Y hY H.size (grf (grf x0 1) x3.toNatClampNeg) (gis_elem_DiskFile hY (gis_LogDisk_files hY hx0) hin7) S3 _) (cwV 0 hts (gG_V gw_397 gw_398 gw_399 gw_10 gw_400) rfl rfl rfl (by decide +kernel) ⟨Nat.le_of_ble_eq_true rfl, Nat.le_of_ble_eq_true rfl⟩) ⟨gPre_blind, g_recv hK hP (gis_elem_DiskFile hY (gis_LogDisk_files hY hx0) hin7) (gce_DiskFile (gis_elem_DiskFile hY (gis_LogDisk_files hY hx0) hin7).1) rfl, g_pre hK hSt hS hP hw⟩ rfl rfl hl.1 rfl (lv_room (Nat.le_of_ble_eq_true rfl)) d_LogDisk_segmentBehind_29 ⟨Nat.zero_le _, Nat.zero_le _⟩) hS (fun r9 S8 H locs hw hP hS => ?_)
        refine lv_iload_n hx hb d_LogDisk_segmentBehind_32 rfl (lv_at hl 2 rfl) ?_
        refine lv_icmp_ne (tgt := 38) hx hb d_LogDisk_segmentBehind_33 (by decide) (fun c10 => ?_) (fun c10 => ?_)
        · replace hw := hw.1 c10
          exact mw_LogDisk_segmentBehind_38 C0 ih x0 x1 x2 x3 S8 H locs ls hx0 hw hP hS (lv_sub hl [0, 1, 2, 3] rfl)
        · replace hw := hw.2 c10
          refine lv_iload_n hx hb d_LogDisk_segmentBehind_36 rfl (lv_at hl 3 rfl) ?_
          exact W.iret (v := x3) hx hb hr (fun t ht hW => ⟨⟨x3, S8, rfl, hw, by rw [ht]; exact hP, va_K.moved hW.alike hK⟩, hS.F ht⟩) hS.2.2 d_LogDisk_segmentBehind_37
set_option maxHeartbeats 4000000 in
set_option maxRecDepth 100000 in
theorem mw_LogDisk_segmentBehind {p : Program} {l : Launch} {e : Env} {s : State} {m : MethodId} {args : Array Value} {below : List Frame} {meth : Method} {c : Code} {Y : gY} {Q : Int32 → gS → Prop} (C : gCx p s m args meth c Y "LogDisk" c_LogDisk_segmentBehind 4 (Option.some Jvm.ClassFile.FieldType.int) w_LogDisk_segmentBehind) : ∀ (x0 : gI) (x1 : Int32) (x2 : Int32)  (S : gS) (H : Heap) (locs : List Loc) (ls : Array Slot), gis Y 9 x0 → wp_LogDisk_segmentBehind (gLn Y) Q x0 x1 x2 S → gWd Y S H → va_S (gA Y s.heap.size) s.heap H locs → lv_has ls 4 [(0, .ref (gad Y x0)), (1, .int x1), (2, .int x2)] → W p l e (gRm 4 91) s m args below meth c H locs 0 0 (MQ below (va_Qi Q (gB Y) (gA Y s.heap.size)) args s 0 0 (gA Y s.heap.size)) (F0 m 0 ls []) := by
  have C0 := C
  obtain ⟨hx, hb, hml, hown, hts, hr, hlocks, hK, hY, hSt⟩ := C
  intro x0 x1 x2 S H locs ls hx0 hw hP hS hl
  unfold wp_LogDisk_segmentBehind at hw
  refine lv_iconst (v := 4) hx hb d_LogDisk_segmentBehind_0 (by decide) ?_
  refine lv_istore_n (lv' := [(3, .int 4), (0, .ref (gad Y x0)), (1, .int x1), (2, .int x2)]) hx hb d_LogDisk_segmentBehind_1 rfl hl (by decide) rfl (fun ls hl => ?_)
  obtain ⟨n, hw⟩ := hw
  exact mw_LogDisk_segmentBehind_2 C0 n x0 x1 x2 4 S H locs ls hx0 hw hP hS (lv_sub hl [1, 2, 3, 0] rfl)
set_option maxHeartbeats 4000000 in
set_option maxRecDepth 100000 in
theorem k_LogDisk_segmentBehind (l : Launch) (Y : gY) (hY : gOK Y) (sz : Nat) (x0 : gI) (x1 : Int32) (x2 : Int32)  (hx0 : gis Y 9 x0) (S : gS) (Q : Int32 → gS → Prop) : Met l y_LogDisk_segmentBehind w_LogDisk_segmentBehind (gRm 4 91) (gPre Y [.ref (gad Y x0), .int x1, .int x2] S sz (wp_LogDisk_segmentBehind (gLn Y) Q x0 x1 x2 S)) (va_Qi Q (gB Y) (gA Y sz)) 0 0 (gA Y sz) := by
  refine Met.ofW (cc := c_LogDisk_segmentBehind) (maxL := 4) (ret := (Option.some Jvm.ClassFile.FieldType.int)) (by decide) rfl ?_
  intro p e s m args below meth c s₁ B hml hv
  obtain ⟨rfl, hsz, hP, hK, hSt, hw⟩ := hv
  subst hsz
  have hts := atoms_spec (ws := w_LogDisk_segmentBehind) B.pre
  have hl := lv_entry ([.ref (gad Y x0), .int x1, .int x2]) (n := 4) (Nat.le_of_ble_eq_true rfl)
  rw [lg_entry_eq]
  generalize (lg_sl ([.ref (gad Y x0), .int x1, .int x2]) ++ List.replicate (4 - (lg_sl ([.ref (gad Y x0), .int x1, .int x2])).length) Slot.unset).toArray = ls at hl ⊢
  exact mw_LogDisk_segmentBehind ⟨B.exec, B.bytes, hml, findClass_of_methodNamed B.named, hts, B.returns, B.notSynchronized, hK, hY, hSt⟩ x0 x1 x2 S s.heap [] ls hx0 hw hP va_S.rf hl

def wp_LogDisk_followSegments_8 (Ln : gI → Nat) (Q : gS → Prop) : Nat → gI → Int32 → Int32 → Int32 → gS → Prop
  | 0, _, _, _, _, _ => False
  | n8 + 1, x0, x3, x4, x5, S => ((12 ≤ x5) → (Q S)) ∧ ((¬ 12 ≤ x5) → (vp_in x3 (Ln (grf x0 1)) ∧ (wp_DiskFile_segmentFirst Ln (fun r4 S3 => wp_Segments_add Ln (fun S5 => ∀ S6 : gS, S6 = gset S5 x0 10 x4 → (((r4 ≤ x4) → (wp_Entries_slot Ln (fun r9 S8 => vp_in r9 (Ln (grf (grf x0 8) 2)) ∧ (wp_LogDisk_segmentBehind Ln (fun r11 S10 => ((¬ r11 = (-1 : Int32)) → (wp_LogDisk_readSegment Ln (fun r14 S13 => ∀ v5_15 : Int32, v5_15 = x5 + 1 → (wp_LogDisk_followSegments_8 Ln Q n8 x0 r11 r14 v5_15 S13)) x0 r11 S10)) ∧ ((r11 = (-1 : Int32)) → (Q S10))) x0 x4 (S8.1 (grf (grf x0 8) 2) r9.toNatClampNeg) S8)) (grf x0 8) x4 S6)) ∧ ((¬ r4 ≤ x4) → (Q S6)))) (grf x0 7) x3 r4 S3) (grf (grf x0 1) x3.toNatClampNeg) S)))
def wp_LogDisk_followSegments (Ln : gI → Nat) (Q : gS → Prop) (x0 : gI) (x1 : Int32) (x2 : Int32)  (S : gS) : Prop :=
  ∃ n8 : Nat, wp_LogDisk_followSegments_8 Ln Q n8 x0 x1 x2 0 S
set_option maxHeartbeats 4000000 in
set_option maxRecDepth 100000 in
theorem mw_LogDisk_followSegments_8 {p : Program} {l : Launch} {e : Env} {s : State} {m : MethodId} {args : Array Value} {below : List Frame} {meth : Method} {c : Code} {Y : gY} {Q : gS → Prop} (C : gCx p s m args meth c Y "LogDisk" c_LogDisk_followSegments 7 (Option.none : Option Jvm.ClassFile.FieldType) w_LogDisk_followSegments) : ∀ (n : Nat), ∀ (x0 : gI) (x3 : Int32) (x4 : Int32) (x5 : Int32)  (S : gS) (H : Heap) (locs : List Loc) (ls : Array Slot), gis Y 9 x0 → wp_LogDisk_followSegments_8 (gLn Y) Q n x0 x3 x4 x5 S → gWd Y S H → va_S (gA Y s.heap.size) s.heap H locs → lv_has ls 7 [(0, .ref (gad Y x0)), (3, .int x3), (4, .int x4), (5, .int x5)] → W p l e (gRm 5 118) s m args below meth c H locs 0 0 (MQ below (va_Qv Q (gB Y) (gA Y s.heap.size)) args s 0 0 (gA Y s.heap.size)) (F0 m 8 ls []) := by
  have C0 := C
  obtain ⟨hx, hb, hml, hown, hts, hr, hlocks, hK, hY, hSt⟩ := C
  intro n
  induction n with
  | zero =>
    intro x0 x3 x4 x5 S H locs ls hx0 hw
    exact False.elim hw
  | succ n ih =>
    intro x0 x3 x4 x5 S H locs ls hx0 hw hP hS hl
    unfold wp_LogDisk_followSegments_8 at hw
    refine lv_iload hx hb d_LogDisk_followSegments_8 (lv_at hl 3 rfl) ?_
    refine lv_bipush (v := 12) hx hb d_LogDisk_followSegments_10 (by decide) ?_
    refine lv_icmp_ge (tgt := 93) hx hb d_LogDisk_followSegments_12 (by decide) (fun c1 => ?_) (fun c1 => ?_)
    · replace hw := hw.1 c1
      exact W.vret hx hb hr (fun t ht hW => ⟨⟨S, rfl, hw, by rw [ht]; exact hP, va_K.moved hW.alike hK⟩, hS.F ht⟩) hS.2.2 d_LogDisk_followSegments_93
    · replace hw := hw.2 c1
      refine lv_aload_n hx hb d_LogDisk_followSegments_15 rfl (lv_at hl 0 rfl) ?_
      refine g_get hx hb hts (fun w h => List.mem_cons_of_mem _ (in_LogDisk w h)) hown hK hP hx0 (gce_LogDisk hx0.1) rfl 1 (by decide) (hts _ (List.mem_cons_of_mem _ gw_230)) rfl d_LogDisk_followSegments_16 ?_
      refine lv_iload_n hx hb d_LogDisk_followSegments_19 rfl (lv_at hl 1 rfl) ?_
      obtain ⟨hin, hw⟩ := hw
      refine g_aaload hx hb hK hP (gis_LogDisk_files hY hx0) hin d_LogDisk_followSegments_20 ?_
      have hin2 := hin
      refine g_calli (va_runV (As := []) (rest := []) ⟨hx, hb, hml, hown, hts⟩ (k_DiskFile_segmentFirst l Y hY H.size (grf (grf x0 1) x3.toNatClampNeg) (gis_elem_DiskFile hY (gis_LogDisk_files hY hx0) hin2) S _) (cwV 0 hts (gG_V gw_371 gw_372 gw_373 gw_10 gw_374) rfl rfl rfl (by decide +kernel) ⟨Nat.le_of_ble_eq_true rfl, Nat.le_of_ble_eq_true rfl⟩) ⟨gPre_blind, g_recv hK hP (gis_elem_DiskFile hY (gis_LogDisk_files hY hx0) hin2) (gce_DiskFile (gis_elem_DiskFile hY (gis_LogDisk_files hY hx0) hin2).1) rfl, g_pre hK hSt hS hP hw⟩ rfl rfl hl.1 rfl (lv_room (Nat.le_of_ble_eq_true rfl)) d_LogDisk_followSegments_21 ⟨Nat.zero_le _, Nat.zero_le _⟩) hS (fun r4 S3 H locs hw hP hS => ?_)
      refine lv_istore (lv' := [(6, .int r4), (0, .ref (gad Y x0)), (3, .int x3), (4, .int x4), (5, .int x5)]) hx hb d_LogDisk_followSegments_24 hl (by decide) rfl (fun ls hl => ?_)
      refine lv_aload_n hx hb d_LogDisk_followSegments_26 rfl (lv_at hl 1 rfl) ?_
      refine g_get hx hb hts (fun w h => List.mem_cons_of_mem _ (in_LogDisk w h)) hown hK hP hx0 (gce_LogDisk hx0.1) rfl 7 (by decide) (hts _ (List.mem_cons_of_mem _ gw_236)) rfl d_LogDisk_followSegments_27 ?_
      refine lv_iload_n hx hb d_LogDisk_followSegments_30 rfl (lv_at hl 2 rfl) ?_
      refine lv_iload hx hb d_LogDisk_followSegments_31 (lv_at hl 0 rfl) ?_
      refine g_callv (va_runV (As := [.int x3, .int r4]) (rest := []) ⟨hx, hb, hml, hown, hts⟩ (k_Segments_add l Y hY H.size (grf x0 7) x3 r4 (gis_LogDisk_segments hY hx0) S3 _) (cwV 2 hts (gG_V gw_406 gw_407 gw_408 gw_6 gw_409) rfl rfl rfl (by decide +kernel) ⟨Nat.le_of_ble_eq_true rfl, Nat.le_of_ble_eq_true rfl⟩) ⟨gPre_blind, g_recv hK hP (gis_LogDisk_segments hY hx0) (gce_Segments (gis_LogDisk_segments hY hx0).1) rfl, g_pre hK hSt hS hP hw⟩ rfl rfl hl.1 rfl (lv_room (Nat.le_of_ble_eq_true rfl)) d_LogDisk_followSegments_33 ⟨Nat.zero_le _, Nat.zero_le _⟩) hS (fun S5 H locs hw hP hS => ?_)
      refine lv_aload_n hx hb d_LogDisk_followSegments_36 rfl (lv_at hl 1 rfl) ?_
      refine lv_iload hx hb d_LogDisk_followSegments_37 (lv_at hl 3 rfl) ?_
      refine g_put (ty := .int) (v := .int x4) (S' := gset S5 x0 10 x4) hx hb hts (fun w h => List.mem_cons_of_mem _ (in_LogDisk w h)) ty_LogDisk tyok_LogDisk nm_LogDisk hown hK hY.1 hP hS hx0 (gce_LogDisk hx0.1) rfl 10 (by decide) (hts _ (List.mem_cons_of_mem _ gw_239)) rfl (by decide +kernel) rfl rfl (Nat.le_of_ble_eq_true rfl) (gp_LogDisk_last hx0.1) gce_gset d_LogDisk_followSegments_39 (fun H locs hP hS => ?_)
      obtain ⟨S6, eS6⟩ : ∃ z, z = gset S5 x0 10 x4 := ⟨_, rfl⟩
      rw [← eS6] at hP
      replace hw := hw S6 eS6
      refine lv_iload hx hb d_LogDisk_followSegments_42 (lv_at hl 3 rfl) ?_
      refine lv_iload hx hb d_LogDisk_followSegments_44 (lv_at hl 0 rfl) ?_
      refine lv_icmp_ge (tgt := 50) hx hb d_LogDisk_followSegments_46 (by decide) (fun c7 => ?_) (fun c7 => ?_)
      · replace hw := hw.1 c7
        refine lv_aload_n hx hb d_LogDisk_followSegments_50 rfl (lv_at hl 1 rfl) ?_
        refine lv_iload hx hb d_LogDisk_followSegments_51 (lv_at hl 3 rfl) ?_
        refine lv_aload_n hx hb d_LogDisk_followSegments_53 rfl (lv_at hl 1 rfl) ?_
        refine g_get hx hb hts (fun w h => List.mem_cons_of_mem _ (in_LogDisk w h)) hown hK hP hx0 (gce_LogDisk hx0.1) rfl 8 (by decide) (hts _ (List.mem_cons_of_mem _ gw_237)) rfl d_LogDisk_followSegments_54 ?_
        refine g_get hx hb hts (fun w h => List.mem_cons_of_mem _ (in_Entries w h)) hown hK hP (gis_LogDisk_entries hY hx0) (gce_Entries (gis_LogDisk_entries hY hx0).1) rfl 2 (by decide) (hts _ (List.mem_cons_of_mem _ gw_144)) rfl d_LogDisk_followSegments_57 ?_
        refine lv_aload_n hx hb d_LogDisk_followSegments_60 rfl (lv_at hl 1 rfl) ?_
        refine g_get hx hb hts (fun w h => List.mem_cons_of_mem _ (in_LogDisk w h)) hown hK hP hx0 (gce_LogDisk hx0.1) rfl 8 (by decide) (hts _ (List.mem_cons_of_mem _ gw_237)) rfl d_LogDisk_followSegments_61 ?_
        refine lv_iload hx hb d_LogDisk_followSegments_64 (lv_at hl 3 rfl) ?_
        refine g_calli (va_runV (As := [.int x4]) (rest := [.ref (gad Y (grf (grf x0 8) 2)), .int x4, .ref (gad Y x0)]) ⟨hx, hb, hml, hown, hts⟩ (k_Entries_slot l Y hY H.size (grf x0 8) x4 (gis_LogDisk_entries hY hx0) S6 _) (cwV 1 hts (gG_V gw_401 gw_386 gw_387 gw_7 gw_388) rfl rfl rfl (by decide +kernel) ⟨Nat.le_of_ble_eq_true rfl, Nat.le_of_ble_eq_true rfl⟩) ⟨gPre_blind, g_recv hK hP (gis_LogDisk_entries hY hx0) (gce_Entries (gis_LogDisk_entries hY hx0).1) rfl, g_pre hK hSt hS hP hw⟩ rfl rfl hl.1 rfl (lv_room (Nat.le_of_ble_eq_true rfl)) d_LogDisk_followSegments_66 ⟨Nat.zero_le _, Nat.zero_le _⟩) hS (fun r9 S8 H locs hw hP hS => ?_)
        obtain ⟨hin, hw⟩ := hw
        refine g_iaload hx hb hK hP (gis_Entries_term hY (gis_LogDisk_entries hY hx0)) hin d_LogDisk_followSegments_69 ?_
        refine g_calli (va_runV (As := [.int x4, .int (S8.1 (grf (grf x0 8) 2) r9.toNatClampNeg)]) (rest := []) ⟨hx, hb, hml, hown, hts⟩ (k_LogDisk_segmentBehind l Y hY H.size x0 x4 (S8.1 (grf (grf x0 8) 2) r9.toNatClampNeg) hx0 S8 _) (cwV 2 hts (gG_V gw_410 gw_412 gs_9 gw_1 gw_413) rfl rfl rfl (by decide +kernel) ⟨Nat.le_of_ble_eq_true rfl, Nat.le_of_ble_eq_true rfl⟩) ⟨gPre_blind, g_recv hK hP hx0 (gce_LogDisk hx0.1) rfl, g_pre hK hSt hS hP hw⟩ rfl rfl hl.1 rfl (lv_room (Nat.le_of_ble_eq_true rfl)) d_LogDisk_followSegments_70 ⟨Nat.zero_le _, Nat.zero_le _⟩) hS (fun r11 S10 H locs hw hP hS => ?_)
        refine lv_istore_n (lv' := [(3, .int r11), (6, .int r4), (0, .ref (gad Y x0)), (4, .int x4), (5, .int x5)]) hx hb d_LogDisk_followSegments_73 rfl hl (by decide) rfl (fun ls hl => ?_)
        refine lv_iload_n hx hb d_LogDisk_followSegments_74 rfl (lv_at hl 0 rfl) ?_
        refine lv_iconst (v := (-1 : Int32)) hx hb d_LogDisk_followSegments_75 (by decide) ?_
        refine lv_icmp_ne (tgt := 80) hx hb d_LogDisk_followSegments_76 (by decide) (fun c12 => ?_) (fun c12 => ?_)
        · replace hw := hw.1 c12
          refine lv_aload_n hx hb d_LogDisk_followSegments_80 rfl (lv_at hl 2 rfl) ?_
          refine lv_iload_n hx hb d_LogDisk_followSegments_81 rfl (lv_at hl 0 rfl) ?_
          refine g_calli (va_runV (As := [.int r11]) (rest := []) ⟨hx, hb, hml, hown, hts⟩ (k_LogDisk_readSegment l Y hY H.size x0 r11 hx0 S10 _) (cwV 1 hts (gG_V gw_376 gw_378 gs_6 gw_1 gw_379) rfl rfl rfl (by decide +kernel) ⟨Nat.le_of_ble_eq_true rfl, Nat.le_of_ble_eq_true rfl⟩) ⟨gPre_blind, g_recv hK hP hx0 (gce_LogDisk hx0.1) rfl, g_pre hK hSt hS hP hw⟩ rfl rfl hl.1 rfl (lv_room (Nat.le_of_ble_eq_true rfl)) d_LogDisk_followSegments_82 ⟨Nat.zero_le _, Nat.zero_le _⟩) hS (fun r14 S13 H locs hw hP hS => ?_)
          refine lv_istore (lv' := [(4, .int r14), (3, .int r11), (6, .int r4), (0, .ref (gad Y x0)), (5, .int x5)]) hx hb d_LogDisk_followSegments_85 hl (by decide) rfl (fun ls hl => ?_)
          obtain ⟨v5_15, ev5_15⟩ : ∃ y : Int32, y = x5 + 1 := ⟨_, rfl⟩
          replace hw := hw v5_15 ev5_15
          refine lv_iinc (v := v5_15) (lv' := [(5, .int v5_15), (4, .int r14), (3, .int r11), (6, .int r4), (0, .ref (gad Y x0))]) hx hb d_LogDisk_followSegments_87 hl (k := 4) rfl (by rw [ev5_15]; rfl) (by decide) rfl (fun ls hl => ?_)
          refine lv_goto (tgt := 8) hx hb d_LogDisk_followSegments_90 (by decide) ?_
          exact ih x0 r11 r14 v5_15 S13 H locs ls hx0 hw hP hS (lv_sub hl [4, 2, 1, 0] rfl)
        · replace hw := hw.2 c12
          exact W.vret hx hb hr (fun t ht hW => ⟨⟨S10, rfl, hw, by rw [ht]; exact hP, va_K.moved hW.alike hK⟩, hS.F ht⟩) hS.2.2 d_LogDisk_followSegments_79
      · replace hw := hw.2 c7
        exact W.vret hx hb hr (fun t ht hW => ⟨⟨S6, rfl, hw, by rw [ht]; exact hP, va_K.moved hW.alike hK⟩, hS.F ht⟩) hS.2.2 d_LogDisk_followSegments_49
set_option maxHeartbeats 4000000 in
set_option maxRecDepth 100000 in
theorem mw_LogDisk_followSegments {p : Program} {l : Launch} {e : Env} {s : State} {m : MethodId} {args : Array Value} {below : List Frame} {meth : Method} {c : Code} {Y : gY} {Q : gS → Prop} (C : gCx p s m args meth c Y "LogDisk" c_LogDisk_followSegments 7 (Option.none : Option Jvm.ClassFile.FieldType) w_LogDisk_followSegments) : ∀ (x0 : gI) (x1 : Int32) (x2 : Int32)  (S : gS) (H : Heap) (locs : List Loc) (ls : Array Slot), gis Y 9 x0 → wp_LogDisk_followSegments (gLn Y) Q x0 x1 x2 S → gWd Y S H → va_S (gA Y s.heap.size) s.heap H locs → lv_has ls 7 [(0, .ref (gad Y x0)), (1, .int x1), (2, .int x2)] → W p l e (gRm 5 118) s m args below meth c H locs 0 0 (MQ below (va_Qv Q (gB Y) (gA Y s.heap.size)) args s 0 0 (gA Y s.heap.size)) (F0 m 0 ls []) := by
  have C0 := C
  obtain ⟨hx, hb, hml, hown, hts, hr, hlocks, hK, hY, hSt⟩ := C
  intro x0 x1 x2 S H locs ls hx0 hw hP hS hl
  unfold wp_LogDisk_followSegments at hw
  refine lv_iload_n hx hb d_LogDisk_followSegments_0 rfl (lv_at hl 1 rfl) ?_
  refine lv_istore_n (lv' := [(3, .int x1), (0, .ref (gad Y x0)), (1, .int x1), (2, .int x2)]) hx hb d_LogDisk_followSegments_1 rfl hl (by decide) rfl (fun ls hl => ?_)
  refine lv_iload_n hx hb d_LogDisk_followSegments_2 rfl (lv_at hl 3 rfl) ?_
  refine lv_istore (lv' := [(4, .int x2), (3, .int x1), (0, .ref (gad Y x0)), (1, .int x1), (2, .int x2)]) hx hb d_LogDisk_followSegments_3 hl (by decide) rfl (fun ls hl => ?_)
  refine lv_iconst (v := 0) hx hb d_LogDisk_followSegments_5 (by decide) ?_
  refine lv_istore (lv' := [(5, .int 0), (4, .int x2), (3, .int x1), (0, .ref (gad Y x0)), (1, .int x1), (2, .int x2)]) hx hb d_LogDisk_followSegments_6 hl (by decide) rfl (fun ls hl => ?_)
  obtain ⟨n, hw⟩ := hw
  exact mw_LogDisk_followSegments_8 C0 n x0 x1 x2 0 S H locs ls hx0 hw hP hS (lv_sub hl [3, 2, 1, 0] rfl)
set_option maxHeartbeats 4000000 in
set_option maxRecDepth 100000 in
theorem k_LogDisk_followSegments (l : Launch) (Y : gY) (hY : gOK Y) (sz : Nat) (x0 : gI) (x1 : Int32) (x2 : Int32)  (hx0 : gis Y 9 x0) (S : gS) (Q : gS → Prop) : Met l y_LogDisk_followSegments w_LogDisk_followSegments (gRm 5 118) (gPre Y [.ref (gad Y x0), .int x1, .int x2] S sz (wp_LogDisk_followSegments (gLn Y) Q x0 x1 x2 S)) (va_Qv Q (gB Y) (gA Y sz)) 0 0 (gA Y sz) := by
  refine Met.ofW (cc := c_LogDisk_followSegments) (maxL := 7) (ret := (Option.none : Option Jvm.ClassFile.FieldType)) (by decide) rfl ?_
  intro p e s m args below meth c s₁ B hml hv
  obtain ⟨rfl, hsz, hP, hK, hSt, hw⟩ := hv
  subst hsz
  have hts := atoms_spec (ws := w_LogDisk_followSegments) B.pre
  have hl := lv_entry ([.ref (gad Y x0), .int x1, .int x2]) (n := 7) (Nat.le_of_ble_eq_true rfl)
  rw [lg_entry_eq]
  generalize (lg_sl ([.ref (gad Y x0), .int x1, .int x2]) ++ List.replicate (7 - (lg_sl ([.ref (gad Y x0), .int x1, .int x2])).length) Slot.unset).toArray = ls at hl ⊢
  exact mw_LogDisk_followSegments ⟨B.exec, B.bytes, hml, findClass_of_methodNamed B.named, hts, B.returns, B.notSynchronized, hK, hY, hSt⟩ x0 x1 x2 S s.heap [] ls hx0 hw hP va_S.rf hl

def wp_LogDisk_findLog_87 (Ln : gI → Nat) (K61 : gI → Int32 → gS → Prop) (Q : gS → Prop) (x0 : gI) (x3 : Int32)  (S : gS) : Prop :=
  ∀ v3_13 : Int32, v3_13 = x3 + 1 → (K61 x0 v3_13 S)
def wp_LogDisk_findLog_61 (Ln : gI → Nat) (Q : gS → Prop) : Nat → gI → Int32 → gS → Prop
  | 0, _, _, _ => False
  | n61 + 1, x0, x3, S => ((16 ≤ x3) → (Q S)) ∧ ((¬ 16 ≤ x3) → (wp_Segments_has Ln (fun r11 S10 => ((¬ r11 = 0) → (wp_LogDisk_findLog_87 Ln (fun z0 z1 zS => wp_LogDisk_findLog_61 Ln Q n61 z0 z1 zS) Q x0 x3 S10)) ∧ ((r11 = 0) → (vp_in x3 (Ln (grf x0 1)) ∧ (wp_DiskFile_remove Ln (fun S15 => wp_LogDisk_findLog_87 Ln (fun z0 z1 zS => wp_LogDisk_findLog_61 Ln Q n61 z0 z1 zS) Q x0 x3 S15) (grf (grf x0 1) x3.toNatClampNeg) S10)))) (grf x0 7) x3 S))
def wp_LogDisk_findLog_59 (Ln : gI → Nat) (Q : gS → Prop) (x0 : gI)  (S : gS) : Prop :=
  ∃ n61 : Nat, wp_LogDisk_findLog_61 Ln Q n61 x0 4 S
def wp_LogDisk_findLog_38 (Ln : gI → Nat) (Q : gS → Prop) (x0 : gI) (x1 : Int32) (y0 : Int32) (S : gS) : Prop :=
  ((x1 = (-1 : Int32)) → (wp_LogDisk_findLog_59 Ln Q x0 S)) ∧ ((¬ x1 = (-1 : Int32)) → (wp_LogDisk_holdsBase Ln (fun r17 S16 => ((r17 = 0) → (wp_LogDisk_findLog_59 Ln Q x0 S16)) ∧ ((¬ r17 = 0) → (wp_LogDisk_followSegments Ln (fun S19 => wp_LogDisk_findLog_59 Ln Q x0 S19) x0 x1 y0 S16))) x0 x1 y0 S))
def wp_LogDisk_findLog (Ln : gI → Nat) (Q : gS → Prop) (x0 : gI)  (S : gS) : Prop :=
  ∀ S1 : gS, S1 = gset S (grf x0 7) 2 0 → (∀ S2 : gS, S2 = gset S1 x0 10 (S1.1 (grf x0 6) 1) → (wp_LogDisk_firstSegment Ln (fun r4 S3 => ((¬ r4 = (-1 : Int32)) → (wp_LogDisk_readSegment Ln (fun r7 S6 => wp_LogDisk_findLog_38 Ln Q x0 r4 r7 S6) x0 r4 S3)) ∧ ((r4 = (-1 : Int32)) → (wp_LogDisk_findLog_38 Ln Q x0 r4 (-1 : Int32) S3))) x0 S2))
set_option maxHeartbeats 4000000 in
set_option maxRecDepth 100000 in
theorem mw_LogDisk_findLog_87 {p : Program} {l : Launch} {e : Env} {s : State} {m : MethodId} {args : Array Value} {below : List Frame} {meth : Method} {c : Code} {Y : gY} {Q : gS → Prop} {K61 : gI → Int32 → gS → Prop} (C : gCx p s m args meth c Y "LogDisk" c_LogDisk_findLog 4 (Option.none : Option Jvm.ClassFile.FieldType) w_LogDisk_findLog) (hK61 : ∀ (x0 : gI) (x3 : Int32)  (S : gS) (H : Heap) (locs : List Loc) (ls : Array Slot), gis Y 9 x0 → K61 x0 x3 S → gWd Y S H → va_S (gA Y s.heap.size) s.heap H locs → lv_has ls 4 [(0, .ref (gad Y x0)), (3, .int x3)] → W p l e (gRm 6 144) s m args below meth c H locs 0 0 (MQ below (va_Qv Q (gB Y) (gA Y s.heap.size)) args s 0 0 (gA Y s.heap.size)) (F0 m 61 ls [])) : ∀ (x0 : gI) (x3 : Int32)  (S : gS) (H : Heap) (locs : List Loc) (ls : Array Slot), gis Y 9 x0 → wp_LogDisk_findLog_87 (gLn Y) K61 Q x0 x3 S → gWd Y S H → va_S (gA Y s.heap.size) s.heap H locs → lv_has ls 4 [(0, .ref (gad Y x0)), (3, .int x3)] → W p l e (gRm 6 144) s m args below meth c H locs 0 0 (MQ below (va_Qv Q (gB Y) (gA Y s.heap.size)) args s 0 0 (gA Y s.heap.size)) (F0 m 87 ls []) := by
  have C0 := C
  obtain ⟨hx, hb, hml, hown, hts, hr, hlocks, hK, hY, hSt⟩ := C
  intro x0 x3 S H locs ls hx0 hw hP hS hl
  unfold wp_LogDisk_findLog_87 at hw
  obtain ⟨v3_13, ev3_13⟩ : ∃ y : Int32, y = x3 + 1 := ⟨_, rfl⟩
  replace hw := hw v3_13 ev3_13
  refine lv_iinc (v := v3_13) (lv' := [(3, .int v3_13), (0, .ref (gad Y x0))]) hx hb d_LogDisk_findLog_87 hl (k := 1) rfl (by rw [ev3_13]; rfl) (by decide) rfl (fun ls hl => ?_)
  refine lv_goto (tgt := 61) hx hb d_LogDisk_findLog_90 (by decide) ?_
  exact hK61 x0 v3_13 S H locs ls hx0 hw hP hS (lv_sub hl [1, 0] rfl)
set_option maxHeartbeats 4000000 in
set_option maxRecDepth 100000 in
theorem mw_LogDisk_findLog_61 {p : Program} {l : Launch} {e : Env} {s : State} {m : MethodId} {args : Array Value} {below : List Frame} {meth : Method} {c : Code} {Y : gY} {Q : gS → Prop} (C : gCx p s m args meth c Y "LogDisk" c_LogDisk_findLog 4 (Option.none : Option Jvm.ClassFile.FieldType) w_LogDisk_findLog) : ∀ (n : Nat), ∀ (x0 : gI) (x3 : Int32)  (S : gS) (H : Heap) (locs : List Loc) (ls : Array Slot), gis Y 9 x0 → wp_LogDisk_findLog_61 (gLn Y) Q n x0 x3 S → gWd Y S H → va_S (gA Y s.heap.size) s.heap H locs → lv_has ls 4 [(0, .ref (gad Y x0)), (3, .int x3)] → W p l e (gRm 6 144) s m args below meth c H locs 0 0 (MQ below (va_Qv Q (gB Y) (gA Y s.heap.size)) args s 0 0 (gA Y s.heap.size)) (F0 m 61 ls []) := by
  have C0 := C
  obtain ⟨hx, hb, hml, hown, hts, hr, hlocks, hK, hY, hSt⟩ := C
  intro n
  induction n with
  | zero =>
    intro x0 x3 S H locs ls hx0 hw
    exact False.elim hw
  | succ n ih =>
    intro x0 x3 S H locs ls hx0 hw hP hS hl
    unfold wp_LogDisk_findLog_61 at hw
    refine lv_iload_n hx hb d_LogDisk_findLog_61 rfl (lv_at hl 1 rfl) ?_
    refine lv_bipush (v := 16) hx hb d_LogDisk_findLog_62 (by decide) ?_
    refine lv_icmp_ge (tgt := 93) hx hb d_LogDisk_findLog_64 (by decide) (fun c9 => ?_) (fun c9 => ?_)
    · replace hw := hw.1 c9
      exact W.vret hx hb hr (fun t ht hW => ⟨⟨S, rfl, hw, by rw [ht]; exact hP, va_K.moved hW.alike hK⟩, hS.F ht⟩) hS.2.2 d_LogDisk_findLog_93
    · replace hw := hw.2 c9
      refine lv_aload_n hx hb d_LogDisk_findLog_67 rfl (lv_at hl 0 rfl) ?_
      refine g_get hx hb hts (fun w h => List.mem_cons_of_mem _ (in_LogDisk w h)) hown hK hP hx0 (gce_LogDisk hx0.1) rfl 7 (by decide) (hts _ (List.mem_cons_of_mem _ gw_236)) rfl d_LogDisk_findLog_68 ?_
      refine lv_iload_n hx hb d_LogDisk_findLog_71 rfl (lv_at hl 1 rfl) ?_
      refine g_calli (va_runV (As := [.int x3]) (rest := []) ⟨hx, hb, hml, hown, hts⟩ (k_Segments_has l Y hY H.size (grf x0 7) x3 (gis_LogDisk_segments hY hx0) S _) (cwV 1 hts (gG_V gw_414 gw_415 gw_416 gw_6 gw_417) rfl rfl rfl (by decide +kernel) ⟨Nat.le_of_ble_eq_true rfl, Nat.le_of_ble_eq_true rfl⟩) ⟨gPre_blind, g_recv hK hP (gis_LogDisk_segments hY hx0) (gce_Segments (gis_LogDisk_segments hY hx0).1) rfl, g_pre hK hSt hS hP hw⟩ rfl rfl hl.1 rfl (lv_room (Nat.le_of_ble_eq_true rfl)) d_LogDisk_findLog_72 ⟨Nat.zero_le _, Nat.zero_le _⟩) hS (fun r11 S10 H locs hw hP hS => ?_)
      refine lv_if_ne (tgt := 87) hx hb d_LogDisk_findLog_75 (by decide) (fun c12 => ?_) (fun c12 => ?_)
      · replace hw := hw.1 c12
        exact mw_LogDisk_findLog_87 C0 ih x0 x3 S10 H locs ls hx0 hw hP hS (lv_sub hl [0, 1] rfl)
      · replace hw := hw.2 c12
        refine lv_aload_n hx hb d_LogDisk_findLog_78 rfl (lv_at hl 0 rfl) ?_
        refine g_get hx hb hts (fun w h => List.mem_cons_of_mem _ (in_LogDisk w h)) hown hK hP hx0 (gce_LogDisk hx0.1) rfl 1 (by decide) (hts _ (List.mem_cons_of_mem _ gw_230)) rfl d_LogDisk_findLog_79 ?_
        refine lv_iload_n hx hb d_LogDisk_findLog_82 rfl (lv_at hl 1 rfl) ?_
        obtain ⟨hin, hw⟩ := hw
        refine g_aaload hx hb hK hP (gis_LogDisk_files hY hx0) hin d_LogDisk_findLog_83 ?_
        have hin14 := hin
        refine g_callv (va_runV (As := []) (rest := []) ⟨hx, hb, hml, hown, hts⟩ (k_DiskFile_remove l Y hY H.size (grf (grf x0 1) x3.toNatClampNeg) (gis_elem_DiskFile hY (gis_LogDisk_files hY hx0) hin14) S10 _) (cwV 0 hts (gG_V gw_418 gw_419 gw_420 gw_10 gw_421) rfl rfl rfl (by decide +kernel) ⟨Nat.le_of_ble_eq_true rfl, Nat.le_of_ble_eq_true rfl⟩) ⟨gPre_blind, g_recv hK hP (gis_elem_DiskFile hY (gis_LogDisk_files hY hx0) hin14) (gce_DiskFile (gis_elem_DiskFile hY (gis_LogDisk_files hY hx0) hin14).1) rfl, g_pre hK hSt hS hP hw⟩ rfl rfl hl.1 rfl (lv_room (Nat.le_of_ble_eq_true rfl)) d_LogDisk_findLog_84 ⟨Nat.zero_le _, Nat.zero_le _⟩) hS (fun S15 H locs hw hP hS => ?_)
        exact mw_LogDisk_findLog_87 C0 ih x0 x3 S15 H locs ls hx0 hw hP hS (lv_sub hl [0, 1] rfl)
set_option maxHeartbeats 4000000 in
set_option maxRecDepth 100000 in
theorem mw_LogDisk_findLog_59 {p : Program} {l : Launch} {e : Env} {s : State} {m : MethodId} {args : Array Value} {below : List Frame} {meth : Method} {c : Code} {Y : gY} {Q : gS → Prop} (C : gCx p s m args meth c Y "LogDisk" c_LogDisk_findLog 4 (Option.none : Option Jvm.ClassFile.FieldType) w_LogDisk_findLog) : ∀ (x0 : gI)  (S : gS) (H : Heap) (locs : List Loc) (ls : Array Slot), gis Y 9 x0 → wp_LogDisk_findLog_59 (gLn Y) Q x0 S → gWd Y S H → va_S (gA Y s.heap.size) s.heap H locs → lv_has ls 4 [(0, .ref (gad Y x0))] → W p l e (gRm 6 144) s m args below meth c H locs 0 0 (MQ below (va_Qv Q (gB Y) (gA Y s.heap.size)) args s 0 0 (gA Y s.heap.size)) (F0 m 59 ls []) := by
  have C0 := C
  obtain ⟨hx, hb, hml, hown, hts, hr, hlocks, hK, hY, hSt⟩ := C
  intro x0 S H locs ls hx0 hw hP hS hl
  unfold wp_LogDisk_findLog_59 at hw
  refine lv_iconst (v := 4) hx hb d_LogDisk_findLog_59 (by decide) ?_
  refine lv_istore_n (lv' := [(3, .int 4), (0, .ref (gad Y x0))]) hx hb d_LogDisk_findLog_60 rfl hl (by decide) rfl (fun ls hl => ?_)
  obtain ⟨n, hw⟩ := hw
  exact mw_LogDisk_findLog_61 C0 n x0 4 S H locs ls hx0 hw hP hS (lv_sub hl [1, 0] rfl)
set_option maxHeartbeats 4000000 in
set_option maxRecDepth 100000 in
theorem mw_LogDisk_findLog_38 {p : Program} {l : Launch} {e : Env} {s : State} {m : MethodId} {args : Array Value} {below : List Frame} {meth : Method} {c : Code} {Y : gY} {Q : gS → Prop} (C : gCx p s m args meth c Y "LogDisk" c_LogDisk_findLog 4 (Option.none : Option Jvm.ClassFile.FieldType) w_LogDisk_findLog) : ∀ (x0 : gI) (x1 : Int32) (y0 : Int32) (S : gS) (H : Heap) (locs : List Loc) (ls : Array Slot), gis Y 9 x0 → wp_LogDisk_findLog_38 (gLn Y) Q x0 x1 y0 S → gWd Y S H → va_S (gA Y s.heap.size) s.heap H locs → lv_has ls 4 [(0, .ref (gad Y x0)), (1, .int x1)] → W p l e (gRm 6 144) s m args below meth c H locs 0 0 (MQ below (va_Qv Q (gB Y) (gA Y s.heap.size)) args s 0 0 (gA Y s.heap.size)) (F0 m 38 ls [.int y0]) := by
  have C0 := C
  obtain ⟨hx, hb, hml, hown, hts, hr, hlocks, hK, hY, hSt⟩ := C
  intro x0 x1 y0 S H locs ls hx0 hw hP hS hl
  unfold wp_LogDisk_findLog_38 at hw
  refine lv_istore_n (lv' := [(2, .int y0), (0, .ref (gad Y x0)), (1, .int x1)]) hx hb d_LogDisk_findLog_38 rfl hl (by decide) rfl (fun ls hl => ?_)
  refine lv_iload_n hx hb d_LogDisk_findLog_39 rfl (lv_at hl 2 rfl) ?_
  refine lv_iconst (v := (-1 : Int32)) hx hb d_LogDisk_findLog_40 (by decide) ?_
  refine lv_icmp_eq (tgt := 59) hx hb d_LogDisk_findLog_41 (by decide) (fun c8 => ?_) (fun c8 => ?_)
  · replace hw := hw.1 c8
    exact mw_LogDisk_findLog_59 C0 x0 S H locs ls hx0 hw hP hS (lv_sub hl [1] rfl)
  · replace hw := hw.2 c8
    refine lv_aload_n hx hb d_LogDisk_findLog_44 rfl (lv_at hl 1 rfl) ?_
    refine lv_iload_n hx hb d_LogDisk_findLog_45 rfl (lv_at hl 2 rfl) ?_
    refine lv_iload_n hx hb d_LogDisk_findLog_46 rfl (lv_at hl 0 rfl) ?_
    refine g_calli (va_runV (As := [.int x1, .int y0]) (rest := []) ⟨hx, hb, hml, hown, hts⟩ (k_LogDisk_holdsBase l Y hY H.size x0 x1 y0 hx0 S _) (cwV 2 hts (gG_V gw_393 gw_395 gs_7 gw_1 gw_396) rfl rfl rfl (by decide +kernel) ⟨Nat.le_of_ble_eq_true rfl, Nat.le_of_ble_eq_true rfl⟩) ⟨gPre_blind, g_recv hK hP hx0 (gce_LogDisk hx0.1) rfl, g_pre hK hSt hS hP hw⟩ rfl rfl hl.1 rfl (lv_room (Nat.le_of_ble_eq_true rfl)) d_LogDisk_findLog_47 ⟨Nat.zero_le _, Nat.zero_le _⟩) hS (fun r17 S16 H locs hw hP hS => ?_)
    refine lv_if_eq (tgt := 59) hx hb d_LogDisk_findLog_50 (by decide) (fun c18 => ?_) (fun c18 => ?_)
    · replace hw := hw.1 c18
      exact mw_LogDisk_findLog_59 C0 x0 S16 H locs ls hx0 hw hP hS (lv_sub hl [1] rfl)
    · replace hw := hw.2 c18
      refine lv_aload_n hx hb d_LogDisk_findLog_53 rfl (lv_at hl 1 rfl) ?_
      refine lv_iload_n hx hb d_LogDisk_findLog_54 rfl (lv_at hl 2 rfl) ?_
      refine lv_iload_n hx hb d_LogDisk_findLog_55 rfl (lv_at hl 0 rfl) ?_
      refine g_callv (va_runV (As := [.int x1, .int y0]) (rest := []) ⟨hx, hb, hml, hown, hts⟩ (k_LogDisk_followSegments l Y hY H.size x0 x1 y0 hx0 S16 _) (cwV 2 hts (gG_V gw_402 gw_404 gs_8 gw_1 gw_405) rfl rfl rfl (by decide +kernel) ⟨Nat.le_of_ble_eq_true rfl, Nat.le_of_ble_eq_true rfl⟩) ⟨gPre_blind, g_recv hK hP hx0 (gce_LogDisk hx0.1) rfl, g_pre hK hSt hS hP hw⟩ rfl rfl hl.1 rfl (lv_room (Nat.le_of_ble_eq_true rfl)) d_LogDisk_findLog_56 ⟨Nat.zero_le _, Nat.zero_le _⟩) hS (fun S19 H locs hw hP hS => ?_)
      exact mw_LogDisk_findLog_59 C0 x0 S19 H locs ls hx0 hw hP hS (lv_sub hl [1] rfl)
set_option maxHeartbeats 4000000 in
set_option maxRecDepth 100000 in
theorem mw_LogDisk_findLog {p : Program} {l : Launch} {e : Env} {s : State} {m : MethodId} {args : Array Value} {below : List Frame} {meth : Method} {c : Code} {Y : gY} {Q : gS → Prop} (C : gCx p s m args meth c Y "LogDisk" c_LogDisk_findLog 4 (Option.none : Option Jvm.ClassFile.FieldType) w_LogDisk_findLog) : ∀ (x0 : gI)  (S : gS) (H : Heap) (locs : List Loc) (ls : Array Slot), gis Y 9 x0 → wp_LogDisk_findLog (gLn Y) Q x0 S → gWd Y S H → va_S (gA Y s.heap.size) s.heap H locs → lv_has ls 4 [(0, .ref (gad Y x0))] → W p l e (gRm 6 144) s m args below meth c H locs 0 0 (MQ below (va_Qv Q (gB Y) (gA Y s.heap.size)) args s 0 0 (gA Y s.heap.size)) (F0 m 0 ls []) := by
  have C0 := C
  obtain ⟨hx, hb, hml, hown, hts, hr, hlocks, hK, hY, hSt⟩ := C
  intro x0 S H locs ls hx0 hw hP hS hl
  unfold wp_LogDisk_findLog at hw
  refine lv_aload_n hx hb d_LogDisk_findLog_0 rfl (lv_at hl 0 rfl) ?_
  refine g_get hx hb hts (fun w h => List.mem_cons_of_mem _ (in_LogDisk w h)) hown hK hP hx0 (gce_LogDisk hx0.1) rfl 7 (by decide) (hts _ (List.mem_cons_of_mem _ gw_236)) rfl d_LogDisk_findLog_1 ?_
  refine lv_iconst (v := 0) hx hb d_LogDisk_findLog_4 (by decide) ?_
  refine g_put (ty := .int) (v := .int 0) (S' := gset S (grf x0 7) 2 0) hx hb hts (fun w h => List.mem_cons_of_mem _ (in_Segments w h)) ty_Segments tyok_Segments nm_Segments hown hK hY.1 hP hS (gis_LogDisk_segments hY hx0) (gce_Segments (gis_LogDisk_segments hY hx0).1) rfl 2 (by decide) (hts _ (List.mem_cons_of_mem _ gw_125)) rfl (by decide +kernel) rfl rfl (Nat.le_of_ble_eq_true rfl) (gp_Segments_count (gis_LogDisk_segments hY hx0).1) gce_gset d_LogDisk_findLog_5 (fun H locs hP hS => ?_)
  obtain ⟨S1, eS1⟩ : ∃ z, z = gset S (grf x0 7) 2 0 := ⟨_, rfl⟩
  rw [← eS1] at hP
  replace hw := hw S1 eS1
  refine lv_aload_n hx hb d_LogDisk_findLog_8 rfl (lv_at hl 0 rfl) ?_
  refine lv_aload_n hx hb d_LogDisk_findLog_9 rfl (lv_at hl 0 rfl) ?_
  refine g_get hx hb hts (fun w h => List.mem_cons_of_mem _ (in_LogDisk w h)) hown hK hP hx0 (gce_LogDisk hx0.1) rfl 6 (by decide) (hts _ (List.mem_cons_of_mem _ gw_235)) rfl d_LogDisk_findLog_10 ?_
  refine g_get hx hb hts (fun w h => List.mem_cons_of_mem _ (in_Snapshot w h)) hown hK hP (gis_LogDisk_snapshot hY hx0) (gce_Snapshot (gis_LogDisk_snapshot hY hx0).1) rfl 1 (by decide) (hts _ (List.mem_cons_of_mem _ gw_100)) rfl d_LogDisk_findLog_13 ?_
  refine g_put (ty := .int) (v := .int (S1.1 (grf x0 6) 1)) (S' := gset S1 x0 10 (S1.1 (grf x0 6) 1)) hx hb hts (fun w h => List.mem_cons_of_mem _ (in_LogDisk w h)) ty_LogDisk tyok_LogDisk nm_LogDisk hown hK hY.1 hP hS hx0 (gce_LogDisk hx0.1) rfl 10 (by decide) (hts _ (List.mem_cons_of_mem _ gw_239)) rfl (by decide +kernel) rfl rfl (Nat.le_of_ble_eq_true rfl) (gp_LogDisk_last hx0.1) gce_gset d_LogDisk_findLog_16 (fun H locs hP hS => ?_)
  obtain ⟨S2, eS2⟩ : ∃ z, z = gset S1 x0 10 (S1.1 (grf x0 6) 1) := ⟨_, rfl⟩
  rw [← eS2] at hP
  replace hw := hw S2 eS2
  refine lv_aload_n hx hb d_LogDisk_findLog_19 rfl (lv_at hl 0 rfl) ?_
  refine g_calli (va_runV (As := []) (rest := []) ⟨hx, hb, hml, hown, hts⟩ (k_LogDisk_firstSegment l Y hY H.size x0 hx0 S2 _) (cwV 0 hts (gG_V gw_367 gw_369 gs_5 gw_1 gw_370) rfl rfl rfl (by decide +kernel) ⟨Nat.le_of_ble_eq_true rfl, Nat.le_of_ble_eq_true rfl⟩) ⟨gPre_blind, g_recv hK hP hx0 (gce_LogDisk hx0.1) rfl, g_pre hK hSt hS hP hw⟩ rfl rfl hl.1 rfl (lv_room (Nat.le_of_ble_eq_true rfl)) d_LogDisk_findLog_20 ⟨Nat.zero_le _, Nat.zero_le _⟩) hS (fun r4 S3 H locs hw hP hS => ?_)
  refine lv_istore_n (lv' := [(1, .int r4), (0, .ref (gad Y x0))]) hx hb d_LogDisk_findLog_23 rfl hl (by decide) rfl (fun ls hl => ?_)
  refine lv_iload_n hx hb d_LogDisk_findLog_24 rfl (lv_at hl 0 rfl) ?_
  refine lv_iconst (v := (-1 : Int32)) hx hb d_LogDisk_findLog_25 (by decide) ?_
  refine lv_icmp_ne (tgt := 33) hx hb d_LogDisk_findLog_26 (by decide) (fun c5 => ?_) (fun c5 => ?_)
  · replace hw := hw.1 c5
    refine lv_aload_n hx hb d_LogDisk_findLog_33 rfl (lv_at hl 1 rfl) ?_
    refine lv_iload_n hx hb d_LogDisk_findLog_34 rfl (lv_at hl 0 rfl) ?_
    refine g_calli (va_runV (As := [.int r4]) (rest := []) ⟨hx, hb, hml, hown, hts⟩ (k_LogDisk_readSegment l Y hY H.size x0 r4 hx0 S3 _) (cwV 1 hts (gG_V gw_376 gw_378 gs_6 gw_1 gw_379) rfl rfl rfl (by decide +kernel) ⟨Nat.le_of_ble_eq_true rfl, Nat.le_of_ble_eq_true rfl⟩) ⟨gPre_blind, g_recv hK hP hx0 (gce_LogDisk hx0.1) rfl, g_pre hK hSt hS hP hw⟩ rfl rfl hl.1 rfl (lv_room (Nat.le_of_ble_eq_true rfl)) d_LogDisk_findLog_35 ⟨Nat.zero_le _, Nat.zero_le _⟩) hS (fun r7 S6 H locs hw hP hS => ?_)
    exact mw_LogDisk_findLog_38 C0 x0 r4 r7 S6 H locs ls hx0 hw hP hS (lv_sub hl [1, 0] rfl)
  · replace hw := hw.2 c5
    refine lv_iconst (v := (-1 : Int32)) hx hb d_LogDisk_findLog_29 (by decide) ?_
    refine lv_goto (tgt := 38) hx hb d_LogDisk_findLog_30 (by decide) ?_
    exact mw_LogDisk_findLog_38 C0 x0 r4 (-1 : Int32) S3 H locs ls hx0 hw hP hS (lv_sub hl [1, 0] rfl)
set_option maxHeartbeats 4000000 in
set_option maxRecDepth 100000 in
theorem k_LogDisk_findLog (l : Launch) (Y : gY) (hY : gOK Y) (sz : Nat) (x0 : gI)  (hx0 : gis Y 9 x0) (S : gS) (Q : gS → Prop) : Met l y_LogDisk_findLog w_LogDisk_findLog (gRm 6 144) (gPre Y [.ref (gad Y x0)] S sz (wp_LogDisk_findLog (gLn Y) Q x0 S)) (va_Qv Q (gB Y) (gA Y sz)) 0 0 (gA Y sz) := by
  refine Met.ofW (cc := c_LogDisk_findLog) (maxL := 4) (ret := (Option.none : Option Jvm.ClassFile.FieldType)) (by decide) rfl ?_
  intro p e s m args below meth c s₁ B hml hv
  obtain ⟨rfl, hsz, hP, hK, hSt, hw⟩ := hv
  subst hsz
  have hts := atoms_spec (ws := w_LogDisk_findLog) B.pre
  have hl := lv_entry ([.ref (gad Y x0)]) (n := 4) (Nat.le_of_ble_eq_true rfl)
  rw [lg_entry_eq]
  generalize (lg_sl ([.ref (gad Y x0)]) ++ List.replicate (4 - (lg_sl ([.ref (gad Y x0)])).length) Slot.unset).toArray = ls at hl ⊢
  exact mw_LogDisk_findLog ⟨B.exec, B.bytes, hml, findClass_of_methodNamed B.named, hts, B.returns, B.notSynchronized, hK, hY, hSt⟩ x0 S s.heap [] ls hx0 hw hP va_S.rf hl

def wp_LogDisk_crash (Ln : gI → Nat) (Q : Int32 → gS → Prop) (x0 : gI) (x1 : Int64)  (S : gS) : Prop :=
  wp_LogDisk_crashFiles Ln (fun S1 => wp_LogDisk_findVote Ln (fun S2 => wp_LogDisk_findSnapshot Ln (fun S3 => wp_LogDisk_findLog Ln (fun S4 => wp_LogDisk_syncFiles Ln (fun S5 => Q (S5.1 x0 10) S5) x0 S4) x0 S3) x0 S2) x0 S1) x0 x1 S
set_option maxHeartbeats 4000000 in
set_option maxRecDepth 100000 in
theorem mw_LogDisk_crash {p : Program} {l : Launch} {e : Env} {s : State} {m : MethodId} {args : Array Value} {below : List Frame} {meth : Method} {c : Code} {Y : gY} {Q : Int32 → gS → Prop} (C : gCx p s m args meth c Y "LogDisk" c_LogDisk_crash 3 (Option.some Jvm.ClassFile.FieldType.int) w_LogDisk_crash) : ∀ (x0 : gI) (x1 : Int64)  (S : gS) (H : Heap) (locs : List Loc) (ls : Array Slot), gis Y 9 x0 → wp_LogDisk_crash (gLn Y) Q x0 x1 S → gWd Y S H → va_S (gA Y s.heap.size) s.heap H locs → lv_has ls 3 [(0, .ref (gad Y x0)), (1, .long x1)] → W p l e (gRm 7 167) s m args below meth c H locs 0 0 (MQ below (va_Qi Q (gB Y) (gA Y s.heap.size)) args s 0 0 (gA Y s.heap.size)) (F0 m 0 ls []) := by
  have C0 := C
  obtain ⟨hx, hb, hml, hown, hts, hr, hlocks, hK, hY, hSt⟩ := C
  intro x0 x1 S H locs ls hx0 hw hP hS hl
  unfold wp_LogDisk_crash at hw
  refine lv_aload_n hx hb d_LogDisk_crash_0 rfl (lv_at hl 0 rfl) ?_
  refine lv_lload_n hx hb d_LogDisk_crash_1 rfl (lv_at hl 1 rfl) ?_
  refine g_callv (va_runV (As := [.long x1]) (rest := []) ⟨hx, hb, hml, hown, hts⟩ (k_LogDisk_crashFiles l Y hY H.size x0 x1 hx0 S _) (cwV 1 hts (gG_V gw_301 gw_303 gs_1 gw_1 gw_304) rfl rfl rfl (by decide +kernel) ⟨Nat.le_of_ble_eq_true rfl, Nat.le_of_ble_eq_true rfl⟩) ⟨gPre_blind, g_recv hK hP hx0 (gce_LogDisk hx0.1) rfl, g_pre hK hSt hS hP hw⟩ rfl rfl hl.1 rfl (lv_room (Nat.le_of_ble_eq_true rfl)) d_LogDisk_crash_2 ⟨Nat.zero_le _, Nat.zero_le _⟩) hS (fun S1 H locs hw hP hS => ?_)
  refine lv_aload_n hx hb d_LogDisk_crash_5 rfl (lv_at hl 0 rfl) ?_
  refine g_callv (va_runV (As := []) (rest := []) ⟨hx, hb, hml, hown, hts⟩ (k_LogDisk_findVote l Y hY H.size x0 hx0 S1 _) (cwV 0 hts (gG_V gw_324 gw_326 gs_2 gw_1 gw_327) rfl rfl rfl (by decide +kernel) ⟨Nat.le_of_ble_eq_true rfl, Nat.le_of_ble_eq_true rfl⟩) ⟨gPre_blind, g_recv hK hP hx0 (gce_LogDisk hx0.1) rfl, g_pre hK hSt hS hP hw⟩ rfl rfl hl.1 rfl (lv_room (Nat.le_of_ble_eq_true rfl)) d_LogDisk_crash_6 ⟨Nat.zero_le _, Nat.zero_le _⟩) hS (fun S2 H locs hw hP hS => ?_)
  refine lv_aload_n hx hb d_LogDisk_crash_9 rfl (lv_at hl 0 rfl) ?_
  refine g_callv (va_runV (As := []) (rest := []) ⟨hx, hb, hml, hown, hts⟩ (k_LogDisk_findSnapshot l Y hY H.size x0 hx0 S2 _) (cwV 0 hts (gG_V gw_355 gw_357 gs_3 gw_1 gw_358) rfl rfl rfl (by decide +kernel) ⟨Nat.le_of_ble_eq_true rfl, Nat.le_of_ble_eq_true rfl⟩) ⟨gPre_blind, g_recv hK hP hx0 (gce_LogDisk hx0.1) rfl, g_pre hK hSt hS hP hw⟩ rfl rfl hl.1 rfl (lv_room (Nat.le_of_ble_eq_true rfl)) d_LogDisk_crash_10 ⟨Nat.zero_le _, Nat.zero_le _⟩) hS (fun S3 H locs hw hP hS => ?_)
  refine lv_aload_n hx hb d_LogDisk_crash_13 rfl (lv_at hl 0 rfl) ?_
  refine g_callv (va_runV (As := []) (rest := []) ⟨hx, hb, hml, hown, hts⟩ (k_LogDisk_findLog l Y hY H.size x0 hx0 S3 _) (cwV 0 hts (gG_V gw_363 gw_365 gs_4 gw_1 gw_366) rfl rfl rfl (by decide +kernel) ⟨Nat.le_of_ble_eq_true rfl, Nat.le_of_ble_eq_true rfl⟩) ⟨gPre_blind, g_recv hK hP hx0 (gce_LogDisk hx0.1) rfl, g_pre hK hSt hS hP hw⟩ rfl rfl hl.1 rfl (lv_room (Nat.le_of_ble_eq_true rfl)) d_LogDisk_crash_14 ⟨Nat.zero_le _, Nat.zero_le _⟩) hS (fun S4 H locs hw hP hS => ?_)
  refine lv_aload_n hx hb d_LogDisk_crash_17 rfl (lv_at hl 0 rfl) ?_
  refine g_callv (va_runV (As := []) (rest := []) ⟨hx, hb, hml, hown, hts⟩ (k_LogDisk_syncFiles l Y hY H.size x0 hx0 S4 _) (cwV 0 hts (gG_V gw_270 gw_272 gs_0 gw_1 gw_273) rfl rfl rfl (by decide +kernel) ⟨Nat.le_of_ble_eq_true rfl, Nat.le_of_ble_eq_true rfl⟩) ⟨gPre_blind, g_recv hK hP hx0 (gce_LogDisk hx0.1) rfl, g_pre hK hSt hS hP hw⟩ rfl rfl hl.1 rfl (lv_room (Nat.le_of_ble_eq_true rfl)) d_LogDisk_crash_18 ⟨Nat.zero_le _, Nat.zero_le _⟩) hS (fun S5 H locs hw hP hS => ?_)
  refine lv_aload_n hx hb d_LogDisk_crash_21 rfl (lv_at hl 0 rfl) ?_
  refine g_get hx hb hts (fun w h => List.mem_cons_of_mem _ (in_LogDisk w h)) hown hK hP hx0 (gce_LogDisk hx0.1) rfl 10 (by decide) (hts _ (List.mem_cons_of_mem _ gw_239)) rfl d_LogDisk_crash_22 ?_
  exact W.iret (v := (S5.1 x0 10)) hx hb hr (fun t ht hW => ⟨⟨(S5.1 x0 10), S5, rfl, hw, by rw [ht]; exact hP, va_K.moved hW.alike hK⟩, hS.F ht⟩) hS.2.2 d_LogDisk_crash_25
set_option maxHeartbeats 4000000 in
set_option maxRecDepth 100000 in
theorem k_LogDisk_crash (l : Launch) (Y : gY) (hY : gOK Y) (sz : Nat) (x0 : gI) (x1 : Int64)  (hx0 : gis Y 9 x0) (S : gS) (Q : Int32 → gS → Prop) : Met l y_LogDisk_crash w_LogDisk_crash (gRm 7 167) (gPre Y [.ref (gad Y x0), .long x1] S sz (wp_LogDisk_crash (gLn Y) Q x0 x1 S)) (va_Qi Q (gB Y) (gA Y sz)) 0 0 (gA Y sz) := by
  refine Met.ofW (cc := c_LogDisk_crash) (maxL := 3) (ret := (Option.some Jvm.ClassFile.FieldType.int)) (by decide) rfl ?_
  intro p e s m args below meth c s₁ B hml hv
  obtain ⟨rfl, hsz, hP, hK, hSt, hw⟩ := hv
  subst hsz
  have hts := atoms_spec (ws := w_LogDisk_crash) B.pre
  have hl := lv_entry ([.ref (gad Y x0), .long x1]) (n := 3) (Nat.le_of_ble_eq_true rfl)
  rw [lg_entry_eq]
  generalize (lg_sl ([.ref (gad Y x0), .long x1]) ++ List.replicate (3 - (lg_sl ([.ref (gad Y x0), .long x1])).length) Slot.unset).toArray = ls at hl ⊢
  exact mw_LogDisk_crash ⟨B.exec, B.bytes, hml, findClass_of_methodNamed B.named, hts, B.returns, B.notSynchronized, hK, hY, hSt⟩ x0 x1 S s.heap [] ls hx0 hw hP va_S.rf hl

def wp_LogDisk_snapshotBytes (Ln : gI → Nat) (Q : Int32 → gS → Prop) (x0 : gI)  (S : gS) : Prop :=
  ((¬ (S.1 (grf x0 6) 0) = (-1 : Int32)) → (vp_in (S.1 (grf x0 6) 0) (Ln (grf x0 1)) ∧ (Q ((S.1 (grf (grf (grf x0 1) (S.1 (grf x0 6) 0).toNatClampNeg) 1) 2) - 20) S))) ∧ (((S.1 (grf x0 6) 0) = (-1 : Int32)) → (Q 0 S))
set_option maxHeartbeats 4000000 in
set_option maxRecDepth 100000 in
theorem mw_LogDisk_snapshotBytes {p : Program} {l : Launch} {e : Env} {s : State} {m : MethodId} {args : Array Value} {below : List Frame} {meth : Method} {c : Code} {Y : gY} {Q : Int32 → gS → Prop} (C : gCx p s m args meth c Y "LogDisk" c_LogDisk_snapshotBytes 1 (Option.some Jvm.ClassFile.FieldType.int) w_LogDisk_snapshotBytes) : ∀ (x0 : gI)  (S : gS) (H : Heap) (locs : List Loc) (ls : Array Slot), gis Y 9 x0 → wp_LogDisk_snapshotBytes (gLn Y) Q x0 S → gWd Y S H → va_S (gA Y s.heap.size) s.heap H locs → lv_has ls 1 [(0, .ref (gad Y x0))] → W p l e (gRm 0 0) s m args below meth c H locs 0 0 (MQ below (va_Qi Q (gB Y) (gA Y s.heap.size)) args s 0 0 (gA Y s.heap.size)) (F0 m 0 ls []) := by
  have C0 := C
  obtain ⟨hx, hb, hml, hown, hts, hr, hlocks, hK, hY, hSt⟩ := C
  intro x0 S H locs ls hx0 hw hP hS hl
  unfold wp_LogDisk_snapshotBytes at hw
  refine lv_aload_n hx hb d_LogDisk_snapshotBytes_0 rfl (lv_at hl 0 rfl) ?_
  refine g_get hx hb hts (fun w h => List.mem_cons_of_mem _ (in_LogDisk w h)) hown hK hP hx0 (gce_LogDisk hx0.1) rfl 6 (by decide) (hts _ (List.mem_cons_of_mem _ gw_235)) rfl d_LogDisk_snapshotBytes_1 ?_
  refine g_get hx hb hts (fun w h => List.mem_cons_of_mem _ (in_Snapshot w h)) hown hK hP (gis_LogDisk_snapshot hY hx0) (gce_Snapshot (gis_LogDisk_snapshot hY hx0).1) rfl 0 (by decide) (hts _ (List.mem_cons_of_mem _ gw_98)) rfl d_LogDisk_snapshotBytes_4 ?_
  refine lv_iconst (v := (-1 : Int32)) hx hb d_LogDisk_snapshotBytes_7 (by decide) ?_
  refine lv_icmp_ne (tgt := 15) hx hb d_LogDisk_snapshotBytes_8 (by decide) (fun c1 => ?_) (fun c1 => ?_)
  · replace hw := hw.1 c1
    refine lv_aload_n hx hb d_LogDisk_snapshotBytes_15 rfl (lv_at hl 0 rfl) ?_
    refine g_get hx hb hts (fun w h => List.mem_cons_of_mem _ (in_LogDisk w h)) hown hK hP hx0 (gce_LogDisk hx0.1) rfl 1 (by decide) (hts _ (List.mem_cons_of_mem _ gw_230)) rfl d_LogDisk_snapshotBytes_16 ?_
    refine lv_aload_n hx hb d_LogDisk_snapshotBytes_19 rfl (lv_at hl 0 rfl) ?_
    refine g_get hx hb hts (fun w h => List.mem_cons_of_mem _ (in_LogDisk w h)) hown hK hP hx0 (gce_LogDisk hx0.1) rfl 6 (by decide) (hts _ (List.mem_cons_of_mem _ gw_235)) rfl d_LogDisk_snapshotBytes_20 ?_
    refine g_get hx hb hts (fun w h => List.mem_cons_of_mem _ (in_Snapshot w h)) hown hK hP (gis_LogDisk_snapshot hY hx0) (gce_Snapshot (gis_LogDisk_snapshot hY hx0).1) rfl 0 (by decide) (hts _ (List.mem_cons_of_mem _ gw_98)) rfl d_LogDisk_snapshotBytes_23 ?_
    obtain ⟨hin, hw⟩ := hw
    refine g_aaload hx hb hK hP (gis_LogDisk_files hY hx0) hin d_LogDisk_snapshotBytes_26 ?_
    have hin2 := hin
    refine g_get hx hb hts (fun w h => List.mem_cons_of_mem _ (in_DiskFile w h)) hown hK hP (gis_elem_DiskFile hY (gis_LogDisk_files hY hx0) hin2) (gce_DiskFile (gis_elem_DiskFile hY (gis_LogDisk_files hY hx0) hin2).1) rfl 1 (by decide) (hts _ (List.mem_cons_of_mem _ gw_215)) rfl d_LogDisk_snapshotBytes_27 ?_
    refine g_get hx hb hts (fun w h => List.mem_cons_of_mem _ (in_Content w h)) hown hK hP (gis_DiskFile_now hY (gis_elem_DiskFile hY (gis_LogDisk_files hY hx0) hin2)) (gce_Content (gis_DiskFile_now hY (gis_elem_DiskFile hY (gis_LogDisk_files hY hx0) hin2)).1) rfl 2 (by decide) (hts _ (List.mem_cons_of_mem _ gw_205)) rfl d_LogDisk_snapshotBytes_30 ?_
    refine lv_bipush (v := 20) hx hb d_LogDisk_snapshotBytes_33 (by decide) ?_
    refine lv_isub hx hb d_LogDisk_snapshotBytes_35 ?_
    exact W.iret (v := ((S.1 (grf (grf (grf x0 1) (S.1 (grf x0 6) 0).toNatClampNeg) 1) 2) - 20)) hx hb hr (fun t ht hW => ⟨⟨((S.1 (grf (grf (grf x0 1) (S.1 (grf x0 6) 0).toNatClampNeg) 1) 2) - 20), S, rfl, hw, by rw [ht]; exact hP, va_K.moved hW.alike hK⟩, hS.F ht⟩) hS.2.2 d_LogDisk_snapshotBytes_36
  · replace hw := hw.2 c1
    refine lv_iconst (v := 0) hx hb d_LogDisk_snapshotBytes_11 (by decide) ?_
    refine lv_goto (tgt := 36) hx hb d_LogDisk_snapshotBytes_12 (by decide) ?_
    exact W.iret (v := 0) hx hb hr (fun t ht hW => ⟨⟨0, S, rfl, hw, by rw [ht]; exact hP, va_K.moved hW.alike hK⟩, hS.F ht⟩) hS.2.2 d_LogDisk_snapshotBytes_36
set_option maxHeartbeats 4000000 in
set_option maxRecDepth 100000 in
theorem k_LogDisk_snapshotBytes (l : Launch) (Y : gY) (hY : gOK Y) (sz : Nat) (x0 : gI)  (hx0 : gis Y 9 x0) (S : gS) (Q : Int32 → gS → Prop) : Met l y_LogDisk_snapshotBytes w_LogDisk_snapshotBytes (gRm 0 0) (gPre Y [.ref (gad Y x0)] S sz (wp_LogDisk_snapshotBytes (gLn Y) Q x0 S)) (va_Qi Q (gB Y) (gA Y sz)) 0 0 (gA Y sz) := by
  refine Met.ofW (cc := c_LogDisk_snapshotBytes) (maxL := 1) (ret := (Option.some Jvm.ClassFile.FieldType.int)) (by decide) rfl ?_
  intro p e s m args below meth c s₁ B hml hv
  obtain ⟨rfl, hsz, hP, hK, hSt, hw⟩ := hv
  subst hsz
  have hts := atoms_spec (ws := w_LogDisk_snapshotBytes) B.pre
  have hl := lv_entry ([.ref (gad Y x0)]) (n := 1) (Nat.le_of_ble_eq_true rfl)
  rw [lg_entry_eq]
  generalize (lg_sl ([.ref (gad Y x0)]) ++ List.replicate (1 - (lg_sl ([.ref (gad Y x0)])).length) Slot.unset).toArray = ls at hl ⊢
  exact mw_LogDisk_snapshotBytes ⟨B.exec, B.bytes, hml, findClass_of_methodNamed B.named, hts, B.returns, B.notSynchronized, hK, hY, hSt⟩ x0 S s.heap [] ls hx0 hw hP va_S.rf hl
