def wp_LogDisk_state (Ln : gI → Nat) (Q : Int32 → gS → Prop) (X : String → gS → Prop) (x0 : gI) (x1 : Int32)  (S : gS) : Prop :=
  ((x1.toInt < 0 ∨ 10 < x1.toInt) → (X "java/lang/IndexOutOfBoundsException" S)) ∧ ((x1 = 0) → (Q (S.1 (grf x0 5) 0) S)) ∧ ((x1 = 1) → (Q (S.1 (grf x0 5) 1) S)) ∧ ((x1 = 2) → (Q (S.1 (grf x0 6) 1) S)) ∧ ((x1 = 3) → (Q (S.1 (grf x0 6) 2) S)) ∧ ((x1 = 4) → (Q (S.1 (grf x0 6) 3) S)) ∧ ((x1 = 5) → (wp_LogDisk_snapshotBytes Ln (fun r3 S2 => Q r3 S2) x0 S)) ∧ ((x1 = 6) → (Q (S.1 x0 10) S)) ∧ ((x1 = 7) → ((((S.1 x0 11) = 0) → (Q 0 S)) ∧ ((¬ (S.1 x0 11) = 0) → (Q 1 S)))) ∧ ((x1 = 8) → (Q (S.1 (grf x0 7) 2) S)) ∧ ((x1 = 9) → (wp_Pages_used Ln (fun r6 S5 => Q r6 S5) (grf x0 0) S)) ∧ ((x1 = 10) → (Q (S.1 (grf x0 3) 1) S))
set_option maxHeartbeats 4000000 in
set_option maxRecDepth 100000 in
theorem mw_LogDisk_state {p : Program} {l : Launch} {e : Env} {s : State} {m : MethodId} {args : Array Value} {below : List Frame} {meth : Method} {c : Code} {Y : gY} {Q : Int32 → gS → Prop} {X : String → gS → Prop} (C : gCx p s m args meth c Y "LogDisk" c_LogDisk_state 2 (Option.some Jvm.ClassFile.FieldType.int) w_LogDisk_state) (hlt : l.stackTraces = false) (hout : ∀ x ∈ c.exceptionTable.toList, False) : ∀ (x0 : gI) (x1 : Int32)  (S : gS) (H : Heap) (locs : List Loc) (ls : Array Slot), gis Y 9 x0 → wp_LogDisk_state (gLn Y) Q X x0 x1 S → gWd Y S H → va_S (gA Y s.heap.size) s.heap H locs → lv_has ls 2 [(0, .ref (gad Y x0)), (1, .int x1)] → W p l e (gRmX 6 100) s m args below meth c H locs 0 0 (gxZ below Y (va_Qi Q (gB Y) (gA Y s.heap.size)) X args s) (F0 m 0 ls []) := by
  have C0 := C
  obtain ⟨hx, hb, hml, hown, hts, hr, hlocks, hK, hY, hSt⟩ := C
  intro x0 x1 S H locs ls hx0 hw hP hS hl
  unfold wp_LogDisk_state at hw
  refine lv_iload_n hx hb d_LogDisk_state_0 rfl (lv_at hl 1 rfl) ?_
  rcases g_sw_0_10 x1 with c1 | c1 | c1 | c1 | c1 | c1 | c1 | c1 | c1 | c1 | c1 | c1
  · replace hw := hw.1 c1
    refine lv_tableOut (tgt := 147) hx hb d_LogDisk_state_1 c1 (by decide) ?_
    exact gx_throwW (text := "no such what") hx hb hlt hown (by decide +kernel) (hts _ (List.mem_cons_of_mem _ gw_659)) (hts _ (List.mem_cons_of_mem _ gw_20)) hSt (by decide +kernel) (by decide +kernel) hS hP (by rw [hml]; exact hl.1) d_LogDisk_state_147 d_LogDisk_state_150 d_LogDisk_state_151 d_LogDisk_state_154 d_LogDisk_state_157 hout (Nat.le_of_ble_eq_true rfl) (Nat.le_of_ble_eq_true rfl) (Nat.le_of_ble_eq_true rfl) (Nat.le_of_ble_eq_true rfl) hlocks hw (Nat.le_refl _) (Nat.le_refl _)
  · replace hw := hw.2.1 c1
    rw [c1]
    refine lv_tableIn (tgt := 60) (off := 59) hx hb d_LogDisk_state_1 (by decide) (by decide) (by decide) (by decide) ?_
    refine lv_aload_n hx hb d_LogDisk_state_60 rfl (lv_at hl 0 rfl) ?_
    refine g_get hx hb hts (fun w h => List.mem_cons_of_mem _ (in_LogDisk w h)) hown hK hP hx0 (gce_LogDisk hx0.1) rfl 5 (by decide) (hts _ (List.mem_cons_of_mem _ gw_234)) rfl d_LogDisk_state_61 ?_
    refine g_get hx hb hts (fun w h => List.mem_cons_of_mem _ (in_Vote w h)) hown hK hP (gis_LogDisk_vote hY hx0) (gce_Vote (gis_LogDisk_vote hY hx0).1) rfl 0 (by decide) (hts _ (List.mem_cons_of_mem _ gw_71)) rfl d_LogDisk_state_64 ?_
    exact gx_ret (W.iret (v := (S.1 (grf x0 5) 0)) hx hb hr (fun t ht hW => ⟨⟨(S.1 (grf x0 5) 0), S, rfl, hw, by rw [ht]; exact hP, va_K.moved hW.alike hK⟩, hS.F ht⟩) hS.2.2 d_LogDisk_state_67)
  · replace hw := hw.2.2.1 c1
    rw [c1]
    refine lv_tableIn (tgt := 68) (off := 67) hx hb d_LogDisk_state_1 (by decide) (by decide) (by decide) (by decide) ?_
    refine lv_aload_n hx hb d_LogDisk_state_68 rfl (lv_at hl 0 rfl) ?_
    refine g_get hx hb hts (fun w h => List.mem_cons_of_mem _ (in_LogDisk w h)) hown hK hP hx0 (gce_LogDisk hx0.1) rfl 5 (by decide) (hts _ (List.mem_cons_of_mem _ gw_234)) rfl d_LogDisk_state_69 ?_
    refine g_get hx hb hts (fun w h => List.mem_cons_of_mem _ (in_Vote w h)) hown hK hP (gis_LogDisk_vote hY hx0) (gce_Vote (gis_LogDisk_vote hY hx0).1) rfl 1 (by decide) (hts _ (List.mem_cons_of_mem _ gw_73)) rfl d_LogDisk_state_72 ?_
    exact gx_ret (W.iret (v := (S.1 (grf x0 5) 1)) hx hb hr (fun t ht hW => ⟨⟨(S.1 (grf x0 5) 1), S, rfl, hw, by rw [ht]; exact hP, va_K.moved hW.alike hK⟩, hS.F ht⟩) hS.2.2 d_LogDisk_state_75)
  · replace hw := hw.2.2.2.1 c1
    rw [c1]
    refine lv_tableIn (tgt := 76) (off := 75) hx hb d_LogDisk_state_1 (by decide) (by decide) (by decide) (by decide) ?_
    refine lv_aload_n hx hb d_LogDisk_state_76 rfl (lv_at hl 0 rfl) ?_
    refine g_get hx hb hts (fun w h => List.mem_cons_of_mem _ (in_LogDisk w h)) hown hK hP hx0 (gce_LogDisk hx0.1) rfl 6 (by decide) (hts _ (List.mem_cons_of_mem _ gw_235)) rfl d_LogDisk_state_77 ?_
    refine g_get hx hb hts (fun w h => List.mem_cons_of_mem _ (in_Snapshot w h)) hown hK hP (gis_LogDisk_snapshot hY hx0) (gce_Snapshot (gis_LogDisk_snapshot hY hx0).1) rfl 1 (by decide) (hts _ (List.mem_cons_of_mem _ gw_100)) rfl d_LogDisk_state_80 ?_
    exact gx_ret (W.iret (v := (S.1 (grf x0 6) 1)) hx hb hr (fun t ht hW => ⟨⟨(S.1 (grf x0 6) 1), S, rfl, hw, by rw [ht]; exact hP, va_K.moved hW.alike hK⟩, hS.F ht⟩) hS.2.2 d_LogDisk_state_83)
  · replace hw := hw.2.2.2.2.1 c1
    rw [c1]
    refine lv_tableIn (tgt := 84) (off := 83) hx hb d_LogDisk_state_1 (by decide) (by decide) (by decide) (by decide) ?_
    refine lv_aload_n hx hb d_LogDisk_state_84 rfl (lv_at hl 0 rfl) ?_
    refine g_get hx hb hts (fun w h => List.mem_cons_of_mem _ (in_LogDisk w h)) hown hK hP hx0 (gce_LogDisk hx0.1) rfl 6 (by decide) (hts _ (List.mem_cons_of_mem _ gw_235)) rfl d_LogDisk_state_85 ?_
    refine g_get hx hb hts (fun w h => List.mem_cons_of_mem _ (in_Snapshot w h)) hown hK hP (gis_LogDisk_snapshot hY hx0) (gce_Snapshot (gis_LogDisk_snapshot hY hx0).1) rfl 2 (by decide) (hts _ (List.mem_cons_of_mem _ gw_102)) rfl d_LogDisk_state_88 ?_
    exact gx_ret (W.iret (v := (S.1 (grf x0 6) 2)) hx hb hr (fun t ht hW => ⟨⟨(S.1 (grf x0 6) 2), S, rfl, hw, by rw [ht]; exact hP, va_K.moved hW.alike hK⟩, hS.F ht⟩) hS.2.2 d_LogDisk_state_91)
  · replace hw := hw.2.2.2.2.2.1 c1
    rw [c1]
    refine lv_tableIn (tgt := 92) (off := 91) hx hb d_LogDisk_state_1 (by decide) (by decide) (by decide) (by decide) ?_
    refine lv_aload_n hx hb d_LogDisk_state_92 rfl (lv_at hl 0 rfl) ?_
    refine g_get hx hb hts (fun w h => List.mem_cons_of_mem _ (in_LogDisk w h)) hown hK hP hx0 (gce_LogDisk hx0.1) rfl 6 (by decide) (hts _ (List.mem_cons_of_mem _ gw_235)) rfl d_LogDisk_state_93 ?_
    refine g_get hx hb hts (fun w h => List.mem_cons_of_mem _ (in_Snapshot w h)) hown hK hP (gis_LogDisk_snapshot hY hx0) (gce_Snapshot (gis_LogDisk_snapshot hY hx0).1) rfl 3 (by decide) (hts _ (List.mem_cons_of_mem _ gw_103)) rfl d_LogDisk_state_96 ?_
    exact gx_ret (W.iret (v := (S.1 (grf x0 6) 3)) hx hb hr (fun t ht hW => ⟨⟨(S.1 (grf x0 6) 3), S, rfl, hw, by rw [ht]; exact hP, va_K.moved hW.alike hK⟩, hS.F ht⟩) hS.2.2 d_LogDisk_state_99)
  · replace hw := hw.2.2.2.2.2.2.1 c1
    rw [c1]
    refine lv_tableIn (tgt := 100) (off := 99) hx hb d_LogDisk_state_1 (by decide) (by decide) (by decide) (by decide) ?_
    refine lv_aload_n hx hb d_LogDisk_state_100 rfl (lv_at hl 0 rfl) ?_
    refine g_calli (va_runV (As := []) (rest := []) ⟨hx, hb, hml, hown, hts⟩ (k_LogDisk_snapshotBytes l Y hY H.size x0 hx0 S _) (cwV 0 hts (gG_V gw_730 gw_732 gs_20 gw_1 gw_733) rfl rfl rfl (by decide +kernel) ⟨Nat.le_of_ble_eq_true rfl, Nat.le_of_ble_eq_true rfl⟩) ⟨gPre_blind, g_recv hK hP hx0 (gce_LogDisk hx0.1) rfl, g_pre hK hSt hS hP hw⟩ rfl rfl hl.1 rfl (lv_room (Nat.le_of_ble_eq_true rfl)) d_LogDisk_state_101 ⟨Nat.zero_le _, Nat.zero_le _⟩) hS (fun r3 S2 H locs hw hP hS => ?_)
    exact gx_ret (W.iret (v := r3) hx hb hr (fun t ht hW => ⟨⟨r3, S2, rfl, hw, by rw [ht]; exact hP, va_K.moved hW.alike hK⟩, hS.F ht⟩) hS.2.2 d_LogDisk_state_104)
  · replace hw := hw.2.2.2.2.2.2.2.1 c1
    rw [c1]
    refine lv_tableIn (tgt := 105) (off := 104) hx hb d_LogDisk_state_1 (by decide) (by decide) (by decide) (by decide) ?_
    refine lv_aload_n hx hb d_LogDisk_state_105 rfl (lv_at hl 0 rfl) ?_
    refine g_get hx hb hts (fun w h => List.mem_cons_of_mem _ (in_LogDisk w h)) hown hK hP hx0 (gce_LogDisk hx0.1) rfl 10 (by decide) (hts _ (List.mem_cons_of_mem _ gw_239)) rfl d_LogDisk_state_106 ?_
    exact gx_ret (W.iret (v := (S.1 x0 10)) hx hb hr (fun t ht hW => ⟨⟨(S.1 x0 10), S, rfl, hw, by rw [ht]; exact hP, va_K.moved hW.alike hK⟩, hS.F ht⟩) hS.2.2 d_LogDisk_state_109)
  · replace hw := hw.2.2.2.2.2.2.2.2.1 c1
    rw [c1]
    refine lv_tableIn (tgt := 110) (off := 109) hx hb d_LogDisk_state_1 (by decide) (by decide) (by decide) (by decide) ?_
    refine lv_aload_n hx hb d_LogDisk_state_110 rfl (lv_at hl 0 rfl) ?_
    refine g_get hx hb hts (fun w h => List.mem_cons_of_mem _ (in_LogDisk w h)) hown hK hP hx0 (gce_LogDisk hx0.1) rfl 11 (by decide) (hts _ (List.mem_cons_of_mem _ gw_240)) rfl d_LogDisk_state_111 ?_
    refine lv_if_eq (tgt := 121) hx hb d_LogDisk_state_114 (by decide) (fun c4 => ?_) (fun c4 => ?_)
    · replace hw := hw.1 c4
      refine lv_iconst (v := 0) hx hb d_LogDisk_state_121 (by decide) ?_
      exact gx_ret (W.iret (v := 0) hx hb hr (fun t ht hW => ⟨⟨0, S, rfl, hw, by rw [ht]; exact hP, va_K.moved hW.alike hK⟩, hS.F ht⟩) hS.2.2 d_LogDisk_state_122)
    · replace hw := hw.2 c4
      refine lv_iconst (v := 1) hx hb d_LogDisk_state_117 (by decide) ?_
      refine lv_goto (tgt := 122) hx hb d_LogDisk_state_118 (by decide) ?_
      exact gx_ret (W.iret (v := 1) hx hb hr (fun t ht hW => ⟨⟨1, S, rfl, hw, by rw [ht]; exact hP, va_K.moved hW.alike hK⟩, hS.F ht⟩) hS.2.2 d_LogDisk_state_122)
  · replace hw := hw.2.2.2.2.2.2.2.2.2.1 c1
    rw [c1]
    refine lv_tableIn (tgt := 123) (off := 122) hx hb d_LogDisk_state_1 (by decide) (by decide) (by decide) (by decide) ?_
    refine lv_aload_n hx hb d_LogDisk_state_123 rfl (lv_at hl 0 rfl) ?_
    refine g_get hx hb hts (fun w h => List.mem_cons_of_mem _ (in_LogDisk w h)) hown hK hP hx0 (gce_LogDisk hx0.1) rfl 7 (by decide) (hts _ (List.mem_cons_of_mem _ gw_236)) rfl d_LogDisk_state_124 ?_
    refine g_get hx hb hts (fun w h => List.mem_cons_of_mem _ (in_Segments w h)) hown hK hP (gis_LogDisk_segments hY hx0) (gce_Segments (gis_LogDisk_segments hY hx0).1) rfl 2 (by decide) (hts _ (List.mem_cons_of_mem _ gw_125)) rfl d_LogDisk_state_127 ?_
    exact gx_ret (W.iret (v := (S.1 (grf x0 7) 2)) hx hb hr (fun t ht hW => ⟨⟨(S.1 (grf x0 7) 2), S, rfl, hw, by rw [ht]; exact hP, va_K.moved hW.alike hK⟩, hS.F ht⟩) hS.2.2 d_LogDisk_state_130)
  · replace hw := hw.2.2.2.2.2.2.2.2.2.2.1 c1
    rw [c1]
    refine lv_tableIn (tgt := 131) (off := 130) hx hb d_LogDisk_state_1 (by decide) (by decide) (by decide) (by decide) ?_
    refine lv_aload_n hx hb d_LogDisk_state_131 rfl (lv_at hl 0 rfl) ?_
    refine g_get hx hb hts (fun w h => List.mem_cons_of_mem _ (in_LogDisk w h)) hown hK hP hx0 (gce_LogDisk hx0.1) rfl 0 (by decide) (hts _ (List.mem_cons_of_mem _ gw_229)) rfl d_LogDisk_state_132 ?_
    refine g_calli (va_runV (As := []) (rest := []) ⟨hx, hb, hml, hown, hts⟩ (k_Pages_used l Y hY H.size (grf x0 0) (gis_LogDisk_pages hY hx0) S _) (cwV 0 hts (gG_V gw_734 gw_735 gw_736 gw_9 gw_737) rfl rfl rfl (by decide +kernel) ⟨Nat.le_of_ble_eq_true rfl, Nat.le_of_ble_eq_true rfl⟩) ⟨gPre_blind, g_recv hK hP (gis_LogDisk_pages hY hx0) (gce_Pages (gis_LogDisk_pages hY hx0).1) rfl, g_pre hK hSt hS hP hw⟩ rfl rfl hl.1 rfl (lv_room (Nat.le_of_ble_eq_true rfl)) d_LogDisk_state_135 ⟨Nat.zero_le _, Nat.zero_le _⟩) hS (fun r6 S5 H locs hw hP hS => ?_)
    exact gx_ret (W.iret (v := r6) hx hb hr (fun t ht hW => ⟨⟨r6, S5, rfl, hw, by rw [ht]; exact hP, va_K.moved hW.alike hK⟩, hS.F ht⟩) hS.2.2 d_LogDisk_state_138)
  · replace hw := hw.2.2.2.2.2.2.2.2.2.2.2 c1
    rw [c1]
    refine lv_tableIn (tgt := 139) (off := 138) hx hb d_LogDisk_state_1 (by decide) (by decide) (by decide) (by decide) ?_
    refine lv_aload_n hx hb d_LogDisk_state_139 rfl (lv_at hl 0 rfl) ?_
    refine g_get hx hb hts (fun w h => List.mem_cons_of_mem _ (in_LogDisk w h)) hown hK hP hx0 (gce_LogDisk hx0.1) rfl 3 (by decide) (hts _ (List.mem_cons_of_mem _ gw_232)) rfl d_LogDisk_state_140 ?_
    refine g_get hx hb hts (fun w h => List.mem_cons_of_mem _ (in_Tape w h)) hown hK hP (gis_LogDisk_tape hY hx0) (gce_Tape (gis_LogDisk_tape hY hx0).1) rfl 1 (by decide) (hts _ (List.mem_cons_of_mem _ gw_41)) rfl d_LogDisk_state_143 ?_
    exact gx_ret (W.iret (v := (S.1 (grf x0 3) 1)) hx hb hr (fun t ht hW => ⟨⟨(S.1 (grf x0 3) 1), S, rfl, hw, by rw [ht]; exact hP, va_K.moved hW.alike hK⟩, hS.F ht⟩) hS.2.2 d_LogDisk_state_146)
set_option maxHeartbeats 4000000 in
set_option maxRecDepth 100000 in
theorem k_LogDisk_state (l : Launch) (hlt : l.stackTraces = false) (Y : gY) (hY : gOK Y) (sz : Nat) (x0 : gI) (x1 : Int32)  (hx0 : gis Y 9 x0) (S : gS) (Q : Int32 → gS → Prop) (X : String → gS → Prop) : gxMet l y_LogDisk_state w_LogDisk_state (gRmX 6 100) (gPre Y [.ref (gad Y x0), .int x1] S sz (wp_LogDisk_state (gLn Y) Q X x0 x1 S)) Y sz (va_Qi Q (gB Y) (gA Y sz)) X := by
  refine gx_ofW (cc := c_LogDisk_state) (maxL := 2) (ret := (Option.some Jvm.ClassFile.FieldType.int)) (by decide) rfl ?_
  intro p e s m args below meth c s₁ B hml hout hv
  obtain ⟨rfl, hsz, hP, hK, hSt, hw⟩ := hv
  subst hsz
  refine ⟨rfl, ?_⟩
  have hts := atoms_spec (ws := w_LogDisk_state) B.pre
  have hl := lv_entry ([.ref (gad Y x0), .int x1]) (n := 2) (Nat.le_of_ble_eq_true rfl)
  rw [lg_entry_eq]
  generalize (lg_sl ([.ref (gad Y x0), .int x1]) ++ List.replicate (2 - (lg_sl ([.ref (gad Y x0), .int x1])).length) Slot.unset).toArray = ls at hl ⊢
  exact mw_LogDisk_state ⟨B.exec, B.bytes, hml, findClass_of_methodNamed B.named, hts, B.returns, B.notSynchronized, hK, hY, hSt⟩ hlt hout x0 x1 S s.heap [] ls hx0 hw hP va_S.rf hl

def wp_LogDisk_entry_23 (Ln : gI → Nat) (Q : Int32 → gS → Prop) (X : String → gS → Prop) (x0 : gI) (x1 : Int32) (x2 : Int32)  (S : gS) : Prop :=
  wp_LogDisk_isInLog Ln (fun r3 S2 => ((¬ r3 = 0) → (wp_Entries_slot Ln (fun r6 S5 => ((x2.toInt < 0 ∨ 4 < x2.toInt) → (X "java/lang/IndexOutOfBoundsException" S5)) ∧ ((x2 = 0) → (vp_in r6 (Ln (grf (grf x0 8) 2)) ∧ (Q (S5.1 (grf (grf x0 8) 2) r6.toNatClampNeg) S5))) ∧ ((x2 = 1) → (vp_in r6 (Ln (grf (grf x0 8) 3)) ∧ (Q (S5.1 (grf (grf x0 8) 3) r6.toNatClampNeg) S5))) ∧ ((x2 = 2) → (vp_in r6 (Ln (grf (grf x0 8) 4)) ∧ (Q (S5.1 (grf (grf x0 8) 4) r6.toNatClampNeg) S5))) ∧ ((x2 = 3) → (vp_in r6 (Ln (grf (grf x0 8) 0)) ∧ (Q (S5.1 (grf (grf x0 8) 0) r6.toNatClampNeg) S5))) ∧ ((x2 = 4) → (vp_in r6 (Ln (grf (grf x0 8) 1)) ∧ (Q (S5.1 (grf (grf x0 8) 1) r6.toNatClampNeg) S5)))) (grf x0 8) x1 S2)) ∧ ((r3 = 0) → (X "java/lang/IndexOutOfBoundsException" S2))) x0 x1 S
def wp_LogDisk_entry (Ln : gI → Nat) (Q : Int32 → gS → Prop) (X : String → gS → Prop) (x0 : gI) (x1 : Int32) (x2 : Int32)  (S : gS) : Prop :=
  ((¬ x1 = (S.1 (grf x0 6) 1)) → (wp_LogDisk_entry_23 Ln Q X x0 x1 x2 S)) ∧ ((x1 = (S.1 (grf x0 6) 1)) → (((¬ x2 = 0) → (wp_LogDisk_entry_23 Ln Q X x0 x1 x2 S)) ∧ ((x2 = 0) → (Q (S.1 (grf x0 6) 2) S))))
set_option maxHeartbeats 4000000 in
set_option maxRecDepth 100000 in
theorem mw_LogDisk_entry_23 {p : Program} {l : Launch} {e : Env} {s : State} {m : MethodId} {args : Array Value} {below : List Frame} {meth : Method} {c : Code} {Y : gY} {Q : Int32 → gS → Prop} {X : String → gS → Prop} (C : gCx p s m args meth c Y "LogDisk" c_LogDisk_entry 4 (Option.some Jvm.ClassFile.FieldType.int) w_LogDisk_entry) (hlt : l.stackTraces = false) (hout : ∀ x ∈ c.exceptionTable.toList, False) : ∀ (x0 : gI) (x1 : Int32) (x2 : Int32)  (S : gS) (H : Heap) (locs : List Loc) (ls : Array Slot), gis Y 9 x0 → wp_LogDisk_entry_23 (gLn Y) Q X x0 x1 x2 S → gWd Y S H → va_S (gA Y s.heap.size) s.heap H locs → lv_has ls 4 [(0, .ref (gad Y x0)), (1, .int x1), (2, .int x2)] → W p l e (gRmX 6 100) s m args below meth c H locs 0 0 (gxZ below Y (va_Qi Q (gB Y) (gA Y s.heap.size)) X args s) (F0 m 23 ls []) := by
  have C0 := C
  obtain ⟨hx, hb, hml, hown, hts, hr, hlocks, hK, hY, hSt⟩ := C
  intro x0 x1 x2 S H locs ls hx0 hw hP hS hl
  unfold wp_LogDisk_entry_23 at hw
  refine lv_aload_n hx hb d_LogDisk_entry_23 rfl (lv_at hl 0 rfl) ?_
  refine lv_iload_n hx hb d_LogDisk_entry_24 rfl (lv_at hl 1 rfl) ?_
  refine g_calli (va_runV (As := [.int x1]) (rest := []) ⟨hx, hb, hml, hown, hts⟩ (k_LogDisk_isInLog l Y hY H.size x0 x1 hx0 S _) (cwV 1 hts (gG_V gw_615 gw_617 gs_13 gw_1 gw_618) rfl rfl rfl (by decide +kernel) ⟨Nat.le_of_ble_eq_true rfl, Nat.le_of_ble_eq_true rfl⟩) ⟨gPre_blind, g_recv hK hP hx0 (gce_LogDisk hx0.1) rfl, g_pre hK hSt hS hP hw⟩ rfl rfl hl.1 rfl (lv_room (Nat.le_of_ble_eq_true rfl)) d_LogDisk_entry_25 ⟨Nat.zero_le _, Nat.zero_le _⟩) hS (fun r3 S2 H locs hw hP hS => ?_)
  refine lv_if_ne (tgt := 42) hx hb d_LogDisk_entry_28 (by decide) (fun c4 => ?_) (fun c4 => ?_)
  · replace hw := hw.1 c4
    refine lv_aload_n hx hb d_LogDisk_entry_42 rfl (lv_at hl 0 rfl) ?_
    refine g_get hx hb hts (fun w h => List.mem_cons_of_mem _ (in_LogDisk w h)) hown hK hP hx0 (gce_LogDisk hx0.1) rfl 8 (by decide) (hts _ (List.mem_cons_of_mem _ gw_237)) rfl d_LogDisk_entry_43 ?_
    refine lv_iload_n hx hb d_LogDisk_entry_46 rfl (lv_at hl 1 rfl) ?_
    refine g_calli (va_runV (As := [.int x1]) (rest := []) ⟨hx, hb, hml, hown, hts⟩ (k_Entries_slot l Y hY H.size (grf x0 8) x1 (gis_LogDisk_entries hY hx0) S2 _) (cwV 1 hts (gG_V gw_401 gw_386 gw_387 gw_7 gw_388) rfl rfl rfl (by decide +kernel) ⟨Nat.le_of_ble_eq_true rfl, Nat.le_of_ble_eq_true rfl⟩) ⟨gPre_blind, g_recv hK hP (gis_LogDisk_entries hY hx0) (gce_Entries (gis_LogDisk_entries hY hx0).1) rfl, g_pre hK hSt hS hP hw⟩ rfl rfl hl.1 rfl (lv_room (Nat.le_of_ble_eq_true rfl)) d_LogDisk_entry_47 ⟨Nat.zero_le _, Nat.zero_le _⟩) hS (fun r6 S5 H locs hw hP hS => ?_)
    refine lv_istore_n (lv' := [(3, .int r6), (0, .ref (gad Y x0)), (1, .int x1), (2, .int x2)]) hx hb d_LogDisk_entry_50 rfl hl (by decide) rfl (fun ls hl => ?_)
    refine lv_iload_n hx hb d_LogDisk_entry_51 rfl (lv_at hl 3 rfl) ?_
    rcases g_sw_0_4 x2 with c7 | c7 | c7 | c7 | c7 | c7
    · replace hw := hw.1 c7
      refine lv_tableOut (tgt := 138) hx hb d_LogDisk_entry_52 c7 (by decide) ?_
      exact gx_throwW (text := "no such what") hx hb hlt hown (by decide +kernel) (hts _ (List.mem_cons_of_mem _ gw_659)) (hts _ (List.mem_cons_of_mem _ gw_20)) hSt (by decide +kernel) (by decide +kernel) hS hP (by rw [hml]; exact hl.1) d_LogDisk_entry_138 d_LogDisk_entry_141 d_LogDisk_entry_142 d_LogDisk_entry_145 d_LogDisk_entry_148 hout (Nat.le_of_ble_eq_true rfl) (Nat.le_of_ble_eq_true rfl) (Nat.le_of_ble_eq_true rfl) (Nat.le_of_ble_eq_true rfl) hlocks hw (Nat.le_refl _) (Nat.le_refl _)
    · replace hw := hw.2.1 c7
      rw [c7]
      refine lv_tableIn (tgt := 88) (off := 36) hx hb d_LogDisk_entry_52 (by decide) (by decide) (by decide) (by decide) ?_
      refine lv_aload_n hx hb d_LogDisk_entry_88 rfl (lv_at hl 1 rfl) ?_
      refine g_get hx hb hts (fun w h => List.mem_cons_of_mem _ (in_LogDisk w h)) hown hK hP hx0 (gce_LogDisk hx0.1) rfl 8 (by decide) (hts _ (List.mem_cons_of_mem _ gw_237)) rfl d_LogDisk_entry_89 ?_
      refine g_get hx hb hts (fun w h => List.mem_cons_of_mem _ (in_Entries w h)) hown hK hP (gis_LogDisk_entries hY hx0) (gce_Entries (gis_LogDisk_entries hY hx0).1) rfl 2 (by decide) (hts _ (List.mem_cons_of_mem _ gw_144)) rfl d_LogDisk_entry_92 ?_
      refine lv_iload_n hx hb d_LogDisk_entry_95 rfl (lv_at hl 0 rfl) ?_
      obtain ⟨hin, hw⟩ := hw
      refine g_iaload hx hb hK hP (gis_Entries_term hY (gis_LogDisk_entries hY hx0)) hin d_LogDisk_entry_96 ?_
      exact gx_ret (W.iret (v := (S5.1 (grf (grf x0 8) 2) r6.toNatClampNeg)) hx hb hr (fun t ht hW => ⟨⟨(S5.1 (grf (grf x0 8) 2) r6.toNatClampNeg), S5, rfl, hw, by rw [ht]; exact hP, va_K.moved hW.alike hK⟩, hS.F ht⟩) hS.2.2 d_LogDisk_entry_97)
    · replace hw := hw.2.2.1 c7
      rw [c7]
      refine lv_tableIn (tgt := 98) (off := 46) hx hb d_LogDisk_entry_52 (by decide) (by decide) (by decide) (by decide) ?_
      refine lv_aload_n hx hb d_LogDisk_entry_98 rfl (lv_at hl 1 rfl) ?_
      refine g_get hx hb hts (fun w h => List.mem_cons_of_mem _ (in_LogDisk w h)) hown hK hP hx0 (gce_LogDisk hx0.1) rfl 8 (by decide) (hts _ (List.mem_cons_of_mem _ gw_237)) rfl d_LogDisk_entry_99 ?_
      refine g_get hx hb hts (fun w h => List.mem_cons_of_mem _ (in_Entries w h)) hown hK hP (gis_LogDisk_entries hY hx0) (gce_Entries (gis_LogDisk_entries hY hx0).1) rfl 3 (by decide) (hts _ (List.mem_cons_of_mem _ gw_146)) rfl d_LogDisk_entry_102 ?_
      refine lv_iload_n hx hb d_LogDisk_entry_105 rfl (lv_at hl 0 rfl) ?_
      obtain ⟨hin, hw⟩ := hw
      refine g_iaload hx hb hK hP (gis_Entries_kind hY (gis_LogDisk_entries hY hx0)) hin d_LogDisk_entry_106 ?_
      exact gx_ret (W.iret (v := (S5.1 (grf (grf x0 8) 3) r6.toNatClampNeg)) hx hb hr (fun t ht hW => ⟨⟨(S5.1 (grf (grf x0 8) 3) r6.toNatClampNeg), S5, rfl, hw, by rw [ht]; exact hP, va_K.moved hW.alike hK⟩, hS.F ht⟩) hS.2.2 d_LogDisk_entry_107)
    · replace hw := hw.2.2.2.1 c7
      rw [c7]
      refine lv_tableIn (tgt := 108) (off := 56) hx hb d_LogDisk_entry_52 (by decide) (by decide) (by decide) (by decide) ?_
      refine lv_aload_n hx hb d_LogDisk_entry_108 rfl (lv_at hl 1 rfl) ?_
      refine g_get hx hb hts (fun w h => List.mem_cons_of_mem _ (in_LogDisk w h)) hown hK hP hx0 (gce_LogDisk hx0.1) rfl 8 (by decide) (hts _ (List.mem_cons_of_mem _ gw_237)) rfl d_LogDisk_entry_109 ?_
      refine g_get hx hb hts (fun w h => List.mem_cons_of_mem _ (in_Entries w h)) hown hK hP (gis_LogDisk_entries hY hx0) (gce_Entries (gis_LogDisk_entries hY hx0).1) rfl 4 (by decide) (hts _ (List.mem_cons_of_mem _ gw_148)) rfl d_LogDisk_entry_112 ?_
      refine lv_iload_n hx hb d_LogDisk_entry_115 rfl (lv_at hl 0 rfl) ?_
      obtain ⟨hin, hw⟩ := hw
      refine g_iaload hx hb hK hP (gis_Entries_bytes hY (gis_LogDisk_entries hY hx0)) hin d_LogDisk_entry_116 ?_
      exact gx_ret (W.iret (v := (S5.1 (grf (grf x0 8) 4) r6.toNatClampNeg)) hx hb hr (fun t ht hW => ⟨⟨(S5.1 (grf (grf x0 8) 4) r6.toNatClampNeg), S5, rfl, hw, by rw [ht]; exact hP, va_K.moved hW.alike hK⟩, hS.F ht⟩) hS.2.2 d_LogDisk_entry_117)
    · replace hw := hw.2.2.2.2.1 c7
      rw [c7]
      refine lv_tableIn (tgt := 118) (off := 66) hx hb d_LogDisk_entry_52 (by decide) (by decide) (by decide) (by decide) ?_
      refine lv_aload_n hx hb d_LogDisk_entry_118 rfl (lv_at hl 1 rfl) ?_
      refine g_get hx hb hts (fun w h => List.mem_cons_of_mem _ (in_LogDisk w h)) hown hK hP hx0 (gce_LogDisk hx0.1) rfl 8 (by decide) (hts _ (List.mem_cons_of_mem _ gw_237)) rfl d_LogDisk_entry_119 ?_
      refine g_get hx hb hts (fun w h => List.mem_cons_of_mem _ (in_Entries w h)) hown hK hP (gis_LogDisk_entries hY hx0) (gce_Entries (gis_LogDisk_entries hY hx0).1) rfl 0 (by decide) (hts _ (List.mem_cons_of_mem _ gw_140)) rfl d_LogDisk_entry_122 ?_
      refine lv_iload_n hx hb d_LogDisk_entry_125 rfl (lv_at hl 0 rfl) ?_
      obtain ⟨hin, hw⟩ := hw
      refine g_iaload hx hb hK hP (gis_Entries_file hY (gis_LogDisk_entries hY hx0)) hin d_LogDisk_entry_126 ?_
      exact gx_ret (W.iret (v := (S5.1 (grf (grf x0 8) 0) r6.toNatClampNeg)) hx hb hr (fun t ht hW => ⟨⟨(S5.1 (grf (grf x0 8) 0) r6.toNatClampNeg), S5, rfl, hw, by rw [ht]; exact hP, va_K.moved hW.alike hK⟩, hS.F ht⟩) hS.2.2 d_LogDisk_entry_127)
    · replace hw := hw.2.2.2.2.2 c7
      rw [c7]
      refine lv_tableIn (tgt := 128) (off := 76) hx hb d_LogDisk_entry_52 (by decide) (by decide) (by decide) (by decide) ?_
      refine lv_aload_n hx hb d_LogDisk_entry_128 rfl (lv_at hl 1 rfl) ?_
      refine g_get hx hb hts (fun w h => List.mem_cons_of_mem _ (in_LogDisk w h)) hown hK hP hx0 (gce_LogDisk hx0.1) rfl 8 (by decide) (hts _ (List.mem_cons_of_mem _ gw_237)) rfl d_LogDisk_entry_129 ?_
      refine g_get hx hb hts (fun w h => List.mem_cons_of_mem _ (in_Entries w h)) hown hK hP (gis_LogDisk_entries hY hx0) (gce_Entries (gis_LogDisk_entries hY hx0).1) rfl 1 (by decide) (hts _ (List.mem_cons_of_mem _ gw_142)) rfl d_LogDisk_entry_132 ?_
      refine lv_iload_n hx hb d_LogDisk_entry_135 rfl (lv_at hl 0 rfl) ?_
      obtain ⟨hin, hw⟩ := hw
      refine g_iaload hx hb hK hP (gis_Entries_start hY (gis_LogDisk_entries hY hx0)) hin d_LogDisk_entry_136 ?_
      exact gx_ret (W.iret (v := (S5.1 (grf (grf x0 8) 1) r6.toNatClampNeg)) hx hb hr (fun t ht hW => ⟨⟨(S5.1 (grf (grf x0 8) 1) r6.toNatClampNeg), S5, rfl, hw, by rw [ht]; exact hP, va_K.moved hW.alike hK⟩, hS.F ht⟩) hS.2.2 d_LogDisk_entry_137)
  · replace hw := hw.2 c4
    exact gx_throwW (text := "no such entry") hx hb hlt hown (by decide +kernel) (hts _ (List.mem_cons_of_mem _ gw_659)) (hts _ (List.mem_cons_of_mem _ gw_20)) hSt (by decide +kernel) (by decide +kernel) hS hP (by rw [hml]; exact hl.1) d_LogDisk_entry_31 d_LogDisk_entry_34 d_LogDisk_entry_35 d_LogDisk_entry_38 d_LogDisk_entry_41 hout (Nat.le_of_ble_eq_true rfl) (Nat.le_of_ble_eq_true rfl) (Nat.le_of_ble_eq_true rfl) (Nat.le_of_ble_eq_true rfl) hlocks hw (Nat.le_refl _) (Nat.le_refl _)
set_option maxHeartbeats 4000000 in
set_option maxRecDepth 100000 in
theorem mw_LogDisk_entry {p : Program} {l : Launch} {e : Env} {s : State} {m : MethodId} {args : Array Value} {below : List Frame} {meth : Method} {c : Code} {Y : gY} {Q : Int32 → gS → Prop} {X : String → gS → Prop} (C : gCx p s m args meth c Y "LogDisk" c_LogDisk_entry 4 (Option.some Jvm.ClassFile.FieldType.int) w_LogDisk_entry) (hlt : l.stackTraces = false) (hout : ∀ x ∈ c.exceptionTable.toList, False) : ∀ (x0 : gI) (x1 : Int32) (x2 : Int32)  (S : gS) (H : Heap) (locs : List Loc) (ls : Array Slot), gis Y 9 x0 → wp_LogDisk_entry (gLn Y) Q X x0 x1 x2 S → gWd Y S H → va_S (gA Y s.heap.size) s.heap H locs → lv_has ls 4 [(0, .ref (gad Y x0)), (1, .int x1), (2, .int x2)] → W p l e (gRmX 6 100) s m args below meth c H locs 0 0 (gxZ below Y (va_Qi Q (gB Y) (gA Y s.heap.size)) X args s) (F0 m 0 ls []) := by
  have C0 := C
  obtain ⟨hx, hb, hml, hown, hts, hr, hlocks, hK, hY, hSt⟩ := C
  intro x0 x1 x2 S H locs ls hx0 hw hP hS hl
  unfold wp_LogDisk_entry at hw
  refine lv_iload_n hx hb d_LogDisk_entry_0 rfl (lv_at hl 1 rfl) ?_
  refine lv_aload_n hx hb d_LogDisk_entry_1 rfl (lv_at hl 0 rfl) ?_
  refine g_get hx hb hts (fun w h => List.mem_cons_of_mem _ (in_LogDisk w h)) hown hK hP hx0 (gce_LogDisk hx0.1) rfl 6 (by decide) (hts _ (List.mem_cons_of_mem _ gw_235)) rfl d_LogDisk_entry_2 ?_
  refine g_get hx hb hts (fun w h => List.mem_cons_of_mem _ (in_Snapshot w h)) hown hK hP (gis_LogDisk_snapshot hY hx0) (gce_Snapshot (gis_LogDisk_snapshot hY hx0).1) rfl 1 (by decide) (hts _ (List.mem_cons_of_mem _ gw_100)) rfl d_LogDisk_entry_5 ?_
  refine lv_icmp_ne (tgt := 23) hx hb d_LogDisk_entry_8 (by decide) (fun c1 => ?_) (fun c1 => ?_)
  · replace hw := hw.1 c1
    exact mw_LogDisk_entry_23 C0 hlt hout x0 x1 x2 S H locs ls hx0 hw hP hS (lv_sub hl [0, 1, 2] rfl)
  · replace hw := hw.2 c1
    refine lv_iload_n hx hb d_LogDisk_entry_11 rfl (lv_at hl 2 rfl) ?_
    refine lv_if_ne (tgt := 23) hx hb d_LogDisk_entry_12 (by decide) (fun c8 => ?_) (fun c8 => ?_)
    · replace hw := hw.1 c8
      exact mw_LogDisk_entry_23 C0 hlt hout x0 x1 x2 S H locs ls hx0 hw hP hS (lv_sub hl [0, 1, 2] rfl)
    · replace hw := hw.2 c8
      refine lv_aload_n hx hb d_LogDisk_entry_15 rfl (lv_at hl 0 rfl) ?_
      refine g_get hx hb hts (fun w h => List.mem_cons_of_mem _ (in_LogDisk w h)) hown hK hP hx0 (gce_LogDisk hx0.1) rfl 6 (by decide) (hts _ (List.mem_cons_of_mem _ gw_235)) rfl d_LogDisk_entry_16 ?_
      refine g_get hx hb hts (fun w h => List.mem_cons_of_mem _ (in_Snapshot w h)) hown hK hP (gis_LogDisk_snapshot hY hx0) (gce_Snapshot (gis_LogDisk_snapshot hY hx0).1) rfl 2 (by decide) (hts _ (List.mem_cons_of_mem _ gw_102)) rfl d_LogDisk_entry_19 ?_
      exact gx_ret (W.iret (v := (S.1 (grf x0 6) 2)) hx hb hr (fun t ht hW => ⟨⟨(S.1 (grf x0 6) 2), S, rfl, hw, by rw [ht]; exact hP, va_K.moved hW.alike hK⟩, hS.F ht⟩) hS.2.2 d_LogDisk_entry_22)
set_option maxHeartbeats 4000000 in
set_option maxRecDepth 100000 in
theorem k_LogDisk_entry (l : Launch) (hlt : l.stackTraces = false) (Y : gY) (hY : gOK Y) (sz : Nat) (x0 : gI) (x1 : Int32) (x2 : Int32)  (hx0 : gis Y 9 x0) (S : gS) (Q : Int32 → gS → Prop) (X : String → gS → Prop) : gxMet l y_LogDisk_entry w_LogDisk_entry (gRmX 6 100) (gPre Y [.ref (gad Y x0), .int x1, .int x2] S sz (wp_LogDisk_entry (gLn Y) Q X x0 x1 x2 S)) Y sz (va_Qi Q (gB Y) (gA Y sz)) X := by
  refine gx_ofW (cc := c_LogDisk_entry) (maxL := 4) (ret := (Option.some Jvm.ClassFile.FieldType.int)) (by decide) rfl ?_
  intro p e s m args below meth c s₁ B hml hout hv
  obtain ⟨rfl, hsz, hP, hK, hSt, hw⟩ := hv
  subst hsz
  refine ⟨rfl, ?_⟩
  have hts := atoms_spec (ws := w_LogDisk_entry) B.pre
  have hl := lv_entry ([.ref (gad Y x0), .int x1, .int x2]) (n := 4) (Nat.le_of_ble_eq_true rfl)
  rw [lg_entry_eq]
  generalize (lg_sl ([.ref (gad Y x0), .int x1, .int x2]) ++ List.replicate (4 - (lg_sl ([.ref (gad Y x0), .int x1, .int x2])).length) Slot.unset).toArray = ls at hl ⊢
  exact mw_LogDisk_entry ⟨B.exec, B.bytes, hml, findClass_of_methodNamed B.named, hts, B.returns, B.notSynchronized, hK, hY, hSt⟩ hlt hout x0 x1 x2 S s.heap [] ls hx0 hw hP va_S.rf hl

def wp_LogDisk_contentAt (Ln : gI → Nat) (Q : Int32 → gS → Prop) (X : String → gS → Prop) (x0 : gI) (x1 : Int32) (x2 : Int32)  (S : gS) : Prop :=
  wp_LogDisk_isInLog Ln (fun r2 S1 => ((¬ r2 = 0) → (wp_Entries_slot Ln (fun r5 S4 => ((x2 < 0) → (X "java/util/NoSuchElementException" S4)) ∧ ((¬ x2 < 0) → (vp_in r5 (Ln (grf (grf x0 8) 4)) ∧ (((x2 < (S4.1 (grf (grf x0 8) 4) r5.toNatClampNeg)) → (vp_in r5 (Ln (grf (grf x0 8) 0)) ∧ (vp_in (S4.1 (grf (grf x0 8) 0) r5.toNatClampNeg) (Ln (grf x0 1)) ∧ (vp_in r5 (Ln (grf (grf x0 8) 1)) ∧ (wp_DiskFile_read Ln (fun r10 S9 => Q r10 S9) (grf (grf x0 1) (S4.1 (grf (grf x0 8) 0) r5.toNatClampNeg).toNatClampNeg) (((S4.1 (grf (grf x0 8) 1) r5.toNatClampNeg) + 25) + x2) S4))))) ∧ ((¬ x2 < (S4.1 (grf (grf x0 8) 4) r5.toNatClampNeg)) → (X "java/util/NoSuchElementException" S4)))))) (grf x0 8) x1 S1)) ∧ ((r2 = 0) → (X "java/lang/IndexOutOfBoundsException" S1))) x0 x1 S
set_option maxHeartbeats 4000000 in
set_option maxRecDepth 100000 in
theorem mw_LogDisk_contentAt {p : Program} {l : Launch} {e : Env} {s : State} {m : MethodId} {args : Array Value} {below : List Frame} {meth : Method} {c : Code} {Y : gY} {Q : Int32 → gS → Prop} {X : String → gS → Prop} (C : gCx p s m args meth c Y "LogDisk" c_LogDisk_contentAt 4 (Option.some Jvm.ClassFile.FieldType.int) w_LogDisk_contentAt) (hlt : l.stackTraces = false) (hout : ∀ x ∈ c.exceptionTable.toList, False) : ∀ (x0 : gI) (x1 : Int32) (x2 : Int32)  (S : gS) (H : Heap) (locs : List Loc) (ls : Array Slot), gis Y 9 x0 → wp_LogDisk_contentAt (gLn Y) Q X x0 x1 x2 S → gWd Y S H → va_S (gA Y s.heap.size) s.heap H locs → lv_has ls 4 [(0, .ref (gad Y x0)), (1, .int x1), (2, .int x2)] → W p l e (gRmX 6 100) s m args below meth c H locs 0 0 (gxZ below Y (va_Qi Q (gB Y) (gA Y s.heap.size)) X args s) (F0 m 0 ls []) := by
  have C0 := C
  obtain ⟨hx, hb, hml, hown, hts, hr, hlocks, hK, hY, hSt⟩ := C
  intro x0 x1 x2 S H locs ls hx0 hw hP hS hl
  unfold wp_LogDisk_contentAt at hw
  refine lv_aload_n hx hb d_LogDisk_contentAt_0 rfl (lv_at hl 0 rfl) ?_
  refine lv_iload_n hx hb d_LogDisk_contentAt_1 rfl (lv_at hl 1 rfl) ?_
  refine g_calli (va_runV (As := [.int x1]) (rest := []) ⟨hx, hb, hml, hown, hts⟩ (k_LogDisk_isInLog l Y hY H.size x0 x1 hx0 S _) (cwV 1 hts (gG_V gw_615 gw_617 gs_13 gw_1 gw_618) rfl rfl rfl (by decide +kernel) ⟨Nat.le_of_ble_eq_true rfl, Nat.le_of_ble_eq_true rfl⟩) ⟨gPre_blind, g_recv hK hP hx0 (gce_LogDisk hx0.1) rfl, g_pre hK hSt hS hP hw⟩ rfl rfl hl.1 rfl (lv_room (Nat.le_of_ble_eq_true rfl)) d_LogDisk_contentAt_2 ⟨Nat.zero_le _, Nat.zero_le _⟩) hS (fun r2 S1 H locs hw hP hS => ?_)
  refine lv_if_ne (tgt := 19) hx hb d_LogDisk_contentAt_5 (by decide) (fun c3 => ?_) (fun c3 => ?_)
  · replace hw := hw.1 c3
    refine lv_aload_n hx hb d_LogDisk_contentAt_19 rfl (lv_at hl 0 rfl) ?_
    refine g_get hx hb hts (fun w h => List.mem_cons_of_mem _ (in_LogDisk w h)) hown hK hP hx0 (gce_LogDisk hx0.1) rfl 8 (by decide) (hts _ (List.mem_cons_of_mem _ gw_237)) rfl d_LogDisk_contentAt_20 ?_
    refine lv_iload_n hx hb d_LogDisk_contentAt_23 rfl (lv_at hl 1 rfl) ?_
    refine g_calli (va_runV (As := [.int x1]) (rest := []) ⟨hx, hb, hml, hown, hts⟩ (k_Entries_slot l Y hY H.size (grf x0 8) x1 (gis_LogDisk_entries hY hx0) S1 _) (cwV 1 hts (gG_V gw_401 gw_386 gw_387 gw_7 gw_388) rfl rfl rfl (by decide +kernel) ⟨Nat.le_of_ble_eq_true rfl, Nat.le_of_ble_eq_true rfl⟩) ⟨gPre_blind, g_recv hK hP (gis_LogDisk_entries hY hx0) (gce_Entries (gis_LogDisk_entries hY hx0).1) rfl, g_pre hK hSt hS hP hw⟩ rfl rfl hl.1 rfl (lv_room (Nat.le_of_ble_eq_true rfl)) d_LogDisk_contentAt_24 ⟨Nat.zero_le _, Nat.zero_le _⟩) hS (fun r5 S4 H locs hw hP hS => ?_)
    refine lv_istore_n (lv' := [(3, .int r5), (0, .ref (gad Y x0)), (1, .int x1), (2, .int x2)]) hx hb d_LogDisk_contentAt_27 rfl hl (by decide) rfl (fun ls hl => ?_)
    refine lv_iload_n hx hb d_LogDisk_contentAt_28 rfl (lv_at hl 3 rfl) ?_
    refine lv_if_lt (tgt := 45) hx hb d_LogDisk_contentAt_29 (by decide) (fun c6 => ?_) (fun c6 => ?_)
    · replace hw := hw.1 c6
      exact gx_throwW (text := "no such byte") hx hb hlt hown (by decide +kernel) (hts _ (List.mem_cons_of_mem _ gw_756)) (hts _ (List.mem_cons_of_mem _ gw_21)) hSt (by decide +kernel) (by decide +kernel) hS hP (by rw [hml]; exact hl.1) d_LogDisk_contentAt_45 d_LogDisk_contentAt_48 d_LogDisk_contentAt_49 d_LogDisk_contentAt_52 d_LogDisk_contentAt_55 hout (Nat.le_of_ble_eq_true rfl) (Nat.le_of_ble_eq_true rfl) (Nat.le_of_ble_eq_true rfl) (Nat.le_of_ble_eq_true rfl) hlocks hw (Nat.le_refl _) (Nat.le_refl _)
    · replace hw := hw.2 c6
      refine lv_iload_n hx hb d_LogDisk_contentAt_32 rfl (lv_at hl 3 rfl) ?_
      refine lv_aload_n hx hb d_LogDisk_contentAt_33 rfl (lv_at hl 1 rfl) ?_
      refine g_get hx hb hts (fun w h => List.mem_cons_of_mem _ (in_LogDisk w h)) hown hK hP hx0 (gce_LogDisk hx0.1) rfl 8 (by decide) (hts _ (List.mem_cons_of_mem _ gw_237)) rfl d_LogDisk_contentAt_34 ?_
      refine g_get hx hb hts (fun w h => List.mem_cons_of_mem _ (in_Entries w h)) hown hK hP (gis_LogDisk_entries hY hx0) (gce_Entries (gis_LogDisk_entries hY hx0).1) rfl 4 (by decide) (hts _ (List.mem_cons_of_mem _ gw_148)) rfl d_LogDisk_contentAt_37 ?_
      refine lv_iload_n hx hb d_LogDisk_contentAt_40 rfl (lv_at hl 0 rfl) ?_
      obtain ⟨hin, hw⟩ := hw
      refine g_iaload hx hb hK hP (gis_Entries_bytes hY (gis_LogDisk_entries hY hx0)) hin d_LogDisk_contentAt_41 ?_
      refine lv_icmp_lt (tgt := 56) hx hb d_LogDisk_contentAt_42 (by decide) (fun c7 => ?_) (fun c7 => ?_)
      · replace hw := hw.1 c7
        refine lv_aload_n hx hb d_LogDisk_contentAt_56 rfl (lv_at hl 1 rfl) ?_
        refine g_get hx hb hts (fun w h => List.mem_cons_of_mem _ (in_LogDisk w h)) hown hK hP hx0 (gce_LogDisk hx0.1) rfl 1 (by decide) (hts _ (List.mem_cons_of_mem _ gw_230)) rfl d_LogDisk_contentAt_57 ?_
        refine lv_aload_n hx hb d_LogDisk_contentAt_60 rfl (lv_at hl 1 rfl) ?_
        refine g_get hx hb hts (fun w h => List.mem_cons_of_mem _ (in_LogDisk w h)) hown hK hP hx0 (gce_LogDisk hx0.1) rfl 8 (by decide) (hts _ (List.mem_cons_of_mem _ gw_237)) rfl d_LogDisk_contentAt_61 ?_
        refine g_get hx hb hts (fun w h => List.mem_cons_of_mem _ (in_Entries w h)) hown hK hP (gis_LogDisk_entries hY hx0) (gce_Entries (gis_LogDisk_entries hY hx0).1) rfl 0 (by decide) (hts _ (List.mem_cons_of_mem _ gw_140)) rfl d_LogDisk_contentAt_64 ?_
        refine lv_iload_n hx hb d_LogDisk_contentAt_67 rfl (lv_at hl 0 rfl) ?_
        obtain ⟨hin, hw⟩ := hw
        refine g_iaload hx hb hK hP (gis_Entries_file hY (gis_LogDisk_entries hY hx0)) hin d_LogDisk_contentAt_68 ?_
        obtain ⟨hin, hw⟩ := hw
        refine g_aaload hx hb hK hP (gis_LogDisk_files hY hx0) hin d_LogDisk_contentAt_69 ?_
        have hin8 := hin
        refine lv_aload_n hx hb d_LogDisk_contentAt_70 rfl (lv_at hl 1 rfl) ?_
        refine g_get hx hb hts (fun w h => List.mem_cons_of_mem _ (in_LogDisk w h)) hown hK hP hx0 (gce_LogDisk hx0.1) rfl 8 (by decide) (hts _ (List.mem_cons_of_mem _ gw_237)) rfl d_LogDisk_contentAt_71 ?_
        refine g_get hx hb hts (fun w h => List.mem_cons_of_mem _ (in_Entries w h)) hown hK hP (gis_LogDisk_entries hY hx0) (gce_Entries (gis_LogDisk_entries hY hx0).1) rfl 1 (by decide) (hts _ (List.mem_cons_of_mem _ gw_142)) rfl d_LogDisk_contentAt_74 ?_
        refine lv_iload_n hx hb d_LogDisk_contentAt_77 rfl (lv_at hl 0 rfl) ?_
        obtain ⟨hin, hw⟩ := hw
        refine g_iaload hx hb hK hP (gis_Entries_start hY (gis_LogDisk_entries hY hx0)) hin d_LogDisk_contentAt_78 ?_
        refine lv_bipush (v := 25) hx hb d_LogDisk_contentAt_79 (by decide) ?_
        refine lv_iadd hx hb d_LogDisk_contentAt_81 ?_
        refine lv_iload_n hx hb d_LogDisk_contentAt_82 rfl (lv_at hl 3 rfl) ?_
        refine lv_iadd hx hb d_LogDisk_contentAt_83 ?_
        refine g_calli (va_runV (As := [.int (((S4.1 (grf (grf x0 8) 1) r5.toNatClampNeg) + 25) + x2)]) (rest := []) ⟨hx, hb, hml, hown, hts⟩ (k_DiskFile_read l Y hY H.size (grf (grf x0 1) (S4.1 (grf (grf x0 8) 0) r5.toNatClampNeg).toNatClampNeg) (((S4.1 (grf (grf x0 8) 1) r5.toNatClampNeg) + 25) + x2) (gis_elem_DiskFile hY (gis_LogDisk_files hY hx0) hin8) S4 _) (cwV 1 hts (gG_V gw_380 gw_345 gw_346 gw_10 gw_347) rfl rfl rfl (by decide +kernel) ⟨Nat.le_of_ble_eq_true rfl, Nat.le_of_ble_eq_true rfl⟩) ⟨gPre_blind, g_recv hK hP (gis_elem_DiskFile hY (gis_LogDisk_files hY hx0) hin8) (gce_DiskFile (gis_elem_DiskFile hY (gis_LogDisk_files hY hx0) hin8).1) rfl, g_pre hK hSt hS hP hw⟩ rfl rfl hl.1 rfl (lv_room (Nat.le_of_ble_eq_true rfl)) d_LogDisk_contentAt_84 ⟨Nat.zero_le _, Nat.zero_le _⟩) hS (fun r10 S9 H locs hw hP hS => ?_)
        exact gx_ret (W.iret (v := r10) hx hb hr (fun t ht hW => ⟨⟨r10, S9, rfl, hw, by rw [ht]; exact hP, va_K.moved hW.alike hK⟩, hS.F ht⟩) hS.2.2 d_LogDisk_contentAt_87)
      · replace hw := hw.2 c7
        exact gx_throwW (text := "no such byte") hx hb hlt hown (by decide +kernel) (hts _ (List.mem_cons_of_mem _ gw_756)) (hts _ (List.mem_cons_of_mem _ gw_21)) hSt (by decide +kernel) (by decide +kernel) hS hP (by rw [hml]; exact hl.1) d_LogDisk_contentAt_45 d_LogDisk_contentAt_48 d_LogDisk_contentAt_49 d_LogDisk_contentAt_52 d_LogDisk_contentAt_55 hout (Nat.le_of_ble_eq_true rfl) (Nat.le_of_ble_eq_true rfl) (Nat.le_of_ble_eq_true rfl) (Nat.le_of_ble_eq_true rfl) hlocks hw (Nat.le_refl _) (Nat.le_refl _)
  · replace hw := hw.2 c3
    exact gx_throwW (text := "no such entry above BASE") hx hb hlt hown (by decide +kernel) (hts _ (List.mem_cons_of_mem _ gw_659)) (hts _ (List.mem_cons_of_mem _ gw_20)) hSt (by decide +kernel) (by decide +kernel) hS hP (by rw [hml]; exact hl.1) d_LogDisk_contentAt_8 d_LogDisk_contentAt_11 d_LogDisk_contentAt_12 d_LogDisk_contentAt_15 d_LogDisk_contentAt_18 hout (Nat.le_of_ble_eq_true rfl) (Nat.le_of_ble_eq_true rfl) (Nat.le_of_ble_eq_true rfl) (Nat.le_of_ble_eq_true rfl) hlocks hw (Nat.le_refl _) (Nat.le_refl _)
set_option maxHeartbeats 4000000 in
set_option maxRecDepth 100000 in
theorem k_LogDisk_contentAt (l : Launch) (hlt : l.stackTraces = false) (Y : gY) (hY : gOK Y) (sz : Nat) (x0 : gI) (x1 : Int32) (x2 : Int32)  (hx0 : gis Y 9 x0) (S : gS) (Q : Int32 → gS → Prop) (X : String → gS → Prop) : gxMet l y_LogDisk_contentAt w_LogDisk_contentAt (gRmX 6 100) (gPre Y [.ref (gad Y x0), .int x1, .int x2] S sz (wp_LogDisk_contentAt (gLn Y) Q X x0 x1 x2 S)) Y sz (va_Qi Q (gB Y) (gA Y sz)) X := by
  refine gx_ofW (cc := c_LogDisk_contentAt) (maxL := 4) (ret := (Option.some Jvm.ClassFile.FieldType.int)) (by decide) rfl ?_
  intro p e s m args below meth c s₁ B hml hout hv
  obtain ⟨rfl, hsz, hP, hK, hSt, hw⟩ := hv
  subst hsz
  refine ⟨rfl, ?_⟩
  have hts := atoms_spec (ws := w_LogDisk_contentAt) B.pre
  have hl := lv_entry ([.ref (gad Y x0), .int x1, .int x2]) (n := 4) (Nat.le_of_ble_eq_true rfl)
  rw [lg_entry_eq]
  generalize (lg_sl ([.ref (gad Y x0), .int x1, .int x2]) ++ List.replicate (4 - (lg_sl ([.ref (gad Y x0), .int x1, .int x2])).length) Slot.unset).toArray = ls at hl ⊢
  exact mw_LogDisk_contentAt ⟨B.exec, B.bytes, hml, findClass_of_methodNamed B.named, hts, B.returns, B.notSynchronized, hK, hY, hSt⟩ hlt hout x0 x1 x2 S s.heap [] ls hx0 hw hP va_S.rf hl

def wp_LogDisk_snapshotAt (Ln : gI → Nat) (Q : Int32 → gS → Prop) (X : String → gS → Prop) (x0 : gI) (x1 : Int32)  (S : gS) : Prop :=
  ((x1 < 0) → (X "java/lang/IndexOutOfBoundsException" S)) ∧ ((¬ x1 < 0) → (wp_LogDisk_snapshotBytes Ln (fun r3 S2 => ((x1 < r3) → (vp_in (S2.1 (grf x0 6) 0) (Ln (grf x0 1)) ∧ (wp_DiskFile_read Ln (fun r7 S6 => Q r7 S6) (grf (grf x0 1) (S2.1 (grf x0 6) 0).toNatClampNeg) (20 + x1) S2))) ∧ ((¬ x1 < r3) → (X "java/lang/IndexOutOfBoundsException" S2))) x0 S))
set_option maxHeartbeats 4000000 in
set_option maxRecDepth 100000 in
theorem mw_LogDisk_snapshotAt {p : Program} {l : Launch} {e : Env} {s : State} {m : MethodId} {args : Array Value} {below : List Frame} {meth : Method} {c : Code} {Y : gY} {Q : Int32 → gS → Prop} {X : String → gS → Prop} (C : gCx p s m args meth c Y "LogDisk" c_LogDisk_snapshotAt 2 (Option.some Jvm.ClassFile.FieldType.int) w_LogDisk_snapshotAt) (hlt : l.stackTraces = false) (hout : ∀ x ∈ c.exceptionTable.toList, False) : ∀ (x0 : gI) (x1 : Int32)  (S : gS) (H : Heap) (locs : List Loc) (ls : Array Slot), gis Y 9 x0 → wp_LogDisk_snapshotAt (gLn Y) Q X x0 x1 S → gWd Y S H → va_S (gA Y s.heap.size) s.heap H locs → lv_has ls 2 [(0, .ref (gad Y x0)), (1, .int x1)] → W p l e (gRmX 6 100) s m args below meth c H locs 0 0 (gxZ below Y (va_Qi Q (gB Y) (gA Y s.heap.size)) X args s) (F0 m 0 ls []) := by
  have C0 := C
  obtain ⟨hx, hb, hml, hown, hts, hr, hlocks, hK, hY, hSt⟩ := C
  intro x0 x1 S H locs ls hx0 hw hP hS hl
  unfold wp_LogDisk_snapshotAt at hw
  refine lv_iload_n hx hb d_LogDisk_snapshotAt_0 rfl (lv_at hl 1 rfl) ?_
  refine lv_if_lt (tgt := 12) hx hb d_LogDisk_snapshotAt_1 (by decide) (fun c1 => ?_) (fun c1 => ?_)
  · replace hw := hw.1 c1
    exact gx_throwW (text := "no such byte") hx hb hlt hown (by decide +kernel) (hts _ (List.mem_cons_of_mem _ gw_659)) (hts _ (List.mem_cons_of_mem _ gw_20)) hSt (by decide +kernel) (by decide +kernel) hS hP (by rw [hml]; exact hl.1) d_LogDisk_snapshotAt_12 d_LogDisk_snapshotAt_15 d_LogDisk_snapshotAt_16 d_LogDisk_snapshotAt_19 d_LogDisk_snapshotAt_22 hout (Nat.le_of_ble_eq_true rfl) (Nat.le_of_ble_eq_true rfl) (Nat.le_of_ble_eq_true rfl) (Nat.le_of_ble_eq_true rfl) hlocks hw (Nat.le_refl _) (Nat.le_refl _)
  · replace hw := hw.2 c1
    refine lv_iload_n hx hb d_LogDisk_snapshotAt_4 rfl (lv_at hl 1 rfl) ?_
    refine lv_aload_n hx hb d_LogDisk_snapshotAt_5 rfl (lv_at hl 0 rfl) ?_
    refine g_calli (va_runV (As := []) (rest := [.int x1]) ⟨hx, hb, hml, hown, hts⟩ (k_LogDisk_snapshotBytes l Y hY H.size x0 hx0 S _) (cwV 0 hts (gG_V gw_730 gw_732 gs_20 gw_1 gw_733) rfl rfl rfl (by decide +kernel) ⟨Nat.le_of_ble_eq_true rfl, Nat.le_of_ble_eq_true rfl⟩) ⟨gPre_blind, g_recv hK hP hx0 (gce_LogDisk hx0.1) rfl, g_pre hK hSt hS hP hw⟩ rfl rfl hl.1 rfl (lv_room (Nat.le_of_ble_eq_true rfl)) d_LogDisk_snapshotAt_6 ⟨Nat.zero_le _, Nat.zero_le _⟩) hS (fun r3 S2 H locs hw hP hS => ?_)
    refine lv_icmp_lt (tgt := 23) hx hb d_LogDisk_snapshotAt_9 (by decide) (fun c4 => ?_) (fun c4 => ?_)
    · replace hw := hw.1 c4
      refine lv_aload_n hx hb d_LogDisk_snapshotAt_23 rfl (lv_at hl 0 rfl) ?_
      refine g_get hx hb hts (fun w h => List.mem_cons_of_mem _ (in_LogDisk w h)) hown hK hP hx0 (gce_LogDisk hx0.1) rfl 1 (by decide) (hts _ (List.mem_cons_of_mem _ gw_230)) rfl d_LogDisk_snapshotAt_24 ?_
      refine lv_aload_n hx hb d_LogDisk_snapshotAt_27 rfl (lv_at hl 0 rfl) ?_
      refine g_get hx hb hts (fun w h => List.mem_cons_of_mem _ (in_LogDisk w h)) hown hK hP hx0 (gce_LogDisk hx0.1) rfl 6 (by decide) (hts _ (List.mem_cons_of_mem _ gw_235)) rfl d_LogDisk_snapshotAt_28 ?_
      refine g_get hx hb hts (fun w h => List.mem_cons_of_mem _ (in_Snapshot w h)) hown hK hP (gis_LogDisk_snapshot hY hx0) (gce_Snapshot (gis_LogDisk_snapshot hY hx0).1) rfl 0 (by decide) (hts _ (List.mem_cons_of_mem _ gw_98)) rfl d_LogDisk_snapshotAt_31 ?_
      obtain ⟨hin, hw⟩ := hw
      refine g_aaload hx hb hK hP (gis_LogDisk_files hY hx0) hin d_LogDisk_snapshotAt_34 ?_
      have hin5 := hin
      refine lv_bipush (v := 20) hx hb d_LogDisk_snapshotAt_35 (by decide) ?_
      refine lv_iload_n hx hb d_LogDisk_snapshotAt_37 rfl (lv_at hl 1 rfl) ?_
      refine lv_iadd hx hb d_LogDisk_snapshotAt_38 ?_
      refine g_calli (va_runV (As := [.int (20 + x1)]) (rest := []) ⟨hx, hb, hml, hown, hts⟩ (k_DiskFile_read l Y hY H.size (grf (grf x0 1) (S2.1 (grf x0 6) 0).toNatClampNeg) (20 + x1) (gis_elem_DiskFile hY (gis_LogDisk_files hY hx0) hin5) S2 _) (cwV 1 hts (gG_V gw_380 gw_345 gw_346 gw_10 gw_347) rfl rfl rfl (by decide +kernel) ⟨Nat.le_of_ble_eq_true rfl, Nat.le_of_ble_eq_true rfl⟩) ⟨gPre_blind, g_recv hK hP (gis_elem_DiskFile hY (gis_LogDisk_files hY hx0) hin5) (gce_DiskFile (gis_elem_DiskFile hY (gis_LogDisk_files hY hx0) hin5).1) rfl, g_pre hK hSt hS hP hw⟩ rfl rfl hl.1 rfl (lv_room (Nat.le_of_ble_eq_true rfl)) d_LogDisk_snapshotAt_39 ⟨Nat.zero_le _, Nat.zero_le _⟩) hS (fun r7 S6 H locs hw hP hS => ?_)
      exact gx_ret (W.iret (v := r7) hx hb hr (fun t ht hW => ⟨⟨r7, S6, rfl, hw, by rw [ht]; exact hP, va_K.moved hW.alike hK⟩, hS.F ht⟩) hS.2.2 d_LogDisk_snapshotAt_42)
    · replace hw := hw.2 c4
      exact gx_throwW (text := "no such byte") hx hb hlt hown (by decide +kernel) (hts _ (List.mem_cons_of_mem _ gw_659)) (hts _ (List.mem_cons_of_mem _ gw_20)) hSt (by decide +kernel) (by decide +kernel) hS hP (by rw [hml]; exact hl.1) d_LogDisk_snapshotAt_12 d_LogDisk_snapshotAt_15 d_LogDisk_snapshotAt_16 d_LogDisk_snapshotAt_19 d_LogDisk_snapshotAt_22 hout (Nat.le_of_ble_eq_true rfl) (Nat.le_of_ble_eq_true rfl) (Nat.le_of_ble_eq_true rfl) (Nat.le_of_ble_eq_true rfl) hlocks hw (Nat.le_refl _) (Nat.le_refl _)
set_option maxHeartbeats 4000000 in
set_option maxRecDepth 100000 in
theorem k_LogDisk_snapshotAt (l : Launch) (hlt : l.stackTraces = false) (Y : gY) (hY : gOK Y) (sz : Nat) (x0 : gI) (x1 : Int32)  (hx0 : gis Y 9 x0) (S : gS) (Q : Int32 → gS → Prop) (X : String → gS → Prop) : gxMet l y_LogDisk_snapshotAt w_LogDisk_snapshotAt (gRmX 6 100) (gPre Y [.ref (gad Y x0), .int x1] S sz (wp_LogDisk_snapshotAt (gLn Y) Q X x0 x1 S)) Y sz (va_Qi Q (gB Y) (gA Y sz)) X := by
  refine gx_ofW (cc := c_LogDisk_snapshotAt) (maxL := 2) (ret := (Option.some Jvm.ClassFile.FieldType.int)) (by decide) rfl ?_
  intro p e s m args below meth c s₁ B hml hout hv
  obtain ⟨rfl, hsz, hP, hK, hSt, hw⟩ := hv
  subst hsz
  refine ⟨rfl, ?_⟩
  have hts := atoms_spec (ws := w_LogDisk_snapshotAt) B.pre
  have hl := lv_entry ([.ref (gad Y x0), .int x1]) (n := 2) (Nat.le_of_ble_eq_true rfl)
  rw [lg_entry_eq]
  generalize (lg_sl ([.ref (gad Y x0), .int x1]) ++ List.replicate (2 - (lg_sl ([.ref (gad Y x0), .int x1])).length) Slot.unset).toArray = ls at hl ⊢
  exact mw_LogDisk_snapshotAt ⟨B.exec, B.bytes, hml, findClass_of_methodNamed B.named, hts, B.returns, B.notSynchronized, hK, hY, hSt⟩ hlt hout x0 x1 S s.heap [] ls hx0 hw hP va_S.rf hl

def wp_LogDisk_segment (Ln : gI → Nat) (Q : Int32 → gS → Prop) (X : String → gS → Prop) (x0 : gI) (x1 : Int32) (x2 : Int32)  (S : gS) : Prop :=
  ((x1 < 0) → (X "java/lang/IndexOutOfBoundsException" S)) ∧ ((¬ x1 < 0) → (((x1 < (S.1 (grf x0 7) 2)) → (((x2.toInt < 0 ∨ 1 < x2.toInt) → (X "java/lang/IndexOutOfBoundsException" S)) ∧ ((x2 = 0) → (vp_in x1 (Ln (grf (grf x0 7) 0)) ∧ (Q (S.1 (grf (grf x0 7) 0) x1.toNatClampNeg) S))) ∧ ((x2 = 1) → (vp_in x1 (Ln (grf (grf x0 7) 1)) ∧ (Q (S.1 (grf (grf x0 7) 1) x1.toNatClampNeg) S))))) ∧ ((¬ x1 < (S.1 (grf x0 7) 2)) → (X "java/lang/IndexOutOfBoundsException" S))))
set_option maxHeartbeats 4000000 in
set_option maxRecDepth 100000 in
theorem mw_LogDisk_segment {p : Program} {l : Launch} {e : Env} {s : State} {m : MethodId} {args : Array Value} {below : List Frame} {meth : Method} {c : Code} {Y : gY} {Q : Int32 → gS → Prop} {X : String → gS → Prop} (C : gCx p s m args meth c Y "LogDisk" c_LogDisk_segment 3 (Option.some Jvm.ClassFile.FieldType.int) w_LogDisk_segment) (hlt : l.stackTraces = false) (hout : ∀ x ∈ c.exceptionTable.toList, False) : ∀ (x0 : gI) (x1 : Int32) (x2 : Int32)  (S : gS) (H : Heap) (locs : List Loc) (ls : Array Slot), gis Y 9 x0 → wp_LogDisk_segment (gLn Y) Q X x0 x1 x2 S → gWd Y S H → va_S (gA Y s.heap.size) s.heap H locs → lv_has ls 3 [(0, .ref (gad Y x0)), (1, .int x1), (2, .int x2)] → W p l e (gRmX 6 100) s m args below meth c H locs 0 0 (gxZ below Y (va_Qi Q (gB Y) (gA Y s.heap.size)) X args s) (F0 m 0 ls []) := by
  have C0 := C
  obtain ⟨hx, hb, hml, hown, hts, hr, hlocks, hK, hY, hSt⟩ := C
  intro x0 x1 x2 S H locs ls hx0 hw hP hS hl
  unfold wp_LogDisk_segment at hw
  refine lv_iload_n hx hb d_LogDisk_segment_0 rfl (lv_at hl 1 rfl) ?_
  refine lv_if_lt (tgt := 15) hx hb d_LogDisk_segment_1 (by decide) (fun c1 => ?_) (fun c1 => ?_)
  · replace hw := hw.1 c1
    exact gx_throwW (text := "no such segment") hx hb hlt hown (by decide +kernel) (hts _ (List.mem_cons_of_mem _ gw_659)) (hts _ (List.mem_cons_of_mem _ gw_20)) hSt (by decide +kernel) (by decide +kernel) hS hP (by rw [hml]; exact hl.1) d_LogDisk_segment_15 d_LogDisk_segment_18 d_LogDisk_segment_19 d_LogDisk_segment_22 d_LogDisk_segment_25 hout (Nat.le_of_ble_eq_true rfl) (Nat.le_of_ble_eq_true rfl) (Nat.le_of_ble_eq_true rfl) (Nat.le_of_ble_eq_true rfl) hlocks hw (Nat.le_refl _) (Nat.le_refl _)
  · replace hw := hw.2 c1
    refine lv_iload_n hx hb d_LogDisk_segment_4 rfl (lv_at hl 1 rfl) ?_
    refine lv_aload_n hx hb d_LogDisk_segment_5 rfl (lv_at hl 0 rfl) ?_
    refine g_get hx hb hts (fun w h => List.mem_cons_of_mem _ (in_LogDisk w h)) hown hK hP hx0 (gce_LogDisk hx0.1) rfl 7 (by decide) (hts _ (List.mem_cons_of_mem _ gw_236)) rfl d_LogDisk_segment_6 ?_
    refine g_get hx hb hts (fun w h => List.mem_cons_of_mem _ (in_Segments w h)) hown hK hP (gis_LogDisk_segments hY hx0) (gce_Segments (gis_LogDisk_segments hY hx0).1) rfl 2 (by decide) (hts _ (List.mem_cons_of_mem _ gw_125)) rfl d_LogDisk_segment_9 ?_
    refine lv_icmp_lt (tgt := 26) hx hb d_LogDisk_segment_12 (by decide) (fun c2 => ?_) (fun c2 => ?_)
    · replace hw := hw.1 c2
      refine lv_iload_n hx hb d_LogDisk_segment_26 rfl (lv_at hl 2 rfl) ?_
      rcases g_sw_0_1 x2 with c3 | c3 | c3
      · replace hw := hw.1 c3
        refine lv_lookup (tgt := 72) (off := 45) hx hb d_LogDisk_segment_27 (by decide) (by have h1 : ¬ x2.toInt = 0 := by omega
                                                                                            have h2 : ¬ x2.toInt = 1 := by omega
                                                                                            simp [Op.lookupswitch.offset, Ne.symm h1, Ne.symm h2]) (by decide) ?_
        exact gx_throwW (text := "no such what") hx hb hlt hown (by decide +kernel) (hts _ (List.mem_cons_of_mem _ gw_659)) (hts _ (List.mem_cons_of_mem _ gw_20)) hSt (by decide +kernel) (by decide +kernel) hS hP (by rw [hml]; exact hl.1) d_LogDisk_segment_72 d_LogDisk_segment_75 d_LogDisk_segment_76 d_LogDisk_segment_79 d_LogDisk_segment_82 hout (Nat.le_of_ble_eq_true rfl) (Nat.le_of_ble_eq_true rfl) (Nat.le_of_ble_eq_true rfl) (Nat.le_of_ble_eq_true rfl) hlocks hw (Nat.le_refl _) (Nat.le_refl _)
      · replace hw := hw.2.1 c3
        rw [c3]
        refine lv_lookup (tgt := 52) (off := 25) hx hb d_LogDisk_segment_27 (by decide) (by decide) (by decide) ?_
        refine lv_aload_n hx hb d_LogDisk_segment_52 rfl (lv_at hl 0 rfl) ?_
        refine g_get hx hb hts (fun w h => List.mem_cons_of_mem _ (in_LogDisk w h)) hown hK hP hx0 (gce_LogDisk hx0.1) rfl 7 (by decide) (hts _ (List.mem_cons_of_mem _ gw_236)) rfl d_LogDisk_segment_53 ?_
        refine g_get hx hb hts (fun w h => List.mem_cons_of_mem _ (in_Segments w h)) hown hK hP (gis_LogDisk_segments hY hx0) (gce_Segments (gis_LogDisk_segments hY hx0).1) rfl 0 (by decide) (hts _ (List.mem_cons_of_mem _ gw_121)) rfl d_LogDisk_segment_56 ?_
        refine lv_iload_n hx hb d_LogDisk_segment_59 rfl (lv_at hl 1 rfl) ?_
        obtain ⟨hin, hw⟩ := hw
        refine g_iaload hx hb hK hP (gis_Segments_file hY (gis_LogDisk_segments hY hx0)) hin d_LogDisk_segment_60 ?_
        exact gx_ret (W.iret (v := (S.1 (grf (grf x0 7) 0) x1.toNatClampNeg)) hx hb hr (fun t ht hW => ⟨⟨(S.1 (grf (grf x0 7) 0) x1.toNatClampNeg), S, rfl, hw, by rw [ht]; exact hP, va_K.moved hW.alike hK⟩, hS.F ht⟩) hS.2.2 d_LogDisk_segment_61)
      · replace hw := hw.2.2 c3
        rw [c3]
        refine lv_lookup (tgt := 62) (off := 35) hx hb d_LogDisk_segment_27 (by decide) (by decide) (by decide) ?_
        refine lv_aload_n hx hb d_LogDisk_segment_62 rfl (lv_at hl 0 rfl) ?_
        refine g_get hx hb hts (fun w h => List.mem_cons_of_mem _ (in_LogDisk w h)) hown hK hP hx0 (gce_LogDisk hx0.1) rfl 7 (by decide) (hts _ (List.mem_cons_of_mem _ gw_236)) rfl d_LogDisk_segment_63 ?_
        refine g_get hx hb hts (fun w h => List.mem_cons_of_mem _ (in_Segments w h)) hown hK hP (gis_LogDisk_segments hY hx0) (gce_Segments (gis_LogDisk_segments hY hx0).1) rfl 1 (by decide) (hts _ (List.mem_cons_of_mem _ gw_123)) rfl d_LogDisk_segment_66 ?_
        refine lv_iload_n hx hb d_LogDisk_segment_69 rfl (lv_at hl 1 rfl) ?_
        obtain ⟨hin, hw⟩ := hw
        refine g_iaload hx hb hK hP (gis_Segments_first hY (gis_LogDisk_segments hY hx0)) hin d_LogDisk_segment_70 ?_
        exact gx_ret (W.iret (v := (S.1 (grf (grf x0 7) 1) x1.toNatClampNeg)) hx hb hr (fun t ht hW => ⟨⟨(S.1 (grf (grf x0 7) 1) x1.toNatClampNeg), S, rfl, hw, by rw [ht]; exact hP, va_K.moved hW.alike hK⟩, hS.F ht⟩) hS.2.2 d_LogDisk_segment_71)
    · replace hw := hw.2 c2
      exact gx_throwW (text := "no such segment") hx hb hlt hown (by decide +kernel) (hts _ (List.mem_cons_of_mem _ gw_659)) (hts _ (List.mem_cons_of_mem _ gw_20)) hSt (by decide +kernel) (by decide +kernel) hS hP (by rw [hml]; exact hl.1) d_LogDisk_segment_15 d_LogDisk_segment_18 d_LogDisk_segment_19 d_LogDisk_segment_22 d_LogDisk_segment_25 hout (Nat.le_of_ble_eq_true rfl) (Nat.le_of_ble_eq_true rfl) (Nat.le_of_ble_eq_true rfl) (Nat.le_of_ble_eq_true rfl) hlocks hw (Nat.le_refl _) (Nat.le_refl _)
set_option maxHeartbeats 4000000 in
set_option maxRecDepth 100000 in
theorem k_LogDisk_segment (l : Launch) (hlt : l.stackTraces = false) (Y : gY) (hY : gOK Y) (sz : Nat) (x0 : gI) (x1 : Int32) (x2 : Int32)  (hx0 : gis Y 9 x0) (S : gS) (Q : Int32 → gS → Prop) (X : String → gS → Prop) : gxMet l y_LogDisk_segment w_LogDisk_segment (gRmX 6 100) (gPre Y [.ref (gad Y x0), .int x1, .int x2] S sz (wp_LogDisk_segment (gLn Y) Q X x0 x1 x2 S)) Y sz (va_Qi Q (gB Y) (gA Y sz)) X := by
  refine gx_ofW (cc := c_LogDisk_segment) (maxL := 3) (ret := (Option.some Jvm.ClassFile.FieldType.int)) (by decide) rfl ?_
  intro p e s m args below meth c s₁ B hml hout hv
  obtain ⟨rfl, hsz, hP, hK, hSt, hw⟩ := hv
  subst hsz
  refine ⟨rfl, ?_⟩
  have hts := atoms_spec (ws := w_LogDisk_segment) B.pre
  have hl := lv_entry ([.ref (gad Y x0), .int x1, .int x2]) (n := 3) (Nat.le_of_ble_eq_true rfl)
  rw [lg_entry_eq]
  generalize (lg_sl ([.ref (gad Y x0), .int x1, .int x2]) ++ List.replicate (3 - (lg_sl ([.ref (gad Y x0), .int x1, .int x2])).length) Slot.unset).toArray = ls at hl ⊢
  exact mw_LogDisk_segment ⟨B.exec, B.bytes, hml, findClass_of_methodNamed B.named, hts, B.returns, B.notSynchronized, hK, hY, hSt⟩ hlt hout x0 x1 x2 S s.heap [] ls hx0 hw hP va_S.rf hl

def wp_LogDisk_file (Ln : gI → Nat) (Q : Int32 → gS → Prop) (X : String → gS → Prop) (x0 : gI) (x1 : Int32) (x2 : Int32)  (S : gS) : Prop :=
  wp_LogDisk_isFile Ln (fun r2 S1 => ((¬ r2 = 0) → (vp_in x1 (Ln (grf x0 1)) ∧ (((x2.toInt < 0 ∨ 4 < x2.toInt) → (X "java/lang/IndexOutOfBoundsException" S1)) ∧ ((x2 = 0) → (Q (S1.1 (grf (grf (grf x0 1) x1.toNatClampNeg) 1) 2) S1)) ∧ ((x2 = 1) → (Q (S1.1 (grf (grf (grf x0 1) x1.toNatClampNeg) 2) 2) S1)) ∧ ((x2 = 2) → (Q (S1.1 (grf (grf x0 1) x1.toNatClampNeg) 3) S1)) ∧ ((x2 = 3) → ((((S1.1 (grf (grf (grf x0 1) x1.toNatClampNeg) 1) 1) = 0) → (Q 0 S1)) ∧ ((¬ (S1.1 (grf (grf (grf x0 1) x1.toNatClampNeg) 1) 1) = 0) → (Q 1 S1)))) ∧ ((x2 = 4) → ((((S1.1 (grf (grf (grf x0 1) x1.toNatClampNeg) 2) 1) = 0) → (Q 0 S1)) ∧ ((¬ (S1.1 (grf (grf (grf x0 1) x1.toNatClampNeg) 2) 1) = 0) → (Q 1 S1))))))) ∧ ((r2 = 0) → (X "java/lang/IndexOutOfBoundsException" S1))) x1 S
set_option maxHeartbeats 4000000 in
set_option maxRecDepth 100000 in
theorem mw_LogDisk_file {p : Program} {l : Launch} {e : Env} {s : State} {m : MethodId} {args : Array Value} {below : List Frame} {meth : Method} {c : Code} {Y : gY} {Q : Int32 → gS → Prop} {X : String → gS → Prop} (C : gCx p s m args meth c Y "LogDisk" c_LogDisk_file 4 (Option.some Jvm.ClassFile.FieldType.int) w_LogDisk_file) (hlt : l.stackTraces = false) (hout : ∀ x ∈ c.exceptionTable.toList, False) : ∀ (x0 : gI) (x1 : Int32) (x2 : Int32)  (S : gS) (H : Heap) (locs : List Loc) (ls : Array Slot), gis Y 9 x0 → wp_LogDisk_file (gLn Y) Q X x0 x1 x2 S → gWd Y S H → va_S (gA Y s.heap.size) s.heap H locs → lv_has ls 4 [(0, .ref (gad Y x0)), (1, .int x1), (2, .int x2)] → W p l e (gRmX 6 100) s m args below meth c H locs 0 0 (gxZ below Y (va_Qi Q (gB Y) (gA Y s.heap.size)) X args s) (F0 m 0 ls []) := by
  have C0 := C
  obtain ⟨hx, hb, hml, hown, hts, hr, hlocks, hK, hY, hSt⟩ := C
  intro x0 x1 x2 S H locs ls hx0 hw hP hS hl
  unfold wp_LogDisk_file at hw
  refine lv_iload_n hx hb d_LogDisk_file_0 rfl (lv_at hl 1 rfl) ?_
  refine g_calli (va_runS (As := [.int x1]) (rest := []) ⟨hx, hb, hml, hown, hts⟩ (k_LogDisk_isFile l Y hY H.size x1 S _) (va_cwS 1 hts (gG_S gw_718 gw_719 gw_1 gw_720) rfl rfl rfl (by decide +kernel) ⟨Nat.le_of_ble_eq_true rfl, Nat.le_of_ble_eq_true rfl⟩) ⟨gPre_blind, g_pre hK hSt hS hP hw⟩ rfl rfl hl.1 rfl (lv_room (Nat.le_of_ble_eq_true rfl)) d_LogDisk_file_1 ⟨Nat.zero_le _, Nat.zero_le _⟩) hS (fun r2 S1 H locs hw hP hS => ?_)
  refine lv_if_ne (tgt := 17) hx hb d_LogDisk_file_4 (by decide) (fun c3 => ?_) (fun c3 => ?_)
  · replace hw := hw.1 c3
    refine lv_aload_n hx hb d_LogDisk_file_17 rfl (lv_at hl 0 rfl) ?_
    refine g_get hx hb hts (fun w h => List.mem_cons_of_mem _ (in_LogDisk w h)) hown hK hP hx0 (gce_LogDisk hx0.1) rfl 1 (by decide) (hts _ (List.mem_cons_of_mem _ gw_230)) rfl d_LogDisk_file_18 ?_
    refine lv_iload_n hx hb d_LogDisk_file_21 rfl (lv_at hl 1 rfl) ?_
    obtain ⟨hin, hw⟩ := hw
    refine g_aaload hx hb hK hP (gis_LogDisk_files hY hx0) hin d_LogDisk_file_22 ?_
    have hin4 := hin
    refine lv_astore_n (lv' := [(3, .ref (gad Y (grf (grf x0 1) x1.toNatClampNeg))), (0, .ref (gad Y x0)), (1, .int x1), (2, .int x2)]) hx hb d_LogDisk_file_23 rfl hl (by decide) rfl (fun ls hl => ?_)
    refine lv_iload_n hx hb d_LogDisk_file_24 rfl (lv_at hl 3 rfl) ?_
    rcases g_sw_0_4 x2 with c5 | c5 | c5 | c5 | c5 | c5
    · replace hw := hw.1 c5
      refine lv_tableOut (tgt := 113) hx hb d_LogDisk_file_25 c5 (by decide) ?_
      exact gx_throwW (text := "no such what") hx hb hlt hown (by decide +kernel) (hts _ (List.mem_cons_of_mem _ gw_659)) (hts _ (List.mem_cons_of_mem _ gw_20)) hSt (by decide +kernel) (by decide +kernel) hS hP (by rw [hml]; exact hl.1) d_LogDisk_file_113 d_LogDisk_file_116 d_LogDisk_file_117 d_LogDisk_file_120 d_LogDisk_file_123 hout (Nat.le_of_ble_eq_true rfl) (Nat.le_of_ble_eq_true rfl) (Nat.le_of_ble_eq_true rfl) (Nat.le_of_ble_eq_true rfl) hlocks hw (Nat.le_refl _) (Nat.le_refl _)
    · replace hw := hw.2.1 c5
      rw [c5]
      refine lv_tableIn (tgt := 60) (off := 35) hx hb d_LogDisk_file_25 (by decide) (by decide) (by decide) (by decide) ?_
      refine lv_aload_n hx hb d_LogDisk_file_60 rfl (lv_at hl 0 rfl) ?_
      refine g_get hx hb hts (fun w h => List.mem_cons_of_mem _ (in_DiskFile w h)) hown hK hP (gis_elem_DiskFile hY (gis_LogDisk_files hY hx0) hin4) (gce_DiskFile (gis_elem_DiskFile hY (gis_LogDisk_files hY hx0) hin4).1) rfl 1 (by decide) (hts _ (List.mem_cons_of_mem _ gw_215)) rfl d_LogDisk_file_61 ?_
      refine g_get hx hb hts (fun w h => List.mem_cons_of_mem _ (in_Content w h)) hown hK hP (gis_DiskFile_now hY (gis_elem_DiskFile hY (gis_LogDisk_files hY hx0) hin4)) (gce_Content (gis_DiskFile_now hY (gis_elem_DiskFile hY (gis_LogDisk_files hY hx0) hin4)).1) rfl 2 (by decide) (hts _ (List.mem_cons_of_mem _ gw_205)) rfl d_LogDisk_file_64 ?_
      exact gx_ret (W.iret (v := (S1.1 (grf (grf (grf x0 1) x1.toNatClampNeg) 1) 2)) hx hb hr (fun t ht hW => ⟨⟨(S1.1 (grf (grf (grf x0 1) x1.toNatClampNeg) 1) 2), S1, rfl, hw, by rw [ht]; exact hP, va_K.moved hW.alike hK⟩, hS.F ht⟩) hS.2.2 d_LogDisk_file_67)
    · replace hw := hw.2.2.1 c5
      rw [c5]
      refine lv_tableIn (tgt := 68) (off := 43) hx hb d_LogDisk_file_25 (by decide) (by decide) (by decide) (by decide) ?_
      refine lv_aload_n hx hb d_LogDisk_file_68 rfl (lv_at hl 0 rfl) ?_
      refine g_get hx hb hts (fun w h => List.mem_cons_of_mem _ (in_DiskFile w h)) hown hK hP (gis_elem_DiskFile hY (gis_LogDisk_files hY hx0) hin4) (gce_DiskFile (gis_elem_DiskFile hY (gis_LogDisk_files hY hx0) hin4).1) rfl 2 (by decide) (hts _ (List.mem_cons_of_mem _ gw_217)) rfl d_LogDisk_file_69 ?_
      refine g_get hx hb hts (fun w h => List.mem_cons_of_mem _ (in_Content w h)) hown hK hP (gis_DiskFile_synced hY (gis_elem_DiskFile hY (gis_LogDisk_files hY hx0) hin4)) (gce_Content (gis_DiskFile_synced hY (gis_elem_DiskFile hY (gis_LogDisk_files hY hx0) hin4)).1) rfl 2 (by decide) (hts _ (List.mem_cons_of_mem _ gw_205)) rfl d_LogDisk_file_72 ?_
      exact gx_ret (W.iret (v := (S1.1 (grf (grf (grf x0 1) x1.toNatClampNeg) 2) 2)) hx hb hr (fun t ht hW => ⟨⟨(S1.1 (grf (grf (grf x0 1) x1.toNatClampNeg) 2) 2), S1, rfl, hw, by rw [ht]; exact hP, va_K.moved hW.alike hK⟩, hS.F ht⟩) hS.2.2 d_LogDisk_file_75)
    · replace hw := hw.2.2.2.1 c5
      rw [c5]
      refine lv_tableIn (tgt := 76) (off := 51) hx hb d_LogDisk_file_25 (by decide) (by decide) (by decide) (by decide) ?_
      refine lv_aload_n hx hb d_LogDisk_file_76 rfl (lv_at hl 0 rfl) ?_
      refine g_get hx hb hts (fun w h => List.mem_cons_of_mem _ (in_DiskFile w h)) hown hK hP (gis_elem_DiskFile hY (gis_LogDisk_files hY hx0) hin4) (gce_DiskFile (gis_elem_DiskFile hY (gis_LogDisk_files hY hx0) hin4).1) rfl 3 (by decide) (hts _ (List.mem_cons_of_mem _ gw_219)) rfl d_LogDisk_file_77 ?_
      exact gx_ret (W.iret (v := (S1.1 (grf (grf x0 1) x1.toNatClampNeg) 3)) hx hb hr (fun t ht hW => ⟨⟨(S1.1 (grf (grf x0 1) x1.toNatClampNeg) 3), S1, rfl, hw, by rw [ht]; exact hP, va_K.moved hW.alike hK⟩, hS.F ht⟩) hS.2.2 d_LogDisk_file_80)
    · replace hw := hw.2.2.2.2.1 c5
      rw [c5]
      refine lv_tableIn (tgt := 81) (off := 56) hx hb d_LogDisk_file_25 (by decide) (by decide) (by decide) (by decide) ?_
      refine lv_aload_n hx hb d_LogDisk_file_81 rfl (lv_at hl 0 rfl) ?_
      refine g_get hx hb hts (fun w h => List.mem_cons_of_mem _ (in_DiskFile w h)) hown hK hP (gis_elem_DiskFile hY (gis_LogDisk_files hY hx0) hin4) (gce_DiskFile (gis_elem_DiskFile hY (gis_LogDisk_files hY hx0) hin4).1) rfl 1 (by decide) (hts _ (List.mem_cons_of_mem _ gw_215)) rfl d_LogDisk_file_82 ?_
      refine g_get hx hb hts (fun w h => List.mem_cons_of_mem _ (in_Content w h)) hown hK hP (gis_DiskFile_now hY (gis_elem_DiskFile hY (gis_LogDisk_files hY hx0) hin4)) (gce_Content (gis_DiskFile_now hY (gis_elem_DiskFile hY (gis_LogDisk_files hY hx0) hin4)).1) rfl 1 (by decide) (hts _ (List.mem_cons_of_mem _ gw_202)) rfl d_LogDisk_file_85 ?_
      refine lv_if_eq (tgt := 95) hx hb d_LogDisk_file_88 (by decide) (fun c6 => ?_) (fun c6 => ?_)
      · replace hw := hw.1 c6
        refine lv_iconst (v := 0) hx hb d_LogDisk_file_95 (by decide) ?_
        exact gx_ret (W.iret (v := 0) hx hb hr (fun t ht hW => ⟨⟨0, S1, rfl, hw, by rw [ht]; exact hP, va_K.moved hW.alike hK⟩, hS.F ht⟩) hS.2.2 d_LogDisk_file_96)
      · replace hw := hw.2 c6
        refine lv_iconst (v := 1) hx hb d_LogDisk_file_91 (by decide) ?_
        refine lv_goto (tgt := 96) hx hb d_LogDisk_file_92 (by decide) ?_
        exact gx_ret (W.iret (v := 1) hx hb hr (fun t ht hW => ⟨⟨1, S1, rfl, hw, by rw [ht]; exact hP, va_K.moved hW.alike hK⟩, hS.F ht⟩) hS.2.2 d_LogDisk_file_96)
    · replace hw := hw.2.2.2.2.2 c5
      rw [c5]
      refine lv_tableIn (tgt := 97) (off := 72) hx hb d_LogDisk_file_25 (by decide) (by decide) (by decide) (by decide) ?_
      refine lv_aload_n hx hb d_LogDisk_file_97 rfl (lv_at hl 0 rfl) ?_
      refine g_get hx hb hts (fun w h => List.mem_cons_of_mem _ (in_DiskFile w h)) hown hK hP (gis_elem_DiskFile hY (gis_LogDisk_files hY hx0) hin4) (gce_DiskFile (gis_elem_DiskFile hY (gis_LogDisk_files hY hx0) hin4).1) rfl 2 (by decide) (hts _ (List.mem_cons_of_mem _ gw_217)) rfl d_LogDisk_file_98 ?_
      refine g_get hx hb hts (fun w h => List.mem_cons_of_mem _ (in_Content w h)) hown hK hP (gis_DiskFile_synced hY (gis_elem_DiskFile hY (gis_LogDisk_files hY hx0) hin4)) (gce_Content (gis_DiskFile_synced hY (gis_elem_DiskFile hY (gis_LogDisk_files hY hx0) hin4)).1) rfl 1 (by decide) (hts _ (List.mem_cons_of_mem _ gw_202)) rfl d_LogDisk_file_101 ?_
      refine lv_if_eq (tgt := 111) hx hb d_LogDisk_file_104 (by decide) (fun c7 => ?_) (fun c7 => ?_)
      · replace hw := hw.1 c7
        refine lv_iconst (v := 0) hx hb d_LogDisk_file_111 (by decide) ?_
        exact gx_ret (W.iret (v := 0) hx hb hr (fun t ht hW => ⟨⟨0, S1, rfl, hw, by rw [ht]; exact hP, va_K.moved hW.alike hK⟩, hS.F ht⟩) hS.2.2 d_LogDisk_file_112)
      · replace hw := hw.2 c7
        refine lv_iconst (v := 1) hx hb d_LogDisk_file_107 (by decide) ?_
        refine lv_goto (tgt := 112) hx hb d_LogDisk_file_108 (by decide) ?_
        exact gx_ret (W.iret (v := 1) hx hb hr (fun t ht hW => ⟨⟨1, S1, rfl, hw, by rw [ht]; exact hP, va_K.moved hW.alike hK⟩, hS.F ht⟩) hS.2.2 d_LogDisk_file_112)
  · replace hw := hw.2 c3
    exact gx_throwS (text := "no such file") hx hb hlt hown (by decide +kernel) (hts _ (List.mem_cons_of_mem _ gw_659)) (hts _ (List.mem_cons_of_mem _ gw_20)) hSt (by decide +kernel) (by decide +kernel) hS hP (by rw [hml]; exact hl.1) d_LogDisk_file_7 d_LogDisk_file_10 d_LogDisk_file_11 d_LogDisk_file_13 d_LogDisk_file_16 hout (Nat.le_of_ble_eq_true rfl) (Nat.le_of_ble_eq_true rfl) (Nat.le_of_ble_eq_true rfl) (Nat.le_of_ble_eq_true rfl) hlocks hw (Nat.le_refl _) (Nat.le_refl _)
set_option maxHeartbeats 4000000 in
set_option maxRecDepth 100000 in
theorem k_LogDisk_file (l : Launch) (hlt : l.stackTraces = false) (Y : gY) (hY : gOK Y) (sz : Nat) (x0 : gI) (x1 : Int32) (x2 : Int32)  (hx0 : gis Y 9 x0) (S : gS) (Q : Int32 → gS → Prop) (X : String → gS → Prop) : gxMet l y_LogDisk_file w_LogDisk_file (gRmX 6 100) (gPre Y [.ref (gad Y x0), .int x1, .int x2] S sz (wp_LogDisk_file (gLn Y) Q X x0 x1 x2 S)) Y sz (va_Qi Q (gB Y) (gA Y sz)) X := by
  refine gx_ofW (cc := c_LogDisk_file) (maxL := 4) (ret := (Option.some Jvm.ClassFile.FieldType.int)) (by decide) rfl ?_
  intro p e s m args below meth c s₁ B hml hout hv
  obtain ⟨rfl, hsz, hP, hK, hSt, hw⟩ := hv
  subst hsz
  refine ⟨rfl, ?_⟩
  have hts := atoms_spec (ws := w_LogDisk_file) B.pre
  have hl := lv_entry ([.ref (gad Y x0), .int x1, .int x2]) (n := 4) (Nat.le_of_ble_eq_true rfl)
  rw [lg_entry_eq]
  generalize (lg_sl ([.ref (gad Y x0), .int x1, .int x2]) ++ List.replicate (4 - (lg_sl ([.ref (gad Y x0), .int x1, .int x2])).length) Slot.unset).toArray = ls at hl ⊢
  exact mw_LogDisk_file ⟨B.exec, B.bytes, hml, findClass_of_methodNamed B.named, hts, B.returns, B.notSynchronized, hK, hY, hSt⟩ hlt hout x0 x1 x2 S s.heap [] ls hx0 hw hP va_S.rf hl

def wp_LogDisk_byteAt (Ln : gI → Nat) (Q : Int32 → gS → Prop) (X : String → gS → Prop) (x0 : gI) (x1 : Int32) (x2 : Int32)  (S : gS) : Prop :=
  wp_LogDisk_isFile Ln (fun r2 S1 => ((r2 = 0) → (X "java/lang/IndexOutOfBoundsException" S1)) ∧ ((¬ r2 = 0) → (((x2 < 0) → (X "java/lang/IndexOutOfBoundsException" S1)) ∧ ((¬ x2 < 0) → (vp_in x1 (Ln (grf x0 1)) ∧ (((x2 < (S1.1 (grf (grf (grf x0 1) x1.toNatClampNeg) 1) 2)) → (vp_in x1 (Ln (grf x0 1)) ∧ (wp_DiskFile_read Ln (fun r9 S8 => Q r9 S8) (grf (grf x0 1) x1.toNatClampNeg) x2 S1))) ∧ ((¬ x2 < (S1.1 (grf (grf (grf x0 1) x1.toNatClampNeg) 1) 2)) → (X "java/lang/IndexOutOfBoundsException" S1)))))))) x1 S
set_option maxHeartbeats 4000000 in
set_option maxRecDepth 100000 in
theorem mw_LogDisk_byteAt {p : Program} {l : Launch} {e : Env} {s : State} {m : MethodId} {args : Array Value} {below : List Frame} {meth : Method} {c : Code} {Y : gY} {Q : Int32 → gS → Prop} {X : String → gS → Prop} (C : gCx p s m args meth c Y "LogDisk" c_LogDisk_byteAt 3 (Option.some Jvm.ClassFile.FieldType.int) w_LogDisk_byteAt) (hlt : l.stackTraces = false) (hout : ∀ x ∈ c.exceptionTable.toList, False) : ∀ (x0 : gI) (x1 : Int32) (x2 : Int32)  (S : gS) (H : Heap) (locs : List Loc) (ls : Array Slot), gis Y 9 x0 → wp_LogDisk_byteAt (gLn Y) Q X x0 x1 x2 S → gWd Y S H → va_S (gA Y s.heap.size) s.heap H locs → lv_has ls 3 [(0, .ref (gad Y x0)), (1, .int x1), (2, .int x2)] → W p l e (gRmX 6 100) s m args below meth c H locs 0 0 (gxZ below Y (va_Qi Q (gB Y) (gA Y s.heap.size)) X args s) (F0 m 0 ls []) := by
  have C0 := C
  obtain ⟨hx, hb, hml, hown, hts, hr, hlocks, hK, hY, hSt⟩ := C
  intro x0 x1 x2 S H locs ls hx0 hw hP hS hl
  unfold wp_LogDisk_byteAt at hw
  refine lv_iload_n hx hb d_LogDisk_byteAt_0 rfl (lv_at hl 1 rfl) ?_
  refine g_calli (va_runS (As := [.int x1]) (rest := []) ⟨hx, hb, hml, hown, hts⟩ (k_LogDisk_isFile l Y hY H.size x1 S _) (va_cwS 1 hts (gG_S gw_718 gw_719 gw_1 gw_720) rfl rfl rfl (by decide +kernel) ⟨Nat.le_of_ble_eq_true rfl, Nat.le_of_ble_eq_true rfl⟩) ⟨gPre_blind, g_pre hK hSt hS hP hw⟩ rfl rfl hl.1 rfl (lv_room (Nat.le_of_ble_eq_true rfl)) d_LogDisk_byteAt_1 ⟨Nat.zero_le _, Nat.zero_le _⟩) hS (fun r2 S1 H locs hw hP hS => ?_)
  refine lv_if_eq (tgt := 27) hx hb d_LogDisk_byteAt_4 (by decide) (fun c3 => ?_) (fun c3 => ?_)
  · replace hw := hw.1 c3
    exact gx_throwW (text := "no such byte") hx hb hlt hown (by decide +kernel) (hts _ (List.mem_cons_of_mem _ gw_659)) (hts _ (List.mem_cons_of_mem _ gw_20)) hSt (by decide +kernel) (by decide +kernel) hS hP (by rw [hml]; exact hl.1) d_LogDisk_byteAt_27 d_LogDisk_byteAt_30 d_LogDisk_byteAt_31 d_LogDisk_byteAt_34 d_LogDisk_byteAt_37 hout (Nat.le_of_ble_eq_true rfl) (Nat.le_of_ble_eq_true rfl) (Nat.le_of_ble_eq_true rfl) (Nat.le_of_ble_eq_true rfl) hlocks hw (Nat.le_refl _) (Nat.le_refl _)
  · replace hw := hw.2 c3
    refine lv_iload_n hx hb d_LogDisk_byteAt_7 rfl (lv_at hl 2 rfl) ?_
    refine lv_if_lt (tgt := 27) hx hb d_LogDisk_byteAt_8 (by decide) (fun c4 => ?_) (fun c4 => ?_)
    · replace hw := hw.1 c4
      exact gx_throwW (text := "no such byte") hx hb hlt hown (by decide +kernel) (hts _ (List.mem_cons_of_mem _ gw_659)) (hts _ (List.mem_cons_of_mem _ gw_20)) hSt (by decide +kernel) (by decide +kernel) hS hP (by rw [hml]; exact hl.1) d_LogDisk_byteAt_27 d_LogDisk_byteAt_30 d_LogDisk_byteAt_31 d_LogDisk_byteAt_34 d_LogDisk_byteAt_37 hout (Nat.le_of_ble_eq_true rfl) (Nat.le_of_ble_eq_true rfl) (Nat.le_of_ble_eq_true rfl) (Nat.le_of_ble_eq_true rfl) hlocks hw (Nat.le_refl _) (Nat.le_refl _)
    · replace hw := hw.2 c4
      refine lv_iload_n hx hb d_LogDisk_byteAt_11 rfl (lv_at hl 2 rfl) ?_
      refine lv_aload_n hx hb d_LogDisk_byteAt_12 rfl (lv_at hl 0 rfl) ?_
      refine g_get hx hb hts (fun w h => List.mem_cons_of_mem _ (in_LogDisk w h)) hown hK hP hx0 (gce_LogDisk hx0.1) rfl 1 (by decide) (hts _ (List.mem_cons_of_mem _ gw_230)) rfl d_LogDisk_byteAt_13 ?_
      refine lv_iload_n hx hb d_LogDisk_byteAt_16 rfl (lv_at hl 1 rfl) ?_
      obtain ⟨hin, hw⟩ := hw
      refine g_aaload hx hb hK hP (gis_LogDisk_files hY hx0) hin d_LogDisk_byteAt_17 ?_
      have hin5 := hin
      refine g_get hx hb hts (fun w h => List.mem_cons_of_mem _ (in_DiskFile w h)) hown hK hP (gis_elem_DiskFile hY (gis_LogDisk_files hY hx0) hin5) (gce_DiskFile (gis_elem_DiskFile hY (gis_LogDisk_files hY hx0) hin5).1) rfl 1 (by decide) (hts _ (List.mem_cons_of_mem _ gw_215)) rfl d_LogDisk_byteAt_18 ?_
      refine g_get hx hb hts (fun w h => List.mem_cons_of_mem _ (in_Content w h)) hown hK hP (gis_DiskFile_now hY (gis_elem_DiskFile hY (gis_LogDisk_files hY hx0) hin5)) (gce_Content (gis_DiskFile_now hY (gis_elem_DiskFile hY (gis_LogDisk_files hY hx0) hin5)).1) rfl 2 (by decide) (hts _ (List.mem_cons_of_mem _ gw_205)) rfl d_LogDisk_byteAt_21 ?_
      refine lv_icmp_lt (tgt := 38) hx hb d_LogDisk_byteAt_24 (by decide) (fun c6 => ?_) (fun c6 => ?_)
      · replace hw := hw.1 c6
        refine lv_aload_n hx hb d_LogDisk_byteAt_38 rfl (lv_at hl 0 rfl) ?_
        refine g_get hx hb hts (fun w h => List.mem_cons_of_mem _ (in_LogDisk w h)) hown hK hP hx0 (gce_LogDisk hx0.1) rfl 1 (by decide) (hts _ (List.mem_cons_of_mem _ gw_230)) rfl d_LogDisk_byteAt_39 ?_
        refine lv_iload_n hx hb d_LogDisk_byteAt_42 rfl (lv_at hl 1 rfl) ?_
        obtain ⟨hin, hw⟩ := hw
        refine g_aaload hx hb hK hP (gis_LogDisk_files hY hx0) hin d_LogDisk_byteAt_43 ?_
        have hin7 := hin
        refine lv_iload_n hx hb d_LogDisk_byteAt_44 rfl (lv_at hl 2 rfl) ?_
        refine g_calli (va_runV (As := [.int x2]) (rest := []) ⟨hx, hb, hml, hown, hts⟩ (k_DiskFile_read l Y hY H.size (grf (grf x0 1) x1.toNatClampNeg) x2 (gis_elem_DiskFile hY (gis_LogDisk_files hY hx0) hin7) S1 _) (cwV 1 hts (gG_V gw_380 gw_345 gw_346 gw_10 gw_347) rfl rfl rfl (by decide +kernel) ⟨Nat.le_of_ble_eq_true rfl, Nat.le_of_ble_eq_true rfl⟩) ⟨gPre_blind, g_recv hK hP (gis_elem_DiskFile hY (gis_LogDisk_files hY hx0) hin7) (gce_DiskFile (gis_elem_DiskFile hY (gis_LogDisk_files hY hx0) hin7).1) rfl, g_pre hK hSt hS hP hw⟩ rfl rfl hl.1 rfl (lv_room (Nat.le_of_ble_eq_true rfl)) d_LogDisk_byteAt_45 ⟨Nat.zero_le _, Nat.zero_le _⟩) hS (fun r9 S8 H locs hw hP hS => ?_)
        exact gx_ret (W.iret (v := r9) hx hb hr (fun t ht hW => ⟨⟨r9, S8, rfl, hw, by rw [ht]; exact hP, va_K.moved hW.alike hK⟩, hS.F ht⟩) hS.2.2 d_LogDisk_byteAt_48)
      · replace hw := hw.2 c6
        exact gx_throwW (text := "no such byte") hx hb hlt hown (by decide +kernel) (hts _ (List.mem_cons_of_mem _ gw_659)) (hts _ (List.mem_cons_of_mem _ gw_20)) hSt (by decide +kernel) (by decide +kernel) hS hP (by rw [hml]; exact hl.1) d_LogDisk_byteAt_27 d_LogDisk_byteAt_30 d_LogDisk_byteAt_31 d_LogDisk_byteAt_34 d_LogDisk_byteAt_37 hout (Nat.le_of_ble_eq_true rfl) (Nat.le_of_ble_eq_true rfl) (Nat.le_of_ble_eq_true rfl) (Nat.le_of_ble_eq_true rfl) hlocks hw (Nat.le_refl _) (Nat.le_refl _)
set_option maxHeartbeats 4000000 in
set_option maxRecDepth 100000 in
theorem k_LogDisk_byteAt (l : Launch) (hlt : l.stackTraces = false) (Y : gY) (hY : gOK Y) (sz : Nat) (x0 : gI) (x1 : Int32) (x2 : Int32)  (hx0 : gis Y 9 x0) (S : gS) (Q : Int32 → gS → Prop) (X : String → gS → Prop) : gxMet l y_LogDisk_byteAt w_LogDisk_byteAt (gRmX 6 100) (gPre Y [.ref (gad Y x0), .int x1, .int x2] S sz (wp_LogDisk_byteAt (gLn Y) Q X x0 x1 x2 S)) Y sz (va_Qi Q (gB Y) (gA Y sz)) X := by
  refine gx_ofW (cc := c_LogDisk_byteAt) (maxL := 3) (ret := (Option.some Jvm.ClassFile.FieldType.int)) (by decide) rfl ?_
  intro p e s m args below meth c s₁ B hml hout hv
  obtain ⟨rfl, hsz, hP, hK, hSt, hw⟩ := hv
  subst hsz
  refine ⟨rfl, ?_⟩
  have hts := atoms_spec (ws := w_LogDisk_byteAt) B.pre
  have hl := lv_entry ([.ref (gad Y x0), .int x1, .int x2]) (n := 3) (Nat.le_of_ble_eq_true rfl)
  rw [lg_entry_eq]
  generalize (lg_sl ([.ref (gad Y x0), .int x1, .int x2]) ++ List.replicate (3 - (lg_sl ([.ref (gad Y x0), .int x1, .int x2])).length) Slot.unset).toArray = ls at hl ⊢
  exact mw_LogDisk_byteAt ⟨B.exec, B.bytes, hml, findClass_of_methodNamed B.named, hts, B.returns, B.notSynchronized, hK, hY, hSt⟩ hlt hout x0 x1 x2 S s.heap [] ls hx0 hw hP va_S.rf hl
