def wp_DiskFile_isShared (Ln : gI → Nat) (Q : Int32 → gS → Prop) (x0 : gI) (x1 : Int32)  (S : gS) : Prop :=
  ((x1 < 0) → (Q 0 S)) ∧ ((¬ x1 < 0) → (wp_LogDisk_pagesFor Ln (fun r3 S2 => ((r3 ≤ x1) → (Q 0 S2)) ∧ ((¬ r3 ≤ x1) → (wp_LogDisk_pagesFor Ln (fun r6 S5 => ((r6 ≤ x1) → (Q 0 S5)) ∧ ((¬ r6 ≤ x1) → (vp_in x1 (Ln (grf (grf x0 1) 0)) ∧ (vp_in x1 (Ln (grf (grf x0 2) 0)) ∧ (((¬ (S5.1 (grf (grf x0 1) 0) x1.toNatClampNeg) = (S5.1 (grf (grf x0 2) 0) x1.toNatClampNeg)) → (Q 0 S5)) ∧ (((S5.1 (grf (grf x0 1) 0) x1.toNatClampNeg) = (S5.1 (grf (grf x0 2) 0) x1.toNatClampNeg)) → (Q 1 S5))))))) (S2.1 (grf x0 2) 2) S2))) (S.1 (grf x0 1) 2) S))
set_option maxHeartbeats 4000000 in
set_option maxRecDepth 100000 in
theorem mw_DiskFile_isShared {p : Program} {l : Launch} {e : Env} {s : State} {m : MethodId} {args : Array Value} {below : List Frame} {meth : Method} {c : Code} {Y : gY} {Q : Int32 → gS → Prop} (C : gCx p s m args meth c Y "LogDisk$DiskFile" c_DiskFile_isShared 2 (Option.some Jvm.ClassFile.FieldType.boolean) w_DiskFile_isShared) : ∀ (x0 : gI) (x1 : Int32)  (S : gS) (H : Heap) (locs : List Loc) (ls : Array Slot), gis Y 1 x0 → wp_DiskFile_isShared (gLn Y) Q x0 x1 S → gWd Y S H → va_S (gA Y s.heap.size) s.heap H locs → lv_has ls 2 [(0, .ref (gad Y x0)), (1, .int x1)] → W p l e (gRm 1 20) s m args below meth c H locs 0 0 (MQ below (va_Qi Q (gB Y) (gA Y s.heap.size)) args s 0 0 (gA Y s.heap.size)) (F0 m 0 ls []) := by
  have C0 := C
  obtain ⟨hx, hb, hml, hown, hts, hr, hlocks, hK, hY, hSt⟩ := C
  intro x0 x1 S H locs ls hx0 hw hP hS hl
  unfold wp_DiskFile_isShared at hw
  refine lv_iload_n hx hb d_DiskFile_isShared_0 rfl (lv_at hl 1 rfl) ?_
  refine lv_if_lt (tgt := 57) hx hb d_DiskFile_isShared_1 (by decide) (fun c1 => ?_) (fun c1 => ?_)
  · replace hw := hw.1 c1
    refine lv_iconst (v := 0) hx hb d_DiskFile_isShared_57 (by decide) ?_
    exact W.zret (v := 0) hx hb hr rfl (fun t ht hW => ⟨⟨0, S, rfl, hw, by rw [ht]; exact hP, va_K.moved hW.alike hK⟩, hS.F ht⟩) hS.2.2 d_DiskFile_isShared_58
  · replace hw := hw.2 c1
    refine lv_iload_n hx hb d_DiskFile_isShared_4 rfl (lv_at hl 1 rfl) ?_
    refine lv_aload_n hx hb d_DiskFile_isShared_5 rfl (lv_at hl 0 rfl) ?_
    refine g_get hx hb hts (fun w h => List.mem_cons_of_mem _ (in_DiskFile w h)) hown hK hP hx0 (gce_DiskFile hx0.1) rfl 1 (by decide) (hts _ (List.mem_cons_of_mem _ gw_214)) rfl d_DiskFile_isShared_6 ?_
    refine g_get hx hb hts (fun w h => List.mem_cons_of_mem _ (in_Content w h)) hown hK hP (gis_DiskFile_now hY hx0) (gce_Content (gis_DiskFile_now hY hx0).1) rfl 2 (by decide) (hts _ (List.mem_cons_of_mem _ gw_204)) rfl d_DiskFile_isShared_9 ?_
    refine g_calli (va_runSN (As := [.int (S.1 (grf x0 1) 2)]) (rest := [.int x1]) ⟨hx, hb, hml, hown, hts⟩ (k_LogDisk_pagesFor l Y hY H.size (S.1 (grf x0 1) 2) S _) ⟨va_cnB 1 hts (gG_N gw_288) rfl rfl rfl hSt.1.2.1 (hts _ (List.mem_cons_of_mem _ gw_1)) (by decide +kernel) ⟨Nat.le_of_ble_eq_true rfl, Nat.le_of_ble_eq_true rfl⟩, (hts _ (List.mem_cons_of_mem _ gw_287)), trivial⟩ ⟨gPre_blind, g_pre hK hSt hS hP hw⟩ rfl rfl hl.1 rfl (lv_room (Nat.le_of_ble_eq_true rfl)) d_DiskFile_isShared_12 ⟨Nat.zero_le _, Nat.zero_le _⟩) hS (fun r3 S2 H locs hw hP hS => ?_)
    refine lv_icmp_ge (tgt := 57) hx hb d_DiskFile_isShared_15 (by decide) (fun c4 => ?_) (fun c4 => ?_)
    · replace hw := hw.1 c4
      refine lv_iconst (v := 0) hx hb d_DiskFile_isShared_57 (by decide) ?_
      exact W.zret (v := 0) hx hb hr rfl (fun t ht hW => ⟨⟨0, S2, rfl, hw, by rw [ht]; exact hP, va_K.moved hW.alike hK⟩, hS.F ht⟩) hS.2.2 d_DiskFile_isShared_58
    · replace hw := hw.2 c4
      refine lv_iload_n hx hb d_DiskFile_isShared_18 rfl (lv_at hl 1 rfl) ?_
      refine lv_aload_n hx hb d_DiskFile_isShared_19 rfl (lv_at hl 0 rfl) ?_
      refine g_get hx hb hts (fun w h => List.mem_cons_of_mem _ (in_DiskFile w h)) hown hK hP hx0 (gce_DiskFile hx0.1) rfl 2 (by decide) (hts _ (List.mem_cons_of_mem _ gw_216)) rfl d_DiskFile_isShared_20 ?_
      refine g_get hx hb hts (fun w h => List.mem_cons_of_mem _ (in_Content w h)) hown hK hP (gis_DiskFile_synced hY hx0) (gce_Content (gis_DiskFile_synced hY hx0).1) rfl 2 (by decide) (hts _ (List.mem_cons_of_mem _ gw_204)) rfl d_DiskFile_isShared_23 ?_
      refine g_calli (va_runSN (As := [.int (S2.1 (grf x0 2) 2)]) (rest := [.int x1]) ⟨hx, hb, hml, hown, hts⟩ (k_LogDisk_pagesFor l Y hY H.size (S2.1 (grf x0 2) 2) S2 _) ⟨va_cnB 1 hts (gG_N gw_288) rfl rfl rfl hSt.1.2.1 (hts _ (List.mem_cons_of_mem _ gw_1)) (by decide +kernel) ⟨Nat.le_of_ble_eq_true rfl, Nat.le_of_ble_eq_true rfl⟩, (hts _ (List.mem_cons_of_mem _ gw_287)), trivial⟩ ⟨gPre_blind, g_pre hK hSt hS hP hw⟩ rfl rfl hl.1 rfl (lv_room (Nat.le_of_ble_eq_true rfl)) d_DiskFile_isShared_26 ⟨Nat.zero_le _, Nat.zero_le _⟩) hS (fun r6 S5 H locs hw hP hS => ?_)
      refine lv_icmp_ge (tgt := 57) hx hb d_DiskFile_isShared_29 (by decide) (fun c7 => ?_) (fun c7 => ?_)
      · replace hw := hw.1 c7
        refine lv_iconst (v := 0) hx hb d_DiskFile_isShared_57 (by decide) ?_
        exact W.zret (v := 0) hx hb hr rfl (fun t ht hW => ⟨⟨0, S5, rfl, hw, by rw [ht]; exact hP, va_K.moved hW.alike hK⟩, hS.F ht⟩) hS.2.2 d_DiskFile_isShared_58
      · replace hw := hw.2 c7
        refine lv_aload_n hx hb d_DiskFile_isShared_32 rfl (lv_at hl 0 rfl) ?_
        refine g_get hx hb hts (fun w h => List.mem_cons_of_mem _ (in_DiskFile w h)) hown hK hP hx0 (gce_DiskFile hx0.1) rfl 1 (by decide) (hts _ (List.mem_cons_of_mem _ gw_214)) rfl d_DiskFile_isShared_33 ?_
        refine g_get hx hb hts (fun w h => List.mem_cons_of_mem _ (in_Content w h)) hown hK hP (gis_DiskFile_now hY hx0) (gce_Content (gis_DiskFile_now hY hx0).1) rfl 0 (by decide) (hts _ (List.mem_cons_of_mem _ gw_199)) rfl d_DiskFile_isShared_36 ?_
        refine lv_iload_n hx hb d_DiskFile_isShared_39 rfl (lv_at hl 1 rfl) ?_
        obtain ⟨hin, hw⟩ := hw
        refine g_iaload hx hb hK hP (gis_Content_row hY (gis_DiskFile_now hY hx0)) hin d_DiskFile_isShared_40 ?_
        refine lv_aload_n hx hb d_DiskFile_isShared_41 rfl (lv_at hl 0 rfl) ?_
        refine g_get hx hb hts (fun w h => List.mem_cons_of_mem _ (in_DiskFile w h)) hown hK hP hx0 (gce_DiskFile hx0.1) rfl 2 (by decide) (hts _ (List.mem_cons_of_mem _ gw_216)) rfl d_DiskFile_isShared_42 ?_
        refine g_get hx hb hts (fun w h => List.mem_cons_of_mem _ (in_Content w h)) hown hK hP (gis_DiskFile_synced hY hx0) (gce_Content (gis_DiskFile_synced hY hx0).1) rfl 0 (by decide) (hts _ (List.mem_cons_of_mem _ gw_199)) rfl d_DiskFile_isShared_45 ?_
        refine lv_iload_n hx hb d_DiskFile_isShared_48 rfl (lv_at hl 1 rfl) ?_
        obtain ⟨hin, hw⟩ := hw
        refine g_iaload hx hb hK hP (gis_Content_row hY (gis_DiskFile_synced hY hx0)) hin d_DiskFile_isShared_49 ?_
        refine lv_icmp_ne (tgt := 57) hx hb d_DiskFile_isShared_50 (by decide) (fun c8 => ?_) (fun c8 => ?_)
        · replace hw := hw.1 c8
          refine lv_iconst (v := 0) hx hb d_DiskFile_isShared_57 (by decide) ?_
          exact W.zret (v := 0) hx hb hr rfl (fun t ht hW => ⟨⟨0, S5, rfl, hw, by rw [ht]; exact hP, va_K.moved hW.alike hK⟩, hS.F ht⟩) hS.2.2 d_DiskFile_isShared_58
        · replace hw := hw.2 c8
          refine lv_iconst (v := 1) hx hb d_DiskFile_isShared_53 (by decide) ?_
          refine lv_goto (tgt := 58) hx hb d_DiskFile_isShared_54 (by decide) ?_
          exact W.zret (v := 1) hx hb hr rfl (fun t ht hW => ⟨⟨1, S5, rfl, hw, by rw [ht]; exact hP, va_K.moved hW.alike hK⟩, hS.F ht⟩) hS.2.2 d_DiskFile_isShared_58
set_option maxHeartbeats 4000000 in
set_option maxRecDepth 100000 in
theorem k_DiskFile_isShared (l : Launch) (Y : gY) (hY : gOK Y) (sz : Nat) (x0 : gI) (x1 : Int32)  (hx0 : gis Y 1 x0) (S : gS) (Q : Int32 → gS → Prop) : Met l y_DiskFile_isShared w_DiskFile_isShared (gRm 1 20) (gPre Y [.ref (gad Y x0), .int x1] S sz (wp_DiskFile_isShared (gLn Y) Q x0 x1 S)) (va_Qi Q (gB Y) (gA Y sz)) 0 0 (gA Y sz) := by
  refine Met.ofW (cc := c_DiskFile_isShared) (maxL := 2) (ret := (Option.some Jvm.ClassFile.FieldType.boolean)) (by decide) rfl ?_
  intro p e s m args below meth c s₁ B hml hv
  obtain ⟨rfl, hsz, hP, hK, hSt, hw⟩ := hv
  subst hsz
  have hts := atoms_spec (ws := w_DiskFile_isShared) B.pre
  have hl := lv_entry ([.ref (gad Y x0), .int x1]) (n := 2) (Nat.le_of_ble_eq_true rfl)
  rw [lg_entry_eq]
  generalize (lg_sl ([.ref (gad Y x0), .int x1]) ++ List.replicate (2 - (lg_sl ([.ref (gad Y x0), .int x1])).length) Slot.unset).toArray = ls at hl ⊢
  exact mw_DiskFile_isShared ⟨B.exec, B.bytes, hml, findClass_of_methodNamed B.named, hts, B.returns, B.notSynchronized, hK, hY, hSt⟩ x0 x1 S s.heap [] ls hx0 hw hP va_S.rf hl

def wp_DiskFile_mustCopyLastPage (Ln : gI → Nat) (Q : Int32 → gS → Prop) (x0 : gI)  (S : gS) : Prop :=
  ((((S.1 (grf x0 1) 2) - (S.1 (grf x0 1) 2) / 64 * 64) = 0) → (Q 0 S)) ∧ ((¬ ((S.1 (grf x0 1) 2) - (S.1 (grf x0 1) 2) / 64 * 64) = 0) → (wp_DiskFile_isShared Ln (fun r3 S2 => ((r3 = 0) → (Q 0 S2)) ∧ ((¬ r3 = 0) → (Q 1 S2))) x0 ((S.1 (grf x0 1) 2) / 64) S))
set_option maxHeartbeats 4000000 in
set_option maxRecDepth 100000 in
theorem mw_DiskFile_mustCopyLastPage {p : Program} {l : Launch} {e : Env} {s : State} {m : MethodId} {args : Array Value} {below : List Frame} {meth : Method} {c : Code} {Y : gY} {Q : Int32 → gS → Prop} (C : gCx p s m args meth c Y "LogDisk$DiskFile" c_DiskFile_mustCopyLastPage 1 (Option.some Jvm.ClassFile.FieldType.boolean) w_DiskFile_mustCopyLastPage) : ∀ (x0 : gI)  (S : gS) (H : Heap) (locs : List Loc) (ls : Array Slot), gis Y 1 x0 → wp_DiskFile_mustCopyLastPage (gLn Y) Q x0 S → gWd Y S H → va_S (gA Y s.heap.size) s.heap H locs → lv_has ls 1 [(0, .ref (gad Y x0))] → W p l e (gRm 2 41) s m args below meth c H locs 0 0 (MQ below (va_Qi Q (gB Y) (gA Y s.heap.size)) args s 0 0 (gA Y s.heap.size)) (F0 m 0 ls []) := by
  have C0 := C
  obtain ⟨hx, hb, hml, hown, hts, hr, hlocks, hK, hY, hSt⟩ := C
  intro x0 S H locs ls hx0 hw hP hS hl
  unfold wp_DiskFile_mustCopyLastPage at hw
  refine lv_aload_n hx hb d_DiskFile_mustCopyLastPage_0 rfl (lv_at hl 0 rfl) ?_
  refine g_get hx hb hts (fun w h => List.mem_cons_of_mem _ (in_DiskFile w h)) hown hK hP hx0 (gce_DiskFile hx0.1) rfl 1 (by decide) (hts _ (List.mem_cons_of_mem _ gw_214)) rfl d_DiskFile_mustCopyLastPage_1 ?_
  refine g_get hx hb hts (fun w h => List.mem_cons_of_mem _ (in_Content w h)) hown hK hP (gis_DiskFile_now hY hx0) (gce_Content (gis_DiskFile_now hY hx0).1) rfl 2 (by decide) (hts _ (List.mem_cons_of_mem _ gw_204)) rfl d_DiskFile_mustCopyLastPage_4 ?_
  refine lv_bipush (v := 64) hx hb d_DiskFile_mustCopyLastPage_7 (by decide) ?_
  refine lv_irem hx hb d_DiskFile_mustCopyLastPage_9 (by decide) ?_
  refine lv_if_eq (tgt := 34) hx hb d_DiskFile_mustCopyLastPage_10 (by decide) (fun c1 => ?_) (fun c1 => ?_)
  · replace hw := hw.1 c1
    refine lv_iconst (v := 0) hx hb d_DiskFile_mustCopyLastPage_34 (by decide) ?_
    exact W.zret (v := 0) hx hb hr rfl (fun t ht hW => ⟨⟨0, S, rfl, hw, by rw [ht]; exact hP, va_K.moved hW.alike hK⟩, hS.F ht⟩) hS.2.2 d_DiskFile_mustCopyLastPage_35
  · replace hw := hw.2 c1
    refine lv_aload_n hx hb d_DiskFile_mustCopyLastPage_13 rfl (lv_at hl 0 rfl) ?_
    refine lv_aload_n hx hb d_DiskFile_mustCopyLastPage_14 rfl (lv_at hl 0 rfl) ?_
    refine g_get hx hb hts (fun w h => List.mem_cons_of_mem _ (in_DiskFile w h)) hown hK hP hx0 (gce_DiskFile hx0.1) rfl 1 (by decide) (hts _ (List.mem_cons_of_mem _ gw_214)) rfl d_DiskFile_mustCopyLastPage_15 ?_
    refine g_get hx hb hts (fun w h => List.mem_cons_of_mem _ (in_Content w h)) hown hK hP (gis_DiskFile_now hY hx0) (gce_Content (gis_DiskFile_now hY hx0).1) rfl 2 (by decide) (hts _ (List.mem_cons_of_mem _ gw_204)) rfl d_DiskFile_mustCopyLastPage_18 ?_
    refine lv_bipush (v := 64) hx hb d_DiskFile_mustCopyLastPage_21 (by decide) ?_
    refine lv_idiv hx hb d_DiskFile_mustCopyLastPage_23 (by decide) ?_
    refine g_calli (va_runV (As := [.int ((S.1 (grf x0 1) 2) / 64)]) (rest := []) ⟨hx, hb, hml, hown, hts⟩ (k_DiskFile_isShared l Y hY H.size x0 ((S.1 (grf x0 1) 2) / 64) hx0 S _) (cwV 1 hts (gG_V gw_539 gw_540 gw_541 gw_10 gw_542) rfl rfl rfl (by decide +kernel) ⟨Nat.le_of_ble_eq_true rfl, Nat.le_of_ble_eq_true rfl⟩) ⟨gPre_blind, g_recv hK hP hx0 (gce_DiskFile hx0.1) rfl, g_pre hK hSt hS hP hw⟩ rfl rfl hl.1 rfl (lv_room (Nat.le_of_ble_eq_true rfl)) d_DiskFile_mustCopyLastPage_24 ⟨Nat.zero_le _, Nat.zero_le _⟩) hS (fun r3 S2 H locs hw hP hS => ?_)
    refine lv_if_eq (tgt := 34) hx hb d_DiskFile_mustCopyLastPage_27 (by decide) (fun c4 => ?_) (fun c4 => ?_)
    · replace hw := hw.1 c4
      refine lv_iconst (v := 0) hx hb d_DiskFile_mustCopyLastPage_34 (by decide) ?_
      exact W.zret (v := 0) hx hb hr rfl (fun t ht hW => ⟨⟨0, S2, rfl, hw, by rw [ht]; exact hP, va_K.moved hW.alike hK⟩, hS.F ht⟩) hS.2.2 d_DiskFile_mustCopyLastPage_35
    · replace hw := hw.2 c4
      refine lv_iconst (v := 1) hx hb d_DiskFile_mustCopyLastPage_30 (by decide) ?_
      refine lv_goto (tgt := 35) hx hb d_DiskFile_mustCopyLastPage_31 (by decide) ?_
      exact W.zret (v := 1) hx hb hr rfl (fun t ht hW => ⟨⟨1, S2, rfl, hw, by rw [ht]; exact hP, va_K.moved hW.alike hK⟩, hS.F ht⟩) hS.2.2 d_DiskFile_mustCopyLastPage_35
set_option maxHeartbeats 4000000 in
set_option maxRecDepth 100000 in
theorem k_DiskFile_mustCopyLastPage (l : Launch) (Y : gY) (hY : gOK Y) (sz : Nat) (x0 : gI)  (hx0 : gis Y 1 x0) (S : gS) (Q : Int32 → gS → Prop) : Met l y_DiskFile_mustCopyLastPage w_DiskFile_mustCopyLastPage (gRm 2 41) (gPre Y [.ref (gad Y x0)] S sz (wp_DiskFile_mustCopyLastPage (gLn Y) Q x0 S)) (va_Qi Q (gB Y) (gA Y sz)) 0 0 (gA Y sz) := by
  refine Met.ofW (cc := c_DiskFile_mustCopyLastPage) (maxL := 1) (ret := (Option.some Jvm.ClassFile.FieldType.boolean)) (by decide) rfl ?_
  intro p e s m args below meth c s₁ B hml hv
  obtain ⟨rfl, hsz, hP, hK, hSt, hw⟩ := hv
  subst hsz
  have hts := atoms_spec (ws := w_DiskFile_mustCopyLastPage) B.pre
  have hl := lv_entry ([.ref (gad Y x0)]) (n := 1) (Nat.le_of_ble_eq_true rfl)
  rw [lg_entry_eq]
  generalize (lg_sl ([.ref (gad Y x0)]) ++ List.replicate (1 - (lg_sl ([.ref (gad Y x0)])).length) Slot.unset).toArray = ls at hl ⊢
  exact mw_DiskFile_mustCopyLastPage ⟨B.exec, B.bytes, hml, findClass_of_methodNamed B.named, hts, B.returns, B.notSynchronized, hK, hY, hSt⟩ x0 S s.heap [] ls hx0 hw hP va_S.rf hl

def wp_DiskFile_canExtend_37 (Ln : gI → Nat) (Q : Int32 → gS → Prop) (x0 : gI) (x2 : Int32) (y0 : Int32) (y1 : Int32) (S : gS) : Prop :=
  ∀ v3_8 : Int32, v3_8 = y0 + y1 → (((400 < x2) → (Q 0 S)) ∧ ((¬ 400 < x2) → ((((S.1 (grf x0 0) 3) < v3_8) → (Q 0 S)) ∧ ((¬ (S.1 (grf x0 0) 3) < v3_8) → (Q 1 S)))))
def wp_DiskFile_canExtend (Ln : gI → Nat) (Q : Int32 → gS → Prop) (x0 : gI) (x1 : Int32)  (S : gS) : Prop :=
  wp_LogDisk_pagesFor Ln (fun r2 S1 => wp_LogDisk_pagesFor Ln (fun r4 S3 => wp_DiskFile_mustCopyLastPage Ln (fun r6 S5 => ((r6 = 0) → (wp_DiskFile_canExtend_37 Ln Q x0 r2 (r2 - r4) 0 S5)) ∧ ((¬ r6 = 0) → (wp_DiskFile_canExtend_37 Ln Q x0 r2 (r2 - r4) 1 S5))) x0 S3) (S1.1 (grf x0 1) 2) S1) ((S.1 (grf x0 1) 2) + x1) S
set_option maxHeartbeats 4000000 in
set_option maxRecDepth 100000 in
theorem mw_DiskFile_canExtend_37 {p : Program} {l : Launch} {e : Env} {s : State} {m : MethodId} {args : Array Value} {below : List Frame} {meth : Method} {c : Code} {Y : gY} {Q : Int32 → gS → Prop} (C : gCx p s m args meth c Y "LogDisk$DiskFile" c_DiskFile_canExtend 4 (Option.some Jvm.ClassFile.FieldType.boolean) w_DiskFile_canExtend) : ∀ (x0 : gI) (x2 : Int32) (y0 : Int32) (y1 : Int32) (S : gS) (H : Heap) (locs : List Loc) (ls : Array Slot), gis Y 1 x0 → wp_DiskFile_canExtend_37 (gLn Y) Q x0 x2 y0 y1 S → gWd Y S H → va_S (gA Y s.heap.size) s.heap H locs → lv_has ls 4 [(0, .ref (gad Y x0)), (2, .int x2)] → W p l e (gRm 3 61) s m args below meth c H locs 0 0 (MQ below (va_Qi Q (gB Y) (gA Y s.heap.size)) args s 0 0 (gA Y s.heap.size)) (F0 m 37 ls [.int y1, .int y0]) := by
  have C0 := C
  obtain ⟨hx, hb, hml, hown, hts, hr, hlocks, hK, hY, hSt⟩ := C
  intro x0 x2 y0 y1 S H locs ls hx0 hw hP hS hl
  unfold wp_DiskFile_canExtend_37 at hw
  refine lv_iadd hx hb d_DiskFile_canExtend_37 ?_
  refine lv_topi (fun v3_8 ev3_8 => ?_)
  replace hw := hw v3_8 ev3_8
  refine lv_istore_n (lv' := [(3, .int v3_8), (0, .ref (gad Y x0)), (2, .int x2)]) hx hb d_DiskFile_canExtend_38 rfl hl (by decide) rfl (fun ls hl => ?_)
  refine lv_iload_n hx hb d_DiskFile_canExtend_39 rfl (lv_at hl 2 rfl) ?_
  refine lv_sipush (v := 400) hx hb d_DiskFile_canExtend_40 (by decide) ?_
  refine lv_icmp_gt (tgt := 61) hx hb d_DiskFile_canExtend_43 (by decide) (fun c9 => ?_) (fun c9 => ?_)
  · replace hw := hw.1 c9
    refine lv_iconst (v := 0) hx hb d_DiskFile_canExtend_61 (by decide) ?_
    exact W.zret (v := 0) hx hb hr rfl (fun t ht hW => ⟨⟨0, S, rfl, hw, by rw [ht]; exact hP, va_K.moved hW.alike hK⟩, hS.F ht⟩) hS.2.2 d_DiskFile_canExtend_62
  · replace hw := hw.2 c9
    refine lv_iload_n hx hb d_DiskFile_canExtend_46 rfl (lv_at hl 0 rfl) ?_
    refine lv_aload_n hx hb d_DiskFile_canExtend_47 rfl (lv_at hl 1 rfl) ?_
    refine g_get hx hb hts (fun w h => List.mem_cons_of_mem _ (in_DiskFile w h)) hown hK hP hx0 (gce_DiskFile hx0.1) rfl 0 (by decide) (hts _ (List.mem_cons_of_mem _ gw_213)) rfl d_DiskFile_canExtend_48 ?_
    refine g_get hx hb hts (fun w h => List.mem_cons_of_mem _ (in_Pages w h)) hown hK hP (gis_DiskFile_pages hY hx0) (gce_Pages (gis_DiskFile_pages hY hx0).1) rfl 3 (by decide) (hts _ (List.mem_cons_of_mem _ gw_177)) rfl d_DiskFile_canExtend_51 ?_
    refine lv_icmp_gt (tgt := 61) hx hb d_DiskFile_canExtend_54 (by decide) (fun c10 => ?_) (fun c10 => ?_)
    · replace hw := hw.1 c10
      refine lv_iconst (v := 0) hx hb d_DiskFile_canExtend_61 (by decide) ?_
      exact W.zret (v := 0) hx hb hr rfl (fun t ht hW => ⟨⟨0, S, rfl, hw, by rw [ht]; exact hP, va_K.moved hW.alike hK⟩, hS.F ht⟩) hS.2.2 d_DiskFile_canExtend_62
    · replace hw := hw.2 c10
      refine lv_iconst (v := 1) hx hb d_DiskFile_canExtend_57 (by decide) ?_
      refine lv_goto (tgt := 62) hx hb d_DiskFile_canExtend_58 (by decide) ?_
      exact W.zret (v := 1) hx hb hr rfl (fun t ht hW => ⟨⟨1, S, rfl, hw, by rw [ht]; exact hP, va_K.moved hW.alike hK⟩, hS.F ht⟩) hS.2.2 d_DiskFile_canExtend_62
set_option maxHeartbeats 4000000 in
set_option maxRecDepth 100000 in
theorem mw_DiskFile_canExtend {p : Program} {l : Launch} {e : Env} {s : State} {m : MethodId} {args : Array Value} {below : List Frame} {meth : Method} {c : Code} {Y : gY} {Q : Int32 → gS → Prop} (C : gCx p s m args meth c Y "LogDisk$DiskFile" c_DiskFile_canExtend 4 (Option.some Jvm.ClassFile.FieldType.boolean) w_DiskFile_canExtend) : ∀ (x0 : gI) (x1 : Int32)  (S : gS) (H : Heap) (locs : List Loc) (ls : Array Slot), gis Y 1 x0 → wp_DiskFile_canExtend (gLn Y) Q x0 x1 S → gWd Y S H → va_S (gA Y s.heap.size) s.heap H locs → lv_has ls 4 [(0, .ref (gad Y x0)), (1, .int x1)] → W p l e (gRm 3 61) s m args below meth c H locs 0 0 (MQ below (va_Qi Q (gB Y) (gA Y s.heap.size)) args s 0 0 (gA Y s.heap.size)) (F0 m 0 ls []) := by
  have C0 := C
  obtain ⟨hx, hb, hml, hown, hts, hr, hlocks, hK, hY, hSt⟩ := C
  intro x0 x1 S H locs ls hx0 hw hP hS hl
  unfold wp_DiskFile_canExtend at hw
  refine lv_aload_n hx hb d_DiskFile_canExtend_0 rfl (lv_at hl 0 rfl) ?_
  refine g_get hx hb hts (fun w h => List.mem_cons_of_mem _ (in_DiskFile w h)) hown hK hP hx0 (gce_DiskFile hx0.1) rfl 1 (by decide) (hts _ (List.mem_cons_of_mem _ gw_214)) rfl d_DiskFile_canExtend_1 ?_
  refine g_get hx hb hts (fun w h => List.mem_cons_of_mem _ (in_Content w h)) hown hK hP (gis_DiskFile_now hY hx0) (gce_Content (gis_DiskFile_now hY hx0).1) rfl 2 (by decide) (hts _ (List.mem_cons_of_mem _ gw_204)) rfl d_DiskFile_canExtend_4 ?_
  refine lv_iload_n hx hb d_DiskFile_canExtend_7 rfl (lv_at hl 1 rfl) ?_
  refine lv_iadd hx hb d_DiskFile_canExtend_8 ?_
  refine g_calli (va_runSN (As := [.int ((S.1 (grf x0 1) 2) + x1)]) (rest := []) ⟨hx, hb, hml, hown, hts⟩ (k_LogDisk_pagesFor l Y hY H.size ((S.1 (grf x0 1) 2) + x1) S _) ⟨va_cnB 1 hts (gG_N gw_288) rfl rfl rfl hSt.1.2.1 (hts _ (List.mem_cons_of_mem _ gw_1)) (by decide +kernel) ⟨Nat.le_of_ble_eq_true rfl, Nat.le_of_ble_eq_true rfl⟩, (hts _ (List.mem_cons_of_mem _ gw_287)), trivial⟩ ⟨gPre_blind, g_pre hK hSt hS hP hw⟩ rfl rfl hl.1 rfl (lv_room (Nat.le_of_ble_eq_true rfl)) d_DiskFile_canExtend_9 ⟨Nat.zero_le _, Nat.zero_le _⟩) hS (fun r2 S1 H locs hw hP hS => ?_)
  refine lv_istore_n (lv' := [(2, .int r2), (0, .ref (gad Y x0)), (1, .int x1)]) hx hb d_DiskFile_canExtend_12 rfl hl (by decide) rfl (fun ls hl => ?_)
  refine lv_iload_n hx hb d_DiskFile_canExtend_13 rfl (lv_at hl 0 rfl) ?_
  refine lv_aload_n hx hb d_DiskFile_canExtend_14 rfl (lv_at hl 1 rfl) ?_
  refine g_get hx hb hts (fun w h => List.mem_cons_of_mem _ (in_DiskFile w h)) hown hK hP hx0 (gce_DiskFile hx0.1) rfl 1 (by decide) (hts _ (List.mem_cons_of_mem _ gw_214)) rfl d_DiskFile_canExtend_15 ?_
  refine g_get hx hb hts (fun w h => List.mem_cons_of_mem _ (in_Content w h)) hown hK hP (gis_DiskFile_now hY hx0) (gce_Content (gis_DiskFile_now hY hx0).1) rfl 2 (by decide) (hts _ (List.mem_cons_of_mem _ gw_204)) rfl d_DiskFile_canExtend_18 ?_
  refine g_calli (va_runSN (As := [.int (S1.1 (grf x0 1) 2)]) (rest := [.int r2]) ⟨hx, hb, hml, hown, hts⟩ (k_LogDisk_pagesFor l Y hY H.size (S1.1 (grf x0 1) 2) S1 _) ⟨va_cnB 1 hts (gG_N gw_288) rfl rfl rfl hSt.1.2.1 (hts _ (List.mem_cons_of_mem _ gw_1)) (by decide +kernel) ⟨Nat.le_of_ble_eq_true rfl, Nat.le_of_ble_eq_true rfl⟩, (hts _ (List.mem_cons_of_mem _ gw_287)), trivial⟩ ⟨gPre_blind, g_pre hK hSt hS hP hw⟩ rfl rfl hl.1 rfl (lv_room (Nat.le_of_ble_eq_true rfl)) d_DiskFile_canExtend_21 ⟨Nat.zero_le _, Nat.zero_le _⟩) hS (fun r4 S3 H locs hw hP hS => ?_)
  refine lv_isub hx hb d_DiskFile_canExtend_24 ?_
  refine lv_aload_n hx hb d_DiskFile_canExtend_25 rfl (lv_at hl 1 rfl) ?_
  refine g_calli (va_runV (As := []) (rest := [.int (r2 - r4)]) ⟨hx, hb, hml, hown, hts⟩ (k_DiskFile_mustCopyLastPage l Y hY H.size x0 hx0 S3 _) (cwV 0 hts (gG_V gw_584 gw_585 gw_586 gw_10 gw_587) rfl rfl rfl (by decide +kernel) ⟨Nat.le_of_ble_eq_true rfl, Nat.le_of_ble_eq_true rfl⟩) ⟨gPre_blind, g_recv hK hP hx0 (gce_DiskFile hx0.1) rfl, g_pre hK hSt hS hP hw⟩ rfl rfl hl.1 rfl (lv_room (Nat.le_of_ble_eq_true rfl)) d_DiskFile_canExtend_26 ⟨Nat.zero_le _, Nat.zero_le _⟩) hS (fun r6 S5 H locs hw hP hS => ?_)
  refine lv_if_eq (tgt := 36) hx hb d_DiskFile_canExtend_29 (by decide) (fun c7 => ?_) (fun c7 => ?_)
  · replace hw := hw.1 c7
    refine lv_iconst (v := 0) hx hb d_DiskFile_canExtend_36 (by decide) ?_
    exact mw_DiskFile_canExtend_37 C0 x0 r2 (r2 - r4) 0 S5 H locs ls hx0 hw hP hS (lv_sub hl [1, 0] rfl)
  · replace hw := hw.2 c7
    refine lv_iconst (v := 1) hx hb d_DiskFile_canExtend_32 (by decide) ?_
    refine lv_goto (tgt := 37) hx hb d_DiskFile_canExtend_33 (by decide) ?_
    exact mw_DiskFile_canExtend_37 C0 x0 r2 (r2 - r4) 1 S5 H locs ls hx0 hw hP hS (lv_sub hl [1, 0] rfl)
set_option maxHeartbeats 4000000 in
set_option maxRecDepth 100000 in
theorem k_DiskFile_canExtend (l : Launch) (Y : gY) (hY : gOK Y) (sz : Nat) (x0 : gI) (x1 : Int32)  (hx0 : gis Y 1 x0) (S : gS) (Q : Int32 → gS → Prop) : Met l y_DiskFile_canExtend w_DiskFile_canExtend (gRm 3 61) (gPre Y [.ref (gad Y x0), .int x1] S sz (wp_DiskFile_canExtend (gLn Y) Q x0 x1 S)) (va_Qi Q (gB Y) (gA Y sz)) 0 0 (gA Y sz) := by
  refine Met.ofW (cc := c_DiskFile_canExtend) (maxL := 4) (ret := (Option.some Jvm.ClassFile.FieldType.boolean)) (by decide) rfl ?_
  intro p e s m args below meth c s₁ B hml hv
  obtain ⟨rfl, hsz, hP, hK, hSt, hw⟩ := hv
  subst hsz
  have hts := atoms_spec (ws := w_DiskFile_canExtend) B.pre
  have hl := lv_entry ([.ref (gad Y x0), .int x1]) (n := 4) (Nat.le_of_ble_eq_true rfl)
  rw [lg_entry_eq]
  generalize (lg_sl ([.ref (gad Y x0), .int x1]) ++ List.replicate (4 - (lg_sl ([.ref (gad Y x0), .int x1])).length) Slot.unset).toArray = ls at hl ⊢
  exact mw_DiskFile_canExtend ⟨B.exec, B.bytes, hml, findClass_of_methodNamed B.named, hts, B.returns, B.notSynchronized, hK, hY, hSt⟩ x0 x1 S s.heap [] ls hx0 hw hP va_S.rf hl

def wp_DiskFile_canRewrite_37 (Ln : gI → Nat) (K16 : gI → Int32 → Int32 → Int32 → Int32 → gS → Prop) (Q : Int32 → gS → Prop) (x0 : gI) (x1 : Int32) (x3 : Int32) (x4 : Int32) (y0 : Int32) (y1 : Int32) (S : gS) : Prop :=
  ∀ v2_11 : Int32, v2_11 = y0 + y1 → (∀ v4_12 : Int32, v4_12 = x4 + 1 → (K16 x0 x1 v2_11 x3 v4_12 S))
def wp_DiskFile_canRewrite_16 (Ln : gI → Nat) (Q : Int32 → gS → Prop) : Nat → gI → Int32 → Int32 → Int32 → Int32 → gS → Prop
  | 0, _, _, _, _, _, _ => False
  | n16 + 1, x0, x1, x2, x3, x4, S => ((x3 ≤ x4) → (wp_LogDisk_pagesFor Ln (fun r5 S4 => ((400 < r5) → (Q 0 S4)) ∧ ((¬ 400 < r5) → (((((S4.1 (grf x0 0) 3) + x2) < r5) → (Q 0 S4)) ∧ ((¬ ((S4.1 (grf x0 0) 3) + x2) < r5) → (Q 1 S4))))) x1 S)) ∧ ((¬ x3 ≤ x4) → (wp_DiskFile_isShared Ln (fun r9 S8 => ((r9 = 0) → (wp_DiskFile_canRewrite_37 Ln (fun z0 z1 z2 z3 z4 zS => wp_DiskFile_canRewrite_16 Ln Q n16 z0 z1 z2 z3 z4 zS) Q x0 x1 x3 x4 x2 1 S8)) ∧ ((¬ r9 = 0) → (wp_DiskFile_canRewrite_37 Ln (fun z0 z1 z2 z3 z4 zS => wp_DiskFile_canRewrite_16 Ln Q n16 z0 z1 z2 z3 z4 zS) Q x0 x1 x3 x4 x2 0 S8))) x0 x4 S))
def wp_DiskFile_canRewrite (Ln : gI → Nat) (Q : Int32 → gS → Prop) (x0 : gI) (x1 : Int32)  (S : gS) : Prop :=
  wp_LogDisk_pagesFor Ln (fun r2 S1 => ∃ n16 : Nat, wp_DiskFile_canRewrite_16 Ln Q n16 x0 x1 0 r2 0 S1) (S.1 (grf x0 1) 2) S
set_option maxHeartbeats 4000000 in
set_option maxRecDepth 100000 in
theorem mw_DiskFile_canRewrite_37 {p : Program} {l : Launch} {e : Env} {s : State} {m : MethodId} {args : Array Value} {below : List Frame} {meth : Method} {c : Code} {Y : gY} {Q : Int32 → gS → Prop} {K16 : gI → Int32 → Int32 → Int32 → Int32 → gS → Prop} (C : gCx p s m args meth c Y "LogDisk$DiskFile" c_DiskFile_canRewrite 5 (Option.some Jvm.ClassFile.FieldType.boolean) w_DiskFile_canRewrite) (hK16 : ∀ (x0 : gI) (x1 : Int32) (x2 : Int32) (x3 : Int32) (x4 : Int32)  (S : gS) (H : Heap) (locs : List Loc) (ls : Array Slot), gis Y 1 x0 → K16 x0 x1 x2 x3 x4 S → gWd Y S H → va_S (gA Y s.heap.size) s.heap H locs → lv_has ls 5 [(0, .ref (gad Y x0)), (1, .int x1), (2, .int x2), (3, .int x3), (4, .int x4)] → W p l e (gRm 2 41) s m args below meth c H locs 0 0 (MQ below (va_Qi Q (gB Y) (gA Y s.heap.size)) args s 0 0 (gA Y s.heap.size)) (F0 m 16 ls [])) : ∀ (x0 : gI) (x1 : Int32) (x3 : Int32) (x4 : Int32) (y0 : Int32) (y1 : Int32) (S : gS) (H : Heap) (locs : List Loc) (ls : Array Slot), gis Y 1 x0 → wp_DiskFile_canRewrite_37 (gLn Y) K16 Q x0 x1 x3 x4 y0 y1 S → gWd Y S H → va_S (gA Y s.heap.size) s.heap H locs → lv_has ls 5 [(0, .ref (gad Y x0)), (1, .int x1), (3, .int x3), (4, .int x4)] → W p l e (gRm 2 41) s m args below meth c H locs 0 0 (MQ below (va_Qi Q (gB Y) (gA Y s.heap.size)) args s 0 0 (gA Y s.heap.size)) (F0 m 37 ls [.int y1, .int y0]) := by
  have C0 := C
  obtain ⟨hx, hb, hml, hown, hts, hr, hlocks, hK, hY, hSt⟩ := C
  intro x0 x1 x3 x4 y0 y1 S H locs ls hx0 hw hP hS hl
  unfold wp_DiskFile_canRewrite_37 at hw
  refine lv_iadd hx hb d_DiskFile_canRewrite_37 ?_
  refine lv_topi (fun v2_11 ev2_11 => ?_)
  replace hw := hw v2_11 ev2_11
  refine lv_istore_n (lv' := [(2, .int v2_11), (0, .ref (gad Y x0)), (1, .int x1), (3, .int x3), (4, .int x4)]) hx hb d_DiskFile_canRewrite_38 rfl hl (by decide) rfl (fun ls hl => ?_)
  obtain ⟨v4_12, ev4_12⟩ : ∃ y : Int32, y = x4 + 1 := ⟨_, rfl⟩
  replace hw := hw v4_12 ev4_12
  refine lv_iinc (v := v4_12) (lv' := [(4, .int v4_12), (2, .int v2_11), (0, .ref (gad Y x0)), (1, .int x1), (3, .int x3)]) hx hb d_DiskFile_canRewrite_39 hl (k := 4) rfl (by rw [ev4_12]; rfl) (by decide) rfl (fun ls hl => ?_)
  refine lv_goto (tgt := 16) hx hb d_DiskFile_canRewrite_42 (by decide) ?_
  exact hK16 x0 x1 v2_11 x3 v4_12 S H locs ls hx0 hw hP hS (lv_sub hl [2, 3, 1, 4, 0] rfl)
set_option maxHeartbeats 4000000 in
set_option maxRecDepth 100000 in
theorem mw_DiskFile_canRewrite_16 {p : Program} {l : Launch} {e : Env} {s : State} {m : MethodId} {args : Array Value} {below : List Frame} {meth : Method} {c : Code} {Y : gY} {Q : Int32 → gS → Prop} (C : gCx p s m args meth c Y "LogDisk$DiskFile" c_DiskFile_canRewrite 5 (Option.some Jvm.ClassFile.FieldType.boolean) w_DiskFile_canRewrite) : ∀ (n : Nat), ∀ (x0 : gI) (x1 : Int32) (x2 : Int32) (x3 : Int32) (x4 : Int32)  (S : gS) (H : Heap) (locs : List Loc) (ls : Array Slot), gis Y 1 x0 → wp_DiskFile_canRewrite_16 (gLn Y) Q n x0 x1 x2 x3 x4 S → gWd Y S H → va_S (gA Y s.heap.size) s.heap H locs → lv_has ls 5 [(0, .ref (gad Y x0)), (1, .int x1), (2, .int x2), (3, .int x3), (4, .int x4)] → W p l e (gRm 2 41) s m args below meth c H locs 0 0 (MQ below (va_Qi Q (gB Y) (gA Y s.heap.size)) args s 0 0 (gA Y s.heap.size)) (F0 m 16 ls []) := by
  have C0 := C
  obtain ⟨hx, hb, hml, hown, hts, hr, hlocks, hK, hY, hSt⟩ := C
  intro n
  induction n with
  | zero =>
    intro x0 x1 x2 x3 x4 S H locs ls hx0 hw
    exact False.elim hw
  | succ n ih =>
    intro x0 x1 x2 x3 x4 S H locs ls hx0 hw hP hS hl
    unfold wp_DiskFile_canRewrite_16 at hw
    refine lv_iload hx hb d_DiskFile_canRewrite_16 (lv_at hl 4 rfl) ?_
    refine lv_iload_n hx hb d_DiskFile_canRewrite_18 rfl (lv_at hl 3 rfl) ?_
    refine lv_icmp_ge (tgt := 45) hx hb d_DiskFile_canRewrite_19 (by decide) (fun c3 => ?_) (fun c3 => ?_)
    · replace hw := hw.1 c3
      refine lv_iload_n hx hb d_DiskFile_canRewrite_45 rfl (lv_at hl 1 rfl) ?_
      refine g_calli (va_runSN (As := [.int x1]) (rest := []) ⟨hx, hb, hml, hown, hts⟩ (k_LogDisk_pagesFor l Y hY H.size x1 S _) ⟨va_cnB 1 hts (gG_N gw_288) rfl rfl rfl hSt.1.2.1 (hts _ (List.mem_cons_of_mem _ gw_1)) (by decide +kernel) ⟨Nat.le_of_ble_eq_true rfl, Nat.le_of_ble_eq_true rfl⟩, (hts _ (List.mem_cons_of_mem _ gw_287)), trivial⟩ ⟨gPre_blind, g_pre hK hSt hS hP hw⟩ rfl rfl hl.1 rfl (lv_room (Nat.le_of_ble_eq_true rfl)) d_DiskFile_canRewrite_46 ⟨Nat.zero_le _, Nat.zero_le _⟩) hS (fun r5 S4 H locs hw hP hS => ?_)
      refine lv_istore (lv' := [(4, .int r5), (0, .ref (gad Y x0)), (1, .int x1), (2, .int x2), (3, .int x3)]) hx hb d_DiskFile_canRewrite_49 hl (by decide) rfl (fun ls hl => ?_)
      refine lv_iload hx hb d_DiskFile_canRewrite_51 (lv_at hl 0 rfl) ?_
      refine lv_sipush (v := 400) hx hb d_DiskFile_canRewrite_53 (by decide) ?_
      refine lv_icmp_gt (tgt := 77) hx hb d_DiskFile_canRewrite_56 (by decide) (fun c6 => ?_) (fun c6 => ?_)
      · replace hw := hw.1 c6
        refine lv_iconst (v := 0) hx hb d_DiskFile_canRewrite_77 (by decide) ?_
        exact W.zret (v := 0) hx hb hr rfl (fun t ht hW => ⟨⟨0, S4, rfl, hw, by rw [ht]; exact hP, va_K.moved hW.alike hK⟩, hS.F ht⟩) hS.2.2 d_DiskFile_canRewrite_78
      · replace hw := hw.2 c6
        refine lv_iload hx hb d_DiskFile_canRewrite_59 (lv_at hl 0 rfl) ?_
        refine lv_aload_n hx hb d_DiskFile_canRewrite_61 rfl (lv_at hl 1 rfl) ?_
        refine g_get hx hb hts (fun w h => List.mem_cons_of_mem _ (in_DiskFile w h)) hown hK hP hx0 (gce_DiskFile hx0.1) rfl 0 (by decide) (hts _ (List.mem_cons_of_mem _ gw_213)) rfl d_DiskFile_canRewrite_62 ?_
        refine g_get hx hb hts (fun w h => List.mem_cons_of_mem _ (in_Pages w h)) hown hK hP (gis_DiskFile_pages hY hx0) (gce_Pages (gis_DiskFile_pages hY hx0).1) rfl 3 (by decide) (hts _ (List.mem_cons_of_mem _ gw_177)) rfl d_DiskFile_canRewrite_65 ?_
        refine lv_iload_n hx hb d_DiskFile_canRewrite_68 rfl (lv_at hl 3 rfl) ?_
        refine lv_iadd hx hb d_DiskFile_canRewrite_69 ?_
        refine lv_icmp_gt (tgt := 77) hx hb d_DiskFile_canRewrite_70 (by decide) (fun c7 => ?_) (fun c7 => ?_)
        · replace hw := hw.1 c7
          refine lv_iconst (v := 0) hx hb d_DiskFile_canRewrite_77 (by decide) ?_
          exact W.zret (v := 0) hx hb hr rfl (fun t ht hW => ⟨⟨0, S4, rfl, hw, by rw [ht]; exact hP, va_K.moved hW.alike hK⟩, hS.F ht⟩) hS.2.2 d_DiskFile_canRewrite_78
        · replace hw := hw.2 c7
          refine lv_iconst (v := 1) hx hb d_DiskFile_canRewrite_73 (by decide) ?_
          refine lv_goto (tgt := 78) hx hb d_DiskFile_canRewrite_74 (by decide) ?_
          exact W.zret (v := 1) hx hb hr rfl (fun t ht hW => ⟨⟨1, S4, rfl, hw, by rw [ht]; exact hP, va_K.moved hW.alike hK⟩, hS.F ht⟩) hS.2.2 d_DiskFile_canRewrite_78
    · replace hw := hw.2 c3
      refine lv_iload_n hx hb d_DiskFile_canRewrite_22 rfl (lv_at hl 2 rfl) ?_
      refine lv_aload_n hx hb d_DiskFile_canRewrite_23 rfl (lv_at hl 0 rfl) ?_
      refine lv_iload hx hb d_DiskFile_canRewrite_24 (lv_at hl 4 rfl) ?_
      refine g_calli (va_runV (As := [.int x4]) (rest := [.int x2]) ⟨hx, hb, hml, hown, hts⟩ (k_DiskFile_isShared l Y hY H.size x0 x4 hx0 S _) (cwV 1 hts (gG_V gw_539 gw_540 gw_541 gw_10 gw_542) rfl rfl rfl (by decide +kernel) ⟨Nat.le_of_ble_eq_true rfl, Nat.le_of_ble_eq_true rfl⟩) ⟨gPre_blind, g_recv hK hP hx0 (gce_DiskFile hx0.1) rfl, g_pre hK hSt hS hP hw⟩ rfl rfl hl.1 rfl (lv_room (Nat.le_of_ble_eq_true rfl)) d_DiskFile_canRewrite_26 ⟨Nat.zero_le _, Nat.zero_le _⟩) hS (fun r9 S8 H locs hw hP hS => ?_)
      refine lv_if_eq (tgt := 36) hx hb d_DiskFile_canRewrite_29 (by decide) (fun c10 => ?_) (fun c10 => ?_)
      · replace hw := hw.1 c10
        refine lv_iconst (v := 1) hx hb d_DiskFile_canRewrite_36 (by decide) ?_
        exact mw_DiskFile_canRewrite_37 C0 ih x0 x1 x3 x4 x2 1 S8 H locs ls hx0 hw hP hS (lv_sub hl [0, 1, 3, 4] rfl)
      · replace hw := hw.2 c10
        refine lv_iconst (v := 0) hx hb d_DiskFile_canRewrite_32 (by decide) ?_
        refine lv_goto (tgt := 37) hx hb d_DiskFile_canRewrite_33 (by decide) ?_
        exact mw_DiskFile_canRewrite_37 C0 ih x0 x1 x3 x4 x2 0 S8 H locs ls hx0 hw hP hS (lv_sub hl [0, 1, 3, 4] rfl)
set_option maxHeartbeats 4000000 in
set_option maxRecDepth 100000 in
theorem mw_DiskFile_canRewrite {p : Program} {l : Launch} {e : Env} {s : State} {m : MethodId} {args : Array Value} {below : List Frame} {meth : Method} {c : Code} {Y : gY} {Q : Int32 → gS → Prop} (C : gCx p s m args meth c Y "LogDisk$DiskFile" c_DiskFile_canRewrite 5 (Option.some Jvm.ClassFile.FieldType.boolean) w_DiskFile_canRewrite) : ∀ (x0 : gI) (x1 : Int32)  (S : gS) (H : Heap) (locs : List Loc) (ls : Array Slot), gis Y 1 x0 → wp_DiskFile_canRewrite (gLn Y) Q x0 x1 S → gWd Y S H → va_S (gA Y s.heap.size) s.heap H locs → lv_has ls 5 [(0, .ref (gad Y x0)), (1, .int x1)] → W p l e (gRm 2 41) s m args below meth c H locs 0 0 (MQ below (va_Qi Q (gB Y) (gA Y s.heap.size)) args s 0 0 (gA Y s.heap.size)) (F0 m 0 ls []) := by
  have C0 := C
  obtain ⟨hx, hb, hml, hown, hts, hr, hlocks, hK, hY, hSt⟩ := C
  intro x0 x1 S H locs ls hx0 hw hP hS hl
  unfold wp_DiskFile_canRewrite at hw
  refine lv_iconst (v := 0) hx hb d_DiskFile_canRewrite_0 (by decide) ?_
  refine lv_istore_n (lv' := [(2, .int 0), (0, .ref (gad Y x0)), (1, .int x1)]) hx hb d_DiskFile_canRewrite_1 rfl hl (by decide) rfl (fun ls hl => ?_)
  refine lv_aload_n hx hb d_DiskFile_canRewrite_2 rfl (lv_at hl 1 rfl) ?_
  refine g_get hx hb hts (fun w h => List.mem_cons_of_mem _ (in_DiskFile w h)) hown hK hP hx0 (gce_DiskFile hx0.1) rfl 1 (by decide) (hts _ (List.mem_cons_of_mem _ gw_214)) rfl d_DiskFile_canRewrite_3 ?_
  refine g_get hx hb hts (fun w h => List.mem_cons_of_mem _ (in_Content w h)) hown hK hP (gis_DiskFile_now hY hx0) (gce_Content (gis_DiskFile_now hY hx0).1) rfl 2 (by decide) (hts _ (List.mem_cons_of_mem _ gw_204)) rfl d_DiskFile_canRewrite_6 ?_
  refine g_calli (va_runSN (As := [.int (S.1 (grf x0 1) 2)]) (rest := []) ⟨hx, hb, hml, hown, hts⟩ (k_LogDisk_pagesFor l Y hY H.size (S.1 (grf x0 1) 2) S _) ⟨va_cnB 1 hts (gG_N gw_288) rfl rfl rfl hSt.1.2.1 (hts _ (List.mem_cons_of_mem _ gw_1)) (by decide +kernel) ⟨Nat.le_of_ble_eq_true rfl, Nat.le_of_ble_eq_true rfl⟩, (hts _ (List.mem_cons_of_mem _ gw_287)), trivial⟩ ⟨gPre_blind, g_pre hK hSt hS hP hw⟩ rfl rfl hl.1 rfl (lv_room (Nat.le_of_ble_eq_true rfl)) d_DiskFile_canRewrite_9 ⟨Nat.zero_le _, Nat.zero_le _⟩) hS (fun r2 S1 H locs hw hP hS => ?_)
  refine lv_istore_n (lv' := [(3, .int r2), (2, .int 0), (0, .ref (gad Y x0)), (1, .int x1)]) hx hb d_DiskFile_canRewrite_12 rfl hl (by decide) rfl (fun ls hl => ?_)
  refine lv_iconst (v := 0) hx hb d_DiskFile_canRewrite_13 (by decide) ?_
  refine lv_istore (lv' := [(4, .int 0), (3, .int r2), (2, .int 0), (0, .ref (gad Y x0)), (1, .int x1)]) hx hb d_DiskFile_canRewrite_14 hl (by decide) rfl (fun ls hl => ?_)
  obtain ⟨n, hw⟩ := hw
  exact mw_DiskFile_canRewrite_16 C0 n x0 x1 0 r2 0 S1 H locs ls hx0 hw hP hS (lv_sub hl [3, 4, 2, 1, 0] rfl)
set_option maxHeartbeats 4000000 in
set_option maxRecDepth 100000 in
theorem k_DiskFile_canRewrite (l : Launch) (Y : gY) (hY : gOK Y) (sz : Nat) (x0 : gI) (x1 : Int32)  (hx0 : gis Y 1 x0) (S : gS) (Q : Int32 → gS → Prop) : Met l y_DiskFile_canRewrite w_DiskFile_canRewrite (gRm 2 41) (gPre Y [.ref (gad Y x0), .int x1] S sz (wp_DiskFile_canRewrite (gLn Y) Q x0 x1 S)) (va_Qi Q (gB Y) (gA Y sz)) 0 0 (gA Y sz) := by
  refine Met.ofW (cc := c_DiskFile_canRewrite) (maxL := 5) (ret := (Option.some Jvm.ClassFile.FieldType.boolean)) (by decide) rfl ?_
  intro p e s m args below meth c s₁ B hml hv
  obtain ⟨rfl, hsz, hP, hK, hSt, hw⟩ := hv
  subst hsz
  have hts := atoms_spec (ws := w_DiskFile_canRewrite) B.pre
  have hl := lv_entry ([.ref (gad Y x0), .int x1]) (n := 5) (Nat.le_of_ble_eq_true rfl)
  rw [lg_entry_eq]
  generalize (lg_sl ([.ref (gad Y x0), .int x1]) ++ List.replicate (5 - (lg_sl ([.ref (gad Y x0), .int x1])).length) Slot.unset).toArray = ls at hl ⊢
  exact mw_DiskFile_canRewrite ⟨B.exec, B.bytes, hml, findClass_of_methodNamed B.named, hts, B.returns, B.notSynchronized, hK, hY, hSt⟩ x0 x1 S s.heap [] ls hx0 hw hP va_S.rf hl

def wp_DiskFile_copyLastPage (Ln : gI → Nat) (Q : gS → Prop) (x0 : gI)  (S : gS) : Prop :=
  ∀ v1_1 : Int32, v1_1 = (S.1 (grf x0 1) 2) / 64 → (vp_in v1_1 (Ln (grf (grf x0 1) 0)) ∧ (∀ v2_2 : Int32, v2_2 = S.1 (grf (grf x0 1) 0) v1_1.toNatClampNeg → (wp_Pages_seize Ln (fun r4 S3 => (¬ (v2_2 * 64) < 0 ∧ ¬ (r4 * 64) < 0 ∧ ¬ (64 : Int32) < 0 ∧ (v2_2 * 64).toNatClampNeg + (64 : Int32).toNatClampNeg ≤ Ln (grf (grf x0 0) 0) ∧ (r4 * 64).toNatClampNeg + (64 : Int32).toNatClampNeg ≤ Ln (grf (grf x0 0) 0) ∧ ∀ a, a < (64 : Int32).toNatClampNeg → fits .byte (.int (S3.1 (grf (grf x0 0) 0) ((v2_2 * 64).toNatClampNeg + a))) = true) ∧ (∀ S5 : gS, S5 = gcpy S3 (grf (grf x0 0) 0) (v2_2 * 64).toNatClampNeg (grf (grf x0 0) 0) (r4 * 64).toNatClampNeg (64 : Int32).toNatClampNeg → (wp_Pages_giveUp Ln (fun S6 => vp_in v1_1 (Ln (grf (grf x0 1) 0)) ∧ (∀ S7 : gS, S7 = gset S6 (grf (grf x0 1) 0) v1_1.toNatClampNeg r4 → (Q S7))) (grf x0 0) v2_2 S5))) (grf x0 0) S)))
set_option maxHeartbeats 4000000 in
set_option maxRecDepth 100000 in
theorem mw_DiskFile_copyLastPage {p : Program} {l : Launch} {e : Env} {s : State} {m : MethodId} {args : Array Value} {below : List Frame} {meth : Method} {c : Code} {Y : gY} {Q : gS → Prop} (C : gCx p s m args meth c Y "LogDisk$DiskFile" c_DiskFile_copyLastPage 4 (Option.none : Option Jvm.ClassFile.FieldType) w_DiskFile_copyLastPage) : ∀ (x0 : gI)  (S : gS) (H : Heap) (locs : List Loc) (ls : Array Slot), gis Y 1 x0 → wp_DiskFile_copyLastPage (gLn Y) Q x0 S → gWd Y S H → va_S (gA Y s.heap.size) s.heap H locs → lv_has ls 4 [(0, .ref (gad Y x0))] → W p l e (gRm 1 60) s m args below meth c H locs 0 0 (MQ below (va_Qv Q (gB Y) (gA Y s.heap.size)) args s 0 0 (gA Y s.heap.size)) (F0 m 0 ls []) := by
  have C0 := C
  obtain ⟨hx, hb, hml, hown, hts, hr, hlocks, hK, hY, hSt⟩ := C
  intro x0 S H locs ls hx0 hw hP hS hl
  unfold wp_DiskFile_copyLastPage at hw
  refine lv_aload_n hx hb d_DiskFile_copyLastPage_0 rfl (lv_at hl 0 rfl) ?_
  refine g_get hx hb hts (fun w h => List.mem_cons_of_mem _ (in_DiskFile w h)) hown hK hP hx0 (gce_DiskFile hx0.1) rfl 1 (by decide) (hts _ (List.mem_cons_of_mem _ gw_214)) rfl d_DiskFile_copyLastPage_1 ?_
  refine g_get hx hb hts (fun w h => List.mem_cons_of_mem _ (in_Content w h)) hown hK hP (gis_DiskFile_now hY hx0) (gce_Content (gis_DiskFile_now hY hx0).1) rfl 2 (by decide) (hts _ (List.mem_cons_of_mem _ gw_204)) rfl d_DiskFile_copyLastPage_4 ?_
  refine lv_bipush (v := 64) hx hb d_DiskFile_copyLastPage_7 (by decide) ?_
  refine lv_idiv hx hb d_DiskFile_copyLastPage_9 (by decide) ?_
  refine lv_topi (fun v1_1 ev1_1 => ?_)
  replace hw := hw v1_1 ev1_1
  refine lv_istore_n (lv' := [(1, .int v1_1), (0, .ref (gad Y x0))]) hx hb d_DiskFile_copyLastPage_10 rfl hl (by decide) rfl (fun ls hl => ?_)
  refine lv_aload_n hx hb d_DiskFile_copyLastPage_11 rfl (lv_at hl 1 rfl) ?_
  refine g_get hx hb hts (fun w h => List.mem_cons_of_mem _ (in_DiskFile w h)) hown hK hP hx0 (gce_DiskFile hx0.1) rfl 1 (by decide) (hts _ (List.mem_cons_of_mem _ gw_214)) rfl d_DiskFile_copyLastPage_12 ?_
  refine g_get hx hb hts (fun w h => List.mem_cons_of_mem _ (in_Content w h)) hown hK hP (gis_DiskFile_now hY hx0) (gce_Content (gis_DiskFile_now hY hx0).1) rfl 0 (by decide) (hts _ (List.mem_cons_of_mem _ gw_199)) rfl d_DiskFile_copyLastPage_15 ?_
  refine lv_iload_n hx hb d_DiskFile_copyLastPage_18 rfl (lv_at hl 0 rfl) ?_
  obtain ⟨hin, hw⟩ := hw
  refine g_iaload hx hb hK hP (gis_Content_row hY (gis_DiskFile_now hY hx0)) hin d_DiskFile_copyLastPage_19 ?_
  refine lv_topi (fun v2_2 ev2_2 => ?_)
  replace hw := hw v2_2 ev2_2
  refine lv_istore_n (lv' := [(2, .int v2_2), (1, .int v1_1), (0, .ref (gad Y x0))]) hx hb d_DiskFile_copyLastPage_20 rfl hl (by decide) rfl (fun ls hl => ?_)
  refine lv_aload_n hx hb d_DiskFile_copyLastPage_21 rfl (lv_at hl 2 rfl) ?_
  refine g_get hx hb hts (fun w h => List.mem_cons_of_mem _ (in_DiskFile w h)) hown hK hP hx0 (gce_DiskFile hx0.1) rfl 0 (by decide) (hts _ (List.mem_cons_of_mem _ gw_213)) rfl d_DiskFile_copyLastPage_22 ?_
  refine g_calli (va_runV (As := []) (rest := []) ⟨hx, hb, hml, hown, hts⟩ (k_Pages_seize l Y hY H.size (grf x0 0) (gis_DiskFile_pages hY hx0) S _) (cwV 0 hts (gG_V gw_592 gw_593 gw_594 gw_9 gw_595) rfl rfl rfl (by decide +kernel) ⟨Nat.le_of_ble_eq_true rfl, Nat.le_of_ble_eq_true rfl⟩) ⟨gPre_blind, g_recv hK hP (gis_DiskFile_pages hY hx0) (gce_Pages (gis_DiskFile_pages hY hx0).1) rfl, g_pre hK hSt hS hP hw⟩ rfl rfl hl.1 rfl (lv_room (Nat.le_of_ble_eq_true rfl)) d_DiskFile_copyLastPage_25 ⟨Nat.zero_le _, Nat.zero_le _⟩) hS (fun r4 S3 H locs hw hP hS => ?_)
  refine lv_istore_n (lv' := [(3, .int r4), (2, .int v2_2), (1, .int v1_1), (0, .ref (gad Y x0))]) hx hb d_DiskFile_copyLastPage_28 rfl hl (by decide) rfl (fun ls hl => ?_)
  refine lv_aload_n hx hb d_DiskFile_copyLastPage_29 rfl (lv_at hl 3 rfl) ?_
  refine g_get hx hb hts (fun w h => List.mem_cons_of_mem _ (in_DiskFile w h)) hown hK hP hx0 (gce_DiskFile hx0.1) rfl 0 (by decide) (hts _ (List.mem_cons_of_mem _ gw_213)) rfl d_DiskFile_copyLastPage_30 ?_
  refine g_get hx hb hts (fun w h => List.mem_cons_of_mem _ (in_Pages w h)) hown hK hP (gis_DiskFile_pages hY hx0) (gce_Pages (gis_DiskFile_pages hY hx0).1) rfl 0 (by decide) (hts _ (List.mem_cons_of_mem _ gw_173)) rfl d_DiskFile_copyLastPage_33 ?_
  refine lv_iload_n hx hb d_DiskFile_copyLastPage_36 rfl (lv_at hl 1 rfl) ?_
  refine lv_bipush (v := 64) hx hb d_DiskFile_copyLastPage_37 (by decide) ?_
  refine lv_imul hx hb d_DiskFile_copyLastPage_39 ?_
  refine lv_aload_n hx hb d_DiskFile_copyLastPage_40 rfl (lv_at hl 3 rfl) ?_
  refine g_get hx hb hts (fun w h => List.mem_cons_of_mem _ (in_DiskFile w h)) hown hK hP hx0 (gce_DiskFile hx0.1) rfl 0 (by decide) (hts _ (List.mem_cons_of_mem _ gw_213)) rfl d_DiskFile_copyLastPage_41 ?_
  refine g_get hx hb hts (fun w h => List.mem_cons_of_mem _ (in_Pages w h)) hown hK hP (gis_DiskFile_pages hY hx0) (gce_Pages (gis_DiskFile_pages hY hx0).1) rfl 0 (by decide) (hts _ (List.mem_cons_of_mem _ gw_173)) rfl d_DiskFile_copyLastPage_44 ?_
  refine lv_iload_n hx hb d_DiskFile_copyLastPage_47 rfl (lv_at hl 0 rfl) ?_
  refine lv_bipush (v := 64) hx hb d_DiskFile_copyLastPage_48 (by decide) ?_
  refine lv_imul hx hb d_DiskFile_copyLastPage_50 ?_
  refine lv_bipush (v := 64) hx hb d_DiskFile_copyLastPage_51 (by decide) ?_
  obtain ⟨⟨a1, a2, a3, a4, a5, a6⟩, hw⟩ := hw
  refine g_copyB hx hb (by rw [hml]; exact hl.1.symm) hown (hts _ (List.mem_cons_of_mem _ gw_596)) (hts _ (List.mem_cons_of_mem _ gw_598)) (hts _ (List.mem_cons_of_mem _ gw_597)) (hts _ (List.mem_cons_of_mem _ gw_19)) hK hY.1 hP hS (gis_Pages_bytes hY (gis_DiskFile_pages hY hx0)) (gis_Pages_bytes hY (gis_DiskFile_pages hY hx0)) a1 a2 a3 a4 a5 a6 (Nat.le_of_ble_eq_true rfl) (by decide +kernel) d_DiskFile_copyLastPage_53 (fun S5 eS5 H locs hP hS => ?_)
  replace hw := hw S5 eS5
  refine lv_aload_n hx hb d_DiskFile_copyLastPage_56 rfl (lv_at hl 3 rfl) ?_
  refine g_get hx hb hts (fun w h => List.mem_cons_of_mem _ (in_DiskFile w h)) hown hK hP hx0 (gce_DiskFile hx0.1) rfl 0 (by decide) (hts _ (List.mem_cons_of_mem _ gw_213)) rfl d_DiskFile_copyLastPage_57 ?_
  refine lv_iload_n hx hb d_DiskFile_copyLastPage_60 rfl (lv_at hl 1 rfl) ?_
  refine g_callv (va_runV (As := [.int v2_2]) (rest := []) ⟨hx, hb, hml, hown, hts⟩ (k_Pages_giveUp l Y hY H.size (grf x0 0) v2_2 (gis_DiskFile_pages hY hx0) S5 _) (cwV 1 hts (gG_V gw_599 gw_290 gw_291 gw_9 gw_292) rfl rfl rfl (by decide +kernel) ⟨Nat.le_of_ble_eq_true rfl, Nat.le_of_ble_eq_true rfl⟩) ⟨gPre_blind, g_recv hK hP (gis_DiskFile_pages hY hx0) (gce_Pages (gis_DiskFile_pages hY hx0).1) rfl, g_pre hK hSt hS hP hw⟩ rfl rfl hl.1 rfl (lv_room (Nat.le_of_ble_eq_true rfl)) d_DiskFile_copyLastPage_61 ⟨Nat.zero_le _, Nat.zero_le _⟩) hS (fun S6 H locs hw hP hS => ?_)
  refine lv_aload_n hx hb d_DiskFile_copyLastPage_64 rfl (lv_at hl 3 rfl) ?_
  refine g_get hx hb hts (fun w h => List.mem_cons_of_mem _ (in_DiskFile w h)) hown hK hP hx0 (gce_DiskFile hx0.1) rfl 1 (by decide) (hts _ (List.mem_cons_of_mem _ gw_214)) rfl d_DiskFile_copyLastPage_65 ?_
  refine g_get hx hb hts (fun w h => List.mem_cons_of_mem _ (in_Content w h)) hown hK hP (gis_DiskFile_now hY hx0) (gce_Content (gis_DiskFile_now hY hx0).1) rfl 0 (by decide) (hts _ (List.mem_cons_of_mem _ gw_199)) rfl d_DiskFile_copyLastPage_68 ?_
  refine lv_iload_n hx hb d_DiskFile_copyLastPage_71 rfl (lv_at hl 2 rfl) ?_
  refine lv_iload_n hx hb d_DiskFile_copyLastPage_72 rfl (lv_at hl 0 rfl) ?_
  obtain ⟨hin, hw⟩ := hw
  refine g_iastore hx hb hK hY.1 hP hS (gis_Content_row hY (gis_DiskFile_now hY hx0)) hin d_DiskFile_copyLastPage_73 (fun S7 eS7 H locs hP hS => ?_)
  replace hw := hw S7 eS7
  exact W.vret hx hb hr (fun t ht hW => ⟨⟨S7, rfl, hw, by rw [ht]; exact hP, va_K.moved hW.alike hK⟩, hS.F ht⟩) hS.2.2 d_DiskFile_copyLastPage_74
set_option maxHeartbeats 4000000 in
set_option maxRecDepth 100000 in
theorem k_DiskFile_copyLastPage (l : Launch) (Y : gY) (hY : gOK Y) (sz : Nat) (x0 : gI)  (hx0 : gis Y 1 x0) (S : gS) (Q : gS → Prop) : Met l y_DiskFile_copyLastPage w_DiskFile_copyLastPage (gRm 1 60) (gPre Y [.ref (gad Y x0)] S sz (wp_DiskFile_copyLastPage (gLn Y) Q x0 S)) (va_Qv Q (gB Y) (gA Y sz)) 0 0 (gA Y sz) := by
  refine Met.ofW (cc := c_DiskFile_copyLastPage) (maxL := 4) (ret := (Option.none : Option Jvm.ClassFile.FieldType)) (by decide) rfl ?_
  intro p e s m args below meth c s₁ B hml hv
  obtain ⟨rfl, hsz, hP, hK, hSt, hw⟩ := hv
  subst hsz
  have hts := atoms_spec (ws := w_DiskFile_copyLastPage) B.pre
  have hl := lv_entry ([.ref (gad Y x0)]) (n := 4) (Nat.le_of_ble_eq_true rfl)
  rw [lg_entry_eq]
  generalize (lg_sl ([.ref (gad Y x0)]) ++ List.replicate (4 - (lg_sl ([.ref (gad Y x0)])).length) Slot.unset).toArray = ls at hl ⊢
  exact mw_DiskFile_copyLastPage ⟨B.exec, B.bytes, hml, findClass_of_methodNamed B.named, hts, B.returns, B.notSynchronized, hK, hY, hSt⟩ x0 S s.heap [] ls hx0 hw hP va_S.rf hl

def wp_DiskFile_write_101 (Ln : gI → Nat) (K28 : gI → gI → Int32 → Int32 → Int32 → gS → Prop) (Q : gS → Prop) (x0 : gI) (x1 : gI) (x2 : Int32) (x3 : Int32) (x4 : Int32) (x5 : Int32) (x6 : Int32)  (S : gS) : Prop :=
  ∀ v7_9 : Int32, v7_9 = (if (x2 - x3) < (64 - x6) then (x2 - x3) else (64 - x6)) → (vp_in x5 (Ln (grf (grf x0 1) 0)) ∧ ((¬ x3 < 0 ∧ ¬ (((S.1 (grf (grf x0 1) 0) x5.toNatClampNeg) * 64) + x6) < 0 ∧ ¬ v7_9 < 0 ∧ x3.toNatClampNeg + v7_9.toNatClampNeg ≤ Ln x1 ∧ (((S.1 (grf (grf x0 1) 0) x5.toNatClampNeg) * 64) + x6).toNatClampNeg + v7_9.toNatClampNeg ≤ Ln (grf (grf x0 0) 0) ∧ ∀ a, a < v7_9.toNatClampNeg → fits .byte (.int (S.1 x1 (x3.toNatClampNeg + a))) = true) ∧ (∀ S10 : gS, S10 = gcpy S x1 x3.toNatClampNeg (grf (grf x0 0) 0) (((S.1 (grf (grf x0 1) 0) x5.toNatClampNeg) * 64) + x6).toNatClampNeg v7_9.toNatClampNeg → (∀ v3_11 : Int32, v3_11 = x3 + v7_9 → (∀ S12 : gS, S12 = gset S10 (grf x0 1) 2 ((S10.1 (grf x0 1) 2) + v7_9) → (∀ v4_13 : Int32, v4_13 = x4 + 1 → (K28 x0 x1 x2 v3_11 v4_13 S12)))))))
def wp_DiskFile_write_28 (Ln : gI → Nat) (Q : gS → Prop) : Nat → gI → gI → Int32 → Int32 → Int32 → gS → Prop
  | 0, _, _, _, _, _, _ => False
  | n28 + 1, x0, x1, x2, x3, x4, S => ((400 < x4) → (Q S)) ∧ ((¬ 400 < x4) → (((x2 ≤ x3) → (Q S)) ∧ ((¬ x2 ≤ x3) → (∀ v5_5 : Int32, v5_5 = (S.1 (grf x0 1) 2) / 64 → (∀ v6_6 : Int32, v6_6 = (S.1 (grf x0 1) 2) - (S.1 (grf x0 1) 2) / 64 * 64 → (((v5_5 < (Int32.ofNat (Ln (grf (grf x0 1) 0)))) → (((¬ v6_6 = 0) → (wp_DiskFile_write_101 Ln (fun z0 z1 z2 z3 z4 zS => wp_DiskFile_write_28 Ln Q n28 z0 z1 z2 z3 z4 zS) Q x0 x1 x2 x3 x4 v5_5 v6_6 S)) ∧ ((v6_6 = 0) → (wp_Pages_seize Ln (fun r15 S14 => vp_in v5_5 (Ln (grf (grf x0 1) 0)) ∧ (∀ S16 : gS, S16 = gset S14 (grf (grf x0 1) 0) v5_5.toNatClampNeg r15 → (wp_DiskFile_write_101 Ln (fun z0 z1 z2 z3 z4 zS => wp_DiskFile_write_28 Ln Q n28 z0 z1 z2 z3 z4 zS) Q x0 x1 x2 x3 x4 v5_5 v6_6 S16))) (grf x0 0) S)))) ∧ ((¬ v5_5 < (Int32.ofNat (Ln (grf (grf x0 1) 0)))) → (Q S))))))))
def wp_DiskFile_write_15 (Ln : gI → Nat) (Q : gS → Prop) (x0 : gI) (x1 : gI) (x2 : Int32)  (S : gS) : Prop :=
  ∀ S2 : gS, S2 = gset S (grf x0 1) 1 1 → (∃ n28 : Nat, wp_DiskFile_write_28 Ln Q n28 x0 x1 x2 0 0 S2)
def wp_DiskFile_write (Ln : gI → Nat) (Q : gS → Prop) (x0 : gI) (x1 : gI) (x2 : Int32)  (S : gS) : Prop :=
  ((x2 ≤ 0) → (wp_DiskFile_write_15 Ln Q x0 x1 x2 S)) ∧ ((¬ x2 ≤ 0) → (wp_DiskFile_mustCopyLastPage Ln (fun r18 S17 => ((r18 = 0) → (wp_DiskFile_write_15 Ln Q x0 x1 x2 S17)) ∧ ((¬ r18 = 0) → (wp_DiskFile_copyLastPage Ln (fun S20 => wp_DiskFile_write_15 Ln Q x0 x1 x2 S20) x0 S17))) x0 S))
set_option maxHeartbeats 4000000 in
set_option maxRecDepth 100000 in
theorem mw_DiskFile_write_101 {p : Program} {l : Launch} {e : Env} {s : State} {m : MethodId} {args : Array Value} {below : List Frame} {meth : Method} {c : Code} {Y : gY} {Q : gS → Prop} {K28 : gI → gI → Int32 → Int32 → Int32 → gS → Prop} (C : gCx p s m args meth c Y "LogDisk$DiskFile" c_DiskFile_write 8 (Option.none : Option Jvm.ClassFile.FieldType) w_DiskFile_write) (hK28 : ∀ (x0 : gI) (x1 : gI) (x2 : Int32) (x3 : Int32) (x4 : Int32)  (S : gS) (H : Heap) (locs : List Loc) (ls : Array Slot), gis Y 1 x0 → gis Y 21 x1 → K28 x0 x1 x2 x3 x4 S → gWd Y S H → va_S (gA Y s.heap.size) s.heap H locs → lv_has ls 8 [(0, .ref (gad Y x0)), (1, .ref (gad Y x1)), (2, .int x2), (3, .int x3), (4, .int x4)] → W p l e (gRm 3 83) s m args below meth c H locs 0 0 (MQ below (va_Qv Q (gB Y) (gA Y s.heap.size)) args s 0 0 (gA Y s.heap.size)) (F0 m 28 ls [])) : ∀ (x0 : gI) (x1 : gI) (x2 : Int32) (x3 : Int32) (x4 : Int32) (x5 : Int32) (x6 : Int32)  (S : gS) (H : Heap) (locs : List Loc) (ls : Array Slot), gis Y 1 x0 → gis Y 21 x1 → wp_DiskFile_write_101 (gLn Y) K28 Q x0 x1 x2 x3 x4 x5 x6 S → gWd Y S H → va_S (gA Y s.heap.size) s.heap H locs → lv_has ls 8 [(0, .ref (gad Y x0)), (1, .ref (gad Y x1)), (2, .int x2), (3, .int x3), (4, .int x4), (5, .int x5), (6, .int x6)] → W p l e (gRm 3 83) s m args below meth c H locs 0 0 (MQ below (va_Qv Q (gB Y) (gA Y s.heap.size)) args s 0 0 (gA Y s.heap.size)) (F0 m 101 ls []) := by
  have C0 := C
  obtain ⟨hx, hb, hml, hown, hts, hr, hlocks, hK, hY, hSt⟩ := C
  intro x0 x1 x2 x3 x4 x5 x6 S H locs ls hx0 hx1 hw hP hS hl
  unfold wp_DiskFile_write_101 at hw
  refine lv_bipush (v := 64) hx hb d_DiskFile_write_101 (by decide) ?_
  refine lv_iload hx hb d_DiskFile_write_103 (lv_at hl 6 rfl) ?_
  refine lv_isub hx hb d_DiskFile_write_105 ?_
  refine lv_iload_n hx hb d_DiskFile_write_106 rfl (lv_at hl 2 rfl) ?_
  refine lv_iload_n hx hb d_DiskFile_write_107 rfl (lv_at hl 3 rfl) ?_
  refine lv_isub hx hb d_DiskFile_write_108 ?_
  refine va_mmin hx hb (by rw [hml]; exact hl.1.symm) hown (hts _ (List.mem_cons_of_mem _ gw_322)) (hts _ (List.mem_cons_of_mem _ gw_161)) (hts _ (List.mem_cons_of_mem _ gw_8)) (hts _ (List.mem_cons_of_mem _ gw_162)) (Nat.le_of_ble_eq_true rfl) (Nat.le_of_ble_eq_true rfl) (Nat.zero_le _) (Nat.zero_le _) d_DiskFile_write_109 ?_
  refine lv_topi (fun v7_9 ev7_9 => ?_)
  replace hw := hw v7_9 ev7_9
  refine lv_istore (lv' := [(7, .int v7_9), (0, .ref (gad Y x0)), (1, .ref (gad Y x1)), (2, .int x2), (3, .int x3), (4, .int x4), (5, .int x5), (6, .int x6)]) hx hb d_DiskFile_write_112 hl (by decide) rfl (fun ls hl => ?_)
  refine lv_aload_n hx hb d_DiskFile_write_114 rfl (lv_at hl 2 rfl) ?_
  refine lv_iload_n hx hb d_DiskFile_write_115 rfl (lv_at hl 4 rfl) ?_
  refine lv_aload_n hx hb d_DiskFile_write_116 rfl (lv_at hl 1 rfl) ?_
  refine g_get hx hb hts (fun w h => List.mem_cons_of_mem _ (in_DiskFile w h)) hown hK hP hx0 (gce_DiskFile hx0.1) rfl 0 (by decide) (hts _ (List.mem_cons_of_mem _ gw_213)) rfl d_DiskFile_write_117 ?_
  refine g_get hx hb hts (fun w h => List.mem_cons_of_mem _ (in_Pages w h)) hown hK hP (gis_DiskFile_pages hY hx0) (gce_Pages (gis_DiskFile_pages hY hx0).1) rfl 0 (by decide) (hts _ (List.mem_cons_of_mem _ gw_173)) rfl d_DiskFile_write_120 ?_
  refine lv_aload_n hx hb d_DiskFile_write_123 rfl (lv_at hl 1 rfl) ?_
  refine g_get hx hb hts (fun w h => List.mem_cons_of_mem _ (in_DiskFile w h)) hown hK hP hx0 (gce_DiskFile hx0.1) rfl 1 (by decide) (hts _ (List.mem_cons_of_mem _ gw_214)) rfl d_DiskFile_write_124 ?_
  refine g_get hx hb hts (fun w h => List.mem_cons_of_mem _ (in_Content w h)) hown hK hP (gis_DiskFile_now hY hx0) (gce_Content (gis_DiskFile_now hY hx0).1) rfl 0 (by decide) (hts _ (List.mem_cons_of_mem _ gw_199)) rfl d_DiskFile_write_127 ?_
  refine lv_iload hx hb d_DiskFile_write_130 (lv_at hl 6 rfl) ?_
  obtain ⟨hin, hw⟩ := hw
  refine g_iaload hx hb hK hP (gis_Content_row hY (gis_DiskFile_now hY hx0)) hin d_DiskFile_write_132 ?_
  refine lv_bipush (v := 64) hx hb d_DiskFile_write_133 (by decide) ?_
  refine lv_imul hx hb d_DiskFile_write_135 ?_
  refine lv_iload hx hb d_DiskFile_write_136 (lv_at hl 7 rfl) ?_
  refine lv_iadd hx hb d_DiskFile_write_138 ?_
  refine lv_iload hx hb d_DiskFile_write_139 (lv_at hl 0 rfl) ?_
  obtain ⟨⟨a1, a2, a3, a4, a5, a6⟩, hw⟩ := hw
  refine g_copyB hx hb (by rw [hml]; exact hl.1.symm) hown (hts _ (List.mem_cons_of_mem _ gw_596)) (hts _ (List.mem_cons_of_mem _ gw_598)) (hts _ (List.mem_cons_of_mem _ gw_597)) (hts _ (List.mem_cons_of_mem _ gw_19)) hK hY.1 hP hS hx1 (gis_Pages_bytes hY (gis_DiskFile_pages hY hx0)) a1 a2 a3 a4 a5 a6 (Nat.le_of_ble_eq_true rfl) (by decide +kernel) d_DiskFile_write_141 (fun S10 eS10 H locs hP hS => ?_)
  replace hw := hw S10 eS10
  refine lv_iload_n hx hb d_DiskFile_write_144 rfl (lv_at hl 4 rfl) ?_
  refine lv_iload hx hb d_DiskFile_write_145 (lv_at hl 0 rfl) ?_
  refine lv_iadd hx hb d_DiskFile_write_147 ?_
  refine lv_topi (fun v3_11 ev3_11 => ?_)
  replace hw := hw v3_11 ev3_11
  refine lv_istore_n (lv' := [(3, .int v3_11), (7, .int v7_9), (0, .ref (gad Y x0)), (1, .ref (gad Y x1)), (2, .int x2), (4, .int x4), (5, .int x5), (6, .int x6)]) hx hb d_DiskFile_write_148 rfl hl (by decide) rfl (fun ls hl => ?_)
  refine lv_aload_n hx hb d_DiskFile_write_149 rfl (lv_at hl 2 rfl) ?_
  refine g_get hx hb hts (fun w h => List.mem_cons_of_mem _ (in_DiskFile w h)) hown hK hP hx0 (gce_DiskFile hx0.1) rfl 1 (by decide) (hts _ (List.mem_cons_of_mem _ gw_214)) rfl d_DiskFile_write_150 ?_
  refine lv_dup hx hb d_DiskFile_write_153 rfl ?_
  refine g_get hx hb hts (fun w h => List.mem_cons_of_mem _ (in_Content w h)) hown hK hP (gis_DiskFile_now hY hx0) (gce_Content (gis_DiskFile_now hY hx0).1) rfl 2 (by decide) (hts _ (List.mem_cons_of_mem _ gw_204)) rfl d_DiskFile_write_154 ?_
  refine lv_iload hx hb d_DiskFile_write_157 (lv_at hl 1 rfl) ?_
  refine lv_iadd hx hb d_DiskFile_write_159 ?_
  refine g_put (ty := .int) (v := .int ((S10.1 (grf x0 1) 2) + v7_9)) (S' := gset S10 (grf x0 1) 2 ((S10.1 (grf x0 1) 2) + v7_9)) hx hb hts (fun w h => List.mem_cons_of_mem _ (in_Content w h)) ty_Content tyok_Content nm_Content hown hK hY.1 hP hS (gis_DiskFile_now hY hx0) (gce_Content (gis_DiskFile_now hY hx0).1) rfl 2 (by decide) (hts _ (List.mem_cons_of_mem _ gw_204)) rfl (by decide +kernel) rfl rfl (Nat.le_of_ble_eq_true rfl) (gp_Content_size (gis_DiskFile_now hY hx0).1) gce_gset d_DiskFile_write_160 (fun H locs hP hS => ?_)
  obtain ⟨S12, eS12⟩ : ∃ z, z = gset S10 (grf x0 1) 2 ((S10.1 (grf x0 1) 2) + v7_9) := ⟨_, rfl⟩
  rw [← eS12] at hP
  replace hw := hw S12 eS12
  obtain ⟨v4_13, ev4_13⟩ : ∃ y : Int32, y = x4 + 1 := ⟨_, rfl⟩
  replace hw := hw v4_13 ev4_13
  refine lv_iinc (v := v4_13) (lv' := [(4, .int v4_13), (3, .int v3_11), (7, .int v7_9), (0, .ref (gad Y x0)), (1, .ref (gad Y x1)), (2, .int x2), (5, .int x5), (6, .int x6)]) hx hb d_DiskFile_write_163 hl (k := 5) rfl (by rw [ev4_13]; rfl) (by decide) rfl (fun ls hl => ?_)
  refine lv_goto (tgt := 28) hx hb d_DiskFile_write_166 (by decide) ?_
  exact hK28 x0 x1 x2 v3_11 v4_13 S12 H locs ls hx0 hx1 hw hP hS (lv_sub hl [3, 4, 5, 1, 0] rfl)
set_option maxHeartbeats 4000000 in
set_option maxRecDepth 100000 in
theorem mw_DiskFile_write_28 {p : Program} {l : Launch} {e : Env} {s : State} {m : MethodId} {args : Array Value} {below : List Frame} {meth : Method} {c : Code} {Y : gY} {Q : gS → Prop} (C : gCx p s m args meth c Y "LogDisk$DiskFile" c_DiskFile_write 8 (Option.none : Option Jvm.ClassFile.FieldType) w_DiskFile_write) : ∀ (n : Nat), ∀ (x0 : gI) (x1 : gI) (x2 : Int32) (x3 : Int32) (x4 : Int32)  (S : gS) (H : Heap) (locs : List Loc) (ls : Array Slot), gis Y 1 x0 → gis Y 21 x1 → wp_DiskFile_write_28 (gLn Y) Q n x0 x1 x2 x3 x4 S → gWd Y S H → va_S (gA Y s.heap.size) s.heap H locs → lv_has ls 8 [(0, .ref (gad Y x0)), (1, .ref (gad Y x1)), (2, .int x2), (3, .int x3), (4, .int x4)] → W p l e (gRm 3 83) s m args below meth c H locs 0 0 (MQ below (va_Qv Q (gB Y) (gA Y s.heap.size)) args s 0 0 (gA Y s.heap.size)) (F0 m 28 ls []) := by
  have C0 := C
  obtain ⟨hx, hb, hml, hown, hts, hr, hlocks, hK, hY, hSt⟩ := C
  intro n
  induction n with
  | zero =>
    intro x0 x1 x2 x3 x4 S H locs ls hx0 hx1 hw
    exact False.elim hw
  | succ n ih =>
    intro x0 x1 x2 x3 x4 S H locs ls hx0 hx1 hw hP hS hl
    unfold wp_DiskFile_write_28 at hw
    refine lv_iload hx hb d_DiskFile_write_28 (lv_at hl 4 rfl) ?_
    refine lv_sipush (v := 400) hx hb d_DiskFile_write_30 (by decide) ?_
    refine lv_icmp_gt (tgt := 169) hx hb d_DiskFile_write_33 (by decide) (fun c3 => ?_) (fun c3 => ?_)
    · replace hw := hw.1 c3
      exact W.vret hx hb hr (fun t ht hW => ⟨⟨S, rfl, hw, by rw [ht]; exact hP, va_K.moved hW.alike hK⟩, hS.F ht⟩) hS.2.2 d_DiskFile_write_169
    · replace hw := hw.2 c3
      refine lv_iload_n hx hb d_DiskFile_write_36 rfl (lv_at hl 3 rfl) ?_
      refine lv_iload_n hx hb d_DiskFile_write_37 rfl (lv_at hl 2 rfl) ?_
      refine lv_icmp_ge (tgt := 169) hx hb d_DiskFile_write_38 (by decide) (fun c4 => ?_) (fun c4 => ?_)
      · replace hw := hw.1 c4
        exact W.vret hx hb hr (fun t ht hW => ⟨⟨S, rfl, hw, by rw [ht]; exact hP, va_K.moved hW.alike hK⟩, hS.F ht⟩) hS.2.2 d_DiskFile_write_169
      · replace hw := hw.2 c4
        refine lv_aload_n hx hb d_DiskFile_write_41 rfl (lv_at hl 0 rfl) ?_
        refine g_get hx hb hts (fun w h => List.mem_cons_of_mem _ (in_DiskFile w h)) hown hK hP hx0 (gce_DiskFile hx0.1) rfl 1 (by decide) (hts _ (List.mem_cons_of_mem _ gw_214)) rfl d_DiskFile_write_42 ?_
        refine g_get hx hb hts (fun w h => List.mem_cons_of_mem _ (in_Content w h)) hown hK hP (gis_DiskFile_now hY hx0) (gce_Content (gis_DiskFile_now hY hx0).1) rfl 2 (by decide) (hts _ (List.mem_cons_of_mem _ gw_204)) rfl d_DiskFile_write_45 ?_
        refine lv_bipush (v := 64) hx hb d_DiskFile_write_48 (by decide) ?_
        refine lv_idiv hx hb d_DiskFile_write_50 (by decide) ?_
        refine lv_topi (fun v5_5 ev5_5 => ?_)
        replace hw := hw v5_5 ev5_5
        refine lv_istore (lv' := [(5, .int v5_5), (0, .ref (gad Y x0)), (1, .ref (gad Y x1)), (2, .int x2), (3, .int x3), (4, .int x4)]) hx hb d_DiskFile_write_51 hl (by decide) rfl (fun ls hl => ?_)
        refine lv_aload_n hx hb d_DiskFile_write_53 rfl (lv_at hl 1 rfl) ?_
        refine g_get hx hb hts (fun w h => List.mem_cons_of_mem _ (in_DiskFile w h)) hown hK hP hx0 (gce_DiskFile hx0.1) rfl 1 (by decide) (hts _ (List.mem_cons_of_mem _ gw_214)) rfl d_DiskFile_write_54 ?_
        refine g_get hx hb hts (fun w h => List.mem_cons_of_mem _ (in_Content w h)) hown hK hP (gis_DiskFile_now hY hx0) (gce_Content (gis_DiskFile_now hY hx0).1) rfl 2 (by decide) (hts _ (List.mem_cons_of_mem _ gw_204)) rfl d_DiskFile_write_57 ?_
        refine lv_bipush (v := 64) hx hb d_DiskFile_write_60 (by decide) ?_
        refine lv_irem hx hb d_DiskFile_write_62 (by decide) ?_
        refine lv_topi (fun v6_6 ev6_6 => ?_)
        replace hw := hw v6_6 ev6_6
        refine lv_istore (lv' := [(6, .int v6_6), (5, .int v5_5), (0, .ref (gad Y x0)), (1, .ref (gad Y x1)), (2, .int x2), (3, .int x3), (4, .int x4)]) hx hb d_DiskFile_write_63 hl (by decide) rfl (fun ls hl => ?_)
        refine lv_iload hx hb d_DiskFile_write_65 (lv_at hl 1 rfl) ?_
        refine lv_aload_n hx hb d_DiskFile_write_67 rfl (lv_at hl 2 rfl) ?_
        refine g_get hx hb hts (fun w h => List.mem_cons_of_mem _ (in_DiskFile w h)) hown hK hP hx0 (gce_DiskFile hx0.1) rfl 1 (by decide) (hts _ (List.mem_cons_of_mem _ gw_214)) rfl d_DiskFile_write_68 ?_
        refine g_get hx hb hts (fun w h => List.mem_cons_of_mem _ (in_Content w h)) hown hK hP (gis_DiskFile_now hY hx0) (gce_Content (gis_DiskFile_now hY hx0).1) rfl 0 (by decide) (hts _ (List.mem_cons_of_mem _ gw_199)) rfl d_DiskFile_write_71 ?_
        refine g_alenI hx hb hK hP (gis_Content_row hY (gis_DiskFile_now hY hx0)) d_DiskFile_write_74 ?_
        refine lv_icmp_lt (tgt := 79) hx hb d_DiskFile_write_75 (by decide) (fun c7 => ?_) (fun c7 => ?_)
        · replace hw := hw.1 c7
          refine lv_iload hx hb d_DiskFile_write_79 (lv_at hl 0 rfl) ?_
          refine lv_if_ne (tgt := 101) hx hb d_DiskFile_write_81 (by decide) (fun c8 => ?_) (fun c8 => ?_)
          · replace hw := hw.1 c8
            exact mw_DiskFile_write_101 C0 ih x0 x1 x2 x3 x4 v5_5 v6_6 S H locs ls hx0 hx1 hw hP hS (lv_sub hl [2, 3, 4, 5, 6, 1, 0] rfl)
          · replace hw := hw.2 c8
            refine lv_aload_n hx hb d_DiskFile_write_84 rfl (lv_at hl 2 rfl) ?_
            refine g_get hx hb hts (fun w h => List.mem_cons_of_mem _ (in_DiskFile w h)) hown hK hP hx0 (gce_DiskFile hx0.1) rfl 1 (by decide) (hts _ (List.mem_cons_of_mem _ gw_214)) rfl d_DiskFile_write_85 ?_
            refine g_get hx hb hts (fun w h => List.mem_cons_of_mem _ (in_Content w h)) hown hK hP (gis_DiskFile_now hY hx0) (gce_Content (gis_DiskFile_now hY hx0).1) rfl 0 (by decide) (hts _ (List.mem_cons_of_mem _ gw_199)) rfl d_DiskFile_write_88 ?_
            refine lv_iload hx hb d_DiskFile_write_91 (lv_at hl 1 rfl) ?_
            refine lv_aload_n hx hb d_DiskFile_write_93 rfl (lv_at hl 2 rfl) ?_
            refine g_get hx hb hts (fun w h => List.mem_cons_of_mem _ (in_DiskFile w h)) hown hK hP hx0 (gce_DiskFile hx0.1) rfl 0 (by decide) (hts _ (List.mem_cons_of_mem _ gw_213)) rfl d_DiskFile_write_94 ?_
            refine g_calli (va_runV (As := []) (rest := [.int v5_5, .ref (gad Y (grf (grf x0 1) 0))]) ⟨hx, hb, hml, hown, hts⟩ (k_Pages_seize l Y hY H.size (grf x0 0) (gis_DiskFile_pages hY hx0) S _) (cwV 0 hts (gG_V gw_592 gw_593 gw_594 gw_9 gw_595) rfl rfl rfl (by decide +kernel) ⟨Nat.le_of_ble_eq_true rfl, Nat.le_of_ble_eq_true rfl⟩) ⟨gPre_blind, g_recv hK hP (gis_DiskFile_pages hY hx0) (gce_Pages (gis_DiskFile_pages hY hx0).1) rfl, g_pre hK hSt hS hP hw⟩ rfl rfl hl.1 rfl (lv_room (Nat.le_of_ble_eq_true rfl)) d_DiskFile_write_97 ⟨Nat.zero_le _, Nat.zero_le _⟩) hS (fun r15 S14 H locs hw hP hS => ?_)
            obtain ⟨hin, hw⟩ := hw
            refine g_iastore hx hb hK hY.1 hP hS (gis_Content_row hY (gis_DiskFile_now hY hx0)) hin d_DiskFile_write_100 (fun S16 eS16 H locs hP hS => ?_)
            replace hw := hw S16 eS16
            exact mw_DiskFile_write_101 C0 ih x0 x1 x2 x3 x4 v5_5 v6_6 S16 H locs ls hx0 hx1 hw hP hS (lv_sub hl [2, 3, 4, 5, 6, 1, 0] rfl)
        · replace hw := hw.2 c7
          exact W.vret hx hb hr (fun t ht hW => ⟨⟨S, rfl, hw, by rw [ht]; exact hP, va_K.moved hW.alike hK⟩, hS.F ht⟩) hS.2.2 d_DiskFile_write_78
set_option maxHeartbeats 4000000 in
set_option maxRecDepth 100000 in
theorem mw_DiskFile_write_15 {p : Program} {l : Launch} {e : Env} {s : State} {m : MethodId} {args : Array Value} {below : List Frame} {meth : Method} {c : Code} {Y : gY} {Q : gS → Prop} (C : gCx p s m args meth c Y "LogDisk$DiskFile" c_DiskFile_write 8 (Option.none : Option Jvm.ClassFile.FieldType) w_DiskFile_write) : ∀ (x0 : gI) (x1 : gI) (x2 : Int32)  (S : gS) (H : Heap) (locs : List Loc) (ls : Array Slot), gis Y 1 x0 → gis Y 21 x1 → wp_DiskFile_write_15 (gLn Y) Q x0 x1 x2 S → gWd Y S H → va_S (gA Y s.heap.size) s.heap H locs → lv_has ls 8 [(0, .ref (gad Y x0)), (1, .ref (gad Y x1)), (2, .int x2)] → W p l e (gRm 3 83) s m args below meth c H locs 0 0 (MQ below (va_Qv Q (gB Y) (gA Y s.heap.size)) args s 0 0 (gA Y s.heap.size)) (F0 m 15 ls []) := by
  have C0 := C
  obtain ⟨hx, hb, hml, hown, hts, hr, hlocks, hK, hY, hSt⟩ := C
  intro x0 x1 x2 S H locs ls hx0 hx1 hw hP hS hl
  unfold wp_DiskFile_write_15 at hw
  refine lv_aload_n hx hb d_DiskFile_write_15 rfl (lv_at hl 0 rfl) ?_
  refine g_get hx hb hts (fun w h => List.mem_cons_of_mem _ (in_DiskFile w h)) hown hK hP hx0 (gce_DiskFile hx0.1) rfl 1 (by decide) (hts _ (List.mem_cons_of_mem _ gw_214)) rfl d_DiskFile_write_16 ?_
  refine lv_iconst (v := 1) hx hb d_DiskFile_write_19 (by decide) ?_
  refine g_put (ty := .boolean) (v := .int 1) (S' := gset S (grf x0 1) 1 1) hx hb hts (fun w h => List.mem_cons_of_mem _ (in_Content w h)) ty_Content tyok_Content nm_Content hown hK hY.1 hP hS (gis_DiskFile_now hY hx0) (gce_Content (gis_DiskFile_now hY hx0).1) rfl 1 (by decide) (hts _ (List.mem_cons_of_mem _ gw_201)) rfl (by decide +kernel) rfl rfl (Nat.le_of_ble_eq_true rfl) (gp_Content_there (gis_DiskFile_now hY hx0).1) gce_gset d_DiskFile_write_20 (fun H locs hP hS => ?_)
  obtain ⟨S2, eS2⟩ : ∃ z, z = gset S (grf x0 1) 1 1 := ⟨_, rfl⟩
  rw [← eS2] at hP
  replace hw := hw S2 eS2
  refine lv_iconst (v := 0) hx hb d_DiskFile_write_23 (by decide) ?_
  refine lv_istore_n (lv' := [(3, .int 0), (0, .ref (gad Y x0)), (1, .ref (gad Y x1)), (2, .int x2)]) hx hb d_DiskFile_write_24 rfl hl (by decide) rfl (fun ls hl => ?_)
  refine lv_iconst (v := 0) hx hb d_DiskFile_write_25 (by decide) ?_
  refine lv_istore (lv' := [(4, .int 0), (3, .int 0), (0, .ref (gad Y x0)), (1, .ref (gad Y x1)), (2, .int x2)]) hx hb d_DiskFile_write_26 hl (by decide) rfl (fun ls hl => ?_)
  obtain ⟨n, hw⟩ := hw
  exact mw_DiskFile_write_28 C0 n x0 x1 x2 0 0 S2 H locs ls hx0 hx1 hw hP hS (lv_sub hl [2, 3, 4, 1, 0] rfl)
set_option maxHeartbeats 4000000 in
set_option maxRecDepth 100000 in
theorem mw_DiskFile_write {p : Program} {l : Launch} {e : Env} {s : State} {m : MethodId} {args : Array Value} {below : List Frame} {meth : Method} {c : Code} {Y : gY} {Q : gS → Prop} (C : gCx p s m args meth c Y "LogDisk$DiskFile" c_DiskFile_write 8 (Option.none : Option Jvm.ClassFile.FieldType) w_DiskFile_write) : ∀ (x0 : gI) (x1 : gI) (x2 : Int32)  (S : gS) (H : Heap) (locs : List Loc) (ls : Array Slot), gis Y 1 x0 → gis Y 21 x1 → wp_DiskFile_write (gLn Y) Q x0 x1 x2 S → gWd Y S H → va_S (gA Y s.heap.size) s.heap H locs → lv_has ls 8 [(0, .ref (gad Y x0)), (1, .ref (gad Y x1)), (2, .int x2)] → W p l e (gRm 3 83) s m args below meth c H locs 0 0 (MQ below (va_Qv Q (gB Y) (gA Y s.heap.size)) args s 0 0 (gA Y s.heap.size)) (F0 m 0 ls []) := by
  have C0 := C
  obtain ⟨hx, hb, hml, hown, hts, hr, hlocks, hK, hY, hSt⟩ := C
  intro x0 x1 x2 S H locs ls hx0 hx1 hw hP hS hl
  unfold wp_DiskFile_write at hw
  refine lv_iload_n hx hb d_DiskFile_write_0 rfl (lv_at hl 2 rfl) ?_
  refine lv_if_le (tgt := 15) hx hb d_DiskFile_write_1 (by decide) (fun c1 => ?_) (fun c1 => ?_)
  · replace hw := hw.1 c1
    exact mw_DiskFile_write_15 C0 x0 x1 x2 S H locs ls hx0 hx1 hw hP hS (lv_sub hl [0, 1, 2] rfl)
  · replace hw := hw.2 c1
    refine lv_aload_n hx hb d_DiskFile_write_4 rfl (lv_at hl 0 rfl) ?_
    refine g_calli (va_runV (As := []) (rest := []) ⟨hx, hb, hml, hown, hts⟩ (k_DiskFile_mustCopyLastPage l Y hY H.size x0 hx0 S _) (cwV 0 hts (gG_V gw_584 gw_585 gw_586 gw_10 gw_587) rfl rfl rfl (by decide +kernel) ⟨Nat.le_of_ble_eq_true rfl, Nat.le_of_ble_eq_true rfl⟩) ⟨gPre_blind, g_recv hK hP hx0 (gce_DiskFile hx0.1) rfl, g_pre hK hSt hS hP hw⟩ rfl rfl hl.1 rfl (lv_room (Nat.le_of_ble_eq_true rfl)) d_DiskFile_write_5 ⟨Nat.zero_le _, Nat.zero_le _⟩) hS (fun r18 S17 H locs hw hP hS => ?_)
    refine lv_if_eq (tgt := 15) hx hb d_DiskFile_write_8 (by decide) (fun c19 => ?_) (fun c19 => ?_)
    · replace hw := hw.1 c19
      exact mw_DiskFile_write_15 C0 x0 x1 x2 S17 H locs ls hx0 hx1 hw hP hS (lv_sub hl [0, 1, 2] rfl)
    · replace hw := hw.2 c19
      refine lv_aload_n hx hb d_DiskFile_write_11 rfl (lv_at hl 0 rfl) ?_
      refine g_callv (va_runV (As := []) (rest := []) ⟨hx, hb, hml, hown, hts⟩ (k_DiskFile_copyLastPage l Y hY H.size x0 hx0 S17 _) (cwV 0 hts (gG_V gw_588 gw_589 gw_590 gw_10 gw_591) rfl rfl rfl (by decide +kernel) ⟨Nat.le_of_ble_eq_true rfl, Nat.le_of_ble_eq_true rfl⟩) ⟨gPre_blind, g_recv hK hP hx0 (gce_DiskFile hx0.1) rfl, g_pre hK hSt hS hP hw⟩ rfl rfl hl.1 rfl (lv_room (Nat.le_of_ble_eq_true rfl)) d_DiskFile_write_12 ⟨Nat.zero_le _, Nat.zero_le _⟩) hS (fun S20 H locs hw hP hS => ?_)
      exact mw_DiskFile_write_15 C0 x0 x1 x2 S20 H locs ls hx0 hx1 hw hP hS (lv_sub hl [0, 1, 2] rfl)
set_option maxHeartbeats 4000000 in
set_option maxRecDepth 100000 in
theorem k_DiskFile_write (l : Launch) (Y : gY) (hY : gOK Y) (sz : Nat) (x0 : gI) (x1 : gI) (x2 : Int32)  (hx0 : gis Y 1 x0) (hx1 : gis Y 21 x1) (S : gS) (Q : gS → Prop) : Met l y_DiskFile_write w_DiskFile_write (gRm 3 83) (gPre Y [.ref (gad Y x0), .ref (gad Y x1), .int x2] S sz (wp_DiskFile_write (gLn Y) Q x0 x1 x2 S)) (va_Qv Q (gB Y) (gA Y sz)) 0 0 (gA Y sz) := by
  refine Met.ofW (cc := c_DiskFile_write) (maxL := 8) (ret := (Option.none : Option Jvm.ClassFile.FieldType)) (by decide) rfl ?_
  intro p e s m args below meth c s₁ B hml hv
  obtain ⟨rfl, hsz, hP, hK, hSt, hw⟩ := hv
  subst hsz
  have hts := atoms_spec (ws := w_DiskFile_write) B.pre
  have hl := lv_entry ([.ref (gad Y x0), .ref (gad Y x1), .int x2]) (n := 8) (Nat.le_of_ble_eq_true rfl)
  rw [lg_entry_eq]
  generalize (lg_sl ([.ref (gad Y x0), .ref (gad Y x1), .int x2]) ++ List.replicate (8 - (lg_sl ([.ref (gad Y x0), .ref (gad Y x1), .int x2])).length) Slot.unset).toArray = ls at hl ⊢
  exact mw_DiskFile_write ⟨B.exec, B.bytes, hml, findClass_of_methodNamed B.named, hts, B.returns, B.notSynchronized, hK, hY, hSt⟩ x0 x1 x2 S s.heap [] ls hx0 hx1 hw hP va_S.rf hl

def wp_DiskFile_cutTo (Ln : gI → Nat) (Q : gS → Prop) (x0 : gI) (x1 : Int32)  (S : gS) : Prop :=
  (((S.1 (grf x0 1) 2) ≤ x1) → (Q S)) ∧ ((¬ (S.1 (grf x0 1) 2) ≤ x1) → (wp_Content_shorten Ln (fun S2 => ∀ S3 : gS, S3 = gset S2 x0 3 (if x1 < (S2.1 x0 3) then x1 else (S2.1 x0 3)) → (Q S3)) (grf x0 1) x1 (grf x0 0) S))
set_option maxHeartbeats 4000000 in
set_option maxRecDepth 100000 in
theorem mw_DiskFile_cutTo {p : Program} {l : Launch} {e : Env} {s : State} {m : MethodId} {args : Array Value} {below : List Frame} {meth : Method} {c : Code} {Y : gY} {Q : gS → Prop} (C : gCx p s m args meth c Y "LogDisk$DiskFile" c_DiskFile_cutTo 2 (Option.none : Option Jvm.ClassFile.FieldType) w_DiskFile_cutTo) : ∀ (x0 : gI) (x1 : Int32)  (S : gS) (H : Heap) (locs : List Loc) (ls : Array Slot), gis Y 1 x0 → wp_DiskFile_cutTo (gLn Y) Q x0 x1 S → gWd Y S H → va_S (gA Y s.heap.size) s.heap H locs → lv_has ls 2 [(0, .ref (gad Y x0)), (1, .int x1)] → W p l e (gRm 2 45) s m args below meth c H locs 0 0 (MQ below (va_Qv Q (gB Y) (gA Y s.heap.size)) args s 0 0 (gA Y s.heap.size)) (F0 m 0 ls []) := by
  have C0 := C
  obtain ⟨hx, hb, hml, hown, hts, hr, hlocks, hK, hY, hSt⟩ := C
  intro x0 x1 S H locs ls hx0 hw hP hS hl
  unfold wp_DiskFile_cutTo at hw
  refine lv_iload_n hx hb d_DiskFile_cutTo_0 rfl (lv_at hl 1 rfl) ?_
  refine lv_aload_n hx hb d_DiskFile_cutTo_1 rfl (lv_at hl 0 rfl) ?_
  refine g_get hx hb hts (fun w h => List.mem_cons_of_mem _ (in_DiskFile w h)) hown hK hP hx0 (gce_DiskFile hx0.1) rfl 1 (by decide) (hts _ (List.mem_cons_of_mem _ gw_214)) rfl d_DiskFile_cutTo_2 ?_
  refine g_get hx hb hts (fun w h => List.mem_cons_of_mem _ (in_Content w h)) hown hK hP (gis_DiskFile_now hY hx0) (gce_Content (gis_DiskFile_now hY hx0).1) rfl 2 (by decide) (hts _ (List.mem_cons_of_mem _ gw_204)) rfl d_DiskFile_cutTo_5 ?_
  refine lv_icmp_ge (tgt := 35) hx hb d_DiskFile_cutTo_8 (by decide) (fun c1 => ?_) (fun c1 => ?_)
  · replace hw := hw.1 c1
    exact W.vret hx hb hr (fun t ht hW => ⟨⟨S, rfl, hw, by rw [ht]; exact hP, va_K.moved hW.alike hK⟩, hS.F ht⟩) hS.2.2 d_DiskFile_cutTo_35
  · replace hw := hw.2 c1
    refine lv_aload_n hx hb d_DiskFile_cutTo_11 rfl (lv_at hl 0 rfl) ?_
    refine g_get hx hb hts (fun w h => List.mem_cons_of_mem _ (in_DiskFile w h)) hown hK hP hx0 (gce_DiskFile hx0.1) rfl 1 (by decide) (hts _ (List.mem_cons_of_mem _ gw_214)) rfl d_DiskFile_cutTo_12 ?_
    refine lv_iload_n hx hb d_DiskFile_cutTo_15 rfl (lv_at hl 1 rfl) ?_
    refine lv_aload_n hx hb d_DiskFile_cutTo_16 rfl (lv_at hl 0 rfl) ?_
    refine g_get hx hb hts (fun w h => List.mem_cons_of_mem _ (in_DiskFile w h)) hown hK hP hx0 (gce_DiskFile hx0.1) rfl 0 (by decide) (hts _ (List.mem_cons_of_mem _ gw_213)) rfl d_DiskFile_cutTo_17 ?_
    refine g_callv (va_runV (As := [.int x1, .ref (gad Y (grf x0 0))]) (rest := []) ⟨hx, hb, hml, hown, hts⟩ (k_Content_shorten l Y hY H.size (grf x0 1) x1 (grf x0 0) (gis_DiskFile_now hY hx0) (gis_DiskFile_pages hY hx0) S _) (cwV 2 hts (gG_V gw_321 gw_283 gw_284 gw_11 gw_285) rfl rfl rfl (by decide +kernel) ⟨Nat.le_of_ble_eq_true rfl, Nat.le_of_ble_eq_true rfl⟩) ⟨gPre_blind, g_recv hK hP (gis_DiskFile_now hY hx0) (gce_Content (gis_DiskFile_now hY hx0).1) rfl, g_pre hK hSt hS hP hw⟩ rfl rfl hl.1 rfl (lv_room (Nat.le_of_ble_eq_true rfl)) d_DiskFile_cutTo_20 ⟨Nat.zero_le _, Nat.zero_le _⟩) hS (fun S2 H locs hw hP hS => ?_)
    refine lv_aload_n hx hb d_DiskFile_cutTo_23 rfl (lv_at hl 0 rfl) ?_
    refine lv_aload_n hx hb d_DiskFile_cutTo_24 rfl (lv_at hl 0 rfl) ?_
    refine g_get hx hb hts (fun w h => List.mem_cons_of_mem _ (in_DiskFile w h)) hown hK hP hx0 (gce_DiskFile hx0.1) rfl 3 (by decide) (hts _ (List.mem_cons_of_mem _ gw_218)) rfl d_DiskFile_cutTo_25 ?_
    refine lv_iload_n hx hb d_DiskFile_cutTo_28 rfl (lv_at hl 1 rfl) ?_
    refine va_mmin hx hb (by rw [hml]; exact hl.1.symm) hown (hts _ (List.mem_cons_of_mem _ gw_322)) (hts _ (List.mem_cons_of_mem _ gw_161)) (hts _ (List.mem_cons_of_mem _ gw_8)) (hts _ (List.mem_cons_of_mem _ gw_162)) (Nat.le_of_ble_eq_true rfl) (Nat.le_of_ble_eq_true rfl) (Nat.zero_le _) (Nat.zero_le _) d_DiskFile_cutTo_29 ?_
    refine g_put (ty := .int) (v := .int (if x1 < (S2.1 x0 3) then x1 else (S2.1 x0 3))) (S' := gset S2 x0 3 (if x1 < (S2.1 x0 3) then x1 else (S2.1 x0 3))) hx hb hts (fun w h => List.mem_cons_of_mem _ (in_DiskFile w h)) ty_DiskFile tyok_DiskFile nm_DiskFile hown hK hY.1 hP hS hx0 (gce_DiskFile hx0.1) rfl 3 (by decide) (hts _ (List.mem_cons_of_mem _ gw_218)) rfl (by decide +kernel) rfl rfl (Nat.le_of_ble_eq_true rfl) (gp_DiskFile_low hx0.1) gce_gset d_DiskFile_cutTo_32 (fun H locs hP hS => ?_)
    obtain ⟨S3, eS3⟩ : ∃ z, z = gset S2 x0 3 (if x1 < (S2.1 x0 3) then x1 else (S2.1 x0 3)) := ⟨_, rfl⟩
    rw [← eS3] at hP
    replace hw := hw S3 eS3
    exact W.vret hx hb hr (fun t ht hW => ⟨⟨S3, rfl, hw, by rw [ht]; exact hP, va_K.moved hW.alike hK⟩, hS.F ht⟩) hS.2.2 d_DiskFile_cutTo_35
set_option maxHeartbeats 4000000 in
set_option maxRecDepth 100000 in
theorem k_DiskFile_cutTo (l : Launch) (Y : gY) (hY : gOK Y) (sz : Nat) (x0 : gI) (x1 : Int32)  (hx0 : gis Y 1 x0) (S : gS) (Q : gS → Prop) : Met l y_DiskFile_cutTo w_DiskFile_cutTo (gRm 2 45) (gPre Y [.ref (gad Y x0), .int x1] S sz (wp_DiskFile_cutTo (gLn Y) Q x0 x1 S)) (va_Qv Q (gB Y) (gA Y sz)) 0 0 (gA Y sz) := by
  refine Met.ofW (cc := c_DiskFile_cutTo) (maxL := 2) (ret := (Option.none : Option Jvm.ClassFile.FieldType)) (by decide) rfl ?_
  intro p e s m args below meth c s₁ B hml hv
  obtain ⟨rfl, hsz, hP, hK, hSt, hw⟩ := hv
  subst hsz
  have hts := atoms_spec (ws := w_DiskFile_cutTo) B.pre
  have hl := lv_entry ([.ref (gad Y x0), .int x1]) (n := 2) (Nat.le_of_ble_eq_true rfl)
  rw [lg_entry_eq]
  generalize (lg_sl ([.ref (gad Y x0), .int x1]) ++ List.replicate (2 - (lg_sl ([.ref (gad Y x0), .int x1])).length) Slot.unset).toArray = ls at hl ⊢
  exact mw_DiskFile_cutTo ⟨B.exec, B.bytes, hml, findClass_of_methodNamed B.named, hts, B.returns, B.notSynchronized, hK, hY, hSt⟩ x0 x1 S s.heap [] ls hx0 hw hP va_S.rf hl

def wp_DiskFile_remove (Ln : gI → Nat) (Q : gS → Prop) (x0 : gI)  (S : gS) : Prop :=
  wp_Content_shorten Ln (fun S1 => ∀ S2 : gS, S2 = gset S1 (grf x0 1) 1 0 → (∀ S3 : gS, S3 = gset S2 x0 3 0 → (Q S3))) (grf x0 1) 0 (grf x0 0) S
set_option maxHeartbeats 4000000 in
set_option maxRecDepth 100000 in
theorem mw_DiskFile_remove {p : Program} {l : Launch} {e : Env} {s : State} {m : MethodId} {args : Array Value} {below : List Frame} {meth : Method} {c : Code} {Y : gY} {Q : gS → Prop} (C : gCx p s m args meth c Y "LogDisk$DiskFile" c_DiskFile_remove 1 (Option.none : Option Jvm.ClassFile.FieldType) w_DiskFile_remove) : ∀ (x0 : gI)  (S : gS) (H : Heap) (locs : List Loc) (ls : Array Slot), gis Y 1 x0 → wp_DiskFile_remove (gLn Y) Q x0 S → gWd Y S H → va_S (gA Y s.heap.size) s.heap H locs → lv_has ls 1 [(0, .ref (gad Y x0))] → W p l e (gRm 2 45) s m args below meth c H locs 0 0 (MQ below (va_Qv Q (gB Y) (gA Y s.heap.size)) args s 0 0 (gA Y s.heap.size)) (F0 m 0 ls []) := by
  have C0 := C
  obtain ⟨hx, hb, hml, hown, hts, hr, hlocks, hK, hY, hSt⟩ := C
  intro x0 S H locs ls hx0 hw hP hS hl
  unfold wp_DiskFile_remove at hw
  refine lv_aload_n hx hb d_DiskFile_remove_0 rfl (lv_at hl 0 rfl) ?_
  refine g_get hx hb hts (fun w h => List.mem_cons_of_mem _ (in_DiskFile w h)) hown hK hP hx0 (gce_DiskFile hx0.1) rfl 1 (by decide) (hts _ (List.mem_cons_of_mem _ gw_214)) rfl d_DiskFile_remove_1 ?_
  refine lv_iconst (v := 0) hx hb d_DiskFile_remove_4 (by decide) ?_
  refine lv_aload_n hx hb d_DiskFile_remove_5 rfl (lv_at hl 0 rfl) ?_
  refine g_get hx hb hts (fun w h => List.mem_cons_of_mem _ (in_DiskFile w h)) hown hK hP hx0 (gce_DiskFile hx0.1) rfl 0 (by decide) (hts _ (List.mem_cons_of_mem _ gw_213)) rfl d_DiskFile_remove_6 ?_
  refine g_callv (va_runV (As := [.int 0, .ref (gad Y (grf x0 0))]) (rest := []) ⟨hx, hb, hml, hown, hts⟩ (k_Content_shorten l Y hY H.size (grf x0 1) 0 (grf x0 0) (gis_DiskFile_now hY hx0) (gis_DiskFile_pages hY hx0) S _) (cwV 2 hts (gG_V gw_321 gw_283 gw_284 gw_11 gw_285) rfl rfl rfl (by decide +kernel) ⟨Nat.le_of_ble_eq_true rfl, Nat.le_of_ble_eq_true rfl⟩) ⟨gPre_blind, g_recv hK hP (gis_DiskFile_now hY hx0) (gce_Content (gis_DiskFile_now hY hx0).1) rfl, g_pre hK hSt hS hP hw⟩ rfl rfl hl.1 rfl (lv_room (Nat.le_of_ble_eq_true rfl)) d_DiskFile_remove_9 ⟨Nat.zero_le _, Nat.zero_le _⟩) hS (fun S1 H locs hw hP hS => ?_)
  refine lv_aload_n hx hb d_DiskFile_remove_12 rfl (lv_at hl 0 rfl) ?_
  refine g_get hx hb hts (fun w h => List.mem_cons_of_mem _ (in_DiskFile w h)) hown hK hP hx0 (gce_DiskFile hx0.1) rfl 1 (by decide) (hts _ (List.mem_cons_of_mem _ gw_214)) rfl d_DiskFile_remove_13 ?_
  refine lv_iconst (v := 0) hx hb d_DiskFile_remove_16 (by decide) ?_
  refine g_put (ty := .boolean) (v := .int 0) (S' := gset S1 (grf x0 1) 1 0) hx hb hts (fun w h => List.mem_cons_of_mem _ (in_Content w h)) ty_Content tyok_Content nm_Content hown hK hY.1 hP hS (gis_DiskFile_now hY hx0) (gce_Content (gis_DiskFile_now hY hx0).1) rfl 1 (by decide) (hts _ (List.mem_cons_of_mem _ gw_201)) rfl (by decide +kernel) rfl rfl (Nat.le_of_ble_eq_true rfl) (gp_Content_there (gis_DiskFile_now hY hx0).1) gce_gset d_DiskFile_remove_17 (fun H locs hP hS => ?_)
  obtain ⟨S2, eS2⟩ : ∃ z, z = gset S1 (grf x0 1) 1 0 := ⟨_, rfl⟩
  rw [← eS2] at hP
  replace hw := hw S2 eS2
  refine lv_aload_n hx hb d_DiskFile_remove_20 rfl (lv_at hl 0 rfl) ?_
  refine lv_iconst (v := 0) hx hb d_DiskFile_remove_21 (by decide) ?_
  refine g_put (ty := .int) (v := .int 0) (S' := gset S2 x0 3 0) hx hb hts (fun w h => List.mem_cons_of_mem _ (in_DiskFile w h)) ty_DiskFile tyok_DiskFile nm_DiskFile hown hK hY.1 hP hS hx0 (gce_DiskFile hx0.1) rfl 3 (by decide) (hts _ (List.mem_cons_of_mem _ gw_218)) rfl (by decide +kernel) rfl rfl (Nat.le_of_ble_eq_true rfl) (gp_DiskFile_low hx0.1) gce_gset d_DiskFile_remove_22 (fun H locs hP hS => ?_)
  obtain ⟨S3, eS3⟩ : ∃ z, z = gset S2 x0 3 0 := ⟨_, rfl⟩
  rw [← eS3] at hP
  replace hw := hw S3 eS3
  exact W.vret hx hb hr (fun t ht hW => ⟨⟨S3, rfl, hw, by rw [ht]; exact hP, va_K.moved hW.alike hK⟩, hS.F ht⟩) hS.2.2 d_DiskFile_remove_25
set_option maxHeartbeats 4000000 in
set_option maxRecDepth 100000 in
theorem k_DiskFile_remove (l : Launch) (Y : gY) (hY : gOK Y) (sz : Nat) (x0 : gI)  (hx0 : gis Y 1 x0) (S : gS) (Q : gS → Prop) : Met l y_DiskFile_remove w_DiskFile_remove (gRm 2 45) (gPre Y [.ref (gad Y x0)] S sz (wp_DiskFile_remove (gLn Y) Q x0 S)) (va_Qv Q (gB Y) (gA Y sz)) 0 0 (gA Y sz) := by
  refine Met.ofW (cc := c_DiskFile_remove) (maxL := 1) (ret := (Option.none : Option Jvm.ClassFile.FieldType)) (by decide) rfl ?_
  intro p e s m args below meth c s₁ B hml hv
  obtain ⟨rfl, hsz, hP, hK, hSt, hw⟩ := hv
  subst hsz
  have hts := atoms_spec (ws := w_DiskFile_remove) B.pre
  have hl := lv_entry ([.ref (gad Y x0)]) (n := 1) (Nat.le_of_ble_eq_true rfl)
  rw [lg_entry_eq]
  generalize (lg_sl ([.ref (gad Y x0)]) ++ List.replicate (1 - (lg_sl ([.ref (gad Y x0)])).length) Slot.unset).toArray = ls at hl ⊢
  exact mw_DiskFile_remove ⟨B.exec, B.bytes, hml, findClass_of_methodNamed B.named, hts, B.returns, B.notSynchronized, hK, hY, hSt⟩ x0 S s.heap [] ls hx0 hw hP va_S.rf hl

def wp_DiskFile_settle (Ln : gI → Nat) (Q : gS → Prop) (x0 : gI)  (S : gS) : Prop :=
  wp_Content_become Ln (fun S1 => ∀ S2 : gS, S2 = gset S1 x0 3 (S1.1 (grf x0 1) 2) → (Q S2)) (grf x0 2) (grf x0 1) (grf x0 0) S
set_option maxHeartbeats 4000000 in
set_option maxRecDepth 100000 in
theorem mw_DiskFile_settle {p : Program} {l : Launch} {e : Env} {s : State} {m : MethodId} {args : Array Value} {below : List Frame} {meth : Method} {c : Code} {Y : gY} {Q : gS → Prop} (C : gCx p s m args meth c Y "LogDisk$DiskFile" c_DiskFile_settle 1 (Option.none : Option Jvm.ClassFile.FieldType) w_DiskFile_settle) : ∀ (x0 : gI)  (S : gS) (H : Heap) (locs : List Loc) (ls : Array Slot), gis Y 1 x0 → wp_DiskFile_settle (gLn Y) Q x0 S → gWd Y S H → va_S (gA Y s.heap.size) s.heap H locs → lv_has ls 1 [(0, .ref (gad Y x0))] → W p l e (gRm 3 69) s m args below meth c H locs 0 0 (MQ below (va_Qv Q (gB Y) (gA Y s.heap.size)) args s 0 0 (gA Y s.heap.size)) (F0 m 0 ls []) := by
  have C0 := C
  obtain ⟨hx, hb, hml, hown, hts, hr, hlocks, hK, hY, hSt⟩ := C
  intro x0 S H locs ls hx0 hw hP hS hl
  unfold wp_DiskFile_settle at hw
  refine lv_aload_n hx hb d_DiskFile_settle_0 rfl (lv_at hl 0 rfl) ?_
  refine g_get hx hb hts (fun w h => List.mem_cons_of_mem _ (in_DiskFile w h)) hown hK hP hx0 (gce_DiskFile hx0.1) rfl 2 (by decide) (hts _ (List.mem_cons_of_mem _ gw_216)) rfl d_DiskFile_settle_1 ?_
  refine lv_aload_n hx hb d_DiskFile_settle_4 rfl (lv_at hl 0 rfl) ?_
  refine g_get hx hb hts (fun w h => List.mem_cons_of_mem _ (in_DiskFile w h)) hown hK hP hx0 (gce_DiskFile hx0.1) rfl 1 (by decide) (hts _ (List.mem_cons_of_mem _ gw_214)) rfl d_DiskFile_settle_5 ?_
  refine lv_aload_n hx hb d_DiskFile_settle_8 rfl (lv_at hl 0 rfl) ?_
  refine g_get hx hb hts (fun w h => List.mem_cons_of_mem _ (in_DiskFile w h)) hown hK hP hx0 (gce_DiskFile hx0.1) rfl 0 (by decide) (hts _ (List.mem_cons_of_mem _ gw_213)) rfl d_DiskFile_settle_9 ?_
  refine g_callv (va_runV (As := [.ref (gad Y (grf x0 1)), .ref (gad Y (grf x0 0))]) (rest := []) ⟨hx, hb, hml, hown, hts⟩ (k_Content_become l Y hY H.size (grf x0 2) (grf x0 1) (grf x0 0) (gis_DiskFile_synced hY hx0) (gis_DiskFile_now hY hx0) (gis_DiskFile_pages hY hx0) S _) (cwV 2 hts (gG_V gw_278 gw_279 gw_280 gw_11 gw_281) rfl rfl rfl (by decide +kernel) ⟨Nat.le_of_ble_eq_true rfl, Nat.le_of_ble_eq_true rfl⟩) ⟨gPre_blind, g_recv hK hP (gis_DiskFile_synced hY hx0) (gce_Content (gis_DiskFile_synced hY hx0).1) rfl, g_pre hK hSt hS hP hw⟩ rfl rfl hl.1 rfl (lv_room (Nat.le_of_ble_eq_true rfl)) d_DiskFile_settle_12 ⟨Nat.zero_le _, Nat.zero_le _⟩) hS (fun S1 H locs hw hP hS => ?_)
  refine lv_aload_n hx hb d_DiskFile_settle_15 rfl (lv_at hl 0 rfl) ?_
  refine lv_aload_n hx hb d_DiskFile_settle_16 rfl (lv_at hl 0 rfl) ?_
  refine g_get hx hb hts (fun w h => List.mem_cons_of_mem _ (in_DiskFile w h)) hown hK hP hx0 (gce_DiskFile hx0.1) rfl 1 (by decide) (hts _ (List.mem_cons_of_mem _ gw_214)) rfl d_DiskFile_settle_17 ?_
  refine g_get hx hb hts (fun w h => List.mem_cons_of_mem _ (in_Content w h)) hown hK hP (gis_DiskFile_now hY hx0) (gce_Content (gis_DiskFile_now hY hx0).1) rfl 2 (by decide) (hts _ (List.mem_cons_of_mem _ gw_204)) rfl d_DiskFile_settle_20 ?_
  refine g_put (ty := .int) (v := .int (S1.1 (grf x0 1) 2)) (S' := gset S1 x0 3 (S1.1 (grf x0 1) 2)) hx hb hts (fun w h => List.mem_cons_of_mem _ (in_DiskFile w h)) ty_DiskFile tyok_DiskFile nm_DiskFile hown hK hY.1 hP hS hx0 (gce_DiskFile hx0.1) rfl 3 (by decide) (hts _ (List.mem_cons_of_mem _ gw_218)) rfl (by decide +kernel) rfl rfl (Nat.le_of_ble_eq_true rfl) (gp_DiskFile_low hx0.1) gce_gset d_DiskFile_settle_23 (fun H locs hP hS => ?_)
  obtain ⟨S2, eS2⟩ : ∃ z, z = gset S1 x0 3 (S1.1 (grf x0 1) 2) := ⟨_, rfl⟩
  rw [← eS2] at hP
  replace hw := hw S2 eS2
  exact W.vret hx hb hr (fun t ht hW => ⟨⟨S2, rfl, hw, by rw [ht]; exact hP, va_K.moved hW.alike hK⟩, hS.F ht⟩) hS.2.2 d_DiskFile_settle_26
set_option maxHeartbeats 4000000 in
set_option maxRecDepth 100000 in
theorem k_DiskFile_settle (l : Launch) (Y : gY) (hY : gOK Y) (sz : Nat) (x0 : gI)  (hx0 : gis Y 1 x0) (S : gS) (Q : gS → Prop) : Met l y_DiskFile_settle w_DiskFile_settle (gRm 3 69) (gPre Y [.ref (gad Y x0)] S sz (wp_DiskFile_settle (gLn Y) Q x0 S)) (va_Qv Q (gB Y) (gA Y sz)) 0 0 (gA Y sz) := by
  refine Met.ofW (cc := c_DiskFile_settle) (maxL := 1) (ret := (Option.none : Option Jvm.ClassFile.FieldType)) (by decide) rfl ?_
  intro p e s m args below meth c s₁ B hml hv
  obtain ⟨rfl, hsz, hP, hK, hSt, hw⟩ := hv
  subst hsz
  have hts := atoms_spec (ws := w_DiskFile_settle) B.pre
  have hl := lv_entry ([.ref (gad Y x0)]) (n := 1) (Nat.le_of_ble_eq_true rfl)
  rw [lg_entry_eq]
  generalize (lg_sl ([.ref (gad Y x0)]) ++ List.replicate (1 - (lg_sl ([.ref (gad Y x0)])).length) Slot.unset).toArray = ls at hl ⊢
  exact mw_DiskFile_settle ⟨B.exec, B.bytes, hml, findClass_of_methodNamed B.named, hts, B.returns, B.notSynchronized, hK, hY, hSt⟩ x0 S s.heap [] ls hx0 hw hP va_S.rf hl

def wp_DiskFile_drawnKeep (Ln : gI → Nat) (Q : Int32 → gS → Prop) (x0 : gI) (x1 : Int64)  (S : gS) : Prop :=
  ((¬ (lg_cmp (ju_lushr x1 61) (0 : Int64)) = 0) → (∀ v3_2 : Int32, v3_2 = ((ju_lushr x1 33).toInt32) &&& 1048575 → (∀ v4_3 : Int32, v4_3 = (if 1 < ((2 * ((S.1 (grf x0 1) 2) - (S.1 x0 3))) + 1) then ((2 * ((S.1 (grf x0 1) 2) - (S.1 x0 3))) + 1) else 1) → ((¬ v4_3 = 0) ∧ (Q (1 + (v3_2 - v3_2 / v4_3 * v4_3)) S))))) ∧ (((lg_cmp (ju_lushr x1 61) (0 : Int64)) = 0) → (Q 0 S))
set_option maxHeartbeats 4000000 in
set_option maxRecDepth 100000 in
theorem mw_DiskFile_drawnKeep {p : Program} {l : Launch} {e : Env} {s : State} {m : MethodId} {args : Array Value} {below : List Frame} {meth : Method} {c : Code} {Y : gY} {Q : Int32 → gS → Prop} (C : gCx p s m args meth c Y "LogDisk$DiskFile" c_DiskFile_drawnKeep 5 (Option.some Jvm.ClassFile.FieldType.int) w_DiskFile_drawnKeep) : ∀ (x0 : gI) (x1 : Int64)  (S : gS) (H : Heap) (locs : List Loc) (ls : Array Slot), gis Y 1 x0 → wp_DiskFile_drawnKeep (gLn Y) Q x0 x1 S → gWd Y S H → va_S (gA Y s.heap.size) s.heap H locs → lv_has ls 5 [(0, .ref (gad Y x0)), (1, .long x1)] → W p l e (gRm 1 40) s m args below meth c H locs 0 0 (MQ below (va_Qi Q (gB Y) (gA Y s.heap.size)) args s 0 0 (gA Y s.heap.size)) (F0 m 0 ls []) := by
  have C0 := C
  obtain ⟨hx, hb, hml, hown, hts, hr, hlocks, hK, hY, hSt⟩ := C
  intro x0 x1 S H locs ls hx0 hw hP hS hl
  unfold wp_DiskFile_drawnKeep at hw
  refine lv_lload_n hx hb d_DiskFile_drawnKeep_0 rfl (lv_at hl 1 rfl) ?_
  refine lv_bipush (v := 61) hx hb d_DiskFile_drawnKeep_1 (by decide) ?_
  refine lv_lushr hx hb d_DiskFile_drawnKeep_3 rfl ?_
  refine lv_lconst (v := 0) hx hb d_DiskFile_drawnKeep_4 (by decide) ?_
  refine W.lcmp hx hb d_DiskFile_drawnKeep_5 ?_
  refine lv_if_ne (tgt := 11) hx hb d_DiskFile_drawnKeep_6 (by decide) (fun c1 => ?_) (fun c1 => ?_)
  · replace hw := hw.1 c1
    refine lv_lload_n hx hb d_DiskFile_drawnKeep_11 rfl (lv_at hl 1 rfl) ?_
    refine lv_bipush (v := 33) hx hb d_DiskFile_drawnKeep_12 (by decide) ?_
    refine lv_lushr hx hb d_DiskFile_drawnKeep_14 rfl ?_
    refine lv_l2i hx hb d_DiskFile_drawnKeep_15 rfl ?_
    refine lv_ldc (v := 1048575) hx hb hown (hts _ (List.mem_cons_of_mem _ gw_311)) d_DiskFile_drawnKeep_16 ?_
    refine lv_iand hx hb d_DiskFile_drawnKeep_18 ?_
    refine lv_topi (fun v3_2 ev3_2 => ?_)
    replace hw := hw v3_2 ev3_2
    refine lv_istore_n (lv' := [(3, .int v3_2), (0, .ref (gad Y x0)), (1, .long x1)]) hx hb d_DiskFile_drawnKeep_19 rfl hl (by decide) rfl (fun ls hl => ?_)
    refine lv_iconst (v := 1) hx hb d_DiskFile_drawnKeep_20 (by decide) ?_
    refine lv_iconst (v := 2) hx hb d_DiskFile_drawnKeep_21 (by decide) ?_
    refine lv_aload_n hx hb d_DiskFile_drawnKeep_22 rfl (lv_at hl 1 rfl) ?_
    refine g_get hx hb hts (fun w h => List.mem_cons_of_mem _ (in_DiskFile w h)) hown hK hP hx0 (gce_DiskFile hx0.1) rfl 1 (by decide) (hts _ (List.mem_cons_of_mem _ gw_214)) rfl d_DiskFile_drawnKeep_23 ?_
    refine g_get hx hb hts (fun w h => List.mem_cons_of_mem _ (in_Content w h)) hown hK hP (gis_DiskFile_now hY hx0) (gce_Content (gis_DiskFile_now hY hx0).1) rfl 2 (by decide) (hts _ (List.mem_cons_of_mem _ gw_204)) rfl d_DiskFile_drawnKeep_26 ?_
    refine lv_aload_n hx hb d_DiskFile_drawnKeep_29 rfl (lv_at hl 1 rfl) ?_
    refine g_get hx hb hts (fun w h => List.mem_cons_of_mem _ (in_DiskFile w h)) hown hK hP hx0 (gce_DiskFile hx0.1) rfl 3 (by decide) (hts _ (List.mem_cons_of_mem _ gw_218)) rfl d_DiskFile_drawnKeep_30 ?_
    refine lv_isub hx hb d_DiskFile_drawnKeep_33 ?_
    refine lv_imul hx hb d_DiskFile_drawnKeep_34 ?_
    refine lv_iconst (v := 1) hx hb d_DiskFile_drawnKeep_35 (by decide) ?_
    refine lv_iadd hx hb d_DiskFile_drawnKeep_36 ?_
    refine va_mmax hx hb (by rw [hml]; exact hl.1.symm) hown (hts _ (List.mem_cons_of_mem _ gw_312)) (hts _ (List.mem_cons_of_mem _ gw_164)) (hts _ (List.mem_cons_of_mem _ gw_8)) (hts _ (List.mem_cons_of_mem _ gw_165)) (Nat.le_of_ble_eq_true rfl) (Nat.le_of_ble_eq_true rfl) (Nat.zero_le _) (Nat.zero_le _) d_DiskFile_drawnKeep_37 ?_
    refine lv_topi (fun v4_3 ev4_3 => ?_)
    replace hw := hw v4_3 ev4_3
    refine lv_istore (lv' := [(4, .int v4_3), (3, .int v3_2), (0, .ref (gad Y x0)), (1, .long x1)]) hx hb d_DiskFile_drawnKeep_40 hl (by decide) rfl (fun ls hl => ?_)
    refine lv_iconst (v := 1) hx hb d_DiskFile_drawnKeep_42 (by decide) ?_
    refine lv_iload_n hx hb d_DiskFile_drawnKeep_43 rfl (lv_at hl 1 rfl) ?_
    refine lv_iload hx hb d_DiskFile_drawnKeep_44 (lv_at hl 0 rfl) ?_
    obtain ⟨hne, hw⟩ := hw
    refine lv_irem hx hb d_DiskFile_drawnKeep_46 hne ?_
    refine lv_iadd hx hb d_DiskFile_drawnKeep_47 ?_
    exact W.iret (v := (1 + (v3_2 - v3_2 / v4_3 * v4_3))) hx hb hr (fun t ht hW => ⟨⟨(1 + (v3_2 - v3_2 / v4_3 * v4_3)), S, rfl, hw, by rw [ht]; exact hP, va_K.moved hW.alike hK⟩, hS.F ht⟩) hS.2.2 d_DiskFile_drawnKeep_48
  · replace hw := hw.2 c1
    refine lv_iconst (v := 0) hx hb d_DiskFile_drawnKeep_9 (by decide) ?_
    exact W.iret (v := 0) hx hb hr (fun t ht hW => ⟨⟨0, S, rfl, hw, by rw [ht]; exact hP, va_K.moved hW.alike hK⟩, hS.F ht⟩) hS.2.2 d_DiskFile_drawnKeep_10
set_option maxHeartbeats 4000000 in
set_option maxRecDepth 100000 in
theorem k_DiskFile_drawnKeep (l : Launch) (Y : gY) (hY : gOK Y) (sz : Nat) (x0 : gI) (x1 : Int64)  (hx0 : gis Y 1 x0) (S : gS) (Q : Int32 → gS → Prop) : Met l y_DiskFile_drawnKeep w_DiskFile_drawnKeep (gRm 1 40) (gPre Y [.ref (gad Y x0), .long x1] S sz (wp_DiskFile_drawnKeep (gLn Y) Q x0 x1 S)) (va_Qi Q (gB Y) (gA Y sz)) 0 0 (gA Y sz) := by
  refine Met.ofW (cc := c_DiskFile_drawnKeep) (maxL := 5) (ret := (Option.some Jvm.ClassFile.FieldType.int)) (by decide) rfl ?_
  intro p e s m args below meth c s₁ B hml hv
  obtain ⟨rfl, hsz, hP, hK, hSt, hw⟩ := hv
  subst hsz
  have hts := atoms_spec (ws := w_DiskFile_drawnKeep) B.pre
  have hl := lv_entry ([.ref (gad Y x0), .long x1]) (n := 5) (Nat.le_of_ble_eq_true rfl)
  rw [lg_entry_eq]
  generalize (lg_sl ([.ref (gad Y x0), .long x1]) ++ List.replicate (5 - (lg_sl ([.ref (gad Y x0), .long x1])).length) Slot.unset).toArray = ls at hl ⊢
  exact mw_DiskFile_drawnKeep ⟨B.exec, B.bytes, hml, findClass_of_methodNamed B.named, hts, B.returns, B.notSynchronized, hK, hY, hSt⟩ x0 x1 S s.heap [] ls hx0 hw hP va_S.rf hl

def wp_DiskFile_fail_52 (Ln : gI → Nat) (Q : gS → Prop) (x0 : gI)  (S : gS) : Prop :=
  wp_DiskFile_settle Ln (fun S4 => Q S4) x0 S
def wp_DiskFile_fail (Ln : gI → Nat) (Q : gS → Prop) (x0 : gI) (x1 : Int32)  (S : gS) : Prop :=
  ((¬ x1 = 0) → (∀ v2_2 : Int64, v2_2 = (((S.1 x0 3).toInt64) + (x1.toInt64)) - (1 : Int64) → (((0 ≤ (lg_cmp v2_2 ((S.1 (grf x0 1) 2).toInt64))) → (wp_DiskFile_fail_52 Ln Q x0 S)) ∧ ((¬ 0 ≤ (lg_cmp v2_2 ((S.1 (grf x0 1) 2).toInt64))) → (wp_DiskFile_cutTo Ln (fun S5 => wp_DiskFile_fail_52 Ln Q x0 S5) x0 (v2_2.toInt32) S))))) ∧ ((x1 = 0) → (wp_Content_become Ln (fun S6 => wp_DiskFile_fail_52 Ln Q x0 S6) (grf x0 1) (grf x0 2) (grf x0 0) S))
set_option maxHeartbeats 4000000 in
set_option maxRecDepth 100000 in
theorem mw_DiskFile_fail_52 {p : Program} {l : Launch} {e : Env} {s : State} {m : MethodId} {args : Array Value} {below : List Frame} {meth : Method} {c : Code} {Y : gY} {Q : gS → Prop} (C : gCx p s m args meth c Y "LogDisk$DiskFile" c_DiskFile_fail 4 (Option.none : Option Jvm.ClassFile.FieldType) w_DiskFile_fail) : ∀ (x0 : gI)  (S : gS) (H : Heap) (locs : List Loc) (ls : Array Slot), gis Y 1 x0 → wp_DiskFile_fail_52 (gLn Y) Q x0 S → gWd Y S H → va_S (gA Y s.heap.size) s.heap H locs → lv_has ls 4 [(0, .ref (gad Y x0))] → W p l e (gRm 4 89) s m args below meth c H locs 0 0 (MQ below (va_Qv Q (gB Y) (gA Y s.heap.size)) args s 0 0 (gA Y s.heap.size)) (F0 m 52 ls []) := by
  have C0 := C
  obtain ⟨hx, hb, hml, hown, hts, hr, hlocks, hK, hY, hSt⟩ := C
  intro x0 S H locs ls hx0 hw hP hS hl
  unfold wp_DiskFile_fail_52 at hw
  refine lv_aload_n hx hb d_DiskFile_fail_52 rfl (lv_at hl 0 rfl) ?_
  refine g_callv (va_runV (As := []) (rest := []) ⟨hx, hb, hml, hown, hts⟩ (k_DiskFile_settle l Y hY H.size x0 hx0 S _) (cwV 0 hts (gG_V gw_323 gw_275 gw_276 gw_10 gw_277) rfl rfl rfl (by decide +kernel) ⟨Nat.le_of_ble_eq_true rfl, Nat.le_of_ble_eq_true rfl⟩) ⟨gPre_blind, g_recv hK hP hx0 (gce_DiskFile hx0.1) rfl, g_pre hK hSt hS hP hw⟩ rfl rfl hl.1 rfl (lv_room (Nat.le_of_ble_eq_true rfl)) d_DiskFile_fail_53 ⟨Nat.zero_le _, Nat.zero_le _⟩) hS (fun S4 H locs hw hP hS => ?_)
  exact W.vret hx hb hr (fun t ht hW => ⟨⟨S4, rfl, hw, by rw [ht]; exact hP, va_K.moved hW.alike hK⟩, hS.F ht⟩) hS.2.2 d_DiskFile_fail_56
set_option maxHeartbeats 4000000 in
set_option maxRecDepth 100000 in
theorem mw_DiskFile_fail {p : Program} {l : Launch} {e : Env} {s : State} {m : MethodId} {args : Array Value} {below : List Frame} {meth : Method} {c : Code} {Y : gY} {Q : gS → Prop} (C : gCx p s m args meth c Y "LogDisk$DiskFile" c_DiskFile_fail 4 (Option.none : Option Jvm.ClassFile.FieldType) w_DiskFile_fail) : ∀ (x0 : gI) (x1 : Int32)  (S : gS) (H : Heap) (locs : List Loc) (ls : Array Slot), gis Y 1 x0 → wp_DiskFile_fail (gLn Y) Q x0 x1 S → gWd Y S H → va_S (gA Y s.heap.size) s.heap H locs → lv_has ls 4 [(0, .ref (gad Y x0)), (1, .int x1)] → W p l e (gRm 4 89) s m args below meth c H locs 0 0 (MQ below (va_Qv Q (gB Y) (gA Y s.heap.size)) args s 0 0 (gA Y s.heap.size)) (F0 m 0 ls []) := by
  have C0 := C
  obtain ⟨hx, hb, hml, hown, hts, hr, hlocks, hK, hY, hSt⟩ := C
  intro x0 x1 S H locs ls hx0 hw hP hS hl
  unfold wp_DiskFile_fail at hw
  refine lv_iload_n hx hb d_DiskFile_fail_0 rfl (lv_at hl 1 rfl) ?_
  refine lv_if_ne (tgt := 22) hx hb d_DiskFile_fail_1 (by decide) (fun c1 => ?_) (fun c1 => ?_)
  · replace hw := hw.1 c1
    refine lv_aload_n hx hb d_DiskFile_fail_22 rfl (lv_at hl 0 rfl) ?_
    refine g_get hx hb hts (fun w h => List.mem_cons_of_mem _ (in_DiskFile w h)) hown hK hP hx0 (gce_DiskFile hx0.1) rfl 3 (by decide) (hts _ (List.mem_cons_of_mem _ gw_218)) rfl d_DiskFile_fail_23 ?_
    refine lv_i2l hx hb d_DiskFile_fail_26 rfl ?_
    refine lv_iload_n hx hb d_DiskFile_fail_27 rfl (lv_at hl 1 rfl) ?_
    refine lv_i2l hx hb d_DiskFile_fail_28 rfl ?_
    refine lv_ladd hx hb d_DiskFile_fail_29 ?_
    refine lv_lconst (v := 1) hx hb d_DiskFile_fail_30 (by decide) ?_
    refine lv_lsub hx hb d_DiskFile_fail_31 ?_
    refine lv_topl (fun v2_2 ev2_2 => ?_)
    replace hw := hw v2_2 ev2_2
    refine lv_lstore_n (lv' := [(2, .long v2_2), (0, .ref (gad Y x0)), (1, .int x1)]) hx hb d_DiskFile_fail_32 rfl hl (by decide) rfl (fun ls hl => ?_)
    refine lv_lload_n hx hb d_DiskFile_fail_33 rfl (lv_at hl 0 rfl) ?_
    refine lv_aload_n hx hb d_DiskFile_fail_34 rfl (lv_at hl 1 rfl) ?_
    refine g_get hx hb hts (fun w h => List.mem_cons_of_mem _ (in_DiskFile w h)) hown hK hP hx0 (gce_DiskFile hx0.1) rfl 1 (by decide) (hts _ (List.mem_cons_of_mem _ gw_214)) rfl d_DiskFile_fail_35 ?_
    refine g_get hx hb hts (fun w h => List.mem_cons_of_mem _ (in_Content w h)) hown hK hP (gis_DiskFile_now hY hx0) (gce_Content (gis_DiskFile_now hY hx0).1) rfl 2 (by decide) (hts _ (List.mem_cons_of_mem _ gw_204)) rfl d_DiskFile_fail_38 ?_
    refine lv_i2l hx hb d_DiskFile_fail_41 rfl ?_
    refine W.lcmp hx hb d_DiskFile_fail_42 ?_
    refine lv_if_ge (tgt := 52) hx hb d_DiskFile_fail_43 (by decide) (fun c3 => ?_) (fun c3 => ?_)
    · replace hw := hw.1 c3
      exact mw_DiskFile_fail_52 C0 x0 S H locs ls hx0 hw hP hS (lv_sub hl [1] rfl)
    · replace hw := hw.2 c3
      refine lv_aload_n hx hb d_DiskFile_fail_46 rfl (lv_at hl 1 rfl) ?_
      refine lv_lload_n hx hb d_DiskFile_fail_47 rfl (lv_at hl 0 rfl) ?_
      refine lv_l2i hx hb d_DiskFile_fail_48 rfl ?_
      refine g_callv (va_runV (As := [.int (v2_2.toInt32)]) (rest := []) ⟨hx, hb, hml, hown, hts⟩ (k_DiskFile_cutTo l Y hY H.size x0 (v2_2.toInt32) hx0 S _) (cwV 1 hts (gG_V gw_317 gw_318 gw_319 gw_10 gw_320) rfl rfl rfl (by decide +kernel) ⟨Nat.le_of_ble_eq_true rfl, Nat.le_of_ble_eq_true rfl⟩) ⟨gPre_blind, g_recv hK hP hx0 (gce_DiskFile hx0.1) rfl, g_pre hK hSt hS hP hw⟩ rfl rfl hl.1 rfl (lv_room (Nat.le_of_ble_eq_true rfl)) d_DiskFile_fail_49 ⟨Nat.zero_le _, Nat.zero_le _⟩) hS (fun S5 H locs hw hP hS => ?_)
      exact mw_DiskFile_fail_52 C0 x0 S5 H locs ls hx0 hw hP hS (lv_sub hl [1] rfl)
  · replace hw := hw.2 c1
    refine lv_aload_n hx hb d_DiskFile_fail_4 rfl (lv_at hl 0 rfl) ?_
    refine g_get hx hb hts (fun w h => List.mem_cons_of_mem _ (in_DiskFile w h)) hown hK hP hx0 (gce_DiskFile hx0.1) rfl 1 (by decide) (hts _ (List.mem_cons_of_mem _ gw_214)) rfl d_DiskFile_fail_5 ?_
    refine lv_aload_n hx hb d_DiskFile_fail_8 rfl (lv_at hl 0 rfl) ?_
    refine g_get hx hb hts (fun w h => List.mem_cons_of_mem _ (in_DiskFile w h)) hown hK hP hx0 (gce_DiskFile hx0.1) rfl 2 (by decide) (hts _ (List.mem_cons_of_mem _ gw_216)) rfl d_DiskFile_fail_9 ?_
    refine lv_aload_n hx hb d_DiskFile_fail_12 rfl (lv_at hl 0 rfl) ?_
    refine g_get hx hb hts (fun w h => List.mem_cons_of_mem _ (in_DiskFile w h)) hown hK hP hx0 (gce_DiskFile hx0.1) rfl 0 (by decide) (hts _ (List.mem_cons_of_mem _ gw_213)) rfl d_DiskFile_fail_13 ?_
    refine g_callv (va_runV (As := [.ref (gad Y (grf x0 2)), .ref (gad Y (grf x0 0))]) (rest := []) ⟨hx, hb, hml, hown, hts⟩ (k_Content_become l Y hY H.size (grf x0 1) (grf x0 2) (grf x0 0) (gis_DiskFile_now hY hx0) (gis_DiskFile_synced hY hx0) (gis_DiskFile_pages hY hx0) S _) (cwV 2 hts (gG_V gw_278 gw_279 gw_280 gw_11 gw_281) rfl rfl rfl (by decide +kernel) ⟨Nat.le_of_ble_eq_true rfl, Nat.le_of_ble_eq_true rfl⟩) ⟨gPre_blind, g_recv hK hP (gis_DiskFile_now hY hx0) (gce_Content (gis_DiskFile_now hY hx0).1) rfl, g_pre hK hSt hS hP hw⟩ rfl rfl hl.1 rfl (lv_room (Nat.le_of_ble_eq_true rfl)) d_DiskFile_fail_16 ⟨Nat.zero_le _, Nat.zero_le _⟩) hS (fun S6 H locs hw hP hS => ?_)
    refine lv_goto (tgt := 52) hx hb d_DiskFile_fail_19 (by decide) ?_
    exact mw_DiskFile_fail_52 C0 x0 S6 H locs ls hx0 hw hP hS (lv_sub hl [0] rfl)
set_option maxHeartbeats 4000000 in
set_option maxRecDepth 100000 in
theorem k_DiskFile_fail (l : Launch) (Y : gY) (hY : gOK Y) (sz : Nat) (x0 : gI) (x1 : Int32)  (hx0 : gis Y 1 x0) (S : gS) (Q : gS → Prop) : Met l y_DiskFile_fail w_DiskFile_fail (gRm 4 89) (gPre Y [.ref (gad Y x0), .int x1] S sz (wp_DiskFile_fail (gLn Y) Q x0 x1 S)) (va_Qv Q (gB Y) (gA Y sz)) 0 0 (gA Y sz) := by
  refine Met.ofW (cc := c_DiskFile_fail) (maxL := 4) (ret := (Option.none : Option Jvm.ClassFile.FieldType)) (by decide) rfl ?_
  intro p e s m args below meth c s₁ B hml hv
  obtain ⟨rfl, hsz, hP, hK, hSt, hw⟩ := hv
  subst hsz
  have hts := atoms_spec (ws := w_DiskFile_fail) B.pre
  have hl := lv_entry ([.ref (gad Y x0), .int x1]) (n := 4) (Nat.le_of_ble_eq_true rfl)
  rw [lg_entry_eq]
  generalize (lg_sl ([.ref (gad Y x0), .int x1]) ++ List.replicate (4 - (lg_sl ([.ref (gad Y x0), .int x1])).length) Slot.unset).toArray = ls at hl ⊢
  exact mw_DiskFile_fail ⟨B.exec, B.bytes, hml, findClass_of_methodNamed B.named, hts, B.returns, B.notSynchronized, hK, hY, hSt⟩ x0 x1 S s.heap [] ls hx0 hw hP va_S.rf hl

def wp_DiskFile_read (Ln : gI → Nat) (Q : Int32 → gS → Prop) (x0 : gI) (x1 : Int32)  (S : gS) : Prop :=
  ((x1 < 0) → (Q 0 S)) ∧ ((¬ x1 < 0) → ((((S.1 (grf x0 1) 2) ≤ x1) → (Q 0 S)) ∧ ((¬ (S.1 (grf x0 1) 2) ≤ x1) → ((((x1 / 64) < (Int32.ofNat (Ln (grf (grf x0 1) 0)))) → (vp_in (x1 / 64) (Ln (grf (grf x0 1) 0)) ∧ (vp_in (((S.1 (grf (grf x0 1) 0) (x1 / 64).toNatClampNeg) * 64) + (x1 - x1 / 64 * 64)) (Ln (grf (grf x0 0) 0)) ∧ (Q ((S.1 (grf (grf x0 0) 0) (((S.1 (grf (grf x0 1) 0) (x1 / 64).toNatClampNeg) * 64) + (x1 - x1 / 64 * 64)).toNatClampNeg) &&& 255) S)))) ∧ ((¬ (x1 / 64) < (Int32.ofNat (Ln (grf (grf x0 1) 0)))) → (Q 0 S))))))
set_option maxHeartbeats 4000000 in
set_option maxRecDepth 100000 in
theorem mw_DiskFile_read {p : Program} {l : Launch} {e : Env} {s : State} {m : MethodId} {args : Array Value} {below : List Frame} {meth : Method} {c : Code} {Y : gY} {Q : Int32 → gS → Prop} (C : gCx p s m args meth c Y "LogDisk$DiskFile" c_DiskFile_read 2 (Option.some Jvm.ClassFile.FieldType.int) w_DiskFile_read) : ∀ (x0 : gI) (x1 : Int32)  (S : gS) (H : Heap) (locs : List Loc) (ls : Array Slot), gis Y 1 x0 → wp_DiskFile_read (gLn Y) Q x0 x1 S → gWd Y S H → va_S (gA Y s.heap.size) s.heap H locs → lv_has ls 2 [(0, .ref (gad Y x0)), (1, .int x1)] → W p l e (gRm 0 0) s m args below meth c H locs 0 0 (MQ below (va_Qi Q (gB Y) (gA Y s.heap.size)) args s 0 0 (gA Y s.heap.size)) (F0 m 0 ls []) := by
  have C0 := C
  obtain ⟨hx, hb, hml, hown, hts, hr, hlocks, hK, hY, hSt⟩ := C
  intro x0 x1 S H locs ls hx0 hw hP hS hl
  unfold wp_DiskFile_read at hw
  refine lv_iload_n hx hb d_DiskFile_read_0 rfl (lv_at hl 1 rfl) ?_
  refine lv_if_lt (tgt := 30) hx hb d_DiskFile_read_1 (by decide) (fun c1 => ?_) (fun c1 => ?_)
  · replace hw := hw.1 c1
    refine lv_iconst (v := 0) hx hb d_DiskFile_read_30 (by decide) ?_
    exact W.iret (v := 0) hx hb hr (fun t ht hW => ⟨⟨0, S, rfl, hw, by rw [ht]; exact hP, va_K.moved hW.alike hK⟩, hS.F ht⟩) hS.2.2 d_DiskFile_read_31
  · replace hw := hw.2 c1
    refine lv_iload_n hx hb d_DiskFile_read_4 rfl (lv_at hl 1 rfl) ?_
    refine lv_aload_n hx hb d_DiskFile_read_5 rfl (lv_at hl 0 rfl) ?_
    refine g_get hx hb hts (fun w h => List.mem_cons_of_mem _ (in_DiskFile w h)) hown hK hP hx0 (gce_DiskFile hx0.1) rfl 1 (by decide) (hts _ (List.mem_cons_of_mem _ gw_214)) rfl d_DiskFile_read_6 ?_
    refine g_get hx hb hts (fun w h => List.mem_cons_of_mem _ (in_Content w h)) hown hK hP (gis_DiskFile_now hY hx0) (gce_Content (gis_DiskFile_now hY hx0).1) rfl 2 (by decide) (hts _ (List.mem_cons_of_mem _ gw_204)) rfl d_DiskFile_read_9 ?_
    refine lv_icmp_ge (tgt := 30) hx hb d_DiskFile_read_12 (by decide) (fun c2 => ?_) (fun c2 => ?_)
    · replace hw := hw.1 c2
      refine lv_iconst (v := 0) hx hb d_DiskFile_read_30 (by decide) ?_
      exact W.iret (v := 0) hx hb hr (fun t ht hW => ⟨⟨0, S, rfl, hw, by rw [ht]; exact hP, va_K.moved hW.alike hK⟩, hS.F ht⟩) hS.2.2 d_DiskFile_read_31
    · replace hw := hw.2 c2
      refine lv_iload_n hx hb d_DiskFile_read_15 rfl (lv_at hl 1 rfl) ?_
      refine lv_bipush (v := 64) hx hb d_DiskFile_read_16 (by decide) ?_
      refine lv_idiv hx hb d_DiskFile_read_18 (by decide) ?_
      refine lv_aload_n hx hb d_DiskFile_read_19 rfl (lv_at hl 0 rfl) ?_
      refine g_get hx hb hts (fun w h => List.mem_cons_of_mem _ (in_DiskFile w h)) hown hK hP hx0 (gce_DiskFile hx0.1) rfl 1 (by decide) (hts _ (List.mem_cons_of_mem _ gw_214)) rfl d_DiskFile_read_20 ?_
      refine g_get hx hb hts (fun w h => List.mem_cons_of_mem _ (in_Content w h)) hown hK hP (gis_DiskFile_now hY hx0) (gce_Content (gis_DiskFile_now hY hx0).1) rfl 0 (by decide) (hts _ (List.mem_cons_of_mem _ gw_199)) rfl d_DiskFile_read_23 ?_
      refine g_alenI hx hb hK hP (gis_Content_row hY (gis_DiskFile_now hY hx0)) d_DiskFile_read_26 ?_
      refine lv_icmp_lt (tgt := 32) hx hb d_DiskFile_read_27 (by decide) (fun c3 => ?_) (fun c3 => ?_)
      · replace hw := hw.1 c3
        refine lv_aload_n hx hb d_DiskFile_read_32 rfl (lv_at hl 0 rfl) ?_
        refine g_get hx hb hts (fun w h => List.mem_cons_of_mem _ (in_DiskFile w h)) hown hK hP hx0 (gce_DiskFile hx0.1) rfl 0 (by decide) (hts _ (List.mem_cons_of_mem _ gw_213)) rfl d_DiskFile_read_33 ?_
        refine g_get hx hb hts (fun w h => List.mem_cons_of_mem _ (in_Pages w h)) hown hK hP (gis_DiskFile_pages hY hx0) (gce_Pages (gis_DiskFile_pages hY hx0).1) rfl 0 (by decide) (hts _ (List.mem_cons_of_mem _ gw_173)) rfl d_DiskFile_read_36 ?_
        refine lv_aload_n hx hb d_DiskFile_read_39 rfl (lv_at hl 0 rfl) ?_
        refine g_get hx hb hts (fun w h => List.mem_cons_of_mem _ (in_DiskFile w h)) hown hK hP hx0 (gce_DiskFile hx0.1) rfl 1 (by decide) (hts _ (List.mem_cons_of_mem _ gw_214)) rfl d_DiskFile_read_40 ?_
        refine g_get hx hb hts (fun w h => List.mem_cons_of_mem _ (in_Content w h)) hown hK hP (gis_DiskFile_now hY hx0) (gce_Content (gis_DiskFile_now hY hx0).1) rfl 0 (by decide) (hts _ (List.mem_cons_of_mem _ gw_199)) rfl d_DiskFile_read_43 ?_
        refine lv_iload_n hx hb d_DiskFile_read_46 rfl (lv_at hl 1 rfl) ?_
        refine lv_bipush (v := 64) hx hb d_DiskFile_read_47 (by decide) ?_
        refine lv_idiv hx hb d_DiskFile_read_49 (by decide) ?_
        obtain ⟨hin, hw⟩ := hw
        refine g_iaload hx hb hK hP (gis_Content_row hY (gis_DiskFile_now hY hx0)) hin d_DiskFile_read_50 ?_
        refine lv_bipush (v := 64) hx hb d_DiskFile_read_51 (by decide) ?_
        refine lv_imul hx hb d_DiskFile_read_53 ?_
        refine lv_iload_n hx hb d_DiskFile_read_54 rfl (lv_at hl 1 rfl) ?_
        refine lv_bipush (v := 64) hx hb d_DiskFile_read_55 (by decide) ?_
        refine lv_irem hx hb d_DiskFile_read_57 (by decide) ?_
        refine lv_iadd hx hb d_DiskFile_read_58 ?_
        obtain ⟨hin, hw⟩ := hw
        refine g_baload hx hb hK hP (gis_Pages_bytes hY (gis_DiskFile_pages hY hx0)) hin d_DiskFile_read_59 ?_
        refine lv_sipush (v := 255) hx hb d_DiskFile_read_60 (by decide) ?_
        refine lv_iand hx hb d_DiskFile_read_63 ?_
        exact W.iret (v := ((S.1 (grf (grf x0 0) 0) (((S.1 (grf (grf x0 1) 0) (x1 / 64).toNatClampNeg) * 64) + (x1 - x1 / 64 * 64)).toNatClampNeg) &&& 255)) hx hb hr (fun t ht hW => ⟨⟨((S.1 (grf (grf x0 0) 0) (((S.1 (grf (grf x0 1) 0) (x1 / 64).toNatClampNeg) * 64) + (x1 - x1 / 64 * 64)).toNatClampNeg) &&& 255), S, rfl, hw, by rw [ht]; exact hP, va_K.moved hW.alike hK⟩, hS.F ht⟩) hS.2.2 d_DiskFile_read_64
      · replace hw := hw.2 c3
        refine lv_iconst (v := 0) hx hb d_DiskFile_read_30 (by decide) ?_
        exact W.iret (v := 0) hx hb hr (fun t ht hW => ⟨⟨0, S, rfl, hw, by rw [ht]; exact hP, va_K.moved hW.alike hK⟩, hS.F ht⟩) hS.2.2 d_DiskFile_read_31
set_option maxHeartbeats 4000000 in
set_option maxRecDepth 100000 in
theorem k_DiskFile_read (l : Launch) (Y : gY) (hY : gOK Y) (sz : Nat) (x0 : gI) (x1 : Int32)  (hx0 : gis Y 1 x0) (S : gS) (Q : Int32 → gS → Prop) : Met l y_DiskFile_read w_DiskFile_read (gRm 0 0) (gPre Y [.ref (gad Y x0), .int x1] S sz (wp_DiskFile_read (gLn Y) Q x0 x1 S)) (va_Qi Q (gB Y) (gA Y sz)) 0 0 (gA Y sz) := by
  refine Met.ofW (cc := c_DiskFile_read) (maxL := 2) (ret := (Option.some Jvm.ClassFile.FieldType.int)) (by decide) rfl ?_
  intro p e s m args below meth c s₁ B hml hv
  obtain ⟨rfl, hsz, hP, hK, hSt, hw⟩ := hv
  subst hsz
  have hts := atoms_spec (ws := w_DiskFile_read) B.pre
  have hl := lv_entry ([.ref (gad Y x0), .int x1]) (n := 2) (Nat.le_of_ble_eq_true rfl)
  rw [lg_entry_eq]
  generalize (lg_sl ([.ref (gad Y x0), .int x1]) ++ List.replicate (2 - (lg_sl ([.ref (gad Y x0), .int x1])).length) Slot.unset).toArray = ls at hl ⊢
  exact mw_DiskFile_read ⟨B.exec, B.bytes, hml, findClass_of_methodNamed B.named, hts, B.returns, B.notSynchronized, hK, hY, hSt⟩ x0 x1 S s.heap [] ls hx0 hw hP va_S.rf hl

def wp_DiskFile_number_7 (Ln : gI → Nat) (Q : Int64 → gS → Prop) : Nat → gI → Int32 → Int64 → Int32 → gS → Prop
  | 0, _, _, _, _, _ => False
  | n7 + 1, x0, x1, x3, x5, S => ((x5 < 0) → (Q x3 S)) ∧ ((¬ x5 < 0) → (wp_DiskFile_read Ln (fun r4 S3 => ∀ v3_5 : Int64, v3_5 = (ju_lshl x3 8) ||| (r4.toInt64) → (∀ v5_6 : Int32, v5_6 = x5 + (-1 : Int32) → (wp_DiskFile_number_7 Ln Q n7 x0 x1 v3_5 v5_6 S3))) x0 (x1 + x5) S))
def wp_DiskFile_number (Ln : gI → Nat) (Q : Int64 → gS → Prop) (x0 : gI) (x1 : Int32) (x2 : Int32)  (S : gS) : Prop :=
  ∀ v5_1 : Int32, v5_1 = x2 - 1 → (∃ n7 : Nat, wp_DiskFile_number_7 Ln Q n7 x0 x1 (0 : Int64) v5_1 S)
set_option maxHeartbeats 4000000 in
set_option maxRecDepth 100000 in
theorem mw_DiskFile_number_7 {p : Program} {l : Launch} {e : Env} {s : State} {m : MethodId} {args : Array Value} {below : List Frame} {meth : Method} {c : Code} {Y : gY} {Q : Int64 → gS → Prop} (C : gCx p s m args meth c Y "LogDisk$DiskFile" c_DiskFile_number 6 (Option.some Jvm.ClassFile.FieldType.long) w_DiskFile_number) : ∀ (n : Nat), ∀ (x0 : gI) (x1 : Int32) (x3 : Int64) (x5 : Int32)  (S : gS) (H : Heap) (locs : List Loc) (ls : Array Slot), gis Y 1 x0 → wp_DiskFile_number_7 (gLn Y) Q n x0 x1 x3 x5 S → gWd Y S H → va_S (gA Y s.heap.size) s.heap H locs → lv_has ls 6 [(0, .ref (gad Y x0)), (1, .int x1), (3, .long x3), (5, .int x5)] → W p l e (gRm 1 21) s m args below meth c H locs 0 0 (MQ below (va_Ql Q (gB Y) (gA Y s.heap.size)) args s 0 0 (gA Y s.heap.size)) (F0 m 7 ls []) := by
  have C0 := C
  obtain ⟨hx, hb, hml, hown, hts, hr, hlocks, hK, hY, hSt⟩ := C
  intro n
  induction n with
  | zero =>
    intro x0 x1 x3 x5 S H locs ls hx0 hw
    exact False.elim hw
  | succ n ih =>
    intro x0 x1 x3 x5 S H locs ls hx0 hw hP hS hl
    unfold wp_DiskFile_number_7 at hw
    refine lv_iload hx hb d_DiskFile_number_7 (lv_at hl 3 rfl) ?_
    refine lv_if_lt (tgt := 33) hx hb d_DiskFile_number_9 (by decide) (fun c2 => ?_) (fun c2 => ?_)
    · replace hw := hw.1 c2
      refine lv_lload_n hx hb d_DiskFile_number_33 rfl (lv_at hl 2 rfl) ?_
      exact W.lret (v := x3) hx hb hr (fun t ht hW => ⟨⟨x3, S, rfl, hw, by rw [ht]; exact hP, va_K.moved hW.alike hK⟩, hS.F ht⟩) hS.2.2 d_DiskFile_number_34
    · replace hw := hw.2 c2
      refine lv_lload_n hx hb d_DiskFile_number_12 rfl (lv_at hl 2 rfl) ?_
      refine lv_bipush (v := 8) hx hb d_DiskFile_number_13 (by decide) ?_
      refine lv_lshl hx hb d_DiskFile_number_15 rfl ?_
      refine lv_aload_n hx hb d_DiskFile_number_16 rfl (lv_at hl 0 rfl) ?_
      refine lv_iload_n hx hb d_DiskFile_number_17 rfl (lv_at hl 1 rfl) ?_
      refine lv_iload hx hb d_DiskFile_number_18 (lv_at hl 3 rfl) ?_
      refine lv_iadd hx hb d_DiskFile_number_20 ?_
      refine g_calli (va_runV (As := [.int (x1 + x5)]) (rest := [.long (ju_lshl x3 8)]) ⟨hx, hb, hml, hown, hts⟩ (k_DiskFile_read l Y hY H.size x0 (x1 + x5) hx0 S _) (cwV 1 hts (gG_V gw_344 gw_345 gw_346 gw_10 gw_347) rfl rfl rfl (by decide +kernel) ⟨Nat.le_of_ble_eq_true rfl, Nat.le_of_ble_eq_true rfl⟩) ⟨gPre_blind, g_recv hK hP hx0 (gce_DiskFile hx0.1) rfl, g_pre hK hSt hS hP hw⟩ rfl rfl hl.1 rfl (lv_room (Nat.le_of_ble_eq_true rfl)) d_DiskFile_number_21 ⟨Nat.zero_le _, Nat.zero_le _⟩) hS (fun r4 S3 H locs hw hP hS => ?_)
      refine lv_i2l hx hb d_DiskFile_number_24 rfl ?_
      refine lv_lor hx hb d_DiskFile_number_25 ?_
      refine lv_topl (fun v3_5 ev3_5 => ?_)
      replace hw := hw v3_5 ev3_5
      refine lv_lstore_n (lv' := [(3, .long v3_5), (0, .ref (gad Y x0)), (1, .int x1), (5, .int x5)]) hx hb d_DiskFile_number_26 rfl hl (by decide) rfl (fun ls hl => ?_)
      obtain ⟨v5_6, ev5_6⟩ : ∃ y : Int32, y = x5 + (-1 : Int32) := ⟨_, rfl⟩
      replace hw := hw v5_6 ev5_6
      refine lv_iinc (v := v5_6) (lv' := [(5, .int v5_6), (3, .long v3_5), (0, .ref (gad Y x0)), (1, .int x1)]) hx hb d_DiskFile_number_27 hl (k := 3) rfl (by rw [ev5_6]; rfl) (by decide) rfl (fun ls hl => ?_)
      refine lv_goto (tgt := 7) hx hb d_DiskFile_number_30 (by decide) ?_
      exact ih x0 x1 v3_5 v5_6 S3 H locs ls hx0 hw hP hS (lv_sub hl [2, 3, 1, 0] rfl)
set_option maxHeartbeats 4000000 in
set_option maxRecDepth 100000 in
theorem mw_DiskFile_number {p : Program} {l : Launch} {e : Env} {s : State} {m : MethodId} {args : Array Value} {below : List Frame} {meth : Method} {c : Code} {Y : gY} {Q : Int64 → gS → Prop} (C : gCx p s m args meth c Y "LogDisk$DiskFile" c_DiskFile_number 6 (Option.some Jvm.ClassFile.FieldType.long) w_DiskFile_number) : ∀ (x0 : gI) (x1 : Int32) (x2 : Int32)  (S : gS) (H : Heap) (locs : List Loc) (ls : Array Slot), gis Y 1 x0 → wp_DiskFile_number (gLn Y) Q x0 x1 x2 S → gWd Y S H → va_S (gA Y s.heap.size) s.heap H locs → lv_has ls 6 [(0, .ref (gad Y x0)), (1, .int x1), (2, .int x2)] → W p l e (gRm 1 21) s m args below meth c H locs 0 0 (MQ below (va_Ql Q (gB Y) (gA Y s.heap.size)) args s 0 0 (gA Y s.heap.size)) (F0 m 0 ls []) := by
  have C0 := C
  obtain ⟨hx, hb, hml, hown, hts, hr, hlocks, hK, hY, hSt⟩ := C
  intro x0 x1 x2 S H locs ls hx0 hw hP hS hl
  unfold wp_DiskFile_number at hw
  refine lv_lconst (v := 0) hx hb d_DiskFile_number_0 (by decide) ?_
  refine lv_lstore_n (lv' := [(3, .long (0 : Int64)), (0, .ref (gad Y x0)), (1, .int x1), (2, .int x2)]) hx hb d_DiskFile_number_1 rfl hl (by decide) rfl (fun ls hl => ?_)
  refine lv_iload_n hx hb d_DiskFile_number_2 rfl (lv_at hl 3 rfl) ?_
  refine lv_iconst (v := 1) hx hb d_DiskFile_number_3 (by decide) ?_
  refine lv_isub hx hb d_DiskFile_number_4 ?_
  refine lv_topi (fun v5_1 ev5_1 => ?_)
  replace hw := hw v5_1 ev5_1
  refine lv_istore (lv' := [(5, .int v5_1), (3, .long (0 : Int64)), (0, .ref (gad Y x0)), (1, .int x1), (2, .int x2)]) hx hb d_DiskFile_number_5 hl (by decide) rfl (fun ls hl => ?_)
  obtain ⟨n, hw⟩ := hw
  exact mw_DiskFile_number_7 C0 n x0 x1 (0 : Int64) v5_1 S H locs ls hx0 hw hP hS (lv_sub hl [2, 3, 1, 0] rfl)
set_option maxHeartbeats 4000000 in
set_option maxRecDepth 100000 in
theorem k_DiskFile_number (l : Launch) (Y : gY) (hY : gOK Y) (sz : Nat) (x0 : gI) (x1 : Int32) (x2 : Int32)  (hx0 : gis Y 1 x0) (S : gS) (Q : Int64 → gS → Prop) : Met l y_DiskFile_number w_DiskFile_number (gRm 1 21) (gPre Y [.ref (gad Y x0), .int x1, .int x2] S sz (wp_DiskFile_number (gLn Y) Q x0 x1 x2 S)) (va_Ql Q (gB Y) (gA Y sz)) 0 0 (gA Y sz) := by
  refine Met.ofW (cc := c_DiskFile_number) (maxL := 6) (ret := (Option.some Jvm.ClassFile.FieldType.long)) (by decide) rfl ?_
  intro p e s m args below meth c s₁ B hml hv
  obtain ⟨rfl, hsz, hP, hK, hSt, hw⟩ := hv
  subst hsz
  have hts := atoms_spec (ws := w_DiskFile_number) B.pre
  have hl := lv_entry ([.ref (gad Y x0), .int x1, .int x2]) (n := 6) (Nat.le_of_ble_eq_true rfl)
  rw [lg_entry_eq]
  generalize (lg_sl ([.ref (gad Y x0), .int x1, .int x2]) ++ List.replicate (6 - (lg_sl ([.ref (gad Y x0), .int x1, .int x2])).length) Slot.unset).toArray = ls at hl ⊢
  exact mw_DiskFile_number ⟨B.exec, B.bytes, hml, findClass_of_methodNamed B.named, hts, B.returns, B.notSynchronized, hK, hY, hSt⟩ x0 x1 x2 S s.heap [] ls hx0 hw hP va_S.rf hl

def wp_LogDisk_sumStep (Ln : gI → Nat) (Q : Int32 → gS → Prop) (x0 : Int32) (x1 : Int32)  (S : gS) : Prop :=
  ∀ v2_1 : Int32, v2_1 = x0 ^^^ x1 → (vp_in (v2_1 &&& 15) 16 ∧ (∀ v2_3 : Int32, v2_3 = (ju_ushr v2_1 4) ^^^ (gSum (v2_1 &&& 15).toNatClampNeg) → (vp_in (v2_3 &&& 15) 16 ∧ (Q ((ju_ushr v2_3 4) ^^^ (gSum (v2_3 &&& 15).toNatClampNeg)) S))))
set_option maxHeartbeats 4000000 in
set_option maxRecDepth 100000 in
theorem mw_LogDisk_sumStep {p : Program} {l : Launch} {e : Env} {s : State} {m : MethodId} {args : Array Value} {below : List Frame} {meth : Method} {c : Code} {Y : gY} {Q : Int32 → gS → Prop} (C : gCx p s m args meth c Y "LogDisk" c_LogDisk_sumStep 3 (Option.some Jvm.ClassFile.FieldType.int) w_LogDisk_sumStep) : ∀ (x0 : Int32) (x1 : Int32)  (S : gS) (H : Heap) (locs : List Loc) (ls : Array Slot), wp_LogDisk_sumStep (gLn Y) Q x0 x1 S → gWd Y S H → va_S (gA Y s.heap.size) s.heap H locs → lv_has ls 3 [(0, .int x0), (1, .int x1)] → W p l e (gRm 0 0) s m args below meth c H locs 0 0 (MQ below (va_Qi Q (gB Y) (gA Y s.heap.size)) args s 0 0 (gA Y s.heap.size)) (F0 m 0 ls []) := by
  have C0 := C
  obtain ⟨hx, hb, hml, hown, hts, hr, hlocks, hK, hY, hSt⟩ := C
  intro x0 x1 S H locs ls hw hP hS hl
  unfold wp_LogDisk_sumStep at hw
  refine lv_iload_n hx hb d_LogDisk_sumStep_0 rfl (lv_at hl 0 rfl) ?_
  refine lv_iload_n hx hb d_LogDisk_sumStep_1 rfl (lv_at hl 1 rfl) ?_
  refine lv_ixor hx hb d_LogDisk_sumStep_2 ?_
  refine lv_topi (fun v2_1 ev2_1 => ?_)
  replace hw := hw v2_1 ev2_1
  refine lv_istore_n (lv' := [(2, .int v2_1), (0, .int x0), (1, .int x1)]) hx hb d_LogDisk_sumStep_3 rfl hl (by decide) rfl (fun ls hl => ?_)
  refine lv_iload_n hx hb d_LogDisk_sumStep_4 rfl (lv_at hl 0 rfl) ?_
  refine lv_iconst (v := 4) hx hb d_LogDisk_sumStep_5 (by decide) ?_
  refine lv_iushr hx hb d_LogDisk_sumStep_6 rfl ?_
  refine g_sum hx hb hown hSt hS (hts _ (List.mem_cons_of_mem _ gw_351)) d_LogDisk_sumStep_7 (fun tb2 htb2 => ?_)
  refine lv_iload_n hx hb d_LogDisk_sumStep_10 rfl (lv_at hl 0 rfl) ?_
  refine lv_bipush (v := 15) hx hb d_LogDisk_sumStep_11 (by decide) ?_
  refine lv_iand hx hb d_LogDisk_sumStep_13 ?_
  obtain ⟨hin, hw⟩ := hw
  refine g_sumAt hx hb htb2 hS hin d_LogDisk_sumStep_14 ?_
  refine lv_ixor hx hb d_LogDisk_sumStep_15 ?_
  refine lv_topi (fun v2_3 ev2_3 => ?_)
  replace hw := hw v2_3 ev2_3
  refine lv_istore_n (lv' := [(2, .int v2_3), (0, .int x0), (1, .int x1)]) hx hb d_LogDisk_sumStep_16 rfl hl (by decide) rfl (fun ls hl => ?_)
  refine lv_iload_n hx hb d_LogDisk_sumStep_17 rfl (lv_at hl 0 rfl) ?_
  refine lv_iconst (v := 4) hx hb d_LogDisk_sumStep_18 (by decide) ?_
  refine lv_iushr hx hb d_LogDisk_sumStep_19 rfl ?_
  refine g_sum hx hb hown hSt hS (hts _ (List.mem_cons_of_mem _ gw_351)) d_LogDisk_sumStep_20 (fun tb4 htb4 => ?_)
  refine lv_iload_n hx hb d_LogDisk_sumStep_23 rfl (lv_at hl 0 rfl) ?_
  refine lv_bipush (v := 15) hx hb d_LogDisk_sumStep_24 (by decide) ?_
  refine lv_iand hx hb d_LogDisk_sumStep_26 ?_
  obtain ⟨hin, hw⟩ := hw
  refine g_sumAt hx hb htb4 hS hin d_LogDisk_sumStep_27 ?_
  refine lv_ixor hx hb d_LogDisk_sumStep_28 ?_
  exact W.iret (v := ((ju_ushr v2_3 4) ^^^ (gSum (v2_3 &&& 15).toNatClampNeg))) hx hb hr (fun t ht hW => ⟨⟨((ju_ushr v2_3 4) ^^^ (gSum (v2_3 &&& 15).toNatClampNeg)), S, rfl, hw, by rw [ht]; exact hP, va_K.moved hW.alike hK⟩, hS.F ht⟩) hS.2.2 d_LogDisk_sumStep_29
set_option maxHeartbeats 4000000 in
set_option maxRecDepth 100000 in
theorem k_LogDisk_sumStep (l : Launch) (Y : gY) (hY : gOK Y) (sz : Nat) (x0 : Int32) (x1 : Int32)  (S : gS) (Q : Int32 → gS → Prop) : Met l y_LogDisk_sumStep w_LogDisk_sumStep (gRm 0 0) (gPre Y [.int x0, .int x1] S sz (wp_LogDisk_sumStep (gLn Y) Q x0 x1 S)) (va_Qi Q (gB Y) (gA Y sz)) 0 0 (gA Y sz) := by
  refine Met.ofW (cc := c_LogDisk_sumStep) (maxL := 3) (ret := (Option.some Jvm.ClassFile.FieldType.int)) (by decide) rfl ?_
  intro p e s m args below meth c s₁ B hml hv
  obtain ⟨rfl, hsz, hP, hK, hSt, hw⟩ := hv
  subst hsz
  have hts := atoms_spec (ws := w_LogDisk_sumStep) B.pre
  have hl := lv_entry ([.int x0, .int x1]) (n := 3) (Nat.le_of_ble_eq_true rfl)
  rw [lg_entry_eq]
  generalize (lg_sl ([.int x0, .int x1]) ++ List.replicate (3 - (lg_sl ([.int x0, .int x1])).length) Slot.unset).toArray = ls at hl ⊢
  exact mw_LogDisk_sumStep ⟨B.exec, B.bytes, hml, findClass_of_methodNamed B.named, hts, B.returns, B.notSynchronized, hK, hY, hSt⟩ x0 x1 S s.heap [] ls hw hP va_S.rf hl

def wp_DiskFile_wholeFrame_58 (Ln : gI → Nat) (Q : Int32 → gS → Prop) : Nat → gI → Int32 → Int32 → Int32 → Int32 → Int32 → gS → Prop
  | 0, _, _, _, _, _, _, _ => False
  | n58 + 1, x0, x1, x2, x3, x4, x5, S => ((x2 ≤ x5) → (wp_DiskFile_number Ln (fun r11 S10 => ((¬ (x4 ^^^ (-1 : Int32)) = (r11.toInt32)) → (Q (-1 : Int32) S10)) ∧ (((x4 ^^^ (-1 : Int32)) = (r11.toInt32)) → (Q x2 S10))) x0 (x1 + 4) 4 S)) ∧ ((¬ x2 ≤ x5) → (wp_DiskFile_read Ln (fun r14 S13 => wp_LogDisk_sumStep Ln (fun r16 S15 => ∀ v5_17 : Int32, v5_17 = x5 + 1 → (wp_DiskFile_wholeFrame_58 Ln Q n58 x0 x1 x2 x3 r16 v5_17 S15)) x4 r14 S13) x0 (x3 + x5) S))
def wp_DiskFile_wholeFrame (Ln : gI → Nat) (Q : Int32 → gS → Prop) (x0 : gI) (x1 : Int32)  (S : gS) : Prop :=
  ((x1 < 0) → (Q (-1 : Int32) S)) ∧ ((¬ x1 < 0) → (((x1 ≤ ((S.1 (grf x0 1) 2) - 8)) → (wp_DiskFile_number Ln (fun r4 S3 => ∀ v2_5 : Int32, v2_5 = r4.toInt32 → (∀ v3_6 : Int32, v3_6 = x1 + 8 → (((v2_5 < 0) → (Q (-1 : Int32) S3)) ∧ ((¬ v2_5 < 0) → (((v2_5 ≤ ((S3.1 (grf x0 1) 2) - v3_6)) → (∃ n58 : Nat, wp_DiskFile_wholeFrame_58 Ln Q n58 x0 x1 v2_5 v3_6 (-1 : Int32) 0 S3)) ∧ ((¬ v2_5 ≤ ((S3.1 (grf x0 1) 2) - v3_6)) → (Q (-1 : Int32) S3))))))) x0 x1 4 S)) ∧ ((¬ x1 ≤ ((S.1 (grf x0 1) 2) - 8)) → (Q (-1 : Int32) S))))
set_option maxHeartbeats 4000000 in
set_option maxRecDepth 100000 in
theorem mw_DiskFile_wholeFrame_58 {p : Program} {l : Launch} {e : Env} {s : State} {m : MethodId} {args : Array Value} {below : List Frame} {meth : Method} {c : Code} {Y : gY} {Q : Int32 → gS → Prop} (C : gCx p s m args meth c Y "LogDisk$DiskFile" c_DiskFile_wholeFrame 6 (Option.some Jvm.ClassFile.FieldType.int) w_DiskFile_wholeFrame) : ∀ (n : Nat), ∀ (x0 : gI) (x1 : Int32) (x2 : Int32) (x3 : Int32) (x4 : Int32) (x5 : Int32)  (S : gS) (H : Heap) (locs : List Loc) (ls : Array Slot), gis Y 1 x0 → wp_DiskFile_wholeFrame_58 (gLn Y) Q n x0 x1 x2 x3 x4 x5 S → gWd Y S H → va_S (gA Y s.heap.size) s.heap H locs → lv_has ls 6 [(0, .ref (gad Y x0)), (1, .int x1), (2, .int x2), (3, .int x3), (4, .int x4), (5, .int x5)] → W p l e (gRm 2 46) s m args below meth c H locs 0 0 (MQ below (va_Qi Q (gB Y) (gA Y s.heap.size)) args s 0 0 (gA Y s.heap.size)) (F0 m 58 ls []) := by
  have C0 := C
  obtain ⟨hx, hb, hml, hown, hts, hr, hlocks, hK, hY, hSt⟩ := C
  intro n
  induction n with
  | zero =>
    intro x0 x1 x2 x3 x4 x5 S H locs ls hx0 hw
    exact False.elim hw
  | succ n ih =>
    intro x0 x1 x2 x3 x4 x5 S H locs ls hx0 hw hP hS hl
    unfold wp_DiskFile_wholeFrame_58 at hw
    refine lv_iload hx hb d_DiskFile_wholeFrame_58 (lv_at hl 5 rfl) ?_
    refine lv_iload_n hx hb d_DiskFile_wholeFrame_60 rfl (lv_at hl 2 rfl) ?_
    refine lv_icmp_ge (tgt := 85) hx hb d_DiskFile_wholeFrame_61 (by decide) (fun c9 => ?_) (fun c9 => ?_)
    · replace hw := hw.1 c9
      refine lv_iload hx hb d_DiskFile_wholeFrame_85 (lv_at hl 4 rfl) ?_
      refine lv_iconst (v := (-1 : Int32)) hx hb d_DiskFile_wholeFrame_87 (by decide) ?_
      refine lv_ixor hx hb d_DiskFile_wholeFrame_88 ?_
      refine lv_aload_n hx hb d_DiskFile_wholeFrame_89 rfl (lv_at hl 0 rfl) ?_
      refine lv_iload_n hx hb d_DiskFile_wholeFrame_90 rfl (lv_at hl 1 rfl) ?_
      refine lv_iconst (v := 4) hx hb d_DiskFile_wholeFrame_91 (by decide) ?_
      refine lv_iadd hx hb d_DiskFile_wholeFrame_92 ?_
      refine lv_iconst (v := 4) hx hb d_DiskFile_wholeFrame_93 (by decide) ?_
      refine g_calll (va_runV (As := [.int (x1 + 4), .int 4]) (rest := [.int (x4 ^^^ (-1 : Int32))]) ⟨hx, hb, hml, hown, hts⟩ (k_DiskFile_number l Y hY H.size x0 (x1 + 4) 4 hx0 S _) (cwV 2 hts (gG_V gw_340 gw_341 gw_342 gw_10 gw_343) rfl rfl rfl (by decide +kernel) ⟨Nat.le_of_ble_eq_true rfl, Nat.le_of_ble_eq_true rfl⟩) ⟨gPre_blind, g_recv hK hP hx0 (gce_DiskFile hx0.1) rfl, g_pre hK hSt hS hP hw⟩ rfl rfl hl.1 rfl (lv_room (Nat.le_of_ble_eq_true rfl)) d_DiskFile_wholeFrame_94 ⟨Nat.zero_le _, Nat.zero_le _⟩) hS (fun r11 S10 H locs hw hP hS => ?_)
      refine lv_l2i hx hb d_DiskFile_wholeFrame_97 rfl ?_
      refine lv_icmp_ne (tgt := 105) hx hb d_DiskFile_wholeFrame_98 (by decide) (fun c12 => ?_) (fun c12 => ?_)
      · replace hw := hw.1 c12
        refine lv_iconst (v := (-1 : Int32)) hx hb d_DiskFile_wholeFrame_105 (by decide) ?_
        exact W.iret (v := (-1 : Int32)) hx hb hr (fun t ht hW => ⟨⟨(-1 : Int32), S10, rfl, hw, by rw [ht]; exact hP, va_K.moved hW.alike hK⟩, hS.F ht⟩) hS.2.2 d_DiskFile_wholeFrame_106
      · replace hw := hw.2 c12
        refine lv_iload_n hx hb d_DiskFile_wholeFrame_101 rfl (lv_at hl 2 rfl) ?_
        refine lv_goto (tgt := 106) hx hb d_DiskFile_wholeFrame_102 (by decide) ?_
        exact W.iret (v := x2) hx hb hr (fun t ht hW => ⟨⟨x2, S10, rfl, hw, by rw [ht]; exact hP, va_K.moved hW.alike hK⟩, hS.F ht⟩) hS.2.2 d_DiskFile_wholeFrame_106
    · replace hw := hw.2 c9
      refine lv_iload hx hb d_DiskFile_wholeFrame_64 (lv_at hl 4 rfl) ?_
      refine lv_aload_n hx hb d_DiskFile_wholeFrame_66 rfl (lv_at hl 0 rfl) ?_
      refine lv_iload_n hx hb d_DiskFile_wholeFrame_67 rfl (lv_at hl 3 rfl) ?_
      refine lv_iload hx hb d_DiskFile_wholeFrame_68 (lv_at hl 5 rfl) ?_
      refine lv_iadd hx hb d_DiskFile_wholeFrame_70 ?_
      refine g_calli (va_runV (As := [.int (x3 + x5)]) (rest := [.int x4]) ⟨hx, hb, hml, hown, hts⟩ (k_DiskFile_read l Y hY H.size x0 (x3 + x5) hx0 S _) (cwV 1 hts (gG_V gw_344 gw_345 gw_346 gw_10 gw_347) rfl rfl rfl (by decide +kernel) ⟨Nat.le_of_ble_eq_true rfl, Nat.le_of_ble_eq_true rfl⟩) ⟨gPre_blind, g_recv hK hP hx0 (gce_DiskFile hx0.1) rfl, g_pre hK hSt hS hP hw⟩ rfl rfl hl.1 rfl (lv_room (Nat.le_of_ble_eq_true rfl)) d_DiskFile_wholeFrame_71 ⟨Nat.zero_le _, Nat.zero_le _⟩) hS (fun r14 S13 H locs hw hP hS => ?_)
      refine g_calli (va_runSN (As := [.int x4, .int r14]) (rest := []) ⟨hx, hb, hml, hown, hts⟩ (k_LogDisk_sumStep l Y hY H.size x4 r14 S13 _) ⟨va_cnB 2 hts (gG_N gw_350) rfl rfl rfl hSt.1.2.2.1 (hts _ (List.mem_cons_of_mem _ gw_1)) (by decide +kernel) ⟨Nat.le_of_ble_eq_true rfl, Nat.le_of_ble_eq_true rfl⟩, (hts _ (List.mem_cons_of_mem _ gw_349)), trivial⟩ ⟨gPre_blind, g_pre hK hSt hS hP hw⟩ rfl rfl hl.1 rfl (lv_room (Nat.le_of_ble_eq_true rfl)) d_DiskFile_wholeFrame_74 ⟨Nat.zero_le _, Nat.zero_le _⟩) hS (fun r16 S15 H locs hw hP hS => ?_)
      refine lv_istore (lv' := [(4, .int r16), (0, .ref (gad Y x0)), (1, .int x1), (2, .int x2), (3, .int x3), (5, .int x5)]) hx hb d_DiskFile_wholeFrame_77 hl (by decide) rfl (fun ls hl => ?_)
      obtain ⟨v5_17, ev5_17⟩ : ∃ y : Int32, y = x5 + 1 := ⟨_, rfl⟩
      replace hw := hw v5_17 ev5_17
      refine lv_iinc (v := v5_17) (lv' := [(5, .int v5_17), (4, .int r16), (0, .ref (gad Y x0)), (1, .int x1), (2, .int x2), (3, .int x3)]) hx hb d_DiskFile_wholeFrame_79 hl (k := 5) rfl (by rw [ev5_17]; rfl) (by decide) rfl (fun ls hl => ?_)
      refine lv_goto (tgt := 58) hx hb d_DiskFile_wholeFrame_82 (by decide) ?_
      exact ih x0 x1 x2 x3 r16 v5_17 S15 H locs ls hx0 hw hP hS (lv_sub hl [2, 3, 4, 5, 1, 0] rfl)
set_option maxHeartbeats 4000000 in
set_option maxRecDepth 100000 in
theorem mw_DiskFile_wholeFrame {p : Program} {l : Launch} {e : Env} {s : State} {m : MethodId} {args : Array Value} {below : List Frame} {meth : Method} {c : Code} {Y : gY} {Q : Int32 → gS → Prop} (C : gCx p s m args meth c Y "LogDisk$DiskFile" c_DiskFile_wholeFrame 6 (Option.some Jvm.ClassFile.FieldType.int) w_DiskFile_wholeFrame) : ∀ (x0 : gI) (x1 : Int32)  (S : gS) (H : Heap) (locs : List Loc) (ls : Array Slot), gis Y 1 x0 → wp_DiskFile_wholeFrame (gLn Y) Q x0 x1 S → gWd Y S H → va_S (gA Y s.heap.size) s.heap H locs → lv_has ls 6 [(0, .ref (gad Y x0)), (1, .int x1)] → W p l e (gRm 2 46) s m args below meth c H locs 0 0 (MQ below (va_Qi Q (gB Y) (gA Y s.heap.size)) args s 0 0 (gA Y s.heap.size)) (F0 m 0 ls []) := by
  have C0 := C
  obtain ⟨hx, hb, hml, hown, hts, hr, hlocks, hK, hY, hSt⟩ := C
  intro x0 x1 S H locs ls hx0 hw hP hS hl
  unfold wp_DiskFile_wholeFrame at hw
  refine lv_iload_n hx hb d_DiskFile_wholeFrame_0 rfl (lv_at hl 1 rfl) ?_
  refine lv_if_lt (tgt := 18) hx hb d_DiskFile_wholeFrame_1 (by decide) (fun c1 => ?_) (fun c1 => ?_)
  · replace hw := hw.1 c1
    refine lv_iconst (v := (-1 : Int32)) hx hb d_DiskFile_wholeFrame_18 (by decide) ?_
    exact W.iret (v := (-1 : Int32)) hx hb hr (fun t ht hW => ⟨⟨(-1 : Int32), S, rfl, hw, by rw [ht]; exact hP, va_K.moved hW.alike hK⟩, hS.F ht⟩) hS.2.2 d_DiskFile_wholeFrame_19
  · replace hw := hw.2 c1
    refine lv_iload_n hx hb d_DiskFile_wholeFrame_4 rfl (lv_at hl 1 rfl) ?_
    refine lv_aload_n hx hb d_DiskFile_wholeFrame_5 rfl (lv_at hl 0 rfl) ?_
    refine g_get hx hb hts (fun w h => List.mem_cons_of_mem _ (in_DiskFile w h)) hown hK hP hx0 (gce_DiskFile hx0.1) rfl 1 (by decide) (hts _ (List.mem_cons_of_mem _ gw_214)) rfl d_DiskFile_wholeFrame_6 ?_
    refine g_get hx hb hts (fun w h => List.mem_cons_of_mem _ (in_Content w h)) hown hK hP (gis_DiskFile_now hY hx0) (gce_Content (gis_DiskFile_now hY hx0).1) rfl 2 (by decide) (hts _ (List.mem_cons_of_mem _ gw_204)) rfl d_DiskFile_wholeFrame_9 ?_
    refine lv_bipush (v := 8) hx hb d_DiskFile_wholeFrame_12 (by decide) ?_
    refine lv_isub hx hb d_DiskFile_wholeFrame_14 ?_
    refine lv_icmp_le (tgt := 20) hx hb d_DiskFile_wholeFrame_15 (by decide) (fun c2 => ?_) (fun c2 => ?_)
    · replace hw := hw.1 c2
      refine lv_aload_n hx hb d_DiskFile_wholeFrame_20 rfl (lv_at hl 0 rfl) ?_
      refine lv_iload_n hx hb d_DiskFile_wholeFrame_21 rfl (lv_at hl 1 rfl) ?_
      refine lv_iconst (v := 4) hx hb d_DiskFile_wholeFrame_22 (by decide) ?_
      refine g_calll (va_runV (As := [.int x1, .int 4]) (rest := []) ⟨hx, hb, hml, hown, hts⟩ (k_DiskFile_number l Y hY H.size x0 x1 4 hx0 S _) (cwV 2 hts (gG_V gw_340 gw_341 gw_342 gw_10 gw_343) rfl rfl rfl (by decide +kernel) ⟨Nat.le_of_ble_eq_true rfl, Nat.le_of_ble_eq_true rfl⟩) ⟨gPre_blind, g_recv hK hP hx0 (gce_DiskFile hx0.1) rfl, g_pre hK hSt hS hP hw⟩ rfl rfl hl.1 rfl (lv_room (Nat.le_of_ble_eq_true rfl)) d_DiskFile_wholeFrame_23 ⟨Nat.zero_le _, Nat.zero_le _⟩) hS (fun r4 S3 H locs hw hP hS => ?_)
      refine lv_l2i hx hb d_DiskFile_wholeFrame_26 rfl ?_
      refine lv_topi (fun v2_5 ev2_5 => ?_)
      replace hw := hw v2_5 ev2_5
      refine lv_istore_n (lv' := [(2, .int v2_5), (0, .ref (gad Y x0)), (1, .int x1)]) hx hb d_DiskFile_wholeFrame_27 rfl hl (by decide) rfl (fun ls hl => ?_)
      refine lv_iload_n hx hb d_DiskFile_wholeFrame_28 rfl (lv_at hl 2 rfl) ?_
      refine lv_bipush (v := 8) hx hb d_DiskFile_wholeFrame_29 (by decide) ?_
      refine lv_iadd hx hb d_DiskFile_wholeFrame_31 ?_
      refine lv_topi (fun v3_6 ev3_6 => ?_)
      replace hw := hw v3_6 ev3_6
      refine lv_istore_n (lv' := [(3, .int v3_6), (2, .int v2_5), (0, .ref (gad Y x0)), (1, .int x1)]) hx hb d_DiskFile_wholeFrame_32 rfl hl (by decide) rfl (fun ls hl => ?_)
      refine lv_iload_n hx hb d_DiskFile_wholeFrame_33 rfl (lv_at hl 1 rfl) ?_
      refine lv_if_lt (tgt := 50) hx hb d_DiskFile_wholeFrame_34 (by decide) (fun c7 => ?_) (fun c7 => ?_)
      · replace hw := hw.1 c7
        refine lv_iconst (v := (-1 : Int32)) hx hb d_DiskFile_wholeFrame_50 (by decide) ?_
        exact W.iret (v := (-1 : Int32)) hx hb hr (fun t ht hW => ⟨⟨(-1 : Int32), S3, rfl, hw, by rw [ht]; exact hP, va_K.moved hW.alike hK⟩, hS.F ht⟩) hS.2.2 d_DiskFile_wholeFrame_51
      · replace hw := hw.2 c7
        refine lv_iload_n hx hb d_DiskFile_wholeFrame_37 rfl (lv_at hl 1 rfl) ?_
        refine lv_aload_n hx hb d_DiskFile_wholeFrame_38 rfl (lv_at hl 2 rfl) ?_
        refine g_get hx hb hts (fun w h => List.mem_cons_of_mem _ (in_DiskFile w h)) hown hK hP hx0 (gce_DiskFile hx0.1) rfl 1 (by decide) (hts _ (List.mem_cons_of_mem _ gw_214)) rfl d_DiskFile_wholeFrame_39 ?_
        refine g_get hx hb hts (fun w h => List.mem_cons_of_mem _ (in_Content w h)) hown hK hP (gis_DiskFile_now hY hx0) (gce_Content (gis_DiskFile_now hY hx0).1) rfl 2 (by decide) (hts _ (List.mem_cons_of_mem _ gw_204)) rfl d_DiskFile_wholeFrame_42 ?_
        refine lv_iload_n hx hb d_DiskFile_wholeFrame_45 rfl (lv_at hl 0 rfl) ?_
        refine lv_isub hx hb d_DiskFile_wholeFrame_46 ?_
        refine lv_icmp_le (tgt := 52) hx hb d_DiskFile_wholeFrame_47 (by decide) (fun c8 => ?_) (fun c8 => ?_)
        · replace hw := hw.1 c8
          refine lv_iconst (v := (-1 : Int32)) hx hb d_DiskFile_wholeFrame_52 (by decide) ?_
          refine lv_istore (lv' := [(4, .int (-1 : Int32)), (3, .int v3_6), (2, .int v2_5), (0, .ref (gad Y x0)), (1, .int x1)]) hx hb d_DiskFile_wholeFrame_53 hl (by decide) rfl (fun ls hl => ?_)
          refine lv_iconst (v := 0) hx hb d_DiskFile_wholeFrame_55 (by decide) ?_
          refine lv_istore (lv' := [(5, .int 0), (4, .int (-1 : Int32)), (3, .int v3_6), (2, .int v2_5), (0, .ref (gad Y x0)), (1, .int x1)]) hx hb d_DiskFile_wholeFrame_56 hl (by decide) rfl (fun ls hl => ?_)
          obtain ⟨n, hw⟩ := hw
          exact mw_DiskFile_wholeFrame_58 C0 n x0 x1 v2_5 v3_6 (-1 : Int32) 0 S3 H locs ls hx0 hw hP hS (lv_sub hl [4, 5, 3, 2, 1, 0] rfl)
        · replace hw := hw.2 c8
          refine lv_iconst (v := (-1 : Int32)) hx hb d_DiskFile_wholeFrame_50 (by decide) ?_
          exact W.iret (v := (-1 : Int32)) hx hb hr (fun t ht hW => ⟨⟨(-1 : Int32), S3, rfl, hw, by rw [ht]; exact hP, va_K.moved hW.alike hK⟩, hS.F ht⟩) hS.2.2 d_DiskFile_wholeFrame_51
    · replace hw := hw.2 c2
      refine lv_iconst (v := (-1 : Int32)) hx hb d_DiskFile_wholeFrame_18 (by decide) ?_
      exact W.iret (v := (-1 : Int32)) hx hb hr (fun t ht hW => ⟨⟨(-1 : Int32), S, rfl, hw, by rw [ht]; exact hP, va_K.moved hW.alike hK⟩, hS.F ht⟩) hS.2.2 d_DiskFile_wholeFrame_19
set_option maxHeartbeats 4000000 in
set_option maxRecDepth 100000 in
theorem k_DiskFile_wholeFrame (l : Launch) (Y : gY) (hY : gOK Y) (sz : Nat) (x0 : gI) (x1 : Int32)  (hx0 : gis Y 1 x0) (S : gS) (Q : Int32 → gS → Prop) : Met l y_DiskFile_wholeFrame w_DiskFile_wholeFrame (gRm 2 46) (gPre Y [.ref (gad Y x0), .int x1] S sz (wp_DiskFile_wholeFrame (gLn Y) Q x0 x1 S)) (va_Qi Q (gB Y) (gA Y sz)) 0 0 (gA Y sz) := by
  refine Met.ofW (cc := c_DiskFile_wholeFrame) (maxL := 6) (ret := (Option.some Jvm.ClassFile.FieldType.int)) (by decide) rfl ?_
  intro p e s m args below meth c s₁ B hml hv
  obtain ⟨rfl, hsz, hP, hK, hSt, hw⟩ := hv
  subst hsz
  have hts := atoms_spec (ws := w_DiskFile_wholeFrame) B.pre
  have hl := lv_entry ([.ref (gad Y x0), .int x1]) (n := 6) (Nat.le_of_ble_eq_true rfl)
  rw [lg_entry_eq]
  generalize (lg_sl ([.ref (gad Y x0), .int x1]) ++ List.replicate (6 - (lg_sl ([.ref (gad Y x0), .int x1])).length) Slot.unset).toArray = ls at hl ⊢
  exact mw_DiskFile_wholeFrame ⟨B.exec, B.bytes, hml, findClass_of_methodNamed B.named, hts, B.returns, B.notSynchronized, hK, hY, hSt⟩ x0 x1 S s.heap [] ls hx0 hw hP va_S.rf hl

def wp_DiskFile_segmentFirst (Ln : gI → Nat) (Q : Int32 → gS → Prop) (x0 : gI)  (S : gS) : Prop :=
  wp_DiskFile_wholeFrame Ln (fun r2 S1 => ((¬ r2 = 16) → (Q (-1 : Int32) S1)) ∧ ((r2 = 16) → (wp_DiskFile_number Ln (fun r5 S4 => Q (r5.toInt32) S4) x0 8 8 S1))) x0 0 S
set_option maxHeartbeats 4000000 in
set_option maxRecDepth 100000 in
theorem mw_DiskFile_segmentFirst {p : Program} {l : Launch} {e : Env} {s : State} {m : MethodId} {args : Array Value} {below : List Frame} {meth : Method} {c : Code} {Y : gY} {Q : Int32 → gS → Prop} (C : gCx p s m args meth c Y "LogDisk$DiskFile" c_DiskFile_segmentFirst 1 (Option.some Jvm.ClassFile.FieldType.int) w_DiskFile_segmentFirst) : ∀ (x0 : gI)  (S : gS) (H : Heap) (locs : List Loc) (ls : Array Slot), gis Y 1 x0 → wp_DiskFile_segmentFirst (gLn Y) Q x0 S → gWd Y S H → va_S (gA Y s.heap.size) s.heap H locs → lv_has ls 1 [(0, .ref (gad Y x0))] → W p l e (gRm 3 71) s m args below meth c H locs 0 0 (MQ below (va_Qi Q (gB Y) (gA Y s.heap.size)) args s 0 0 (gA Y s.heap.size)) (F0 m 0 ls []) := by
  have C0 := C
  obtain ⟨hx, hb, hml, hown, hts, hr, hlocks, hK, hY, hSt⟩ := C
  intro x0 S H locs ls hx0 hw hP hS hl
  unfold wp_DiskFile_segmentFirst at hw
  refine lv_aload_n hx hb d_DiskFile_segmentFirst_0 rfl (lv_at hl 0 rfl) ?_
  refine lv_iconst (v := 0) hx hb d_DiskFile_segmentFirst_1 (by decide) ?_
  refine g_calli (va_runV (As := [.int 0]) (rest := []) ⟨hx, hb, hml, hown, hts⟩ (k_DiskFile_wholeFrame l Y hY H.size x0 0 hx0 S _) (cwV 1 hts (gG_V gw_375 gw_337 gw_338 gw_10 gw_339) rfl rfl rfl (by decide +kernel) ⟨Nat.le_of_ble_eq_true rfl, Nat.le_of_ble_eq_true rfl⟩) ⟨gPre_blind, g_recv hK hP hx0 (gce_DiskFile hx0.1) rfl, g_pre hK hSt hS hP hw⟩ rfl rfl hl.1 rfl (lv_room (Nat.le_of_ble_eq_true rfl)) d_DiskFile_segmentFirst_2 ⟨Nat.zero_le _, Nat.zero_le _⟩) hS (fun r2 S1 H locs hw hP hS => ?_)
  refine lv_bipush (v := 16) hx hb d_DiskFile_segmentFirst_5 (by decide) ?_
  refine lv_icmp_ne (tgt := 22) hx hb d_DiskFile_segmentFirst_7 (by decide) (fun c3 => ?_) (fun c3 => ?_)
  · replace hw := hw.1 c3
    refine lv_iconst (v := (-1 : Int32)) hx hb d_DiskFile_segmentFirst_22 (by decide) ?_
    exact W.iret (v := (-1 : Int32)) hx hb hr (fun t ht hW => ⟨⟨(-1 : Int32), S1, rfl, hw, by rw [ht]; exact hP, va_K.moved hW.alike hK⟩, hS.F ht⟩) hS.2.2 d_DiskFile_segmentFirst_23
  · replace hw := hw.2 c3
    refine lv_aload_n hx hb d_DiskFile_segmentFirst_10 rfl (lv_at hl 0 rfl) ?_
    refine lv_bipush (v := 8) hx hb d_DiskFile_segmentFirst_11 (by decide) ?_
    refine lv_bipush (v := 8) hx hb d_DiskFile_segmentFirst_13 (by decide) ?_
    refine g_calll (va_runV (As := [.int 8, .int 8]) (rest := []) ⟨hx, hb, hml, hown, hts⟩ (k_DiskFile_number l Y hY H.size x0 8 8 hx0 S1 _) (cwV 2 hts (gG_V gw_340 gw_341 gw_342 gw_10 gw_343) rfl rfl rfl (by decide +kernel) ⟨Nat.le_of_ble_eq_true rfl, Nat.le_of_ble_eq_true rfl⟩) ⟨gPre_blind, g_recv hK hP hx0 (gce_DiskFile hx0.1) rfl, g_pre hK hSt hS hP hw⟩ rfl rfl hl.1 rfl (lv_room (Nat.le_of_ble_eq_true rfl)) d_DiskFile_segmentFirst_15 ⟨Nat.zero_le _, Nat.zero_le _⟩) hS (fun r5 S4 H locs hw hP hS => ?_)
    refine lv_l2i hx hb d_DiskFile_segmentFirst_18 rfl ?_
    refine lv_goto (tgt := 23) hx hb d_DiskFile_segmentFirst_19 (by decide) ?_
    exact W.iret (v := (r5.toInt32)) hx hb hr (fun t ht hW => ⟨⟨(r5.toInt32), S4, rfl, hw, by rw [ht]; exact hP, va_K.moved hW.alike hK⟩, hS.F ht⟩) hS.2.2 d_DiskFile_segmentFirst_23
set_option maxHeartbeats 4000000 in
set_option maxRecDepth 100000 in
theorem k_DiskFile_segmentFirst (l : Launch) (Y : gY) (hY : gOK Y) (sz : Nat) (x0 : gI)  (hx0 : gis Y 1 x0) (S : gS) (Q : Int32 → gS → Prop) : Met l y_DiskFile_segmentFirst w_DiskFile_segmentFirst (gRm 3 71) (gPre Y [.ref (gad Y x0)] S sz (wp_DiskFile_segmentFirst (gLn Y) Q x0 S)) (va_Qi Q (gB Y) (gA Y sz)) 0 0 (gA Y sz) := by
  refine Met.ofW (cc := c_DiskFile_segmentFirst) (maxL := 1) (ret := (Option.some Jvm.ClassFile.FieldType.int)) (by decide) rfl ?_
  intro p e s m args below meth c s₁ B hml hv
  obtain ⟨rfl, hsz, hP, hK, hSt, hw⟩ := hv
  subst hsz
  have hts := atoms_spec (ws := w_DiskFile_segmentFirst) B.pre
  have hl := lv_entry ([.ref (gad Y x0)]) (n := 1) (Nat.le_of_ble_eq_true rfl)
  rw [lg_entry_eq]
  generalize (lg_sl ([.ref (gad Y x0)]) ++ List.replicate (1 - (lg_sl ([.ref (gad Y x0)])).length) Slot.unset).toArray = ls at hl ⊢
  exact mw_DiskFile_segmentFirst ⟨B.exec, B.bytes, hml, findClass_of_methodNamed B.named, hts, B.returns, B.notSynchronized, hK, hY, hSt⟩ x0 S s.heap [] ls hx0 hw hP va_S.rf hl

def wp_DiskFile_termBefore (Ln : gI → Nat) (Q : Int32 → gS → Prop) (x0 : gI)  (S : gS) : Prop :=
  wp_DiskFile_number Ln (fun r2 S1 => Q (r2.toInt32) S1) x0 16 8 S
set_option maxHeartbeats 4000000 in
set_option maxRecDepth 100000 in
theorem mw_DiskFile_termBefore {p : Program} {l : Launch} {e : Env} {s : State} {m : MethodId} {args : Array Value} {below : List Frame} {meth : Method} {c : Code} {Y : gY} {Q : Int32 → gS → Prop} (C : gCx p s m args meth c Y "LogDisk$DiskFile" c_DiskFile_termBefore 1 (Option.some Jvm.ClassFile.FieldType.int) w_DiskFile_termBefore) : ∀ (x0 : gI)  (S : gS) (H : Heap) (locs : List Loc) (ls : Array Slot), gis Y 1 x0 → wp_DiskFile_termBefore (gLn Y) Q x0 S → gWd Y S H → va_S (gA Y s.heap.size) s.heap H locs → lv_has ls 1 [(0, .ref (gad Y x0))] → W p l e (gRm 2 46) s m args below meth c H locs 0 0 (MQ below (va_Qi Q (gB Y) (gA Y s.heap.size)) args s 0 0 (gA Y s.heap.size)) (F0 m 0 ls []) := by
  have C0 := C
  obtain ⟨hx, hb, hml, hown, hts, hr, hlocks, hK, hY, hSt⟩ := C
  intro x0 S H locs ls hx0 hw hP hS hl
  unfold wp_DiskFile_termBefore at hw
  refine lv_aload_n hx hb d_DiskFile_termBefore_0 rfl (lv_at hl 0 rfl) ?_
  refine lv_bipush (v := 16) hx hb d_DiskFile_termBefore_1 (by decide) ?_
  refine lv_bipush (v := 8) hx hb d_DiskFile_termBefore_3 (by decide) ?_
  refine g_calll (va_runV (As := [.int 16, .int 8]) (rest := []) ⟨hx, hb, hml, hown, hts⟩ (k_DiskFile_number l Y hY H.size x0 16 8 hx0 S _) (cwV 2 hts (gG_V gw_340 gw_341 gw_342 gw_10 gw_343) rfl rfl rfl (by decide +kernel) ⟨Nat.le_of_ble_eq_true rfl, Nat.le_of_ble_eq_true rfl⟩) ⟨gPre_blind, g_recv hK hP hx0 (gce_DiskFile hx0.1) rfl, g_pre hK hSt hS hP hw⟩ rfl rfl hl.1 rfl (lv_room (Nat.le_of_ble_eq_true rfl)) d_DiskFile_termBefore_5 ⟨Nat.zero_le _, Nat.zero_le _⟩) hS (fun r2 S1 H locs hw hP hS => ?_)
  refine lv_l2i hx hb d_DiskFile_termBefore_8 rfl ?_
  exact W.iret (v := (r2.toInt32)) hx hb hr (fun t ht hW => ⟨⟨(r2.toInt32), S1, rfl, hw, by rw [ht]; exact hP, va_K.moved hW.alike hK⟩, hS.F ht⟩) hS.2.2 d_DiskFile_termBefore_9
set_option maxHeartbeats 4000000 in
set_option maxRecDepth 100000 in
theorem k_DiskFile_termBefore (l : Launch) (Y : gY) (hY : gOK Y) (sz : Nat) (x0 : gI)  (hx0 : gis Y 1 x0) (S : gS) (Q : Int32 → gS → Prop) : Met l y_DiskFile_termBefore w_DiskFile_termBefore (gRm 2 46) (gPre Y [.ref (gad Y x0)] S sz (wp_DiskFile_termBefore (gLn Y) Q x0 S)) (va_Qi Q (gB Y) (gA Y sz)) 0 0 (gA Y sz) := by
  refine Met.ofW (cc := c_DiskFile_termBefore) (maxL := 1) (ret := (Option.some Jvm.ClassFile.FieldType.int)) (by decide) rfl ?_
  intro p e s m args below meth c s₁ B hml hv
  obtain ⟨rfl, hsz, hP, hK, hSt, hw⟩ := hv
  subst hsz
  have hts := atoms_spec (ws := w_DiskFile_termBefore) B.pre
  have hl := lv_entry ([.ref (gad Y x0)]) (n := 1) (Nat.le_of_ble_eq_true rfl)
  rw [lg_entry_eq]
  generalize (lg_sl ([.ref (gad Y x0)]) ++ List.replicate (1 - (lg_sl ([.ref (gad Y x0)])).length) Slot.unset).toArray = ls at hl ⊢
  exact mw_DiskFile_termBefore ⟨B.exec, B.bytes, hml, findClass_of_methodNamed B.named, hts, B.returns, B.notSynchronized, hK, hY, hSt⟩ x0 S s.heap [] ls hx0 hw hP va_S.rf hl
