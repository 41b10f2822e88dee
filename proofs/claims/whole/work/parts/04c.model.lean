def wp_Mo_keep (Ln : gI → Nat) (Q : gS → Prop) (x0 : gI) (x1 : Int32) (x2 : Int32)  (S : gS) : Prop :=
  ∀ S1 : gS, S1 = gset S x0 0 0 → (wp_Mo_within Ln (fun r3 S2 => ((¬ r3 = 0) → (((0 ≤ x2) → (vp_in x1 (Ln (grf x0 18)) ∧ (∀ S6 : gS, S6 = gset S2 (grf x0 18) x1.toNatClampNeg x2 → (Q S6)))) ∧ ((¬ 0 ≤ x2) → (∀ S7 : gS, S7 = gset S2 x0 0 2 → (Q S7))))) ∧ ((r3 = 0) → (∀ S8 : gS, S8 = gset S2 x0 0 1 → (Q S8)))) x1 0 15 S1)
set_option maxHeartbeats 4000000 in
set_option maxRecDepth 100000 in
theorem mw_Mo_keep {p : Program} {l : Launch} {e : Env} {s : State} {m : MethodId} {args : Array Value} {below : List Frame} {meth : Method} {c : Code} {Y : gY} {Q : gS → Prop} (C : gCx p s m args meth c Y "LogDiskModel" c_Mo_keep 3 (Option.none : Option Jvm.ClassFile.FieldType) w_Mo_keep) : ∀ (x0 : gI) (x1 : Int32) (x2 : Int32)  (S : gS) (H : Heap) (locs : List Loc) (ls : Array Slot), gis Y 10 x0 → wp_Mo_keep (gLn Y) Q x0 x1 x2 S → gWd Y S H → va_S (gA Y s.heap.size) s.heap H locs → lv_has ls 3 [(0, .ref (gad Y x0)), (1, .int x1), (2, .int x2)] → W p l e (gRm 1 22) s m args below meth c H locs 0 0 (MQ below (va_Qv Q (gB Y) (gA Y s.heap.size)) args s 0 0 (gA Y s.heap.size)) (F0 m 0 ls []) := by
  have C0 := C
  obtain ⟨hx, hb, hml, hown, hts, hr, hlocks, hK, hY, hSt⟩ := C
  intro x0 x1 x2 S H locs ls hx0 hw hP hS hl
  unfold wp_Mo_keep at hw
  refine lv_aload_n hx hb d_Mo_keep_0 rfl (lv_at hl 0 rfl) ?_
  refine lv_iconst (v := 0) hx hb d_Mo_keep_1 (by decide) ?_
  refine g_put (ty := .int) (v := .int 0) (S' := gset S x0 0 0) hx hb hts (fun w h => List.mem_cons_of_mem _ (in_Mo w h)) ty_Mo tyok_Mo nm_Mo hown hK hY.1 hP hS hx0 (gce_Mo hx0.1) rfl 0 (by decide) (hts _ (List.mem_cons_of_mem _ gw_807)) rfl (by decide +kernel) rfl rfl (Nat.le_of_ble_eq_true rfl) (gp_Mo_thrown hx0.1) gce_gset d_Mo_keep_2 (fun H locs hP hS => ?_)
  obtain ⟨S1, eS1⟩ : ∃ z, z = gset S x0 0 0 := ⟨_, rfl⟩
  rw [← eS1] at hP
  replace hw := hw S1 eS1
  refine lv_iload_n hx hb d_Mo_keep_5 rfl (lv_at hl 1 rfl) ?_
  refine lv_iconst (v := 0) hx hb d_Mo_keep_6 (by decide) ?_
  refine lv_bipush (v := 15) hx hb d_Mo_keep_7 (by decide) ?_
  refine g_calli (va_runS (As := [.int x1, .int 0, .int 15]) (rest := []) ⟨hx, hb, hml, hown, hts⟩ (k_Mo_within l Y hY H.size x1 0 15 S1 _) (va_cwS 3 hts (gG_S gw_922 gw_923 gw_12 gw_924) rfl rfl rfl (by decide +kernel) ⟨Nat.le_of_ble_eq_true rfl, Nat.le_of_ble_eq_true rfl⟩) ⟨gPre_blind, g_pre hK hSt hS hP hw⟩ rfl rfl hl.1 rfl (lv_room (Nat.le_of_ble_eq_true rfl)) d_Mo_keep_9 ⟨Nat.zero_le _, Nat.zero_le _⟩) hS (fun r3 S2 H locs hw hP hS => ?_)
  refine lv_if_ne (tgt := 23) hx hb d_Mo_keep_12 (by decide) (fun c4 => ?_) (fun c4 => ?_)
  · replace hw := hw.1 c4
    refine lv_iload_n hx hb d_Mo_keep_23 rfl (lv_at hl 2 rfl) ?_
    refine lv_if_ge (tgt := 35) hx hb d_Mo_keep_24 (by decide) (fun c5 => ?_) (fun c5 => ?_)
    · replace hw := hw.1 c5
      refine lv_aload_n hx hb d_Mo_keep_35 rfl (lv_at hl 0 rfl) ?_
      refine g_get hx hb hts (fun w h => List.mem_cons_of_mem _ (in_Mo w h)) hown hK hP hx0 (gce_Mo hx0.1) rfl 18 (by decide) (hts _ (List.mem_cons_of_mem _ gw_825)) rfl d_Mo_keep_36 ?_
      refine lv_iload_n hx hb d_Mo_keep_39 rfl (lv_at hl 1 rfl) ?_
      refine lv_iload_n hx hb d_Mo_keep_40 rfl (lv_at hl 2 rfl) ?_
      obtain ⟨hin, hw⟩ := hw
      refine g_iastore hx hb hK hY.1 hP hS (gis_Mo_keeps hY hx0) hin d_Mo_keep_41 (fun S6 eS6 H locs hP hS => ?_)
      replace hw := hw S6 eS6
      exact W.vret hx hb hr (fun t ht hW => ⟨⟨S6, rfl, hw, by rw [ht]; exact hP, va_K.moved hW.alike hK⟩, hS.F ht⟩) hS.2.2 d_Mo_keep_42
    · replace hw := hw.2 c5
      refine lv_aload_n hx hb d_Mo_keep_27 rfl (lv_at hl 0 rfl) ?_
      refine lv_iconst (v := 2) hx hb d_Mo_keep_28 (by decide) ?_
      refine g_put (ty := .int) (v := .int 2) (S' := gset S2 x0 0 2) hx hb hts (fun w h => List.mem_cons_of_mem _ (in_Mo w h)) ty_Mo tyok_Mo nm_Mo hown hK hY.1 hP hS hx0 (gce_Mo hx0.1) rfl 0 (by decide) (hts _ (List.mem_cons_of_mem _ gw_807)) rfl (by decide +kernel) rfl rfl (Nat.le_of_ble_eq_true rfl) (gp_Mo_thrown hx0.1) gce_gset d_Mo_keep_29 (fun H locs hP hS => ?_)
      obtain ⟨S7, eS7⟩ : ∃ z, z = gset S2 x0 0 2 := ⟨_, rfl⟩
      rw [← eS7] at hP
      replace hw := hw S7 eS7
      refine lv_goto (tgt := 42) hx hb d_Mo_keep_32 (by decide) ?_
      exact W.vret hx hb hr (fun t ht hW => ⟨⟨S7, rfl, hw, by rw [ht]; exact hP, va_K.moved hW.alike hK⟩, hS.F ht⟩) hS.2.2 d_Mo_keep_42
  · replace hw := hw.2 c4
    refine lv_aload_n hx hb d_Mo_keep_15 rfl (lv_at hl 0 rfl) ?_
    refine lv_iconst (v := 1) hx hb d_Mo_keep_16 (by decide) ?_
    refine g_put (ty := .int) (v := .int 1) (S' := gset S2 x0 0 1) hx hb hts (fun w h => List.mem_cons_of_mem _ (in_Mo w h)) ty_Mo tyok_Mo nm_Mo hown hK hY.1 hP hS hx0 (gce_Mo hx0.1) rfl 0 (by decide) (hts _ (List.mem_cons_of_mem _ gw_807)) rfl (by decide +kernel) rfl rfl (Nat.le_of_ble_eq_true rfl) (gp_Mo_thrown hx0.1) gce_gset d_Mo_keep_17 (fun H locs hP hS => ?_)
    obtain ⟨S8, eS8⟩ : ∃ z, z = gset S2 x0 0 1 := ⟨_, rfl⟩
    rw [← eS8] at hP
    replace hw := hw S8 eS8
    refine lv_goto (tgt := 42) hx hb d_Mo_keep_20 (by decide) ?_
    exact W.vret hx hb hr (fun t ht hW => ⟨⟨S8, rfl, hw, by rw [ht]; exact hP, va_K.moved hW.alike hK⟩, hS.F ht⟩) hS.2.2 d_Mo_keep_42
set_option maxHeartbeats 4000000 in
set_option maxRecDepth 100000 in
theorem k_Mo_keep (l : Launch) (Y : gY) (hY : gOK Y) (sz : Nat) (x0 : gI) (x1 : Int32) (x2 : Int32)  (hx0 : gis Y 10 x0) (S : gS) (Q : gS → Prop) : Met l y_Mo_keep w_Mo_keep (gRm 1 22) (gPre Y [.ref (gad Y x0), .int x1, .int x2] S sz (wp_Mo_keep (gLn Y) Q x0 x1 x2 S)) (va_Qv Q (gB Y) (gA Y sz)) 0 0 (gA Y sz) := by
  refine Met.ofW (cc := c_Mo_keep) (maxL := 3) (ret := (Option.none : Option Jvm.ClassFile.FieldType)) (by decide) rfl ?_
  intro p e s m args below meth c s₁ B hml hv
  obtain ⟨rfl, hsz, hP, hK, hSt, hw⟩ := hv
  subst hsz
  have hts := atoms_spec (ws := w_Mo_keep) B.pre
  have hl := lv_entry ([.ref (gad Y x0), .int x1, .int x2]) (n := 3) (Nat.le_of_ble_eq_true rfl)
  rw [lg_entry_eq]
  generalize (lg_sl ([.ref (gad Y x0), .int x1, .int x2]) ++ List.replicate (3 - (lg_sl ([.ref (gad Y x0), .int x1, .int x2])).length) Slot.unset).toArray = ls at hl ⊢
  exact mw_Mo_keep ⟨B.exec, B.bytes, hml, findClass_of_methodNamed B.named, hts, B.returns, B.notSynchronized, hK, hY, hSt⟩ x0 x1 x2 S s.heap [] ls hx0 hw hP va_S.rf hl

def wp_Mo_crashFile_50 (Ln : gI → Nat) (Q : gS → Prop) (x0 : gI) (x1 : Int32)  (S : gS) : Prop :=
  wp_Mo_settle Ln (fun S3 => Q S3) x0 x1 S
def wp_Mo_crashFile (Ln : gI → Nat) (Q : gS → Prop) (x0 : gI) (x1 : Int32) (x2 : Int32)  (S : gS) : Prop :=
  ((¬ x2 = 0) → (vp_in x1 (Ln (grf x0 14)) ∧ (vp_in x1 (Ln (grf x0 16)) ∧ (((((S.1 (grf x0 14) x1.toNatClampNeg) - (S.1 (grf x0 16) x1.toNatClampNeg)) ≤ (x2 - 1)) → (wp_Mo_crashFile_50 Ln Q x0 x1 S)) ∧ ((¬ ((S.1 (grf x0 14) x1.toNatClampNeg) - (S.1 (grf x0 16) x1.toNatClampNeg)) ≤ (x2 - 1)) → (vp_in x1 (Ln (grf x0 16)) ∧ (wp_Mo_cut Ln (fun S4 => wp_Mo_crashFile_50 Ln Q x0 x1 S4) x0 x1 (((S.1 (grf x0 16) x1.toNatClampNeg) + x2) - 1) S))))))) ∧ ((x2 = 0) → (wp_Mo_copy Ln (fun S5 => wp_Mo_crashFile_50 Ln Q x0 x1 S5) x0 (16 + x1) x1 S))
set_option maxHeartbeats 4000000 in
set_option maxRecDepth 100000 in
theorem mw_Mo_crashFile_50 {p : Program} {l : Launch} {e : Env} {s : State} {m : MethodId} {args : Array Value} {below : List Frame} {meth : Method} {c : Code} {Y : gY} {Q : gS → Prop} (C : gCx p s m args meth c Y "LogDiskModel" c_Mo_crashFile 3 (Option.none : Option Jvm.ClassFile.FieldType) w_Mo_crashFile) : ∀ (x0 : gI) (x1 : Int32)  (S : gS) (H : Heap) (locs : List Loc) (ls : Array Slot), gis Y 10 x0 → wp_Mo_crashFile_50 (gLn Y) Q x0 x1 S → gWd Y S H → va_S (gA Y s.heap.size) s.heap H locs → lv_has ls 3 [(0, .ref (gad Y x0)), (1, .int x1)] → W p l e (gRm 3 66) s m args below meth c H locs 0 0 (MQ below (va_Qv Q (gB Y) (gA Y s.heap.size)) args s 0 0 (gA Y s.heap.size)) (F0 m 50 ls []) := by
  have C0 := C
  obtain ⟨hx, hb, hml, hown, hts, hr, hlocks, hK, hY, hSt⟩ := C
  intro x0 x1 S H locs ls hx0 hw hP hS hl
  unfold wp_Mo_crashFile_50 at hw
  refine lv_aload_n hx hb d_Mo_crashFile_50 rfl (lv_at hl 0 rfl) ?_
  refine lv_iload_n hx hb d_Mo_crashFile_51 rfl (lv_at hl 1 rfl) ?_
  refine g_callv (va_runV (As := [.int x1]) (rest := []) ⟨hx, hb, hml, hown, hts⟩ (k_Mo_settle l Y hY H.size x0 x1 hx0 S _) (cwV 1 hts (gG_V gw_1017 gw_1019 gs_38 gw_12 gw_1020) rfl rfl rfl (by decide +kernel) ⟨Nat.le_of_ble_eq_true rfl, Nat.le_of_ble_eq_true rfl⟩) ⟨gPre_blind, g_recv hK hP hx0 (gce_Mo hx0.1) rfl, g_pre hK hSt hS hP hw⟩ rfl rfl hl.1 rfl (lv_room (Nat.le_of_ble_eq_true rfl)) d_Mo_crashFile_52 ⟨Nat.zero_le _, Nat.zero_le _⟩) hS (fun S3 H locs hw hP hS => ?_)
  exact W.vret hx hb hr (fun t ht hW => ⟨⟨S3, rfl, hw, by rw [ht]; exact hP, va_K.moved hW.alike hK⟩, hS.F ht⟩) hS.2.2 d_Mo_crashFile_55
set_option maxHeartbeats 4000000 in
set_option maxRecDepth 100000 in
theorem mw_Mo_crashFile {p : Program} {l : Launch} {e : Env} {s : State} {m : MethodId} {args : Array Value} {below : List Frame} {meth : Method} {c : Code} {Y : gY} {Q : gS → Prop} (C : gCx p s m args meth c Y "LogDiskModel" c_Mo_crashFile 3 (Option.none : Option Jvm.ClassFile.FieldType) w_Mo_crashFile) : ∀ (x0 : gI) (x1 : Int32) (x2 : Int32)  (S : gS) (H : Heap) (locs : List Loc) (ls : Array Slot), gis Y 10 x0 → wp_Mo_crashFile (gLn Y) Q x0 x1 x2 S → gWd Y S H → va_S (gA Y s.heap.size) s.heap H locs → lv_has ls 3 [(0, .ref (gad Y x0)), (1, .int x1), (2, .int x2)] → W p l e (gRm 3 66) s m args below meth c H locs 0 0 (MQ below (va_Qv Q (gB Y) (gA Y s.heap.size)) args s 0 0 (gA Y s.heap.size)) (F0 m 0 ls []) := by
  have C0 := C
  obtain ⟨hx, hb, hml, hown, hts, hr, hlocks, hK, hY, hSt⟩ := C
  intro x0 x1 x2 S H locs ls hx0 hw hP hS hl
  unfold wp_Mo_crashFile at hw
  refine lv_iload_n hx hb d_Mo_crashFile_0 rfl (lv_at hl 2 rfl) ?_
  refine lv_if_ne (tgt := 16) hx hb d_Mo_crashFile_1 (by decide) (fun c1 => ?_) (fun c1 => ?_)
  · replace hw := hw.1 c1
    refine lv_aload_n hx hb d_Mo_crashFile_16 rfl (lv_at hl 0 rfl) ?_
    refine g_get hx hb hts (fun w h => List.mem_cons_of_mem _ (in_Mo w h)) hown hK hP hx0 (gce_Mo hx0.1) rfl 14 (by decide) (hts _ (List.mem_cons_of_mem _ gw_821)) rfl d_Mo_crashFile_17 ?_
    refine lv_iload_n hx hb d_Mo_crashFile_20 rfl (lv_at hl 1 rfl) ?_
    obtain ⟨hin, hw⟩ := hw
    refine g_iaload hx hb hK hP (gis_Mo_sizes hY hx0) hin d_Mo_crashFile_21 ?_
    refine lv_aload_n hx hb d_Mo_crashFile_22 rfl (lv_at hl 0 rfl) ?_
    refine g_get hx hb hts (fun w h => List.mem_cons_of_mem _ (in_Mo w h)) hown hK hP hx0 (gce_Mo hx0.1) rfl 16 (by decide) (hts _ (List.mem_cons_of_mem _ gw_823)) rfl d_Mo_crashFile_23 ?_
    refine lv_iload_n hx hb d_Mo_crashFile_26 rfl (lv_at hl 1 rfl) ?_
    obtain ⟨hin, hw⟩ := hw
    refine g_iaload hx hb hK hP (gis_Mo_lows hY hx0) hin d_Mo_crashFile_27 ?_
    refine lv_isub hx hb d_Mo_crashFile_28 ?_
    refine lv_iload_n hx hb d_Mo_crashFile_29 rfl (lv_at hl 2 rfl) ?_
    refine lv_iconst (v := 1) hx hb d_Mo_crashFile_30 (by decide) ?_
    refine lv_isub hx hb d_Mo_crashFile_31 ?_
    refine lv_icmp_le (tgt := 50) hx hb d_Mo_crashFile_32 (by decide) (fun c2 => ?_) (fun c2 => ?_)
    · replace hw := hw.1 c2
      exact mw_Mo_crashFile_50 C0 x0 x1 S H locs ls hx0 hw hP hS (lv_sub hl [0, 1] rfl)
    · replace hw := hw.2 c2
      refine lv_aload_n hx hb d_Mo_crashFile_35 rfl (lv_at hl 0 rfl) ?_
      refine lv_iload_n hx hb d_Mo_crashFile_36 rfl (lv_at hl 1 rfl) ?_
      refine lv_aload_n hx hb d_Mo_crashFile_37 rfl (lv_at hl 0 rfl) ?_
      refine g_get hx hb hts (fun w h => List.mem_cons_of_mem _ (in_Mo w h)) hown hK hP hx0 (gce_Mo hx0.1) rfl 16 (by decide) (hts _ (List.mem_cons_of_mem _ gw_823)) rfl d_Mo_crashFile_38 ?_
      refine lv_iload_n hx hb d_Mo_crashFile_41 rfl (lv_at hl 1 rfl) ?_
      obtain ⟨hin, hw⟩ := hw
      refine g_iaload hx hb hK hP (gis_Mo_lows hY hx0) hin d_Mo_crashFile_42 ?_
      refine lv_iload_n hx hb d_Mo_crashFile_43 rfl (lv_at hl 2 rfl) ?_
      refine lv_iadd hx hb d_Mo_crashFile_44 ?_
      refine lv_iconst (v := 1) hx hb d_Mo_crashFile_45 (by decide) ?_
      refine lv_isub hx hb d_Mo_crashFile_46 ?_
      refine g_callv (va_runV (As := [.int x1, .int (((S.1 (grf x0 16) x1.toNatClampNeg) + x2) - 1)]) (rest := []) ⟨hx, hb, hml, hown, hts⟩ (k_Mo_cut l Y hY H.size x0 x1 (((S.1 (grf x0 16) x1.toNatClampNeg) + x2) - 1) hx0 S _) (cwV 2 hts (gG_V gw_949 gw_951 gs_24 gw_12 gw_952) rfl rfl rfl (by decide +kernel) ⟨Nat.le_of_ble_eq_true rfl, Nat.le_of_ble_eq_true rfl⟩) ⟨gPre_blind, g_recv hK hP hx0 (gce_Mo hx0.1) rfl, g_pre hK hSt hS hP hw⟩ rfl rfl hl.1 rfl (lv_room (Nat.le_of_ble_eq_true rfl)) d_Mo_crashFile_47 ⟨Nat.zero_le _, Nat.zero_le _⟩) hS (fun S4 H locs hw hP hS => ?_)
      exact mw_Mo_crashFile_50 C0 x0 x1 S4 H locs ls hx0 hw hP hS (lv_sub hl [0, 1] rfl)
  · replace hw := hw.2 c1
    refine lv_aload_n hx hb d_Mo_crashFile_4 rfl (lv_at hl 0 rfl) ?_
    refine lv_bipush (v := 16) hx hb d_Mo_crashFile_5 (by decide) ?_
    refine lv_iload_n hx hb d_Mo_crashFile_7 rfl (lv_at hl 1 rfl) ?_
    refine lv_iadd hx hb d_Mo_crashFile_8 ?_
    refine lv_iload_n hx hb d_Mo_crashFile_9 rfl (lv_at hl 1 rfl) ?_
    refine g_callv (va_runV (As := [.int (16 + x1), .int x1]) (rest := []) ⟨hx, hb, hml, hown, hts⟩ (k_Mo_copy l Y hY H.size x0 (16 + x1) x1 hx0 S _) (cwV 2 hts (gG_V gw_1021 gw_1023 gs_39 gw_12 gw_1024) rfl rfl rfl (by decide +kernel) ⟨Nat.le_of_ble_eq_true rfl, Nat.le_of_ble_eq_true rfl⟩) ⟨gPre_blind, g_recv hK hP hx0 (gce_Mo hx0.1) rfl, g_pre hK hSt hS hP hw⟩ rfl rfl hl.1 rfl (lv_room (Nat.le_of_ble_eq_true rfl)) d_Mo_crashFile_10 ⟨Nat.zero_le _, Nat.zero_le _⟩) hS (fun S5 H locs hw hP hS => ?_)
    refine lv_goto (tgt := 50) hx hb d_Mo_crashFile_13 (by decide) ?_
    exact mw_Mo_crashFile_50 C0 x0 x1 S5 H locs ls hx0 hw hP hS (lv_sub hl [0, 1] rfl)
set_option maxHeartbeats 4000000 in
set_option maxRecDepth 100000 in
theorem k_Mo_crashFile (l : Launch) (Y : gY) (hY : gOK Y) (sz : Nat) (x0 : gI) (x1 : Int32) (x2 : Int32)  (hx0 : gis Y 10 x0) (S : gS) (Q : gS → Prop) : Met l y_Mo_crashFile w_Mo_crashFile (gRm 3 66) (gPre Y [.ref (gad Y x0), .int x1, .int x2] S sz (wp_Mo_crashFile (gLn Y) Q x0 x1 x2 S)) (va_Qv Q (gB Y) (gA Y sz)) 0 0 (gA Y sz) := by
  refine Met.ofW (cc := c_Mo_crashFile) (maxL := 3) (ret := (Option.none : Option Jvm.ClassFile.FieldType)) (by decide) rfl ?_
  intro p e s m args below meth c s₁ B hml hv
  obtain ⟨rfl, hsz, hP, hK, hSt, hw⟩ := hv
  subst hsz
  have hts := atoms_spec (ws := w_Mo_crashFile) B.pre
  have hl := lv_entry ([.ref (gad Y x0), .int x1, .int x2]) (n := 3) (Nat.le_of_ble_eq_true rfl)
  rw [lg_entry_eq]
  generalize (lg_sl ([.ref (gad Y x0), .int x1, .int x2]) ++ List.replicate (3 - (lg_sl ([.ref (gad Y x0), .int x1, .int x2])).length) Slot.unset).toArray = ls at hl ⊢
  exact mw_Mo_crashFile ⟨B.exec, B.bytes, hml, findClass_of_methodNamed B.named, hts, B.returns, B.notSynchronized, hK, hY, hSt⟩ x0 x1 x2 S s.heap [] ls hx0 hw hP va_S.rf hl

def wp_Mo_whole_55 (Ln : gI → Nat) (K7 : gI → Int32 → Int32 → Int32 → Int32 → gS → Prop) (Q : Int32 → gS → Prop) (x0 : gI) (x1 : Int32) (x2 : Int32) (x4 : Int32) (y0 : Int32) (S : gS) : Prop :=
  ∀ v4_6 : Int32, v4_6 = x4 + 1 → (K7 x0 x1 x2 y0 v4_6 S)
def wp_Mo_whole_7 (Ln : gI → Nat) (Q : Int32 → gS → Prop) : Nat → gI → Int32 → Int32 → Int32 → Int32 → gS → Prop
  | 0, _, _, _, _, _, _ => False
  | n7 + 1, x0, x1, x2, x3, x4, S => vp_in x1 (Ln (grf x0 13)) ∧ ((((S.1 (grf x0 13) x1.toNatClampNeg) ≤ x4) → (Q x3 S)) ∧ ((¬ (S.1 (grf x0 13) x1.toNatClampNeg) ≤ x4) → (vp_in ((330 * x1) + x4) (Ln (grf x0 12)) ∧ (wp_Mo_space Ln (fun r3 S2 => ∀ v2_4 : Int32, v2_4 = x2 + r3 → (vp_in x1 (Ln (grf x0 14)) ∧ ((((S2.1 (grf x0 14) x1.toNatClampNeg) < v2_4) → (wp_Mo_whole_55 Ln (fun z0 z1 z2 z3 z4 zS => wp_Mo_whole_7 Ln Q n7 z0 z1 z2 z3 z4 zS) Q x0 x1 v2_4 x4 x3 S2)) ∧ ((¬ (S2.1 (grf x0 14) x1.toNatClampNeg) < v2_4) → (wp_Mo_whole_55 Ln (fun z0 z1 z2 z3 z4 zS => wp_Mo_whole_7 Ln Q n7 z0 z1 z2 z3 z4 zS) Q x0 x1 v2_4 x4 (x3 + 1) S2))))) x0 (S.1 (grf x0 12) ((330 * x1) + x4).toNatClampNeg) S))))
def wp_Mo_whole (Ln : gI → Nat) (Q : Int32 → gS → Prop) (x0 : gI) (x1 : Int32)  (S : gS) : Prop :=
  ∃ n7 : Nat, wp_Mo_whole_7 Ln Q n7 x0 x1 0 0 0 S
set_option maxHeartbeats 4000000 in
set_option maxRecDepth 100000 in
theorem mw_Mo_whole_55 {p : Program} {l : Launch} {e : Env} {s : State} {m : MethodId} {args : Array Value} {below : List Frame} {meth : Method} {c : Code} {Y : gY} {Q : Int32 → gS → Prop} {K7 : gI → Int32 → Int32 → Int32 → Int32 → gS → Prop} (C : gCx p s m args meth c Y "LogDiskModel" c_Mo_whole 5 (Option.some Jvm.ClassFile.FieldType.int) w_Mo_whole) (hK7 : ∀ (x0 : gI) (x1 : Int32) (x2 : Int32) (x3 : Int32) (x4 : Int32)  (S : gS) (H : Heap) (locs : List Loc) (ls : Array Slot), gis Y 10 x0 → K7 x0 x1 x2 x3 x4 S → gWd Y S H → va_S (gA Y s.heap.size) s.heap H locs → lv_has ls 5 [(0, .ref (gad Y x0)), (1, .int x1), (2, .int x2), (3, .int x3), (4, .int x4)] → W p l e (gRm 2 42) s m args below meth c H locs 0 0 (MQ below (va_Qi Q (gB Y) (gA Y s.heap.size)) args s 0 0 (gA Y s.heap.size)) (F0 m 7 ls [])) : ∀ (x0 : gI) (x1 : Int32) (x2 : Int32) (x4 : Int32) (y0 : Int32) (S : gS) (H : Heap) (locs : List Loc) (ls : Array Slot), gis Y 10 x0 → wp_Mo_whole_55 (gLn Y) K7 Q x0 x1 x2 x4 y0 S → gWd Y S H → va_S (gA Y s.heap.size) s.heap H locs → lv_has ls 5 [(0, .ref (gad Y x0)), (1, .int x1), (2, .int x2), (4, .int x4)] → W p l e (gRm 2 42) s m args below meth c H locs 0 0 (MQ below (va_Qi Q (gB Y) (gA Y s.heap.size)) args s 0 0 (gA Y s.heap.size)) (F0 m 55 ls [.int y0]) := by
  have C0 := C
  obtain ⟨hx, hb, hml, hown, hts, hr, hlocks, hK, hY, hSt⟩ := C
  intro x0 x1 x2 x4 y0 S H locs ls hx0 hw hP hS hl
  unfold wp_Mo_whole_55 at hw
  refine lv_istore_n (lv' := [(3, .int y0), (0, .ref (gad Y x0)), (1, .int x1), (2, .int x2), (4, .int x4)]) hx hb d_Mo_whole_55 rfl hl (by decide) rfl (fun ls hl => ?_)
  obtain ⟨v4_6, ev4_6⟩ : ∃ y : Int32, y = x4 + 1 := ⟨_, rfl⟩
  replace hw := hw v4_6 ev4_6
  refine lv_iinc (v := v4_6) (lv' := [(4, .int v4_6), (3, .int y0), (0, .ref (gad Y x0)), (1, .int x1), (2, .int x2)]) hx hb d_Mo_whole_56 hl (k := 4) rfl (by rw [ev4_6]; rfl) (by decide) rfl (fun ls hl => ?_)
  refine lv_goto (tgt := 7) hx hb d_Mo_whole_59 (by decide) ?_
  exact hK7 x0 x1 x2 y0 v4_6 S H locs ls hx0 hw hP hS (lv_sub hl [2, 3, 4, 1, 0] rfl)
set_option maxHeartbeats 4000000 in
set_option maxRecDepth 100000 in
theorem mw_Mo_whole_7 {p : Program} {l : Launch} {e : Env} {s : State} {m : MethodId} {args : Array Value} {below : List Frame} {meth : Method} {c : Code} {Y : gY} {Q : Int32 → gS → Prop} (C : gCx p s m args meth c Y "LogDiskModel" c_Mo_whole 5 (Option.some Jvm.ClassFile.FieldType.int) w_Mo_whole) : ∀ (n : Nat), ∀ (x0 : gI) (x1 : Int32) (x2 : Int32) (x3 : Int32) (x4 : Int32)  (S : gS) (H : Heap) (locs : List Loc) (ls : Array Slot), gis Y 10 x0 → wp_Mo_whole_7 (gLn Y) Q n x0 x1 x2 x3 x4 S → gWd Y S H → va_S (gA Y s.heap.size) s.heap H locs → lv_has ls 5 [(0, .ref (gad Y x0)), (1, .int x1), (2, .int x2), (3, .int x3), (4, .int x4)] → W p l e (gRm 2 42) s m args below meth c H locs 0 0 (MQ below (va_Qi Q (gB Y) (gA Y s.heap.size)) args s 0 0 (gA Y s.heap.size)) (F0 m 7 ls []) := by
  have C0 := C
  obtain ⟨hx, hb, hml, hown, hts, hr, hlocks, hK, hY, hSt⟩ := C
  intro n
  induction n with
  | zero =>
    intro x0 x1 x2 x3 x4 S H locs ls hx0 hw
    exact False.elim hw
  | succ n ih =>
    intro x0 x1 x2 x3 x4 S H locs ls hx0 hw hP hS hl
    unfold wp_Mo_whole_7 at hw
    refine lv_iload hx hb d_Mo_whole_7 (lv_at hl 4 rfl) ?_
    refine lv_aload_n hx hb d_Mo_whole_9 rfl (lv_at hl 0 rfl) ?_
    refine g_get hx hb hts (fun w h => List.mem_cons_of_mem _ (in_Mo w h)) hown hK hP hx0 (gce_Mo hx0.1) rfl 13 (by decide) (hts _ (List.mem_cons_of_mem _ gw_820)) rfl d_Mo_whole_10 ?_
    refine lv_iload_n hx hb d_Mo_whole_13 rfl (lv_at hl 1 rfl) ?_
    obtain ⟨hin, hw⟩ := hw
    refine g_iaload hx hb hK hP (gis_Mo_counts hY hx0) hin d_Mo_whole_14 ?_
    refine lv_icmp_ge (tgt := 62) hx hb d_Mo_whole_15 (by decide) (fun c1 => ?_) (fun c1 => ?_)
    · replace hw := hw.1 c1
      refine lv_iload_n hx hb d_Mo_whole_62 rfl (lv_at hl 3 rfl) ?_
      exact W.iret (v := x3) hx hb hr (fun t ht hW => ⟨⟨x3, S, rfl, hw, by rw [ht]; exact hP, va_K.moved hW.alike hK⟩, hS.F ht⟩) hS.2.2 d_Mo_whole_63
    · replace hw := hw.2 c1
      refine lv_iload_n hx hb d_Mo_whole_18 rfl (lv_at hl 2 rfl) ?_
      refine lv_aload_n hx hb d_Mo_whole_19 rfl (lv_at hl 0 rfl) ?_
      refine lv_aload_n hx hb d_Mo_whole_20 rfl (lv_at hl 0 rfl) ?_
      refine g_get hx hb hts (fun w h => List.mem_cons_of_mem _ (in_Mo w h)) hown hK hP hx0 (gce_Mo hx0.1) rfl 12 (by decide) (hts _ (List.mem_cons_of_mem _ gw_819)) rfl d_Mo_whole_21 ?_
      refine lv_sipush (v := 330) hx hb d_Mo_whole_24 (by decide) ?_
      refine lv_iload_n hx hb d_Mo_whole_27 rfl (lv_at hl 1 rfl) ?_
      refine lv_imul hx hb d_Mo_whole_28 ?_
      refine lv_iload hx hb d_Mo_whole_29 (lv_at hl 4 rfl) ?_
      refine lv_iadd hx hb d_Mo_whole_31 ?_
      obtain ⟨hin, hw⟩ := hw
      refine g_iaload hx hb hK hP (gis_Mo_rows hY hx0) hin d_Mo_whole_32 ?_
      refine g_calli (va_runV (As := [.int (S.1 (grf x0 12) ((330 * x1) + x4).toNatClampNeg)]) (rest := [.int x2]) ⟨hx, hb, hml, hown, hts⟩ (k_Mo_space l Y hY H.size x0 (S.1 (grf x0 12) ((330 * x1) + x4).toNatClampNeg) hx0 S _) (cwV 1 hts (gG_V gw_953 gw_955 gs_25 gw_12 gw_956) rfl rfl rfl (by decide +kernel) ⟨Nat.le_of_ble_eq_true rfl, Nat.le_of_ble_eq_true rfl⟩) ⟨gPre_blind, g_recv hK hP hx0 (gce_Mo hx0.1) rfl, g_pre hK hSt hS hP hw⟩ rfl rfl hl.1 rfl (lv_room (Nat.le_of_ble_eq_true rfl)) d_Mo_whole_33 ⟨Nat.zero_le _, Nat.zero_le _⟩) hS (fun r3 S2 H locs hw hP hS => ?_)
      refine lv_iadd hx hb d_Mo_whole_36 ?_
      refine lv_topi (fun v2_4 ev2_4 => ?_)
      replace hw := hw v2_4 ev2_4
      refine lv_istore_n (lv' := [(2, .int v2_4), (0, .ref (gad Y x0)), (1, .int x1), (3, .int x3), (4, .int x4)]) hx hb d_Mo_whole_37 rfl hl (by decide) rfl (fun ls hl => ?_)
      refine lv_iload_n hx hb d_Mo_whole_38 rfl (lv_at hl 0 rfl) ?_
      refine lv_aload_n hx hb d_Mo_whole_39 rfl (lv_at hl 1 rfl) ?_
      refine g_get hx hb hts (fun w h => List.mem_cons_of_mem _ (in_Mo w h)) hown hK hP hx0 (gce_Mo hx0.1) rfl 14 (by decide) (hts _ (List.mem_cons_of_mem _ gw_821)) rfl d_Mo_whole_40 ?_
      refine lv_iload_n hx hb d_Mo_whole_43 rfl (lv_at hl 2 rfl) ?_
      obtain ⟨hin, hw⟩ := hw
      refine g_iaload hx hb hK hP (gis_Mo_sizes hY hx0) hin d_Mo_whole_44 ?_
      refine lv_icmp_gt (tgt := 54) hx hb d_Mo_whole_45 (by decide) (fun c5 => ?_) (fun c5 => ?_)
      · replace hw := hw.1 c5
        refine lv_iload_n hx hb d_Mo_whole_54 rfl (lv_at hl 3 rfl) ?_
        exact mw_Mo_whole_55 C0 ih x0 x1 v2_4 x4 x3 S2 H locs ls hx0 hw hP hS (lv_sub hl [1, 2, 0, 4] rfl)
      · replace hw := hw.2 c5
        refine lv_iload_n hx hb d_Mo_whole_48 rfl (lv_at hl 3 rfl) ?_
        refine lv_iconst (v := 1) hx hb d_Mo_whole_49 (by decide) ?_
        refine lv_iadd hx hb d_Mo_whole_50 ?_
        refine lv_goto (tgt := 55) hx hb d_Mo_whole_51 (by decide) ?_
        exact mw_Mo_whole_55 C0 ih x0 x1 v2_4 x4 (x3 + 1) S2 H locs ls hx0 hw hP hS (lv_sub hl [1, 2, 0, 4] rfl)
set_option maxHeartbeats 4000000 in
set_option maxRecDepth 100000 in
theorem mw_Mo_whole {p : Program} {l : Launch} {e : Env} {s : State} {m : MethodId} {args : Array Value} {below : List Frame} {meth : Method} {c : Code} {Y : gY} {Q : Int32 → gS → Prop} (C : gCx p s m args meth c Y "LogDiskModel" c_Mo_whole 5 (Option.some Jvm.ClassFile.FieldType.int) w_Mo_whole) : ∀ (x0 : gI) (x1 : Int32)  (S : gS) (H : Heap) (locs : List Loc) (ls : Array Slot), gis Y 10 x0 → wp_Mo_whole (gLn Y) Q x0 x1 S → gWd Y S H → va_S (gA Y s.heap.size) s.heap H locs → lv_has ls 5 [(0, .ref (gad Y x0)), (1, .int x1)] → W p l e (gRm 2 42) s m args below meth c H locs 0 0 (MQ below (va_Qi Q (gB Y) (gA Y s.heap.size)) args s 0 0 (gA Y s.heap.size)) (F0 m 0 ls []) := by
  have C0 := C
  obtain ⟨hx, hb, hml, hown, hts, hr, hlocks, hK, hY, hSt⟩ := C
  intro x0 x1 S H locs ls hx0 hw hP hS hl
  unfold wp_Mo_whole at hw
  refine lv_iconst (v := 0) hx hb d_Mo_whole_0 (by decide) ?_
  refine lv_istore_n (lv' := [(2, .int 0), (0, .ref (gad Y x0)), (1, .int x1)]) hx hb d_Mo_whole_1 rfl hl (by decide) rfl (fun ls hl => ?_)
  refine lv_iconst (v := 0) hx hb d_Mo_whole_2 (by decide) ?_
  refine lv_istore_n (lv' := [(3, .int 0), (2, .int 0), (0, .ref (gad Y x0)), (1, .int x1)]) hx hb d_Mo_whole_3 rfl hl (by decide) rfl (fun ls hl => ?_)
  refine lv_iconst (v := 0) hx hb d_Mo_whole_4 (by decide) ?_
  refine lv_istore (lv' := [(4, .int 0), (3, .int 0), (2, .int 0), (0, .ref (gad Y x0)), (1, .int x1)]) hx hb d_Mo_whole_5 hl (by decide) rfl (fun ls hl => ?_)
  obtain ⟨n, hw⟩ := hw
  exact mw_Mo_whole_7 C0 n x0 x1 0 0 0 S H locs ls hx0 hw hP hS (lv_sub hl [3, 4, 2, 1, 0] rfl)
set_option maxHeartbeats 4000000 in
set_option maxRecDepth 100000 in
theorem k_Mo_whole (l : Launch) (Y : gY) (hY : gOK Y) (sz : Nat) (x0 : gI) (x1 : Int32)  (hx0 : gis Y 10 x0) (S : gS) (Q : Int32 → gS → Prop) : Met l y_Mo_whole w_Mo_whole (gRm 2 42) (gPre Y [.ref (gad Y x0), .int x1] S sz (wp_Mo_whole (gLn Y) Q x0 x1 S)) (va_Qi Q (gB Y) (gA Y sz)) 0 0 (gA Y sz) := by
  refine Met.ofW (cc := c_Mo_whole) (maxL := 5) (ret := (Option.some Jvm.ClassFile.FieldType.int)) (by decide) rfl ?_
  intro p e s m args below meth c s₁ B hml hv
  obtain ⟨rfl, hsz, hP, hK, hSt, hw⟩ := hv
  subst hsz
  have hts := atoms_spec (ws := w_Mo_whole) B.pre
  have hl := lv_entry ([.ref (gad Y x0), .int x1]) (n := 5) (Nat.le_of_ble_eq_true rfl)
  rw [lg_entry_eq]
  generalize (lg_sl ([.ref (gad Y x0), .int x1]) ++ List.replicate (5 - (lg_sl ([.ref (gad Y x0), .int x1])).length) Slot.unset).toArray = ls at hl ⊢
  exact mw_Mo_whole ⟨B.exec, B.bytes, hml, findClass_of_methodNamed B.named, hts, B.returns, B.notSynchronized, hK, hY, hSt⟩ x0 x1 S s.heap [] ls hx0 hw hP va_S.rf hl

def wp_Mo_findSlots_103 (Ln : gI → Nat) (K22 : gI → Int32 → gS → Prop) (Q : gS → Prop) (x0 : gI) (x1 : Int32)  (S : gS) : Prop :=
  ∀ v1_10 : Int32, v1_10 = x1 + 1 → (K22 x0 v1_10 S)
def wp_Mo_findSlots_22 (Ln : gI → Nat) (Q : gS → Prop) : Nat → gI → Int32 → gS → Prop
  | 0, _, _, _ => False
  | n22 + 1, x0, x1, S => ((2 ≤ x1) → (∀ S6 : gS, S6 = gset S x0 28 0 → (Q S6))) ∧ ((¬ 2 ≤ x1) → (wp_Mo_whole Ln (fun r8 S7 => ((r8 ≤ 0) → (wp_Mo_findSlots_103 Ln (fun z0 z1 zS => wp_Mo_findSlots_22 Ln Q n22 z0 z1 zS) Q x0 x1 S7)) ∧ ((¬ r8 ≤ 0) → (vp_in (330 * x1) (Ln (grf x0 12)) ∧ (vp_in (S7.1 (grf x0 12) (330 * x1).toNatClampNeg) (Ln (grf x0 5)) ∧ ((((S7.1 (grf x0 5) (S7.1 (grf x0 12) (330 * x1).toNatClampNeg).toNatClampNeg) ≤ (S7.1 x0 21)) → (wp_Mo_findSlots_103 Ln (fun z0 z1 zS => wp_Mo_findSlots_22 Ln Q n22 z0 z1 zS) Q x0 x1 S7)) ∧ ((¬ (S7.1 (grf x0 5) (S7.1 (grf x0 12) (330 * x1).toNatClampNeg).toNatClampNeg) ≤ (S7.1 x0 21)) → (vp_in (330 * x1) (Ln (grf x0 12)) ∧ (∀ v2_12 : Int32, v2_12 = S7.1 (grf x0 12) (330 * x1).toNatClampNeg → (vp_in v2_12 (Ln (grf x0 5)) ∧ (∀ S13 : gS, S13 = gset S7 x0 21 (S7.1 (grf x0 5) v2_12.toNatClampNeg) → (vp_in v2_12 (Ln (grf x0 6)) ∧ (∀ S14 : gS, S14 = gset S13 x0 19 (S13.1 (grf x0 6) v2_12.toNatClampNeg) → (vp_in v2_12 (Ln (grf x0 7)) ∧ (∀ S15 : gS, S15 = gset S14 x0 20 (S14.1 (grf x0 7) v2_12.toNatClampNeg) → (∀ S16 : gS, S16 = gset S15 x0 22 x1 → (wp_Mo_findSlots_103 Ln (fun z0 z1 zS => wp_Mo_findSlots_22 Ln Q n22 z0 z1 zS) Q x0 x1 S16)))))))))))))))) x0 x1 S))
def wp_Mo_findSlots (Ln : gI → Nat) (Q : gS → Prop) (x0 : gI)  (S : gS) : Prop :=
  ∀ S1 : gS, S1 = gset S x0 19 0 → (∀ S2 : gS, S2 = gset S1 x0 20 (-1 : Int32) → (∀ S3 : gS, S3 = gset S2 x0 21 0 → (∀ S4 : gS, S4 = gset S3 x0 22 0 → (∃ n22 : Nat, wp_Mo_findSlots_22 Ln Q n22 x0 0 S4))))
set_option maxHeartbeats 4000000 in
set_option maxRecDepth 100000 in
theorem mw_Mo_findSlots_103 {p : Program} {l : Launch} {e : Env} {s : State} {m : MethodId} {args : Array Value} {below : List Frame} {meth : Method} {c : Code} {Y : gY} {Q : gS → Prop} {K22 : gI → Int32 → gS → Prop} (C : gCx p s m args meth c Y "LogDiskModel" c_Mo_findSlots 3 (Option.none : Option Jvm.ClassFile.FieldType) w_Mo_findSlots) (hK22 : ∀ (x0 : gI) (x1 : Int32)  (S : gS) (H : Heap) (locs : List Loc) (ls : Array Slot), gis Y 10 x0 → K22 x0 x1 S → gWd Y S H → va_S (gA Y s.heap.size) s.heap H locs → lv_has ls 3 [(0, .ref (gad Y x0)), (1, .int x1)] → W p l e (gRm 3 66) s m args below meth c H locs 0 0 (MQ below (va_Qv Q (gB Y) (gA Y s.heap.size)) args s 0 0 (gA Y s.heap.size)) (F0 m 22 ls [])) : ∀ (x0 : gI) (x1 : Int32)  (S : gS) (H : Heap) (locs : List Loc) (ls : Array Slot), gis Y 10 x0 → wp_Mo_findSlots_103 (gLn Y) K22 Q x0 x1 S → gWd Y S H → va_S (gA Y s.heap.size) s.heap H locs → lv_has ls 3 [(0, .ref (gad Y x0)), (1, .int x1)] → W p l e (gRm 3 66) s m args below meth c H locs 0 0 (MQ below (va_Qv Q (gB Y) (gA Y s.heap.size)) args s 0 0 (gA Y s.heap.size)) (F0 m 103 ls []) := by
  have C0 := C
  obtain ⟨hx, hb, hml, hown, hts, hr, hlocks, hK, hY, hSt⟩ := C
  intro x0 x1 S H locs ls hx0 hw hP hS hl
  unfold wp_Mo_findSlots_103 at hw
  obtain ⟨v1_10, ev1_10⟩ : ∃ y : Int32, y = x1 + 1 := ⟨_, rfl⟩
  replace hw := hw v1_10 ev1_10
  refine lv_iinc (v := v1_10) (lv' := [(1, .int v1_10), (0, .ref (gad Y x0))]) hx hb d_Mo_findSlots_103 hl (k := 1) rfl (by rw [ev1_10]; rfl) (by decide) rfl (fun ls hl => ?_)
  refine lv_goto (tgt := 22) hx hb d_Mo_findSlots_106 (by decide) ?_
  exact hK22 x0 v1_10 S H locs ls hx0 hw hP hS (lv_sub hl [1, 0] rfl)
set_option maxHeartbeats 4000000 in
set_option maxRecDepth 100000 in
theorem mw_Mo_findSlots_22 {p : Program} {l : Launch} {e : Env} {s : State} {m : MethodId} {args : Array Value} {below : List Frame} {meth : Method} {c : Code} {Y : gY} {Q : gS → Prop} (C : gCx p s m args meth c Y "LogDiskModel" c_Mo_findSlots 3 (Option.none : Option Jvm.ClassFile.FieldType) w_Mo_findSlots) : ∀ (n : Nat), ∀ (x0 : gI) (x1 : Int32)  (S : gS) (H : Heap) (locs : List Loc) (ls : Array Slot), gis Y 10 x0 → wp_Mo_findSlots_22 (gLn Y) Q n x0 x1 S → gWd Y S H → va_S (gA Y s.heap.size) s.heap H locs → lv_has ls 3 [(0, .ref (gad Y x0)), (1, .int x1)] → W p l e (gRm 3 66) s m args below meth c H locs 0 0 (MQ below (va_Qv Q (gB Y) (gA Y s.heap.size)) args s 0 0 (gA Y s.heap.size)) (F0 m 22 ls []) := by
  have C0 := C
  obtain ⟨hx, hb, hml, hown, hts, hr, hlocks, hK, hY, hSt⟩ := C
  intro n
  induction n with
  | zero =>
    intro x0 x1 S H locs ls hx0 hw
    exact False.elim hw
  | succ n ih =>
    intro x0 x1 S H locs ls hx0 hw hP hS hl
    unfold wp_Mo_findSlots_22 at hw
    refine lv_iload_n hx hb d_Mo_findSlots_22 rfl (lv_at hl 1 rfl) ?_
    refine lv_iconst (v := 2) hx hb d_Mo_findSlots_23 (by decide) ?_
    refine lv_icmp_ge (tgt := 109) hx hb d_Mo_findSlots_24 (by decide) (fun c5 => ?_) (fun c5 => ?_)
    · replace hw := hw.1 c5
      refine lv_aload_n hx hb d_Mo_findSlots_109 rfl (lv_at hl 0 rfl) ?_
      refine lv_iconst (v := 0) hx hb d_Mo_findSlots_110 (by decide) ?_
      refine g_put (ty := .boolean) (v := .int 0) (S' := gset S x0 28 0) hx hb hts (fun w h => List.mem_cons_of_mem _ (in_Mo w h)) ty_Mo tyok_Mo nm_Mo hown hK hY.1 hP hS hx0 (gce_Mo hx0.1) rfl 28 (by decide) (hts _ (List.mem_cons_of_mem _ gw_835)) rfl (by decide +kernel) rfl rfl (Nat.le_of_ble_eq_true rfl) (gp_Mo_slotSince hx0.1) gce_gset d_Mo_findSlots_111 (fun H locs hP hS => ?_)
      obtain ⟨S6, eS6⟩ : ∃ z, z = gset S x0 28 0 := ⟨_, rfl⟩
      rw [← eS6] at hP
      replace hw := hw S6 eS6
      exact W.vret hx hb hr (fun t ht hW => ⟨⟨S6, rfl, hw, by rw [ht]; exact hP, va_K.moved hW.alike hK⟩, hS.F ht⟩) hS.2.2 d_Mo_findSlots_114
    · replace hw := hw.2 c5
      refine lv_aload_n hx hb d_Mo_findSlots_27 rfl (lv_at hl 0 rfl) ?_
      refine lv_iload_n hx hb d_Mo_findSlots_28 rfl (lv_at hl 1 rfl) ?_
      refine g_calli (va_runV (As := [.int x1]) (rest := []) ⟨hx, hb, hml, hown, hts⟩ (k_Mo_whole l Y hY H.size x0 x1 hx0 S _) (cwV 1 hts (gG_V gw_1061 gw_1063 gs_44 gw_12 gw_1064) rfl rfl rfl (by decide +kernel) ⟨Nat.le_of_ble_eq_true rfl, Nat.le_of_ble_eq_true rfl⟩) ⟨gPre_blind, g_recv hK hP hx0 (gce_Mo hx0.1) rfl, g_pre hK hSt hS hP hw⟩ rfl rfl hl.1 rfl (lv_room (Nat.le_of_ble_eq_true rfl)) d_Mo_findSlots_29 ⟨Nat.zero_le _, Nat.zero_le _⟩) hS (fun r8 S7 H locs hw hP hS => ?_)
      refine lv_if_le (tgt := 103) hx hb d_Mo_findSlots_32 (by decide) (fun c9 => ?_) (fun c9 => ?_)
      · replace hw := hw.1 c9
        exact mw_Mo_findSlots_103 C0 ih x0 x1 S7 H locs ls hx0 hw hP hS (lv_sub hl [0, 1] rfl)
      · replace hw := hw.2 c9
        refine lv_aload_n hx hb d_Mo_findSlots_35 rfl (lv_at hl 0 rfl) ?_
        refine g_get hx hb hts (fun w h => List.mem_cons_of_mem _ (in_Mo w h)) hown hK hP hx0 (gce_Mo hx0.1) rfl 5 (by decide) (hts _ (List.mem_cons_of_mem _ gw_812)) rfl d_Mo_findSlots_36 ?_
        refine lv_aload_n hx hb d_Mo_findSlots_39 rfl (lv_at hl 0 rfl) ?_
        refine g_get hx hb hts (fun w h => List.mem_cons_of_mem _ (in_Mo w h)) hown hK hP hx0 (gce_Mo hx0.1) rfl 12 (by decide) (hts _ (List.mem_cons_of_mem _ gw_819)) rfl d_Mo_findSlots_40 ?_
        refine lv_sipush (v := 330) hx hb d_Mo_findSlots_43 (by decide) ?_
        refine lv_iload_n hx hb d_Mo_findSlots_46 rfl (lv_at hl 1 rfl) ?_
        refine lv_imul hx hb d_Mo_findSlots_47 ?_
        obtain ⟨hin, hw⟩ := hw
        refine g_iaload hx hb hK hP (gis_Mo_rows hY hx0) hin d_Mo_findSlots_48 ?_
        obtain ⟨hin, hw⟩ := hw
        refine g_iaload hx hb hK hP (gis_Mo_as hY hx0) hin d_Mo_findSlots_49 ?_
        refine lv_aload_n hx hb d_Mo_findSlots_50 rfl (lv_at hl 0 rfl) ?_
        refine g_get hx hb hts (fun w h => List.mem_cons_of_mem _ (in_Mo w h)) hown hK hP hx0 (gce_Mo hx0.1) rfl 21 (by decide) (hts _ (List.mem_cons_of_mem _ gw_828)) rfl d_Mo_findSlots_51 ?_
        refine lv_icmp_le (tgt := 103) hx hb d_Mo_findSlots_54 (by decide) (fun c11 => ?_) (fun c11 => ?_)
        · replace hw := hw.1 c11
          exact mw_Mo_findSlots_103 C0 ih x0 x1 S7 H locs ls hx0 hw hP hS (lv_sub hl [0, 1] rfl)
        · replace hw := hw.2 c11
          refine lv_aload_n hx hb d_Mo_findSlots_57 rfl (lv_at hl 0 rfl) ?_
          refine g_get hx hb hts (fun w h => List.mem_cons_of_mem _ (in_Mo w h)) hown hK hP hx0 (gce_Mo hx0.1) rfl 12 (by decide) (hts _ (List.mem_cons_of_mem _ gw_819)) rfl d_Mo_findSlots_58 ?_
          refine lv_sipush (v := 330) hx hb d_Mo_findSlots_61 (by decide) ?_
          refine lv_iload_n hx hb d_Mo_findSlots_64 rfl (lv_at hl 1 rfl) ?_
          refine lv_imul hx hb d_Mo_findSlots_65 ?_
          obtain ⟨hin, hw⟩ := hw
          refine g_iaload hx hb hK hP (gis_Mo_rows hY hx0) hin d_Mo_findSlots_66 ?_
          refine lv_topi (fun v2_12 ev2_12 => ?_)
          replace hw := hw v2_12 ev2_12
          refine lv_istore_n (lv' := [(2, .int v2_12), (0, .ref (gad Y x0)), (1, .int x1)]) hx hb d_Mo_findSlots_67 rfl hl (by decide) rfl (fun ls hl => ?_)
          refine lv_aload_n hx hb d_Mo_findSlots_68 rfl (lv_at hl 1 rfl) ?_
          refine lv_aload_n hx hb d_Mo_findSlots_69 rfl (lv_at hl 1 rfl) ?_
          refine g_get hx hb hts (fun w h => List.mem_cons_of_mem _ (in_Mo w h)) hown hK hP hx0 (gce_Mo hx0.1) rfl 5 (by decide) (hts _ (List.mem_cons_of_mem _ gw_812)) rfl d_Mo_findSlots_70 ?_
          refine lv_iload_n hx hb d_Mo_findSlots_73 rfl (lv_at hl 0 rfl) ?_
          obtain ⟨hin, hw⟩ := hw
          refine g_iaload hx hb hK hP (gis_Mo_as hY hx0) hin d_Mo_findSlots_74 ?_
          refine g_put (ty := .int) (v := .int (S7.1 (grf x0 5) v2_12.toNatClampNeg)) (S' := gset S7 x0 21 (S7.1 (grf x0 5) v2_12.toNatClampNeg)) hx hb hts (fun w h => List.mem_cons_of_mem _ (in_Mo w h)) ty_Mo tyok_Mo nm_Mo hown hK hY.1 hP hS hx0 (gce_Mo hx0.1) rfl 21 (by decide) (hts _ (List.mem_cons_of_mem _ gw_828)) rfl (by decide +kernel) rfl rfl (Nat.le_of_ble_eq_true rfl) (gp_Mo_times hx0.1) gce_gset d_Mo_findSlots_75 (fun H locs hP hS => ?_)
          obtain ⟨S13, eS13⟩ : ∃ z, z = gset S7 x0 21 (S7.1 (grf x0 5) v2_12.toNatClampNeg) := ⟨_, rfl⟩
          rw [← eS13] at hP
          replace hw := hw S13 eS13
          refine lv_aload_n hx hb d_Mo_findSlots_78 rfl (lv_at hl 1 rfl) ?_
          refine lv_aload_n hx hb d_Mo_findSlots_79 rfl (lv_at hl 1 rfl) ?_
          refine g_get hx hb hts (fun w h => List.mem_cons_of_mem _ (in_Mo w h)) hown hK hP hx0 (gce_Mo hx0.1) rfl 6 (by decide) (hts _ (List.mem_cons_of_mem _ gw_813)) rfl d_Mo_findSlots_80 ?_
          refine lv_iload_n hx hb d_Mo_findSlots_83 rfl (lv_at hl 0 rfl) ?_
          obtain ⟨hin, hw⟩ := hw
          refine g_iaload hx hb hK hP (gis_Mo_bs hY hx0) hin d_Mo_findSlots_84 ?_
          refine g_put (ty := .int) (v := .int (S13.1 (grf x0 6) v2_12.toNatClampNeg)) (S' := gset S13 x0 19 (S13.1 (grf x0 6) v2_12.toNatClampNeg)) hx hb hts (fun w h => List.mem_cons_of_mem _ (in_Mo w h)) ty_Mo tyok_Mo nm_Mo hown hK hY.1 hP hS hx0 (gce_Mo hx0.1) rfl 19 (by decide) (hts _ (List.mem_cons_of_mem _ gw_826)) rfl (by decide +kernel) rfl rfl (Nat.le_of_ble_eq_true rfl) (gp_Mo_term hx0.1) gce_gset d_Mo_findSlots_85 (fun H locs hP hS => ?_)
          obtain ⟨S14, eS14⟩ : ∃ z, z = gset S13 x0 19 (S13.1 (grf x0 6) v2_12.toNatClampNeg) := ⟨_, rfl⟩
          rw [← eS14] at hP
          replace hw := hw S14 eS14
          refine lv_aload_n hx hb d_Mo_findSlots_88 rfl (lv_at hl 1 rfl) ?_
          refine lv_aload_n hx hb d_Mo_findSlots_89 rfl (lv_at hl 1 rfl) ?_
          refine g_get hx hb hts (fun w h => List.mem_cons_of_mem _ (in_Mo w h)) hown hK hP hx0 (gce_Mo hx0.1) rfl 7 (by decide) (hts _ (List.mem_cons_of_mem _ gw_814)) rfl d_Mo_findSlots_90 ?_
          refine lv_iload_n hx hb d_Mo_findSlots_93 rfl (lv_at hl 0 rfl) ?_
          obtain ⟨hin, hw⟩ := hw
          refine g_iaload hx hb hK hP (gis_Mo_cs hY hx0) hin d_Mo_findSlots_94 ?_
          refine g_put (ty := .int) (v := .int (S14.1 (grf x0 7) v2_12.toNatClampNeg)) (S' := gset S14 x0 20 (S14.1 (grf x0 7) v2_12.toNatClampNeg)) hx hb hts (fun w h => List.mem_cons_of_mem _ (in_Mo w h)) ty_Mo tyok_Mo nm_Mo hown hK hY.1 hP hS hx0 (gce_Mo hx0.1) rfl 20 (by decide) (hts _ (List.mem_cons_of_mem _ gw_827)) rfl (by decide +kernel) rfl rfl (Nat.le_of_ble_eq_true rfl) (gp_Mo_voted hx0.1) gce_gset d_Mo_findSlots_95 (fun H locs hP hS => ?_)
          obtain ⟨S15, eS15⟩ : ∃ z, z = gset S14 x0 20 (S14.1 (grf x0 7) v2_12.toNatClampNeg) := ⟨_, rfl⟩
          rw [← eS15] at hP
          replace hw := hw S15 eS15
          refine lv_aload_n hx hb d_Mo_findSlots_98 rfl (lv_at hl 1 rfl) ?_
          refine lv_iload_n hx hb d_Mo_findSlots_99 rfl (lv_at hl 2 rfl) ?_
          refine g_put (ty := .int) (v := .int x1) (S' := gset S15 x0 22 x1) hx hb hts (fun w h => List.mem_cons_of_mem _ (in_Mo w h)) ty_Mo tyok_Mo nm_Mo hown hK hY.1 hP hS hx0 (gce_Mo hx0.1) rfl 22 (by decide) (hts _ (List.mem_cons_of_mem _ gw_829)) rfl (by decide +kernel) rfl rfl (Nat.le_of_ble_eq_true rfl) (gp_Mo_slot hx0.1) gce_gset d_Mo_findSlots_100 (fun H locs hP hS => ?_)
          obtain ⟨S16, eS16⟩ : ∃ z, z = gset S15 x0 22 x1 := ⟨_, rfl⟩
          rw [← eS16] at hP
          replace hw := hw S16 eS16
          exact mw_Mo_findSlots_103 C0 ih x0 x1 S16 H locs ls hx0 hw hP hS (lv_sub hl [1, 2] rfl)
set_option maxHeartbeats 4000000 in
set_option maxRecDepth 100000 in
theorem mw_Mo_findSlots {p : Program} {l : Launch} {e : Env} {s : State} {m : MethodId} {args : Array Value} {below : List Frame} {meth : Method} {c : Code} {Y : gY} {Q : gS → Prop} (C : gCx p s m args meth c Y "LogDiskModel" c_Mo_findSlots 3 (Option.none : Option Jvm.ClassFile.FieldType) w_Mo_findSlots) : ∀ (x0 : gI)  (S : gS) (H : Heap) (locs : List Loc) (ls : Array Slot), gis Y 10 x0 → wp_Mo_findSlots (gLn Y) Q x0 S → gWd Y S H → va_S (gA Y s.heap.size) s.heap H locs → lv_has ls 3 [(0, .ref (gad Y x0))] → W p l e (gRm 3 66) s m args below meth c H locs 0 0 (MQ below (va_Qv Q (gB Y) (gA Y s.heap.size)) args s 0 0 (gA Y s.heap.size)) (F0 m 0 ls []) := by
  have C0 := C
  obtain ⟨hx, hb, hml, hown, hts, hr, hlocks, hK, hY, hSt⟩ := C
  intro x0 S H locs ls hx0 hw hP hS hl
  unfold wp_Mo_findSlots at hw
  refine lv_aload_n hx hb d_Mo_findSlots_0 rfl (lv_at hl 0 rfl) ?_
  refine lv_iconst (v := 0) hx hb d_Mo_findSlots_1 (by decide) ?_
  refine g_put (ty := .int) (v := .int 0) (S' := gset S x0 19 0) hx hb hts (fun w h => List.mem_cons_of_mem _ (in_Mo w h)) ty_Mo tyok_Mo nm_Mo hown hK hY.1 hP hS hx0 (gce_Mo hx0.1) rfl 19 (by decide) (hts _ (List.mem_cons_of_mem _ gw_826)) rfl (by decide +kernel) rfl rfl (Nat.le_of_ble_eq_true rfl) (gp_Mo_term hx0.1) gce_gset d_Mo_findSlots_2 (fun H locs hP hS => ?_)
  obtain ⟨S1, eS1⟩ : ∃ z, z = gset S x0 19 0 := ⟨_, rfl⟩
  rw [← eS1] at hP
  replace hw := hw S1 eS1
  refine lv_aload_n hx hb d_Mo_findSlots_5 rfl (lv_at hl 0 rfl) ?_
  refine lv_iconst (v := (-1 : Int32)) hx hb d_Mo_findSlots_6 (by decide) ?_
  refine g_put (ty := .int) (v := .int (-1 : Int32)) (S' := gset S1 x0 20 (-1 : Int32)) hx hb hts (fun w h => List.mem_cons_of_mem _ (in_Mo w h)) ty_Mo tyok_Mo nm_Mo hown hK hY.1 hP hS hx0 (gce_Mo hx0.1) rfl 20 (by decide) (hts _ (List.mem_cons_of_mem _ gw_827)) rfl (by decide +kernel) rfl rfl (Nat.le_of_ble_eq_true rfl) (gp_Mo_voted hx0.1) gce_gset d_Mo_findSlots_7 (fun H locs hP hS => ?_)
  obtain ⟨S2, eS2⟩ : ∃ z, z = gset S1 x0 20 (-1 : Int32) := ⟨_, rfl⟩
  rw [← eS2] at hP
  replace hw := hw S2 eS2
  refine lv_aload_n hx hb d_Mo_findSlots_10 rfl (lv_at hl 0 rfl) ?_
  refine lv_iconst (v := 0) hx hb d_Mo_findSlots_11 (by decide) ?_
  refine g_put (ty := .int) (v := .int 0) (S' := gset S2 x0 21 0) hx hb hts (fun w h => List.mem_cons_of_mem _ (in_Mo w h)) ty_Mo tyok_Mo nm_Mo hown hK hY.1 hP hS hx0 (gce_Mo hx0.1) rfl 21 (by decide) (hts _ (List.mem_cons_of_mem _ gw_828)) rfl (by decide +kernel) rfl rfl (Nat.le_of_ble_eq_true rfl) (gp_Mo_times hx0.1) gce_gset d_Mo_findSlots_12 (fun H locs hP hS => ?_)
  obtain ⟨S3, eS3⟩ : ∃ z, z = gset S2 x0 21 0 := ⟨_, rfl⟩
  rw [← eS3] at hP
  replace hw := hw S3 eS3
  refine lv_aload_n hx hb d_Mo_findSlots_15 rfl (lv_at hl 0 rfl) ?_
  refine lv_iconst (v := 0) hx hb d_Mo_findSlots_16 (by decide) ?_
  refine g_put (ty := .int) (v := .int 0) (S' := gset S3 x0 22 0) hx hb hts (fun w h => List.mem_cons_of_mem _ (in_Mo w h)) ty_Mo tyok_Mo nm_Mo hown hK hY.1 hP hS hx0 (gce_Mo hx0.1) rfl 22 (by decide) (hts _ (List.mem_cons_of_mem _ gw_829)) rfl (by decide +kernel) rfl rfl (Nat.le_of_ble_eq_true rfl) (gp_Mo_slot hx0.1) gce_gset d_Mo_findSlots_17 (fun H locs hP hS => ?_)
  obtain ⟨S4, eS4⟩ : ∃ z, z = gset S3 x0 22 0 := ⟨_, rfl⟩
  rw [← eS4] at hP
  replace hw := hw S4 eS4
  refine lv_iconst (v := 0) hx hb d_Mo_findSlots_20 (by decide) ?_
  refine lv_istore_n (lv' := [(1, .int 0), (0, .ref (gad Y x0))]) hx hb d_Mo_findSlots_21 rfl hl (by decide) rfl (fun ls hl => ?_)
  obtain ⟨n, hw⟩ := hw
  exact mw_Mo_findSlots_22 C0 n x0 0 S4 H locs ls hx0 hw hP hS (lv_sub hl [1, 0] rfl)
set_option maxHeartbeats 4000000 in
set_option maxRecDepth 100000 in
theorem k_Mo_findSlots (l : Launch) (Y : gY) (hY : gOK Y) (sz : Nat) (x0 : gI)  (hx0 : gis Y 10 x0) (S : gS) (Q : gS → Prop) : Met l y_Mo_findSlots w_Mo_findSlots (gRm 3 66) (gPre Y [.ref (gad Y x0)] S sz (wp_Mo_findSlots (gLn Y) Q x0 S)) (va_Qv Q (gB Y) (gA Y sz)) 0 0 (gA Y sz) := by
  refine Met.ofW (cc := c_Mo_findSlots) (maxL := 3) (ret := (Option.none : Option Jvm.ClassFile.FieldType)) (by decide) rfl ?_
  intro p e s m args below meth c s₁ B hml hv
  obtain ⟨rfl, hsz, hP, hK, hSt, hw⟩ := hv
  subst hsz
  have hts := atoms_spec (ws := w_Mo_findSlots) B.pre
  have hl := lv_entry ([.ref (gad Y x0)]) (n := 3) (Nat.le_of_ble_eq_true rfl)
  rw [lg_entry_eq]
  generalize (lg_sl ([.ref (gad Y x0)]) ++ List.replicate (3 - (lg_sl ([.ref (gad Y x0)])).length) Slot.unset).toArray = ls at hl ⊢
  exact mw_Mo_findSlots ⟨B.exec, B.bytes, hml, findClass_of_methodNamed B.named, hts, B.returns, B.notSynchronized, hK, hY, hSt⟩ x0 S s.heap [] ls hx0 hw hP va_S.rf hl

def wp_Mo_findSnapshot_106 (Ln : gI → Nat) (K25 : gI → Int32 → gS → Prop) (Q : gS → Prop) (x0 : gI) (x1 : Int32)  (S : gS) : Prop :=
  ∀ v1_9 : Int32, v1_9 = x1 + 1 → (K25 x0 v1_9 S)
def wp_Mo_findSnapshot_25 (Ln : gI → Nat) (Q : gS → Prop) : Nat → gI → Int32 → gS → Prop
  | 0, _, _, _ => False
  | n25 + 1, x0, x1, S => ((4 ≤ x1) → (Q S)) ∧ ((¬ 4 ≤ x1) → (wp_Mo_whole Ln (fun r7 S6 => ((r7 ≤ 0) → (wp_Mo_findSnapshot_106 Ln (fun z0 z1 zS => wp_Mo_findSnapshot_25 Ln Q n25 z0 z1 zS) Q x0 x1 S6)) ∧ ((¬ r7 ≤ 0) → (vp_in (330 * x1) (Ln (grf x0 12)) ∧ (vp_in (S6.1 (grf x0 12) (330 * x1).toNatClampNeg) (Ln (grf x0 5)) ∧ ((((S6.1 (grf x0 5) (S6.1 (grf x0 12) (330 * x1).toNatClampNeg).toNatClampNeg) ≤ (S6.1 x0 23)) → (wp_Mo_findSnapshot_106 Ln (fun z0 z1 zS => wp_Mo_findSnapshot_25 Ln Q n25 z0 z1 zS) Q x0 x1 S6)) ∧ ((¬ (S6.1 (grf x0 5) (S6.1 (grf x0 12) (330 * x1).toNatClampNeg).toNatClampNeg) ≤ (S6.1 x0 23)) → (vp_in (330 * x1) (Ln (grf x0 12)) ∧ (∀ v2_11 : Int32, v2_11 = S6.1 (grf x0 12) (330 * x1).toNatClampNeg → (vp_in v2_11 (Ln (grf x0 5)) ∧ (∀ S12 : gS, S12 = gset S6 x0 23 (S6.1 (grf x0 5) v2_11.toNatClampNeg) → (vp_in v2_11 (Ln (grf x0 6)) ∧ (∀ S13 : gS, S13 = gset S12 x0 24 (S12.1 (grf x0 6) v2_11.toNatClampNeg) → (vp_in v2_11 (Ln (grf x0 7)) ∧ (∀ S14 : gS, S14 = gset S13 x0 25 (S13.1 (grf x0 7) v2_11.toNatClampNeg) → (∀ S15 : gS, S15 = gset S14 x0 26 x1 → (wp_Mo_findSnapshot_106 Ln (fun z0 z1 zS => wp_Mo_findSnapshot_25 Ln Q n25 z0 z1 zS) Q x0 x1 S15)))))))))))))))) x0 x1 S))
def wp_Mo_findSnapshot (Ln : gI → Nat) (Q : gS → Prop) (x0 : gI)  (S : gS) : Prop :=
  ∀ S1 : gS, S1 = gset S x0 23 0 → (∀ S2 : gS, S2 = gset S1 x0 24 0 → (∀ S3 : gS, S3 = gset S2 x0 25 (S2.1 x0 2) → (∀ S4 : gS, S4 = gset S3 x0 26 (-1 : Int32) → (∃ n25 : Nat, wp_Mo_findSnapshot_25 Ln Q n25 x0 2 S4))))
set_option maxHeartbeats 4000000 in
set_option maxRecDepth 100000 in
theorem mw_Mo_findSnapshot_106 {p : Program} {l : Launch} {e : Env} {s : State} {m : MethodId} {args : Array Value} {below : List Frame} {meth : Method} {c : Code} {Y : gY} {Q : gS → Prop} {K25 : gI → Int32 → gS → Prop} (C : gCx p s m args meth c Y "LogDiskModel" c_Mo_findSnapshot 3 (Option.none : Option Jvm.ClassFile.FieldType) w_Mo_findSnapshot) (hK25 : ∀ (x0 : gI) (x1 : Int32)  (S : gS) (H : Heap) (locs : List Loc) (ls : Array Slot), gis Y 10 x0 → K25 x0 x1 S → gWd Y S H → va_S (gA Y s.heap.size) s.heap H locs → lv_has ls 3 [(0, .ref (gad Y x0)), (1, .int x1)] → W p l e (gRm 3 66) s m args below meth c H locs 0 0 (MQ below (va_Qv Q (gB Y) (gA Y s.heap.size)) args s 0 0 (gA Y s.heap.size)) (F0 m 25 ls [])) : ∀ (x0 : gI) (x1 : Int32)  (S : gS) (H : Heap) (locs : List Loc) (ls : Array Slot), gis Y 10 x0 → wp_Mo_findSnapshot_106 (gLn Y) K25 Q x0 x1 S → gWd Y S H → va_S (gA Y s.heap.size) s.heap H locs → lv_has ls 3 [(0, .ref (gad Y x0)), (1, .int x1)] → W p l e (gRm 3 66) s m args below meth c H locs 0 0 (MQ below (va_Qv Q (gB Y) (gA Y s.heap.size)) args s 0 0 (gA Y s.heap.size)) (F0 m 106 ls []) := by
  have C0 := C
  obtain ⟨hx, hb, hml, hown, hts, hr, hlocks, hK, hY, hSt⟩ := C
  intro x0 x1 S H locs ls hx0 hw hP hS hl
  unfold wp_Mo_findSnapshot_106 at hw
  obtain ⟨v1_9, ev1_9⟩ : ∃ y : Int32, y = x1 + 1 := ⟨_, rfl⟩
  replace hw := hw v1_9 ev1_9
  refine lv_iinc (v := v1_9) (lv' := [(1, .int v1_9), (0, .ref (gad Y x0))]) hx hb d_Mo_findSnapshot_106 hl (k := 1) rfl (by rw [ev1_9]; rfl) (by decide) rfl (fun ls hl => ?_)
  refine lv_goto (tgt := 25) hx hb d_Mo_findSnapshot_109 (by decide) ?_
  exact hK25 x0 v1_9 S H locs ls hx0 hw hP hS (lv_sub hl [1, 0] rfl)
set_option maxHeartbeats 4000000 in
set_option maxRecDepth 100000 in
theorem mw_Mo_findSnapshot_25 {p : Program} {l : Launch} {e : Env} {s : State} {m : MethodId} {args : Array Value} {below : List Frame} {meth : Method} {c : Code} {Y : gY} {Q : gS → Prop} (C : gCx p s m args meth c Y "LogDiskModel" c_Mo_findSnapshot 3 (Option.none : Option Jvm.ClassFile.FieldType) w_Mo_findSnapshot) : ∀ (n : Nat), ∀ (x0 : gI) (x1 : Int32)  (S : gS) (H : Heap) (locs : List Loc) (ls : Array Slot), gis Y 10 x0 → wp_Mo_findSnapshot_25 (gLn Y) Q n x0 x1 S → gWd Y S H → va_S (gA Y s.heap.size) s.heap H locs → lv_has ls 3 [(0, .ref (gad Y x0)), (1, .int x1)] → W p l e (gRm 3 66) s m args below meth c H locs 0 0 (MQ below (va_Qv Q (gB Y) (gA Y s.heap.size)) args s 0 0 (gA Y s.heap.size)) (F0 m 25 ls []) := by
  have C0 := C
  obtain ⟨hx, hb, hml, hown, hts, hr, hlocks, hK, hY, hSt⟩ := C
  intro n
  induction n with
  | zero =>
    intro x0 x1 S H locs ls hx0 hw
    exact False.elim hw
  | succ n ih =>
    intro x0 x1 S H locs ls hx0 hw hP hS hl
    unfold wp_Mo_findSnapshot_25 at hw
    refine lv_iload_n hx hb d_Mo_findSnapshot_25 rfl (lv_at hl 1 rfl) ?_
    refine lv_iconst (v := 4) hx hb d_Mo_findSnapshot_26 (by decide) ?_
    refine lv_icmp_ge (tgt := 112) hx hb d_Mo_findSnapshot_27 (by decide) (fun c5 => ?_) (fun c5 => ?_)
    · replace hw := hw.1 c5
      exact W.vret hx hb hr (fun t ht hW => ⟨⟨S, rfl, hw, by rw [ht]; exact hP, va_K.moved hW.alike hK⟩, hS.F ht⟩) hS.2.2 d_Mo_findSnapshot_112
    · replace hw := hw.2 c5
      refine lv_aload_n hx hb d_Mo_findSnapshot_30 rfl (lv_at hl 0 rfl) ?_
      refine lv_iload_n hx hb d_Mo_findSnapshot_31 rfl (lv_at hl 1 rfl) ?_
      refine g_calli (va_runV (As := [.int x1]) (rest := []) ⟨hx, hb, hml, hown, hts⟩ (k_Mo_whole l Y hY H.size x0 x1 hx0 S _) (cwV 1 hts (gG_V gw_1061 gw_1063 gs_44 gw_12 gw_1064) rfl rfl rfl (by decide +kernel) ⟨Nat.le_of_ble_eq_true rfl, Nat.le_of_ble_eq_true rfl⟩) ⟨gPre_blind, g_recv hK hP hx0 (gce_Mo hx0.1) rfl, g_pre hK hSt hS hP hw⟩ rfl rfl hl.1 rfl (lv_room (Nat.le_of_ble_eq_true rfl)) d_Mo_findSnapshot_32 ⟨Nat.zero_le _, Nat.zero_le _⟩) hS (fun r7 S6 H locs hw hP hS => ?_)
      refine lv_if_le (tgt := 106) hx hb d_Mo_findSnapshot_35 (by decide) (fun c8 => ?_) (fun c8 => ?_)
      · replace hw := hw.1 c8
        exact mw_Mo_findSnapshot_106 C0 ih x0 x1 S6 H locs ls hx0 hw hP hS (lv_sub hl [0, 1] rfl)
      · replace hw := hw.2 c8
        refine lv_aload_n hx hb d_Mo_findSnapshot_38 rfl (lv_at hl 0 rfl) ?_
        refine g_get hx hb hts (fun w h => List.mem_cons_of_mem _ (in_Mo w h)) hown hK hP hx0 (gce_Mo hx0.1) rfl 5 (by decide) (hts _ (List.mem_cons_of_mem _ gw_812)) rfl d_Mo_findSnapshot_39 ?_
        refine lv_aload_n hx hb d_Mo_findSnapshot_42 rfl (lv_at hl 0 rfl) ?_
        refine g_get hx hb hts (fun w h => List.mem_cons_of_mem _ (in_Mo w h)) hown hK hP hx0 (gce_Mo hx0.1) rfl 12 (by decide) (hts _ (List.mem_cons_of_mem _ gw_819)) rfl d_Mo_findSnapshot_43 ?_
        refine lv_sipush (v := 330) hx hb d_Mo_findSnapshot_46 (by decide) ?_
        refine lv_iload_n hx hb d_Mo_findSnapshot_49 rfl (lv_at hl 1 rfl) ?_
        refine lv_imul hx hb d_Mo_findSnapshot_50 ?_
        obtain ⟨hin, hw⟩ := hw
        refine g_iaload hx hb hK hP (gis_Mo_rows hY hx0) hin d_Mo_findSnapshot_51 ?_
        obtain ⟨hin, hw⟩ := hw
        refine g_iaload hx hb hK hP (gis_Mo_as hY hx0) hin d_Mo_findSnapshot_52 ?_
        refine lv_aload_n hx hb d_Mo_findSnapshot_53 rfl (lv_at hl 0 rfl) ?_
        refine g_get hx hb hts (fun w h => List.mem_cons_of_mem _ (in_Mo w h)) hown hK hP hx0 (gce_Mo hx0.1) rfl 23 (by decide) (hts _ (List.mem_cons_of_mem _ gw_830)) rfl d_Mo_findSnapshot_54 ?_
        refine lv_icmp_le (tgt := 106) hx hb d_Mo_findSnapshot_57 (by decide) (fun c10 => ?_) (fun c10 => ?_)
        · replace hw := hw.1 c10
          exact mw_Mo_findSnapshot_106 C0 ih x0 x1 S6 H locs ls hx0 hw hP hS (lv_sub hl [0, 1] rfl)
        · replace hw := hw.2 c10
          refine lv_aload_n hx hb d_Mo_findSnapshot_60 rfl (lv_at hl 0 rfl) ?_
          refine g_get hx hb hts (fun w h => List.mem_cons_of_mem _ (in_Mo w h)) hown hK hP hx0 (gce_Mo hx0.1) rfl 12 (by decide) (hts _ (List.mem_cons_of_mem _ gw_819)) rfl d_Mo_findSnapshot_61 ?_
          refine lv_sipush (v := 330) hx hb d_Mo_findSnapshot_64 (by decide) ?_
          refine lv_iload_n hx hb d_Mo_findSnapshot_67 rfl (lv_at hl 1 rfl) ?_
          refine lv_imul hx hb d_Mo_findSnapshot_68 ?_
          obtain ⟨hin, hw⟩ := hw
          refine g_iaload hx hb hK hP (gis_Mo_rows hY hx0) hin d_Mo_findSnapshot_69 ?_
          refine lv_topi (fun v2_11 ev2_11 => ?_)
          replace hw := hw v2_11 ev2_11
          refine lv_istore_n (lv' := [(2, .int v2_11), (0, .ref (gad Y x0)), (1, .int x1)]) hx hb d_Mo_findSnapshot_70 rfl hl (by decide) rfl (fun ls hl => ?_)
          refine lv_aload_n hx hb d_Mo_findSnapshot_71 rfl (lv_at hl 1 rfl) ?_
          refine lv_aload_n hx hb d_Mo_findSnapshot_72 rfl (lv_at hl 1 rfl) ?_
          refine g_get hx hb hts (fun w h => List.mem_cons_of_mem _ (in_Mo w h)) hown hK hP hx0 (gce_Mo hx0.1) rfl 5 (by decide) (hts _ (List.mem_cons_of_mem _ gw_812)) rfl d_Mo_findSnapshot_73 ?_
          refine lv_iload_n hx hb d_Mo_findSnapshot_76 rfl (lv_at hl 0 rfl) ?_
          obtain ⟨hin, hw⟩ := hw
          refine g_iaload hx hb hK hP (gis_Mo_as hY hx0) hin d_Mo_findSnapshot_77 ?_
          refine g_put (ty := .int) (v := .int (S6.1 (grf x0 5) v2_11.toNatClampNeg)) (S' := gset S6 x0 23 (S6.1 (grf x0 5) v2_11.toNatClampNeg)) hx hb hts (fun w h => List.mem_cons_of_mem _ (in_Mo w h)) ty_Mo tyok_Mo nm_Mo hown hK hY.1 hP hS hx0 (gce_Mo hx0.1) rfl 23 (by decide) (hts _ (List.mem_cons_of_mem _ gw_830)) rfl (by decide +kernel) rfl rfl (Nat.le_of_ble_eq_true rfl) (gp_Mo_base hx0.1) gce_gset d_Mo_findSnapshot_78 (fun H locs hP hS => ?_)
          obtain ⟨S12, eS12⟩ : ∃ z, z = gset S6 x0 23 (S6.1 (grf x0 5) v2_11.toNatClampNeg) := ⟨_, rfl⟩
          rw [← eS12] at hP
          replace hw := hw S12 eS12
          refine lv_aload_n hx hb d_Mo_findSnapshot_81 rfl (lv_at hl 1 rfl) ?_
          refine lv_aload_n hx hb d_Mo_findSnapshot_82 rfl (lv_at hl 1 rfl) ?_
          refine g_get hx hb hts (fun w h => List.mem_cons_of_mem _ (in_Mo w h)) hown hK hP hx0 (gce_Mo hx0.1) rfl 6 (by decide) (hts _ (List.mem_cons_of_mem _ gw_813)) rfl d_Mo_findSnapshot_83 ?_
          refine lv_iload_n hx hb d_Mo_findSnapshot_86 rfl (lv_at hl 0 rfl) ?_
          obtain ⟨hin, hw⟩ := hw
          refine g_iaload hx hb hK hP (gis_Mo_bs hY hx0) hin d_Mo_findSnapshot_87 ?_
          refine g_put (ty := .int) (v := .int (S12.1 (grf x0 6) v2_11.toNatClampNeg)) (S' := gset S12 x0 24 (S12.1 (grf x0 6) v2_11.toNatClampNeg)) hx hb hts (fun w h => List.mem_cons_of_mem _ (in_Mo w h)) ty_Mo tyok_Mo nm_Mo hown hK hY.1 hP hS hx0 (gce_Mo hx0.1) rfl 24 (by decide) (hts _ (List.mem_cons_of_mem _ gw_831)) rfl (by decide +kernel) rfl rfl (Nat.le_of_ble_eq_true rfl) (gp_Mo_baseTerm hx0.1) gce_gset d_Mo_findSnapshot_88 (fun H locs hP hS => ?_)
          obtain ⟨S13, eS13⟩ : ∃ z, z = gset S12 x0 24 (S12.1 (grf x0 6) v2_11.toNatClampNeg) := ⟨_, rfl⟩
          rw [← eS13] at hP
          replace hw := hw S13 eS13
          refine lv_aload_n hx hb d_Mo_findSnapshot_91 rfl (lv_at hl 1 rfl) ?_
          refine lv_aload_n hx hb d_Mo_findSnapshot_92 rfl (lv_at hl 1 rfl) ?_
          refine g_get hx hb hts (fun w h => List.mem_cons_of_mem _ (in_Mo w h)) hown hK hP hx0 (gce_Mo hx0.1) rfl 7 (by decide) (hts _ (List.mem_cons_of_mem _ gw_814)) rfl d_Mo_findSnapshot_93 ?_
          refine lv_iload_n hx hb d_Mo_findSnapshot_96 rfl (lv_at hl 0 rfl) ?_
          obtain ⟨hin, hw⟩ := hw
          refine g_iaload hx hb hK hP (gis_Mo_cs hY hx0) hin d_Mo_findSnapshot_97 ?_
          refine g_put (ty := .int) (v := .int (S13.1 (grf x0 7) v2_11.toNatClampNeg)) (S' := gset S13 x0 25 (S13.1 (grf x0 7) v2_11.toNatClampNeg)) hx hb hts (fun w h => List.mem_cons_of_mem _ (in_Mo w h)) ty_Mo tyok_Mo nm_Mo hown hK hY.1 hP hS hx0 (gce_Mo hx0.1) rfl 25 (by decide) (hts _ (List.mem_cons_of_mem _ gw_832)) rfl (by decide +kernel) rfl rfl (Nat.le_of_ble_eq_true rfl) (gp_Mo_code hx0.1) gce_gset d_Mo_findSnapshot_98 (fun H locs hP hS => ?_)
          obtain ⟨S14, eS14⟩ : ∃ z, z = gset S13 x0 25 (S13.1 (grf x0 7) v2_11.toNatClampNeg) := ⟨_, rfl⟩
          rw [← eS14] at hP
          replace hw := hw S14 eS14
          refine lv_aload_n hx hb d_Mo_findSnapshot_101 rfl (lv_at hl 1 rfl) ?_
          refine lv_iload_n hx hb d_Mo_findSnapshot_102 rfl (lv_at hl 2 rfl) ?_
          refine g_put (ty := .int) (v := .int x1) (S' := gset S14 x0 26 x1) hx hb hts (fun w h => List.mem_cons_of_mem _ (in_Mo w h)) ty_Mo tyok_Mo nm_Mo hown hK hY.1 hP hS hx0 (gce_Mo hx0.1) rfl 26 (by decide) (hts _ (List.mem_cons_of_mem _ gw_833)) rfl (by decide +kernel) rfl rfl (Nat.le_of_ble_eq_true rfl) (gp_Mo_snapshot hx0.1) gce_gset d_Mo_findSnapshot_103 (fun H locs hP hS => ?_)
          obtain ⟨S15, eS15⟩ : ∃ z, z = gset S14 x0 26 x1 := ⟨_, rfl⟩
          rw [← eS15] at hP
          replace hw := hw S15 eS15
          exact mw_Mo_findSnapshot_106 C0 ih x0 x1 S15 H locs ls hx0 hw hP hS (lv_sub hl [1, 2] rfl)
set_option maxHeartbeats 4000000 in
set_option maxRecDepth 100000 in
theorem mw_Mo_findSnapshot {p : Program} {l : Launch} {e : Env} {s : State} {m : MethodId} {args : Array Value} {below : List Frame} {meth : Method} {c : Code} {Y : gY} {Q : gS → Prop} (C : gCx p s m args meth c Y "LogDiskModel" c_Mo_findSnapshot 3 (Option.none : Option Jvm.ClassFile.FieldType) w_Mo_findSnapshot) : ∀ (x0 : gI)  (S : gS) (H : Heap) (locs : List Loc) (ls : Array Slot), gis Y 10 x0 → wp_Mo_findSnapshot (gLn Y) Q x0 S → gWd Y S H → va_S (gA Y s.heap.size) s.heap H locs → lv_has ls 3 [(0, .ref (gad Y x0))] → W p l e (gRm 3 66) s m args below meth c H locs 0 0 (MQ below (va_Qv Q (gB Y) (gA Y s.heap.size)) args s 0 0 (gA Y s.heap.size)) (F0 m 0 ls []) := by
  have C0 := C
  obtain ⟨hx, hb, hml, hown, hts, hr, hlocks, hK, hY, hSt⟩ := C
  intro x0 S H locs ls hx0 hw hP hS hl
  unfold wp_Mo_findSnapshot at hw
  refine lv_aload_n hx hb d_Mo_findSnapshot_0 rfl (lv_at hl 0 rfl) ?_
  refine lv_iconst (v := 0) hx hb d_Mo_findSnapshot_1 (by decide) ?_
  refine g_put (ty := .int) (v := .int 0) (S' := gset S x0 23 0) hx hb hts (fun w h => List.mem_cons_of_mem _ (in_Mo w h)) ty_Mo tyok_Mo nm_Mo hown hK hY.1 hP hS hx0 (gce_Mo hx0.1) rfl 23 (by decide) (hts _ (List.mem_cons_of_mem _ gw_830)) rfl (by decide +kernel) rfl rfl (Nat.le_of_ble_eq_true rfl) (gp_Mo_base hx0.1) gce_gset d_Mo_findSnapshot_2 (fun H locs hP hS => ?_)
  obtain ⟨S1, eS1⟩ : ∃ z, z = gset S x0 23 0 := ⟨_, rfl⟩
  rw [← eS1] at hP
  replace hw := hw S1 eS1
  refine lv_aload_n hx hb d_Mo_findSnapshot_5 rfl (lv_at hl 0 rfl) ?_
  refine lv_iconst (v := 0) hx hb d_Mo_findSnapshot_6 (by decide) ?_
  refine g_put (ty := .int) (v := .int 0) (S' := gset S1 x0 24 0) hx hb hts (fun w h => List.mem_cons_of_mem _ (in_Mo w h)) ty_Mo tyok_Mo nm_Mo hown hK hY.1 hP hS hx0 (gce_Mo hx0.1) rfl 24 (by decide) (hts _ (List.mem_cons_of_mem _ gw_831)) rfl (by decide +kernel) rfl rfl (Nat.le_of_ble_eq_true rfl) (gp_Mo_baseTerm hx0.1) gce_gset d_Mo_findSnapshot_7 (fun H locs hP hS => ?_)
  obtain ⟨S2, eS2⟩ : ∃ z, z = gset S1 x0 24 0 := ⟨_, rfl⟩
  rw [← eS2] at hP
  replace hw := hw S2 eS2
  refine lv_aload_n hx hb d_Mo_findSnapshot_10 rfl (lv_at hl 0 rfl) ?_
  refine lv_aload_n hx hb d_Mo_findSnapshot_11 rfl (lv_at hl 0 rfl) ?_
  refine g_get hx hb hts (fun w h => List.mem_cons_of_mem _ (in_Mo w h)) hown hK hP hx0 (gce_Mo hx0.1) rfl 2 (by decide) (hts _ (List.mem_cons_of_mem _ gw_809)) rfl d_Mo_findSnapshot_12 ?_
  refine g_put (ty := .int) (v := .int (S2.1 x0 2)) (S' := gset S2 x0 25 (S2.1 x0 2)) hx hb hts (fun w h => List.mem_cons_of_mem _ (in_Mo w h)) ty_Mo tyok_Mo nm_Mo hown hK hY.1 hP hS hx0 (gce_Mo hx0.1) rfl 25 (by decide) (hts _ (List.mem_cons_of_mem _ gw_832)) rfl (by decide +kernel) rfl rfl (Nat.le_of_ble_eq_true rfl) (gp_Mo_code hx0.1) gce_gset d_Mo_findSnapshot_15 (fun H locs hP hS => ?_)
  obtain ⟨S3, eS3⟩ : ∃ z, z = gset S2 x0 25 (S2.1 x0 2) := ⟨_, rfl⟩
  rw [← eS3] at hP
  replace hw := hw S3 eS3
  refine lv_aload_n hx hb d_Mo_findSnapshot_18 rfl (lv_at hl 0 rfl) ?_
  refine lv_iconst (v := (-1 : Int32)) hx hb d_Mo_findSnapshot_19 (by decide) ?_
  refine g_put (ty := .int) (v := .int (-1 : Int32)) (S' := gset S3 x0 26 (-1 : Int32)) hx hb hts (fun w h => List.mem_cons_of_mem _ (in_Mo w h)) ty_Mo tyok_Mo nm_Mo hown hK hY.1 hP hS hx0 (gce_Mo hx0.1) rfl 26 (by decide) (hts _ (List.mem_cons_of_mem _ gw_833)) rfl (by decide +kernel) rfl rfl (Nat.le_of_ble_eq_true rfl) (gp_Mo_snapshot hx0.1) gce_gset d_Mo_findSnapshot_20 (fun H locs hP hS => ?_)
  obtain ⟨S4, eS4⟩ : ∃ z, z = gset S3 x0 26 (-1 : Int32) := ⟨_, rfl⟩
  rw [← eS4] at hP
  replace hw := hw S4 eS4
  refine lv_iconst (v := 2) hx hb d_Mo_findSnapshot_23 (by decide) ?_
  refine lv_istore_n (lv' := [(1, .int 2), (0, .ref (gad Y x0))]) hx hb d_Mo_findSnapshot_24 rfl hl (by decide) rfl (fun ls hl => ?_)
  obtain ⟨n, hw⟩ := hw
  exact mw_Mo_findSnapshot_25 C0 n x0 2 S4 H locs ls hx0 hw hP hS (lv_sub hl [1, 0] rfl)
set_option maxHeartbeats 4000000 in
set_option maxRecDepth 100000 in
theorem k_Mo_findSnapshot (l : Launch) (Y : gY) (hY : gOK Y) (sz : Nat) (x0 : gI)  (hx0 : gis Y 10 x0) (S : gS) (Q : gS → Prop) : Met l y_Mo_findSnapshot w_Mo_findSnapshot (gRm 3 66) (gPre Y [.ref (gad Y x0)] S sz (wp_Mo_findSnapshot (gLn Y) Q x0 S)) (va_Qv Q (gB Y) (gA Y sz)) 0 0 (gA Y sz) := by
  refine Met.ofW (cc := c_Mo_findSnapshot) (maxL := 3) (ret := (Option.none : Option Jvm.ClassFile.FieldType)) (by decide) rfl ?_
  intro p e s m args below meth c s₁ B hml hv
  obtain ⟨rfl, hsz, hP, hK, hSt, hw⟩ := hv
  subst hsz
  have hts := atoms_spec (ws := w_Mo_findSnapshot) B.pre
  have hl := lv_entry ([.ref (gad Y x0)]) (n := 3) (Nat.le_of_ble_eq_true rfl)
  rw [lg_entry_eq]
  generalize (lg_sl ([.ref (gad Y x0)]) ++ List.replicate (3 - (lg_sl ([.ref (gad Y x0)])).length) Slot.unset).toArray = ls at hl ⊢
  exact mw_Mo_findSnapshot ⟨B.exec, B.bytes, hml, findClass_of_methodNamed B.named, hts, B.returns, B.notSynchronized, hK, hY, hSt⟩ x0 S s.heap [] ls hx0 hw hP va_S.rf hl

def wp_Mo_firstSegment_51 (Ln : gI → Nat) (K4 : gI → Int32 → Int32 → gS → Prop) (Q : Int32 → gS → Prop) (x0 : gI) (x1 : Int32) (x2 : Int32)  (S : gS) : Prop :=
  ∀ v2_17 : Int32, v2_17 = x2 + 1 → (K4 x0 x1 v2_17 S)
def wp_Mo_firstSegment_49 (Ln : gI → Nat) (K4 : gI → Int32 → Int32 → gS → Prop) (Q : Int32 → gS → Prop) (x0 : gI) (x2 : Int32)  (S : gS) : Prop :=
  wp_Mo_firstSegment_51 Ln K4 Q x0 x2 x2 S
def wp_Mo_firstSegment_4 (Ln : gI → Nat) (Q : Int32 → gS → Prop) : Nat → gI → Int32 → Int32 → gS → Prop
  | 0, _, _, _, _ => False
  | n4 + 1, x0, x1, x2, S => ((16 ≤ x2) → (((0 ≤ x1) → (wp_Mo_firstOf Ln (fun r4 S3 => ((¬ r4 = ((S3.1 x0 23) + 1)) → (wp_Mo_firstOf Ln (fun r7 S6 => ∀ v2_8 : Int32, v2_8 = ((S3.1 x0 23) - r7) + 1 → (wp_Mo_whole Ln (fun r10 S9 => ((r10 ≤ v2_8) → (Q (-1 : Int32) S9)) ∧ ((¬ r10 ≤ v2_8) → (vp_in ((330 * x1) + v2_8) (Ln (grf x0 12)) ∧ (vp_in (S9.1 (grf x0 12) ((330 * x1) + v2_8).toNatClampNeg) (Ln (grf x0 6)) ∧ (((¬ (S9.1 (grf x0 6) (S9.1 (grf x0 12) ((330 * x1) + v2_8).toNatClampNeg).toNatClampNeg) = (S9.1 x0 24)) → (Q (-1 : Int32) S9)) ∧ (((S9.1 (grf x0 6) (S9.1 (grf x0 12) ((330 * x1) + v2_8).toNatClampNeg).toNatClampNeg) = (S9.1 x0 24)) → (Q x1 S9))))))) x0 x1 S6)) x0 x1 S3)) ∧ ((r4 = ((S3.1 x0 23) + 1)) → (vp_in (330 * x1) (Ln (grf x0 12)) ∧ (vp_in (S3.1 (grf x0 12) (330 * x1).toNatClampNeg) (Ln (grf x0 6)) ∧ (((¬ (S3.1 (grf x0 6) (S3.1 (grf x0 12) (330 * x1).toNatClampNeg).toNatClampNeg) = (S3.1 x0 24)) → (Q (-1 : Int32) S3)) ∧ (((S3.1 (grf x0 6) (S3.1 (grf x0 12) (330 * x1).toNatClampNeg).toNatClampNeg) = (S3.1 x0 24)) → (Q x1 S3))))))) x0 x1 S)) ∧ ((¬ 0 ≤ x1) → (Q (-1 : Int32) S)))) ∧ ((¬ 16 ≤ x2) → (wp_Mo_whole Ln (fun r15 S14 => ((r15 ≤ 0) → (wp_Mo_firstSegment_51 Ln (fun z0 z1 z2 zS => wp_Mo_firstSegment_4 Ln Q n4 z0 z1 z2 zS) Q x0 x1 x2 S14)) ∧ ((¬ r15 ≤ 0) → (wp_Mo_firstOf Ln (fun r19 S18 => ((((S18.1 x0 23) + 1) < r19) → (wp_Mo_firstSegment_51 Ln (fun z0 z1 z2 zS => wp_Mo_firstSegment_4 Ln Q n4 z0 z1 z2 zS) Q x0 x1 x2 S18)) ∧ ((¬ ((S18.1 x0 23) + 1) < r19) → (((x1 < 0) → (wp_Mo_firstSegment_49 Ln (fun z0 z1 z2 zS => wp_Mo_firstSegment_4 Ln Q n4 z0 z1 z2 zS) Q x0 x2 S18)) ∧ ((¬ x1 < 0) → (wp_Mo_firstOf Ln (fun r23 S22 => wp_Mo_firstOf Ln (fun r25 S24 => ((r23 ≤ r25) → (wp_Mo_firstSegment_51 Ln (fun z0 z1 z2 zS => wp_Mo_firstSegment_4 Ln Q n4 z0 z1 z2 zS) Q x0 x1 x2 S24)) ∧ ((¬ r23 ≤ r25) → (wp_Mo_firstSegment_49 Ln (fun z0 z1 z2 zS => wp_Mo_firstSegment_4 Ln Q n4 z0 z1 z2 zS) Q x0 x2 S24))) x0 x1 S22) x0 x2 S18))))) x0 x2 S14))) x0 x2 S))
def wp_Mo_firstSegment (Ln : gI → Nat) (Q : Int32 → gS → Prop) (x0 : gI)  (S : gS) : Prop :=
  ∃ n4 : Nat, wp_Mo_firstSegment_4 Ln Q n4 x0 (-1 : Int32) 4 S
set_option maxHeartbeats 4000000 in
set_option maxRecDepth 100000 in
theorem mw_Mo_firstSegment_51 {p : Program} {l : Launch} {e : Env} {s : State} {m : MethodId} {args : Array Value} {below : List Frame} {meth : Method} {c : Code} {Y : gY} {Q : Int32 → gS → Prop} {K4 : gI → Int32 → Int32 → gS → Prop} (C : gCx p s m args meth c Y "LogDiskModel" c_Mo_firstSegment 3 (Option.some Jvm.ClassFile.FieldType.int) w_Mo_firstSegment) (hK4 : ∀ (x0 : gI) (x1 : Int32) (x2 : Int32)  (S : gS) (H : Heap) (locs : List Loc) (ls : Array Slot), gis Y 10 x0 → K4 x0 x1 x2 S → gWd Y S H → va_S (gA Y s.heap.size) s.heap H locs → lv_has ls 3 [(0, .ref (gad Y x0)), (1, .int x1), (2, .int x2)] → W p l e (gRm 3 66) s m args below meth c H locs 0 0 (MQ below (va_Qi Q (gB Y) (gA Y s.heap.size)) args s 0 0 (gA Y s.heap.size)) (F0 m 4 ls [])) : ∀ (x0 : gI) (x1 : Int32) (x2 : Int32)  (S : gS) (H : Heap) (locs : List Loc) (ls : Array Slot), gis Y 10 x0 → wp_Mo_firstSegment_51 (gLn Y) K4 Q x0 x1 x2 S → gWd Y S H → va_S (gA Y s.heap.size) s.heap H locs → lv_has ls 3 [(0, .ref (gad Y x0)), (1, .int x1), (2, .int x2)] → W p l e (gRm 3 66) s m args below meth c H locs 0 0 (MQ below (va_Qi Q (gB Y) (gA Y s.heap.size)) args s 0 0 (gA Y s.heap.size)) (F0 m 51 ls []) := by
  have C0 := C
  obtain ⟨hx, hb, hml, hown, hts, hr, hlocks, hK, hY, hSt⟩ := C
  intro x0 x1 x2 S H locs ls hx0 hw hP hS hl
  unfold wp_Mo_firstSegment_51 at hw
  obtain ⟨v2_17, ev2_17⟩ : ∃ y : Int32, y = x2 + 1 := ⟨_, rfl⟩
  replace hw := hw v2_17 ev2_17
  refine lv_iinc (v := v2_17) (lv' := [(2, .int v2_17), (0, .ref (gad Y x0)), (1, .int x1)]) hx hb d_Mo_firstSegment_51 hl (k := 2) rfl (by rw [ev2_17]; rfl) (by decide) rfl (fun ls hl => ?_)
  refine lv_goto (tgt := 4) hx hb d_Mo_firstSegment_54 (by decide) ?_
  exact hK4 x0 x1 v2_17 S H locs ls hx0 hw hP hS (lv_sub hl [1, 2, 0] rfl)
set_option maxHeartbeats 4000000 in
set_option maxRecDepth 100000 in
theorem mw_Mo_firstSegment_49 {p : Program} {l : Launch} {e : Env} {s : State} {m : MethodId} {args : Array Value} {below : List Frame} {meth : Method} {c : Code} {Y : gY} {Q : Int32 → gS → Prop} {K4 : gI → Int32 → Int32 → gS → Prop} (C : gCx p s m args meth c Y "LogDiskModel" c_Mo_firstSegment 3 (Option.some Jvm.ClassFile.FieldType.int) w_Mo_firstSegment) (hK4 : ∀ (x0 : gI) (x1 : Int32) (x2 : Int32)  (S : gS) (H : Heap) (locs : List Loc) (ls : Array Slot), gis Y 10 x0 → K4 x0 x1 x2 S → gWd Y S H → va_S (gA Y s.heap.size) s.heap H locs → lv_has ls 3 [(0, .ref (gad Y x0)), (1, .int x1), (2, .int x2)] → W p l e (gRm 3 66) s m args below meth c H locs 0 0 (MQ below (va_Qi Q (gB Y) (gA Y s.heap.size)) args s 0 0 (gA Y s.heap.size)) (F0 m 4 ls [])) : ∀ (x0 : gI) (x2 : Int32)  (S : gS) (H : Heap) (locs : List Loc) (ls : Array Slot), gis Y 10 x0 → wp_Mo_firstSegment_49 (gLn Y) K4 Q x0 x2 S → gWd Y S H → va_S (gA Y s.heap.size) s.heap H locs → lv_has ls 3 [(0, .ref (gad Y x0)), (2, .int x2)] → W p l e (gRm 3 66) s m args below meth c H locs 0 0 (MQ below (va_Qi Q (gB Y) (gA Y s.heap.size)) args s 0 0 (gA Y s.heap.size)) (F0 m 49 ls []) := by
  have C0 := C
  obtain ⟨hx, hb, hml, hown, hts, hr, hlocks, hK, hY, hSt⟩ := C
  intro x0 x2 S H locs ls hx0 hw hP hS hl
  unfold wp_Mo_firstSegment_49 at hw
  refine lv_iload_n hx hb d_Mo_firstSegment_49 rfl (lv_at hl 1 rfl) ?_
  refine lv_istore_n (lv' := [(1, .int x2), (0, .ref (gad Y x0)), (2, .int x2)]) hx hb d_Mo_firstSegment_50 rfl hl (by decide) rfl (fun ls hl => ?_)
  exact mw_Mo_firstSegment_51 C0 hK4 x0 x2 x2 S H locs ls hx0 hw hP hS (lv_sub hl [1, 0, 2] rfl)
set_option maxHeartbeats 4000000 in
set_option maxRecDepth 100000 in
theorem mw_Mo_firstSegment_4 {p : Program} {l : Launch} {e : Env} {s : State} {m : MethodId} {args : Array Value} {below : List Frame} {meth : Method} {c : Code} {Y : gY} {Q : Int32 → gS → Prop} (C : gCx p s m args meth c Y "LogDiskModel" c_Mo_firstSegment 3 (Option.some Jvm.ClassFile.FieldType.int) w_Mo_firstSegment) : ∀ (n : Nat), ∀ (x0 : gI) (x1 : Int32) (x2 : Int32)  (S : gS) (H : Heap) (locs : List Loc) (ls : Array Slot), gis Y 10 x0 → wp_Mo_firstSegment_4 (gLn Y) Q n x0 x1 x2 S → gWd Y S H → va_S (gA Y s.heap.size) s.heap H locs → lv_has ls 3 [(0, .ref (gad Y x0)), (1, .int x1), (2, .int x2)] → W p l e (gRm 3 66) s m args below meth c H locs 0 0 (MQ below (va_Qi Q (gB Y) (gA Y s.heap.size)) args s 0 0 (gA Y s.heap.size)) (F0 m 4 ls []) := by
  have C0 := C
  obtain ⟨hx, hb, hml, hown, hts, hr, hlocks, hK, hY, hSt⟩ := C
  intro n
  induction n with
  | zero =>
    intro x0 x1 x2 S H locs ls hx0 hw
    exact False.elim hw
  | succ n ih =>
    intro x0 x1 x2 S H locs ls hx0 hw hP hS hl
    unfold wp_Mo_firstSegment_4 at hw
    refine lv_iload_n hx hb d_Mo_firstSegment_4 rfl (lv_at hl 2 rfl) ?_
    refine lv_bipush (v := 16) hx hb d_Mo_firstSegment_5 (by decide) ?_
    refine lv_icmp_ge (tgt := 57) hx hb d_Mo_firstSegment_7 (by decide) (fun c1 => ?_) (fun c1 => ?_)
    · replace hw := hw.1 c1
      refine lv_iload_n hx hb d_Mo_firstSegment_57 rfl (lv_at hl 1 rfl) ?_
      refine lv_if_ge (tgt := 63) hx hb d_Mo_firstSegment_58 (by decide) (fun c2 => ?_) (fun c2 => ?_)
      · replace hw := hw.1 c2
        refine lv_aload_n hx hb d_Mo_firstSegment_63 rfl (lv_at hl 0 rfl) ?_
        refine lv_iload_n hx hb d_Mo_firstSegment_64 rfl (lv_at hl 1 rfl) ?_
        refine g_calli (va_runV (As := [.int x1]) (rest := []) ⟨hx, hb, hml, hown, hts⟩ (k_Mo_firstOf l Y hY H.size x0 x1 hx0 S _) (cwV 1 hts (gG_V gw_997 gw_999 gs_34 gw_12 gw_1000) rfl rfl rfl (by decide +kernel) ⟨Nat.le_of_ble_eq_true rfl, Nat.le_of_ble_eq_true rfl⟩) ⟨gPre_blind, g_recv hK hP hx0 (gce_Mo hx0.1) rfl, g_pre hK hSt hS hP hw⟩ rfl rfl hl.1 rfl (lv_room (Nat.le_of_ble_eq_true rfl)) d_Mo_firstSegment_65 ⟨Nat.zero_le _, Nat.zero_le _⟩) hS (fun r4 S3 H locs hw hP hS => ?_)
        refine lv_aload_n hx hb d_Mo_firstSegment_68 rfl (lv_at hl 0 rfl) ?_
        refine g_get hx hb hts (fun w h => List.mem_cons_of_mem _ (in_Mo w h)) hown hK hP hx0 (gce_Mo hx0.1) rfl 23 (by decide) (hts _ (List.mem_cons_of_mem _ gw_830)) rfl d_Mo_firstSegment_69 ?_
        refine lv_iconst (v := 1) hx hb d_Mo_firstSegment_72 (by decide) ?_
        refine lv_iadd hx hb d_Mo_firstSegment_73 ?_
        refine lv_icmp_ne (tgt := 105) hx hb d_Mo_firstSegment_74 (by decide) (fun c5 => ?_) (fun c5 => ?_)
        · replace hw := hw.1 c5
          refine lv_aload_n hx hb d_Mo_firstSegment_105 rfl (lv_at hl 0 rfl) ?_
          refine g_get hx hb hts (fun w h => List.mem_cons_of_mem _ (in_Mo w h)) hown hK hP hx0 (gce_Mo hx0.1) rfl 23 (by decide) (hts _ (List.mem_cons_of_mem _ gw_830)) rfl d_Mo_firstSegment_106 ?_
          refine lv_aload_n hx hb d_Mo_firstSegment_109 rfl (lv_at hl 0 rfl) ?_
          refine lv_iload_n hx hb d_Mo_firstSegment_110 rfl (lv_at hl 1 rfl) ?_
          refine g_calli (va_runV (As := [.int x1]) (rest := [.int (S3.1 x0 23)]) ⟨hx, hb, hml, hown, hts⟩ (k_Mo_firstOf l Y hY H.size x0 x1 hx0 S3 _) (cwV 1 hts (gG_V gw_997 gw_999 gs_34 gw_12 gw_1000) rfl rfl rfl (by decide +kernel) ⟨Nat.le_of_ble_eq_true rfl, Nat.le_of_ble_eq_true rfl⟩) ⟨gPre_blind, g_recv hK hP hx0 (gce_Mo hx0.1) rfl, g_pre hK hSt hS hP hw⟩ rfl rfl hl.1 rfl (lv_room (Nat.le_of_ble_eq_true rfl)) d_Mo_firstSegment_111 ⟨Nat.zero_le _, Nat.zero_le _⟩) hS (fun r7 S6 H locs hw hP hS => ?_)
          refine lv_isub hx hb d_Mo_firstSegment_114 ?_
          refine lv_iconst (v := 1) hx hb d_Mo_firstSegment_115 (by decide) ?_
          refine lv_iadd hx hb d_Mo_firstSegment_116 ?_
          refine lv_topi (fun v2_8 ev2_8 => ?_)
          replace hw := hw v2_8 ev2_8
          refine lv_istore_n (lv' := [(2, .int v2_8), (0, .ref (gad Y x0)), (1, .int x1)]) hx hb d_Mo_firstSegment_117 rfl hl (by decide) rfl (fun ls hl => ?_)
          refine lv_iload_n hx hb d_Mo_firstSegment_118 rfl (lv_at hl 0 rfl) ?_
          refine lv_aload_n hx hb d_Mo_firstSegment_119 rfl (lv_at hl 1 rfl) ?_
          refine lv_iload_n hx hb d_Mo_firstSegment_120 rfl (lv_at hl 2 rfl) ?_
          refine g_calli (va_runV (As := [.int x1]) (rest := [.int v2_8]) ⟨hx, hb, hml, hown, hts⟩ (k_Mo_whole l Y hY H.size x0 x1 hx0 S6 _) (cwV 1 hts (gG_V gw_1061 gw_1063 gs_44 gw_12 gw_1064) rfl rfl rfl (by decide +kernel) ⟨Nat.le_of_ble_eq_true rfl, Nat.le_of_ble_eq_true rfl⟩) ⟨gPre_blind, g_recv hK hP hx0 (gce_Mo hx0.1) rfl, g_pre hK hSt hS hP hw⟩ rfl rfl hl.1 rfl (lv_room (Nat.le_of_ble_eq_true rfl)) d_Mo_firstSegment_121 ⟨Nat.zero_le _, Nat.zero_le _⟩) hS (fun r10 S9 H locs hw hP hS => ?_)
          refine lv_icmp_ge (tgt := 155) hx hb d_Mo_firstSegment_124 (by decide) (fun c11 => ?_) (fun c11 => ?_)
          · replace hw := hw.1 c11
            refine lv_iconst (v := (-1 : Int32)) hx hb d_Mo_firstSegment_155 (by decide) ?_
            exact W.iret (v := (-1 : Int32)) hx hb hr (fun t ht hW => ⟨⟨(-1 : Int32), S9, rfl, hw, by rw [ht]; exact hP, va_K.moved hW.alike hK⟩, hS.F ht⟩) hS.2.2 d_Mo_firstSegment_156
          · replace hw := hw.2 c11
            refine lv_aload_n hx hb d_Mo_firstSegment_127 rfl (lv_at hl 1 rfl) ?_
            refine g_get hx hb hts (fun w h => List.mem_cons_of_mem _ (in_Mo w h)) hown hK hP hx0 (gce_Mo hx0.1) rfl 6 (by decide) (hts _ (List.mem_cons_of_mem _ gw_813)) rfl d_Mo_firstSegment_128 ?_
            refine lv_aload_n hx hb d_Mo_firstSegment_131 rfl (lv_at hl 1 rfl) ?_
            refine g_get hx hb hts (fun w h => List.mem_cons_of_mem _ (in_Mo w h)) hown hK hP hx0 (gce_Mo hx0.1) rfl 12 (by decide) (hts _ (List.mem_cons_of_mem _ gw_819)) rfl d_Mo_firstSegment_132 ?_
            refine lv_sipush (v := 330) hx hb d_Mo_firstSegment_135 (by decide) ?_
            refine lv_iload_n hx hb d_Mo_firstSegment_138 rfl (lv_at hl 2 rfl) ?_
            refine lv_imul hx hb d_Mo_firstSegment_139 ?_
            refine lv_iload_n hx hb d_Mo_firstSegment_140 rfl (lv_at hl 0 rfl) ?_
            refine lv_iadd hx hb d_Mo_firstSegment_141 ?_
            obtain ⟨hin, hw⟩ := hw
            refine g_iaload hx hb hK hP (gis_Mo_rows hY hx0) hin d_Mo_firstSegment_142 ?_
            obtain ⟨hin, hw⟩ := hw
            refine g_iaload hx hb hK hP (gis_Mo_bs hY hx0) hin d_Mo_firstSegment_143 ?_
            refine lv_aload_n hx hb d_Mo_firstSegment_144 rfl (lv_at hl 1 rfl) ?_
            refine g_get hx hb hts (fun w h => List.mem_cons_of_mem _ (in_Mo w h)) hown hK hP hx0 (gce_Mo hx0.1) rfl 24 (by decide) (hts _ (List.mem_cons_of_mem _ gw_831)) rfl d_Mo_firstSegment_145 ?_
            refine lv_icmp_ne (tgt := 155) hx hb d_Mo_firstSegment_148 (by decide) (fun c12 => ?_) (fun c12 => ?_)
            · replace hw := hw.1 c12
              refine lv_iconst (v := (-1 : Int32)) hx hb d_Mo_firstSegment_155 (by decide) ?_
              exact W.iret (v := (-1 : Int32)) hx hb hr (fun t ht hW => ⟨⟨(-1 : Int32), S9, rfl, hw, by rw [ht]; exact hP, va_K.moved hW.alike hK⟩, hS.F ht⟩) hS.2.2 d_Mo_firstSegment_156
            · replace hw := hw.2 c12
              refine lv_iload_n hx hb d_Mo_firstSegment_151 rfl (lv_at hl 2 rfl) ?_
              refine lv_goto (tgt := 156) hx hb d_Mo_firstSegment_152 (by decide) ?_
              exact W.iret (v := x1) hx hb hr (fun t ht hW => ⟨⟨x1, S9, rfl, hw, by rw [ht]; exact hP, va_K.moved hW.alike hK⟩, hS.F ht⟩) hS.2.2 d_Mo_firstSegment_156
        · replace hw := hw.2 c5
          refine lv_aload_n hx hb d_Mo_firstSegment_77 rfl (lv_at hl 0 rfl) ?_
          refine g_get hx hb hts (fun w h => List.mem_cons_of_mem _ (in_Mo w h)) hown hK hP hx0 (gce_Mo hx0.1) rfl 6 (by decide) (hts _ (List.mem_cons_of_mem _ gw_813)) rfl d_Mo_firstSegment_78 ?_
          refine lv_aload_n hx hb d_Mo_firstSegment_81 rfl (lv_at hl 0 rfl) ?_
          refine g_get hx hb hts (fun w h => List.mem_cons_of_mem _ (in_Mo w h)) hown hK hP hx0 (gce_Mo hx0.1) rfl 12 (by decide) (hts _ (List.mem_cons_of_mem _ gw_819)) rfl d_Mo_firstSegment_82 ?_
          refine lv_sipush (v := 330) hx hb d_Mo_firstSegment_85 (by decide) ?_
          refine lv_iload_n hx hb d_Mo_firstSegment_88 rfl (lv_at hl 1 rfl) ?_
          refine lv_imul hx hb d_Mo_firstSegment_89 ?_
          obtain ⟨hin, hw⟩ := hw
          refine g_iaload hx hb hK hP (gis_Mo_rows hY hx0) hin d_Mo_firstSegment_90 ?_
          obtain ⟨hin, hw⟩ := hw
          refine g_iaload hx hb hK hP (gis_Mo_bs hY hx0) hin d_Mo_firstSegment_91 ?_
          refine lv_aload_n hx hb d_Mo_firstSegment_92 rfl (lv_at hl 0 rfl) ?_
          refine g_get hx hb hts (fun w h => List.mem_cons_of_mem _ (in_Mo w h)) hown hK hP hx0 (gce_Mo hx0.1) rfl 24 (by decide) (hts _ (List.mem_cons_of_mem _ gw_831)) rfl d_Mo_firstSegment_93 ?_
          refine lv_icmp_ne (tgt := 103) hx hb d_Mo_firstSegment_96 (by decide) (fun c13 => ?_) (fun c13 => ?_)
          · replace hw := hw.1 c13
            refine lv_iconst (v := (-1 : Int32)) hx hb d_Mo_firstSegment_103 (by decide) ?_
            exact W.iret (v := (-1 : Int32)) hx hb hr (fun t ht hW => ⟨⟨(-1 : Int32), S3, rfl, hw, by rw [ht]; exact hP, va_K.moved hW.alike hK⟩, hS.F ht⟩) hS.2.2 d_Mo_firstSegment_104
          · replace hw := hw.2 c13
            refine lv_iload_n hx hb d_Mo_firstSegment_99 rfl (lv_at hl 1 rfl) ?_
            refine lv_goto (tgt := 104) hx hb d_Mo_firstSegment_100 (by decide) ?_
            exact W.iret (v := x1) hx hb hr (fun t ht hW => ⟨⟨x1, S3, rfl, hw, by rw [ht]; exact hP, va_K.moved hW.alike hK⟩, hS.F ht⟩) hS.2.2 d_Mo_firstSegment_104
      · replace hw := hw.2 c2
        refine lv_iconst (v := (-1 : Int32)) hx hb d_Mo_firstSegment_61 (by decide) ?_
        exact W.iret (v := (-1 : Int32)) hx hb hr (fun t ht hW => ⟨⟨(-1 : Int32), S, rfl, hw, by rw [ht]; exact hP, va_K.moved hW.alike hK⟩, hS.F ht⟩) hS.2.2 d_Mo_firstSegment_62
    · replace hw := hw.2 c1
      refine lv_aload_n hx hb d_Mo_firstSegment_10 rfl (lv_at hl 0 rfl) ?_
      refine lv_iload_n hx hb d_Mo_firstSegment_11 rfl (lv_at hl 2 rfl) ?_
      refine g_calli (va_runV (As := [.int x2]) (rest := []) ⟨hx, hb, hml, hown, hts⟩ (k_Mo_whole l Y hY H.size x0 x2 hx0 S _) (cwV 1 hts (gG_V gw_1061 gw_1063 gs_44 gw_12 gw_1064) rfl rfl rfl (by decide +kernel) ⟨Nat.le_of_ble_eq_true rfl, Nat.le_of_ble_eq_true rfl⟩) ⟨gPre_blind, g_recv hK hP hx0 (gce_Mo hx0.1) rfl, g_pre hK hSt hS hP hw⟩ rfl rfl hl.1 rfl (lv_room (Nat.le_of_ble_eq_true rfl)) d_Mo_firstSegment_12 ⟨Nat.zero_le _, Nat.zero_le _⟩) hS (fun r15 S14 H locs hw hP hS => ?_)
      refine lv_if_le (tgt := 51) hx hb d_Mo_firstSegment_15 (by decide) (fun c16 => ?_) (fun c16 => ?_)
      · replace hw := hw.1 c16
        exact mw_Mo_firstSegment_51 C0 ih x0 x1 x2 S14 H locs ls hx0 hw hP hS (lv_sub hl [0, 1, 2] rfl)
      · replace hw := hw.2 c16
        refine lv_aload_n hx hb d_Mo_firstSegment_18 rfl (lv_at hl 0 rfl) ?_
        refine lv_iload_n hx hb d_Mo_firstSegment_19 rfl (lv_at hl 2 rfl) ?_
        refine g_calli (va_runV (As := [.int x2]) (rest := []) ⟨hx, hb, hml, hown, hts⟩ (k_Mo_firstOf l Y hY H.size x0 x2 hx0 S14 _) (cwV 1 hts (gG_V gw_997 gw_999 gs_34 gw_12 gw_1000) rfl rfl rfl (by decide +kernel) ⟨Nat.le_of_ble_eq_true rfl, Nat.le_of_ble_eq_true rfl⟩) ⟨gPre_blind, g_recv hK hP hx0 (gce_Mo hx0.1) rfl, g_pre hK hSt hS hP hw⟩ rfl rfl hl.1 rfl (lv_room (Nat.le_of_ble_eq_true rfl)) d_Mo_firstSegment_20 ⟨Nat.zero_le _, Nat.zero_le _⟩) hS (fun r19 S18 H locs hw hP hS => ?_)
        refine lv_aload_n hx hb d_Mo_firstSegment_23 rfl (lv_at hl 0 rfl) ?_
        refine g_get hx hb hts (fun w h => List.mem_cons_of_mem _ (in_Mo w h)) hown hK hP hx0 (gce_Mo hx0.1) rfl 23 (by decide) (hts _ (List.mem_cons_of_mem _ gw_830)) rfl d_Mo_firstSegment_24 ?_
        refine lv_iconst (v := 1) hx hb d_Mo_firstSegment_27 (by decide) ?_
        refine lv_iadd hx hb d_Mo_firstSegment_28 ?_
        refine lv_icmp_gt (tgt := 51) hx hb d_Mo_firstSegment_29 (by decide) (fun c20 => ?_) (fun c20 => ?_)
        · replace hw := hw.1 c20
          exact mw_Mo_firstSegment_51 C0 ih x0 x1 x2 S18 H locs ls hx0 hw hP hS (lv_sub hl [0, 1, 2] rfl)
        · replace hw := hw.2 c20
          refine lv_iload_n hx hb d_Mo_firstSegment_32 rfl (lv_at hl 1 rfl) ?_
          refine lv_if_lt (tgt := 49) hx hb d_Mo_firstSegment_33 (by decide) (fun c21 => ?_) (fun c21 => ?_)
          · replace hw := hw.1 c21
            exact mw_Mo_firstSegment_49 C0 ih x0 x2 S18 H locs ls hx0 hw hP hS (lv_sub hl [0, 2] rfl)
          · replace hw := hw.2 c21
            refine lv_aload_n hx hb d_Mo_firstSegment_36 rfl (lv_at hl 0 rfl) ?_
            refine lv_iload_n hx hb d_Mo_firstSegment_37 rfl (lv_at hl 2 rfl) ?_
            refine g_calli (va_runV (As := [.int x2]) (rest := []) ⟨hx, hb, hml, hown, hts⟩ (k_Mo_firstOf l Y hY H.size x0 x2 hx0 S18 _) (cwV 1 hts (gG_V gw_997 gw_999 gs_34 gw_12 gw_1000) rfl rfl rfl (by decide +kernel) ⟨Nat.le_of_ble_eq_true rfl, Nat.le_of_ble_eq_true rfl⟩) ⟨gPre_blind, g_recv hK hP hx0 (gce_Mo hx0.1) rfl, g_pre hK hSt hS hP hw⟩ rfl rfl hl.1 rfl (lv_room (Nat.le_of_ble_eq_true rfl)) d_Mo_firstSegment_38 ⟨Nat.zero_le _, Nat.zero_le _⟩) hS (fun r23 S22 H locs hw hP hS => ?_)
            refine lv_aload_n hx hb d_Mo_firstSegment_41 rfl (lv_at hl 0 rfl) ?_
            refine lv_iload_n hx hb d_Mo_firstSegment_42 rfl (lv_at hl 1 rfl) ?_
            refine g_calli (va_runV (As := [.int x1]) (rest := [.int r23]) ⟨hx, hb, hml, hown, hts⟩ (k_Mo_firstOf l Y hY H.size x0 x1 hx0 S22 _) (cwV 1 hts (gG_V gw_997 gw_999 gs_34 gw_12 gw_1000) rfl rfl rfl (by decide +kernel) ⟨Nat.le_of_ble_eq_true rfl, Nat.le_of_ble_eq_true rfl⟩) ⟨gPre_blind, g_recv hK hP hx0 (gce_Mo hx0.1) rfl, g_pre hK hSt hS hP hw⟩ rfl rfl hl.1 rfl (lv_room (Nat.le_of_ble_eq_true rfl)) d_Mo_firstSegment_43 ⟨Nat.zero_le _, Nat.zero_le _⟩) hS (fun r25 S24 H locs hw hP hS => ?_)
            refine lv_icmp_le (tgt := 51) hx hb d_Mo_firstSegment_46 (by decide) (fun c26 => ?_) (fun c26 => ?_)
            · replace hw := hw.1 c26
              exact mw_Mo_firstSegment_51 C0 ih x0 x1 x2 S24 H locs ls hx0 hw hP hS (lv_sub hl [0, 1, 2] rfl)
            · replace hw := hw.2 c26
              exact mw_Mo_firstSegment_49 C0 ih x0 x2 S24 H locs ls hx0 hw hP hS (lv_sub hl [0, 2] rfl)
set_option maxHeartbeats 4000000 in
set_option maxRecDepth 100000 in
theorem mw_Mo_firstSegment {p : Program} {l : Launch} {e : Env} {s : State} {m : MethodId} {args : Array Value} {below : List Frame} {meth : Method} {c : Code} {Y : gY} {Q : Int32 → gS → Prop} (C : gCx p s m args meth c Y "LogDiskModel" c_Mo_firstSegment 3 (Option.some Jvm.ClassFile.FieldType.int) w_Mo_firstSegment) : ∀ (x0 : gI)  (S : gS) (H : Heap) (locs : List Loc) (ls : Array Slot), gis Y 10 x0 → wp_Mo_firstSegment (gLn Y) Q x0 S → gWd Y S H → va_S (gA Y s.heap.size) s.heap H locs → lv_has ls 3 [(0, .ref (gad Y x0))] → W p l e (gRm 3 66) s m args below meth c H locs 0 0 (MQ below (va_Qi Q (gB Y) (gA Y s.heap.size)) args s 0 0 (gA Y s.heap.size)) (F0 m 0 ls []) := by
  have C0 := C
  obtain ⟨hx, hb, hml, hown, hts, hr, hlocks, hK, hY, hSt⟩ := C
  intro x0 S H locs ls hx0 hw hP hS hl
  unfold wp_Mo_firstSegment at hw
  refine lv_iconst (v := (-1 : Int32)) hx hb d_Mo_firstSegment_0 (by decide) ?_
  refine lv_istore_n (lv' := [(1, .int (-1 : Int32)), (0, .ref (gad Y x0))]) hx hb d_Mo_firstSegment_1 rfl hl (by decide) rfl (fun ls hl => ?_)
  refine lv_iconst (v := 4) hx hb d_Mo_firstSegment_2 (by decide) ?_
  refine lv_istore_n (lv' := [(2, .int 4), (1, .int (-1 : Int32)), (0, .ref (gad Y x0))]) hx hb d_Mo_firstSegment_3 rfl hl (by decide) rfl (fun ls hl => ?_)
  obtain ⟨n, hw⟩ := hw
  exact mw_Mo_firstSegment_4 C0 n x0 (-1 : Int32) 4 S H locs ls hx0 hw hP hS (lv_sub hl [2, 1, 0] rfl)
set_option maxHeartbeats 4000000 in
set_option maxRecDepth 100000 in
theorem k_Mo_firstSegment (l : Launch) (Y : gY) (hY : gOK Y) (sz : Nat) (x0 : gI)  (hx0 : gis Y 10 x0) (S : gS) (Q : Int32 → gS → Prop) : Met l y_Mo_firstSegment w_Mo_firstSegment (gRm 3 66) (gPre Y [.ref (gad Y x0)] S sz (wp_Mo_firstSegment (gLn Y) Q x0 S)) (va_Qi Q (gB Y) (gA Y sz)) 0 0 (gA Y sz) := by
  refine Met.ofW (cc := c_Mo_firstSegment) (maxL := 3) (ret := (Option.some Jvm.ClassFile.FieldType.int)) (by decide) rfl ?_
  intro p e s m args below meth c s₁ B hml hv
  obtain ⟨rfl, hsz, hP, hK, hSt, hw⟩ := hv
  subst hsz
  have hts := atoms_spec (ws := w_Mo_firstSegment) B.pre
  have hl := lv_entry ([.ref (gad Y x0)]) (n := 3) (Nat.le_of_ble_eq_true rfl)
  rw [lg_entry_eq]
  generalize (lg_sl ([.ref (gad Y x0)]) ++ List.replicate (3 - (lg_sl ([.ref (gad Y x0)])).length) Slot.unset).toArray = ls at hl ⊢
  exact mw_Mo_firstSegment ⟨B.exec, B.bytes, hml, findClass_of_methodNamed B.named, hts, B.returns, B.notSynchronized, hK, hY, hSt⟩ x0 S s.heap [] ls hx0 hw hP va_S.rf hl

def wp_Mo_join_92 (Ln : gI → Nat) (K11 : gI → Int32 → Int32 → Int32 → Int32 → gS → Prop) (Q : gS → Prop) (x0 : gI) (x1 : Int32) (x2 : Int32) (x3 : Int32) (x4 : Int32)  (S : gS) : Prop :=
  ∀ v4_12 : Int32, v4_12 = x4 + 1 → (K11 x0 x1 x2 x3 v4_12 S)
def wp_Mo_join_11 (Ln : gI → Nat) (Q : gS → Prop) : Nat → gI → Int32 → Int32 → Int32 → Int32 → gS → Prop
  | 0, _, _, _, _, _, _ => False
  | n11 + 1, x0, x1, x2, x3, x4, S => ((x2 ≤ x4) → (wp_Mo_cut Ln (fun S4 => vp_in (S4.1 x0 30) (Ln (grf x0 31)) ∧ (∀ S5 : gS, S5 = gset S4 (grf x0 31) (S4.1 x0 30).toNatClampNeg x1 → (∀ S6 : gS, S6 = gset S5 x0 30 ((S5.1 x0 30) + 1) → (Q S6)))) x0 x1 x3 S)) ∧ ((¬ x2 ≤ x4) → (vp_in ((330 * x1) + x4) (Ln (grf x0 12)) ∧ (∀ v5_7 : Int32, v5_7 = S.1 (grf x0 12) ((330 * x1) + x4).toNatClampNeg → (wp_Mo_space Ln (fun r9 S8 => ∀ v3_10 : Int32, v3_10 = x3 + r9 → (((x4 ≤ 0) → (wp_Mo_join_92 Ln (fun z0 z1 z2 z3 z4 zS => wp_Mo_join_11 Ln Q n11 z0 z1 z2 z3 z4 zS) Q x0 x1 x2 v3_10 x4 S8)) ∧ ((¬ x4 ≤ 0) → (vp_in v5_7 (Ln (grf x0 5)) ∧ ((((S8.1 (grf x0 5) v5_7.toNatClampNeg) ≤ (S8.1 x0 23)) → (wp_Mo_join_92 Ln (fun z0 z1 z2 z3 z4 zS => wp_Mo_join_11 Ln Q n11 z0 z1 z2 z3 z4 zS) Q x0 x1 x2 v3_10 x4 S8)) ∧ ((¬ (S8.1 (grf x0 5) v5_7.toNatClampNeg) ≤ (S8.1 x0 23)) → (vp_in v5_7 (Ln (grf x0 5)) ∧ (vp_in (((S8.1 (grf x0 5) v5_7.toNatClampNeg) - (S8.1 x0 23)) - 1) (Ln (grf x0 32)) ∧ (∀ S14 : gS, S14 = gset S8 (grf x0 32) (((S8.1 (grf x0 5) v5_7.toNatClampNeg) - (S8.1 x0 23)) - 1).toNatClampNeg v5_7 → (vp_in v5_7 (Ln (grf x0 5)) ∧ (∀ S15 : gS, S15 = gset S14 x0 27 (S14.1 (grf x0 5) v5_7.toNatClampNeg) → (wp_Mo_join_92 Ln (fun z0 z1 z2 z3 z4 zS => wp_Mo_join_11 Ln Q n11 z0 z1 z2 z3 z4 zS) Q x0 x1 x2 v3_10 x4 S15)))))))))))) x0 v5_7 S))))
def wp_Mo_join (Ln : gI → Nat) (Q : gS → Prop) (x0 : gI) (x1 : Int32)  (S : gS) : Prop :=
  wp_Mo_whole Ln (fun r2 S1 => ∃ n11 : Nat, wp_Mo_join_11 Ln Q n11 x0 x1 r2 0 0 S1) x0 x1 S
set_option maxHeartbeats 4000000 in
set_option maxRecDepth 100000 in
theorem mw_Mo_join_92 {p : Program} {l : Launch} {e : Env} {s : State} {m : MethodId} {args : Array Value} {below : List Frame} {meth : Method} {c : Code} {Y : gY} {Q : gS → Prop} {K11 : gI → Int32 → Int32 → Int32 → Int32 → gS → Prop} (C : gCx p s m args meth c Y "LogDiskModel" c_Mo_join 6 (Option.none : Option Jvm.ClassFile.FieldType) w_Mo_join) (hK11 : ∀ (x0 : gI) (x1 : Int32) (x2 : Int32) (x3 : Int32) (x4 : Int32)  (S : gS) (H : Heap) (locs : List Loc) (ls : Array Slot), gis Y 10 x0 → K11 x0 x1 x2 x3 x4 S → gWd Y S H → va_S (gA Y s.heap.size) s.heap H locs → lv_has ls 6 [(0, .ref (gad Y x0)), (1, .int x1), (2, .int x2), (3, .int x3), (4, .int x4)] → W p l e (gRm 3 66) s m args below meth c H locs 0 0 (MQ below (va_Qv Q (gB Y) (gA Y s.heap.size)) args s 0 0 (gA Y s.heap.size)) (F0 m 11 ls [])) : ∀ (x0 : gI) (x1 : Int32) (x2 : Int32) (x3 : Int32) (x4 : Int32)  (S : gS) (H : Heap) (locs : List Loc) (ls : Array Slot), gis Y 10 x0 → wp_Mo_join_92 (gLn Y) K11 Q x0 x1 x2 x3 x4 S → gWd Y S H → va_S (gA Y s.heap.size) s.heap H locs → lv_has ls 6 [(0, .ref (gad Y x0)), (1, .int x1), (2, .int x2), (3, .int x3), (4, .int x4)] → W p l e (gRm 3 66) s m args below meth c H locs 0 0 (MQ below (va_Qv Q (gB Y) (gA Y s.heap.size)) args s 0 0 (gA Y s.heap.size)) (F0 m 92 ls []) := by
  have C0 := C
  obtain ⟨hx, hb, hml, hown, hts, hr, hlocks, hK, hY, hSt⟩ := C
  intro x0 x1 x2 x3 x4 S H locs ls hx0 hw hP hS hl
  unfold wp_Mo_join_92 at hw
  obtain ⟨v4_12, ev4_12⟩ : ∃ y : Int32, y = x4 + 1 := ⟨_, rfl⟩
  replace hw := hw v4_12 ev4_12
  refine lv_iinc (v := v4_12) (lv' := [(4, .int v4_12), (0, .ref (gad Y x0)), (1, .int x1), (2, .int x2), (3, .int x3)]) hx hb d_Mo_join_92 hl (k := 4) rfl (by rw [ev4_12]; rfl) (by decide) rfl (fun ls hl => ?_)
  refine lv_goto (tgt := 11) hx hb d_Mo_join_95 (by decide) ?_
  exact hK11 x0 x1 x2 x3 v4_12 S H locs ls hx0 hw hP hS (lv_sub hl [1, 2, 3, 4, 0] rfl)
set_option maxHeartbeats 4000000 in
set_option maxRecDepth 100000 in
theorem mw_Mo_join_11 {p : Program} {l : Launch} {e : Env} {s : State} {m : MethodId} {args : Array Value} {below : List Frame} {meth : Method} {c : Code} {Y : gY} {Q : gS → Prop} (C : gCx p s m args meth c Y "LogDiskModel" c_Mo_join 6 (Option.none : Option Jvm.ClassFile.FieldType) w_Mo_join) : ∀ (n : Nat), ∀ (x0 : gI) (x1 : Int32) (x2 : Int32) (x3 : Int32) (x4 : Int32)  (S : gS) (H : Heap) (locs : List Loc) (ls : Array Slot), gis Y 10 x0 → wp_Mo_join_11 (gLn Y) Q n x0 x1 x2 x3 x4 S → gWd Y S H → va_S (gA Y s.heap.size) s.heap H locs → lv_has ls 6 [(0, .ref (gad Y x0)), (1, .int x1), (2, .int x2), (3, .int x3), (4, .int x4)] → W p l e (gRm 3 66) s m args below meth c H locs 0 0 (MQ below (va_Qv Q (gB Y) (gA Y s.heap.size)) args s 0 0 (gA Y s.heap.size)) (F0 m 11 ls []) := by
  have C0 := C
  obtain ⟨hx, hb, hml, hown, hts, hr, hlocks, hK, hY, hSt⟩ := C
  intro n
  induction n with
  | zero =>
    intro x0 x1 x2 x3 x4 S H locs ls hx0 hw
    exact False.elim hw
  | succ n ih =>
    intro x0 x1 x2 x3 x4 S H locs ls hx0 hw hP hS hl
    unfold wp_Mo_join_11 at hw
    refine lv_iload hx hb d_Mo_join_11 (lv_at hl 4 rfl) ?_
    refine lv_iload_n hx hb d_Mo_join_13 rfl (lv_at hl 2 rfl) ?_
    refine lv_icmp_ge (tgt := 98) hx hb d_Mo_join_14 (by decide) (fun c3 => ?_) (fun c3 => ?_)
    · replace hw := hw.1 c3
      refine lv_aload_n hx hb d_Mo_join_98 rfl (lv_at hl 0 rfl) ?_
      refine lv_iload_n hx hb d_Mo_join_99 rfl (lv_at hl 1 rfl) ?_
      refine lv_iload_n hx hb d_Mo_join_100 rfl (lv_at hl 3 rfl) ?_
      refine g_callv (va_runV (As := [.int x1, .int x3]) (rest := []) ⟨hx, hb, hml, hown, hts⟩ (k_Mo_cut l Y hY H.size x0 x1 x3 hx0 S _) (cwV 2 hts (gG_V gw_949 gw_951 gs_24 gw_12 gw_952) rfl rfl rfl (by decide +kernel) ⟨Nat.le_of_ble_eq_true rfl, Nat.le_of_ble_eq_true rfl⟩) ⟨gPre_blind, g_recv hK hP hx0 (gce_Mo hx0.1) rfl, g_pre hK hSt hS hP hw⟩ rfl rfl hl.1 rfl (lv_room (Nat.le_of_ble_eq_true rfl)) d_Mo_join_101 ⟨Nat.zero_le _, Nat.zero_le _⟩) hS (fun S4 H locs hw hP hS => ?_)
      refine lv_aload_n hx hb d_Mo_join_104 rfl (lv_at hl 0 rfl) ?_
      refine g_get hx hb hts (fun w h => List.mem_cons_of_mem _ (in_Mo w h)) hown hK hP hx0 (gce_Mo hx0.1) rfl 31 (by decide) (hts _ (List.mem_cons_of_mem _ gw_838)) rfl d_Mo_join_105 ?_
      refine lv_aload_n hx hb d_Mo_join_108 rfl (lv_at hl 0 rfl) ?_
      refine g_get hx hb hts (fun w h => List.mem_cons_of_mem _ (in_Mo w h)) hown hK hP hx0 (gce_Mo hx0.1) rfl 30 (by decide) (hts _ (List.mem_cons_of_mem _ gw_837)) rfl d_Mo_join_109 ?_
      refine lv_iload_n hx hb d_Mo_join_112 rfl (lv_at hl 1 rfl) ?_
      obtain ⟨hin, hw⟩ := hw
      refine g_iastore hx hb hK hY.1 hP hS (gis_Mo_order hY hx0) hin d_Mo_join_113 (fun S5 eS5 H locs hP hS => ?_)
      replace hw := hw S5 eS5
      refine lv_aload_n hx hb d_Mo_join_114 rfl (lv_at hl 0 rfl) ?_
      refine lv_dup hx hb d_Mo_join_115 rfl ?_
      refine g_get hx hb hts (fun w h => List.mem_cons_of_mem _ (in_Mo w h)) hown hK hP hx0 (gce_Mo hx0.1) rfl 30 (by decide) (hts _ (List.mem_cons_of_mem _ gw_837)) rfl d_Mo_join_116 ?_
      refine lv_iconst (v := 1) hx hb d_Mo_join_119 (by decide) ?_
      refine lv_iadd hx hb d_Mo_join_120 ?_
      refine g_put (ty := .int) (v := .int ((S5.1 x0 30) + 1)) (S' := gset S5 x0 30 ((S5.1 x0 30) + 1)) hx hb hts (fun w h => List.mem_cons_of_mem _ (in_Mo w h)) ty_Mo tyok_Mo nm_Mo hown hK hY.1 hP hS hx0 (gce_Mo hx0.1) rfl 30 (by decide) (hts _ (List.mem_cons_of_mem _ gw_837)) rfl (by decide +kernel) rfl rfl (Nat.le_of_ble_eq_true rfl) (gp_Mo_segments hx0.1) gce_gset d_Mo_join_121 (fun H locs hP hS => ?_)
      obtain ⟨S6, eS6⟩ : ∃ z, z = gset S5 x0 30 ((S5.1 x0 30) + 1) := ⟨_, rfl⟩
      rw [← eS6] at hP
      replace hw := hw S6 eS6
      exact W.vret hx hb hr (fun t ht hW => ⟨⟨S6, rfl, hw, by rw [ht]; exact hP, va_K.moved hW.alike hK⟩, hS.F ht⟩) hS.2.2 d_Mo_join_124
    · replace hw := hw.2 c3
      refine lv_aload_n hx hb d_Mo_join_17 rfl (lv_at hl 0 rfl) ?_
      refine g_get hx hb hts (fun w h => List.mem_cons_of_mem _ (in_Mo w h)) hown hK hP hx0 (gce_Mo hx0.1) rfl 12 (by decide) (hts _ (List.mem_cons_of_mem _ gw_819)) rfl d_Mo_join_18 ?_
      refine lv_sipush (v := 330) hx hb d_Mo_join_21 (by decide) ?_
      refine lv_iload_n hx hb d_Mo_join_24 rfl (lv_at hl 1 rfl) ?_
      refine lv_imul hx hb d_Mo_join_25 ?_
      refine lv_iload hx hb d_Mo_join_26 (lv_at hl 4 rfl) ?_
      refine lv_iadd hx hb d_Mo_join_28 ?_
      obtain ⟨hin, hw⟩ := hw
      refine g_iaload hx hb hK hP (gis_Mo_rows hY hx0) hin d_Mo_join_29 ?_
      refine lv_topi (fun v5_7 ev5_7 => ?_)
      replace hw := hw v5_7 ev5_7
      refine lv_istore (lv' := [(5, .int v5_7), (0, .ref (gad Y x0)), (1, .int x1), (2, .int x2), (3, .int x3), (4, .int x4)]) hx hb d_Mo_join_30 hl (by decide) rfl (fun ls hl => ?_)
      refine lv_iload_n hx hb d_Mo_join_32 rfl (lv_at hl 4 rfl) ?_
      refine lv_aload_n hx hb d_Mo_join_33 rfl (lv_at hl 1 rfl) ?_
      refine lv_iload hx hb d_Mo_join_34 (lv_at hl 0 rfl) ?_
      refine g_calli (va_runV (As := [.int v5_7]) (rest := [.int x3]) ⟨hx, hb, hml, hown, hts⟩ (k_Mo_space l Y hY H.size x0 v5_7 hx0 S _) (cwV 1 hts (gG_V gw_953 gw_955 gs_25 gw_12 gw_956) rfl rfl rfl (by decide +kernel) ⟨Nat.le_of_ble_eq_true rfl, Nat.le_of_ble_eq_true rfl⟩) ⟨gPre_blind, g_recv hK hP hx0 (gce_Mo hx0.1) rfl, g_pre hK hSt hS hP hw⟩ rfl rfl hl.1 rfl (lv_room (Nat.le_of_ble_eq_true rfl)) d_Mo_join_36 ⟨Nat.zero_le _, Nat.zero_le _⟩) hS (fun r9 S8 H locs hw hP hS => ?_)
      refine lv_iadd hx hb d_Mo_join_39 ?_
      refine lv_topi (fun v3_10 ev3_10 => ?_)
      replace hw := hw v3_10 ev3_10
      refine lv_istore_n (lv' := [(3, .int v3_10), (5, .int v5_7), (0, .ref (gad Y x0)), (1, .int x1), (2, .int x2), (4, .int x4)]) hx hb d_Mo_join_40 rfl hl (by decide) rfl (fun ls hl => ?_)
      refine lv_iload hx hb d_Mo_join_41 (lv_at hl 5 rfl) ?_
      refine lv_if_le (tgt := 92) hx hb d_Mo_join_43 (by decide) (fun c11 => ?_) (fun c11 => ?_)
      · replace hw := hw.1 c11
        exact mw_Mo_join_92 C0 ih x0 x1 x2 v3_10 x4 S8 H locs ls hx0 hw hP hS (lv_sub hl [2, 3, 4, 0, 5] rfl)
      · replace hw := hw.2 c11
        refine lv_aload_n hx hb d_Mo_join_46 rfl (lv_at hl 2 rfl) ?_
        refine g_get hx hb hts (fun w h => List.mem_cons_of_mem _ (in_Mo w h)) hown hK hP hx0 (gce_Mo hx0.1) rfl 5 (by decide) (hts _ (List.mem_cons_of_mem _ gw_812)) rfl d_Mo_join_47 ?_
        refine lv_iload hx hb d_Mo_join_50 (lv_at hl 1 rfl) ?_
        obtain ⟨hin, hw⟩ := hw
        refine g_iaload hx hb hK hP (gis_Mo_as hY hx0) hin d_Mo_join_52 ?_
        refine lv_aload_n hx hb d_Mo_join_53 rfl (lv_at hl 2 rfl) ?_
        refine g_get hx hb hts (fun w h => List.mem_cons_of_mem _ (in_Mo w h)) hown hK hP hx0 (gce_Mo hx0.1) rfl 23 (by decide) (hts _ (List.mem_cons_of_mem _ gw_830)) rfl d_Mo_join_54 ?_
        refine lv_icmp_le (tgt := 92) hx hb d_Mo_join_57 (by decide) (fun c13 => ?_) (fun c13 => ?_)
        · replace hw := hw.1 c13
          exact mw_Mo_join_92 C0 ih x0 x1 x2 v3_10 x4 S8 H locs ls hx0 hw hP hS (lv_sub hl [2, 3, 4, 0, 5] rfl)
        · replace hw := hw.2 c13
          refine lv_aload_n hx hb d_Mo_join_60 rfl (lv_at hl 2 rfl) ?_
          refine g_get hx hb hts (fun w h => List.mem_cons_of_mem _ (in_Mo w h)) hown hK hP hx0 (gce_Mo hx0.1) rfl 32 (by decide) (hts _ (List.mem_cons_of_mem _ gw_839)) rfl d_Mo_join_61 ?_
          refine lv_aload_n hx hb d_Mo_join_64 rfl (lv_at hl 2 rfl) ?_
          refine g_get hx hb hts (fun w h => List.mem_cons_of_mem _ (in_Mo w h)) hown hK hP hx0 (gce_Mo hx0.1) rfl 5 (by decide) (hts _ (List.mem_cons_of_mem _ gw_812)) rfl d_Mo_join_65 ?_
          refine lv_iload hx hb d_Mo_join_68 (lv_at hl 1 rfl) ?_
          obtain ⟨hin, hw⟩ := hw
          refine g_iaload hx hb hK hP (gis_Mo_as hY hx0) hin d_Mo_join_70 ?_
          refine lv_aload_n hx hb d_Mo_join_71 rfl (lv_at hl 2 rfl) ?_
          refine g_get hx hb hts (fun w h => List.mem_cons_of_mem _ (in_Mo w h)) hown hK hP hx0 (gce_Mo hx0.1) rfl 23 (by decide) (hts _ (List.mem_cons_of_mem _ gw_830)) rfl d_Mo_join_72 ?_
          refine lv_isub hx hb d_Mo_join_75 ?_
          refine lv_iconst (v := 1) hx hb d_Mo_join_76 (by decide) ?_
          refine lv_isub hx hb d_Mo_join_77 ?_
          refine lv_iload hx hb d_Mo_join_78 (lv_at hl 1 rfl) ?_
          obtain ⟨hin, hw⟩ := hw
          refine g_iastore hx hb hK hY.1 hP hS (gis_Mo_entries hY hx0) hin d_Mo_join_80 (fun S14 eS14 H locs hP hS => ?_)
          replace hw := hw S14 eS14
          refine lv_aload_n hx hb d_Mo_join_81 rfl (lv_at hl 2 rfl) ?_
          refine lv_aload_n hx hb d_Mo_join_82 rfl (lv_at hl 2 rfl) ?_
          refine g_get hx hb hts (fun w h => List.mem_cons_of_mem _ (in_Mo w h)) hown hK hP hx0 (gce_Mo hx0.1) rfl 5 (by decide) (hts _ (List.mem_cons_of_mem _ gw_812)) rfl d_Mo_join_83 ?_
          refine lv_iload hx hb d_Mo_join_86 (lv_at hl 1 rfl) ?_
          obtain ⟨hin, hw⟩ := hw
          refine g_iaload hx hb hK hP (gis_Mo_as hY hx0) hin d_Mo_join_88 ?_
          refine g_put (ty := .int) (v := .int (S14.1 (grf x0 5) v5_7.toNatClampNeg)) (S' := gset S14 x0 27 (S14.1 (grf x0 5) v5_7.toNatClampNeg)) hx hb hts (fun w h => List.mem_cons_of_mem _ (in_Mo w h)) ty_Mo tyok_Mo nm_Mo hown hK hY.1 hP hS hx0 (gce_Mo hx0.1) rfl 27 (by decide) (hts _ (List.mem_cons_of_mem _ gw_834)) rfl (by decide +kernel) rfl rfl (Nat.le_of_ble_eq_true rfl) (gp_Mo_last hx0.1) gce_gset d_Mo_join_89 (fun H locs hP hS => ?_)
          obtain ⟨S15, eS15⟩ : ∃ z, z = gset S14 x0 27 (S14.1 (grf x0 5) v5_7.toNatClampNeg) := ⟨_, rfl⟩
          rw [← eS15] at hP
          replace hw := hw S15 eS15
          exact mw_Mo_join_92 C0 ih x0 x1 x2 v3_10 x4 S15 H locs ls hx0 hw hP hS (lv_sub hl [2, 3, 4, 0, 5] rfl)
set_option maxHeartbeats 4000000 in
set_option maxRecDepth 100000 in
theorem mw_Mo_join {p : Program} {l : Launch} {e : Env} {s : State} {m : MethodId} {args : Array Value} {below : List Frame} {meth : Method} {c : Code} {Y : gY} {Q : gS → Prop} (C : gCx p s m args meth c Y "LogDiskModel" c_Mo_join 6 (Option.none : Option Jvm.ClassFile.FieldType) w_Mo_join) : ∀ (x0 : gI) (x1 : Int32)  (S : gS) (H : Heap) (locs : List Loc) (ls : Array Slot), gis Y 10 x0 → wp_Mo_join (gLn Y) Q x0 x1 S → gWd Y S H → va_S (gA Y s.heap.size) s.heap H locs → lv_has ls 6 [(0, .ref (gad Y x0)), (1, .int x1)] → W p l e (gRm 3 66) s m args below meth c H locs 0 0 (MQ below (va_Qv Q (gB Y) (gA Y s.heap.size)) args s 0 0 (gA Y s.heap.size)) (F0 m 0 ls []) := by
  have C0 := C
  obtain ⟨hx, hb, hml, hown, hts, hr, hlocks, hK, hY, hSt⟩ := C
  intro x0 x1 S H locs ls hx0 hw hP hS hl
  unfold wp_Mo_join at hw
  refine lv_aload_n hx hb d_Mo_join_0 rfl (lv_at hl 0 rfl) ?_
  refine lv_iload_n hx hb d_Mo_join_1 rfl (lv_at hl 1 rfl) ?_
  refine g_calli (va_runV (As := [.int x1]) (rest := []) ⟨hx, hb, hml, hown, hts⟩ (k_Mo_whole l Y hY H.size x0 x1 hx0 S _) (cwV 1 hts (gG_V gw_1061 gw_1063 gs_44 gw_12 gw_1064) rfl rfl rfl (by decide +kernel) ⟨Nat.le_of_ble_eq_true rfl, Nat.le_of_ble_eq_true rfl⟩) ⟨gPre_blind, g_recv hK hP hx0 (gce_Mo hx0.1) rfl, g_pre hK hSt hS hP hw⟩ rfl rfl hl.1 rfl (lv_room (Nat.le_of_ble_eq_true rfl)) d_Mo_join_2 ⟨Nat.zero_le _, Nat.zero_le _⟩) hS (fun r2 S1 H locs hw hP hS => ?_)
  refine lv_istore_n (lv' := [(2, .int r2), (0, .ref (gad Y x0)), (1, .int x1)]) hx hb d_Mo_join_5 rfl hl (by decide) rfl (fun ls hl => ?_)
  refine lv_iconst (v := 0) hx hb d_Mo_join_6 (by decide) ?_
  refine lv_istore_n (lv' := [(3, .int 0), (2, .int r2), (0, .ref (gad Y x0)), (1, .int x1)]) hx hb d_Mo_join_7 rfl hl (by decide) rfl (fun ls hl => ?_)
  refine lv_iconst (v := 0) hx hb d_Mo_join_8 (by decide) ?_
  refine lv_istore (lv' := [(4, .int 0), (3, .int 0), (2, .int r2), (0, .ref (gad Y x0)), (1, .int x1)]) hx hb d_Mo_join_9 hl (by decide) rfl (fun ls hl => ?_)
  obtain ⟨n, hw⟩ := hw
  exact mw_Mo_join_11 C0 n x0 x1 r2 0 0 S1 H locs ls hx0 hw hP hS (lv_sub hl [3, 4, 2, 1, 0] rfl)
set_option maxHeartbeats 4000000 in
set_option maxRecDepth 100000 in
theorem k_Mo_join (l : Launch) (Y : gY) (hY : gOK Y) (sz : Nat) (x0 : gI) (x1 : Int32)  (hx0 : gis Y 10 x0) (S : gS) (Q : gS → Prop) : Met l y_Mo_join w_Mo_join (gRm 3 66) (gPre Y [.ref (gad Y x0), .int x1] S sz (wp_Mo_join (gLn Y) Q x0 x1 S)) (va_Qv Q (gB Y) (gA Y sz)) 0 0 (gA Y sz) := by
  refine Met.ofW (cc := c_Mo_join) (maxL := 6) (ret := (Option.none : Option Jvm.ClassFile.FieldType)) (by decide) rfl ?_
  intro p e s m args below meth c s₁ B hml hv
  obtain ⟨rfl, hsz, hP, hK, hSt, hw⟩ := hv
  subst hsz
  have hts := atoms_spec (ws := w_Mo_join) B.pre
  have hl := lv_entry ([.ref (gad Y x0), .int x1]) (n := 6) (Nat.le_of_ble_eq_true rfl)
  rw [lg_entry_eq]
  generalize (lg_sl ([.ref (gad Y x0), .int x1]) ++ List.replicate (6 - (lg_sl ([.ref (gad Y x0), .int x1])).length) Slot.unset).toArray = ls at hl ⊢
  exact mw_Mo_join ⟨B.exec, B.bytes, hml, findClass_of_methodNamed B.named, hts, B.returns, B.notSynchronized, hK, hY, hSt⟩ x0 x1 S s.heap [] ls hx0 hw hP va_S.rf hl

def wp_Mo_isJoined_31 (Ln : gI → Nat) (K4 : gI → Int32 → Int32 → Int32 → gS → Prop) (Q : Int32 → gS → Prop) (x0 : gI) (x1 : Int32) (x3 : Int32) (y0 : Int32) (S : gS) : Prop :=
  ∀ v3_3 : Int32, v3_3 = x3 + 1 → (K4 x0 x1 y0 v3_3 S)
def wp_Mo_isJoined_26 (Ln : gI → Nat) (K4 : gI → Int32 → Int32 → Int32 → gS → Prop) (Q : Int32 → gS → Prop) (x0 : gI) (x1 : Int32) (x3 : Int32)  (S : gS) : Prop :=
  wp_Mo_isJoined_31 Ln K4 Q x0 x1 x3 1 S
def wp_Mo_isJoined_4 (Ln : gI → Nat) (Q : Int32 → gS → Prop) : Nat → gI → Int32 → Int32 → Int32 → gS → Prop
  | 0, _, _, _, _, _ => False
  | n4 + 1, x0, x1, x2, x3, S => (((S.1 x0 30) ≤ x3) → ((x2 = 0 ∨ x2 = 1) ∧ Q x2 S)) ∧ ((¬ (S.1 x0 30) ≤ x3) → (((¬ x2 = 0) → (wp_Mo_isJoined_26 Ln (fun z0 z1 z2 z3 zS => wp_Mo_isJoined_4 Ln Q n4 z0 z1 z2 z3 zS) Q x0 x1 x3 S)) ∧ ((x2 = 0) → (vp_in x3 (Ln (grf x0 31)) ∧ (((¬ (S.1 (grf x0 31) x3.toNatClampNeg) = x1) → (wp_Mo_isJoined_31 Ln (fun z0 z1 z2 z3 zS => wp_Mo_isJoined_4 Ln Q n4 z0 z1 z2 z3 zS) Q x0 x1 x3 0 S)) ∧ (((S.1 (grf x0 31) x3.toNatClampNeg) = x1) → (wp_Mo_isJoined_26 Ln (fun z0 z1 z2 z3 zS => wp_Mo_isJoined_4 Ln Q n4 z0 z1 z2 z3 zS) Q x0 x1 x3 S)))))))
def wp_Mo_isJoined (Ln : gI → Nat) (Q : Int32 → gS → Prop) (x0 : gI) (x1 : Int32)  (S : gS) : Prop :=
  ∃ n4 : Nat, wp_Mo_isJoined_4 Ln Q n4 x0 x1 0 0 S
set_option maxHeartbeats 4000000 in
set_option maxRecDepth 100000 in
theorem mw_Mo_isJoined_31 {p : Program} {l : Launch} {e : Env} {s : State} {m : MethodId} {args : Array Value} {below : List Frame} {meth : Method} {c : Code} {Y : gY} {Q : Int32 → gS → Prop} {K4 : gI → Int32 → Int32 → Int32 → gS → Prop} (C : gCx p s m args meth c Y "LogDiskModel" c_Mo_isJoined 4 (Option.some Jvm.ClassFile.FieldType.boolean) w_Mo_isJoined) (hK4 : ∀ (x0 : gI) (x1 : Int32) (x2 : Int32) (x3 : Int32)  (S : gS) (H : Heap) (locs : List Loc) (ls : Array Slot), gis Y 10 x0 → K4 x0 x1 x2 x3 S → gWd Y S H → va_S (gA Y s.heap.size) s.heap H locs → lv_has ls 4 [(0, .ref (gad Y x0)), (1, .int x1), (2, .int x2), (3, .int x3)] → W p l e (gRm 0 0) s m args below meth c H locs 0 0 (MQ below (va_Qi Q (gB Y) (gA Y s.heap.size)) args s 0 0 (gA Y s.heap.size)) (F0 m 4 ls [])) : ∀ (x0 : gI) (x1 : Int32) (x3 : Int32) (y0 : Int32) (S : gS) (H : Heap) (locs : List Loc) (ls : Array Slot), gis Y 10 x0 → wp_Mo_isJoined_31 (gLn Y) K4 Q x0 x1 x3 y0 S → gWd Y S H → va_S (gA Y s.heap.size) s.heap H locs → lv_has ls 4 [(0, .ref (gad Y x0)), (1, .int x1), (3, .int x3)] → W p l e (gRm 0 0) s m args below meth c H locs 0 0 (MQ below (va_Qi Q (gB Y) (gA Y s.heap.size)) args s 0 0 (gA Y s.heap.size)) (F0 m 31 ls [.int y0]) := by
  have C0 := C
  obtain ⟨hx, hb, hml, hown, hts, hr, hlocks, hK, hY, hSt⟩ := C
  intro x0 x1 x3 y0 S H locs ls hx0 hw hP hS hl
  unfold wp_Mo_isJoined_31 at hw
  refine lv_istore_n (lv' := [(2, .int y0), (0, .ref (gad Y x0)), (1, .int x1), (3, .int x3)]) hx hb d_Mo_isJoined_31 rfl hl (by decide) rfl (fun ls hl => ?_)
  obtain ⟨v3_3, ev3_3⟩ : ∃ y : Int32, y = x3 + 1 := ⟨_, rfl⟩
  replace hw := hw v3_3 ev3_3
  refine lv_iinc (v := v3_3) (lv' := [(3, .int v3_3), (2, .int y0), (0, .ref (gad Y x0)), (1, .int x1)]) hx hb d_Mo_isJoined_32 hl (k := 3) rfl (by rw [ev3_3]; rfl) (by decide) rfl (fun ls hl => ?_)
  refine lv_goto (tgt := 4) hx hb d_Mo_isJoined_35 (by decide) ?_
  exact hK4 x0 x1 y0 v3_3 S H locs ls hx0 hw hP hS (lv_sub hl [2, 3, 1, 0] rfl)
set_option maxHeartbeats 4000000 in
set_option maxRecDepth 100000 in
theorem mw_Mo_isJoined_26 {p : Program} {l : Launch} {e : Env} {s : State} {m : MethodId} {args : Array Value} {below : List Frame} {meth : Method} {c : Code} {Y : gY} {Q : Int32 → gS → Prop} {K4 : gI → Int32 → Int32 → Int32 → gS → Prop} (C : gCx p s m args meth c Y "LogDiskModel" c_Mo_isJoined 4 (Option.some Jvm.ClassFile.FieldType.boolean) w_Mo_isJoined) (hK4 : ∀ (x0 : gI) (x1 : Int32) (x2 : Int32) (x3 : Int32)  (S : gS) (H : Heap) (locs : List Loc) (ls : Array Slot), gis Y 10 x0 → K4 x0 x1 x2 x3 S → gWd Y S H → va_S (gA Y s.heap.size) s.heap H locs → lv_has ls 4 [(0, .ref (gad Y x0)), (1, .int x1), (2, .int x2), (3, .int x3)] → W p l e (gRm 0 0) s m args below meth c H locs 0 0 (MQ below (va_Qi Q (gB Y) (gA Y s.heap.size)) args s 0 0 (gA Y s.heap.size)) (F0 m 4 ls [])) : ∀ (x0 : gI) (x1 : Int32) (x3 : Int32)  (S : gS) (H : Heap) (locs : List Loc) (ls : Array Slot), gis Y 10 x0 → wp_Mo_isJoined_26 (gLn Y) K4 Q x0 x1 x3 S → gWd Y S H → va_S (gA Y s.heap.size) s.heap H locs → lv_has ls 4 [(0, .ref (gad Y x0)), (1, .int x1), (3, .int x3)] → W p l e (gRm 0 0) s m args below meth c H locs 0 0 (MQ below (va_Qi Q (gB Y) (gA Y s.heap.size)) args s 0 0 (gA Y s.heap.size)) (F0 m 26 ls []) := by
  have C0 := C
  obtain ⟨hx, hb, hml, hown, hts, hr, hlocks, hK, hY, hSt⟩ := C
  intro x0 x1 x3 S H locs ls hx0 hw hP hS hl
  unfold wp_Mo_isJoined_26 at hw
  refine lv_iconst (v := 1) hx hb d_Mo_isJoined_26 (by decide) ?_
  refine lv_goto (tgt := 31) hx hb d_Mo_isJoined_27 (by decide) ?_
  exact mw_Mo_isJoined_31 C0 hK4 x0 x1 x3 1 S H locs ls hx0 hw hP hS (lv_sub hl [0, 1, 2] rfl)
set_option maxHeartbeats 4000000 in
set_option maxRecDepth 100000 in
theorem mw_Mo_isJoined_4 {p : Program} {l : Launch} {e : Env} {s : State} {m : MethodId} {args : Array Value} {below : List Frame} {meth : Method} {c : Code} {Y : gY} {Q : Int32 → gS → Prop} (C : gCx p s m args meth c Y "LogDiskModel" c_Mo_isJoined 4 (Option.some Jvm.ClassFile.FieldType.boolean) w_Mo_isJoined) : ∀ (n : Nat), ∀ (x0 : gI) (x1 : Int32) (x2 : Int32) (x3 : Int32)  (S : gS) (H : Heap) (locs : List Loc) (ls : Array Slot), gis Y 10 x0 → wp_Mo_isJoined_4 (gLn Y) Q n x0 x1 x2 x3 S → gWd Y S H → va_S (gA Y s.heap.size) s.heap H locs → lv_has ls 4 [(0, .ref (gad Y x0)), (1, .int x1), (2, .int x2), (3, .int x3)] → W p l e (gRm 0 0) s m args below meth c H locs 0 0 (MQ below (va_Qi Q (gB Y) (gA Y s.heap.size)) args s 0 0 (gA Y s.heap.size)) (F0 m 4 ls []) := by
  have C0 := C
  obtain ⟨hx, hb, hml, hown, hts, hr, hlocks, hK, hY, hSt⟩ := C
  intro n
  induction n with
  | zero =>
    intro x0 x1 x2 x3 S H locs ls hx0 hw
    exact False.elim hw
  | succ n ih =>
    intro x0 x1 x2 x3 S H locs ls hx0 hw hP hS hl
    unfold wp_Mo_isJoined_4 at hw
    refine lv_iload_n hx hb d_Mo_isJoined_4 rfl (lv_at hl 3 rfl) ?_
    refine lv_aload_n hx hb d_Mo_isJoined_5 rfl (lv_at hl 0 rfl) ?_
    refine g_get hx hb hts (fun w h => List.mem_cons_of_mem _ (in_Mo w h)) hown hK hP hx0 (gce_Mo hx0.1) rfl 30 (by decide) (hts _ (List.mem_cons_of_mem _ gw_837)) rfl d_Mo_isJoined_6 ?_
    refine lv_icmp_ge (tgt := 38) hx hb d_Mo_isJoined_9 (by decide) (fun c1 => ?_) (fun c1 => ?_)
    · replace hw := hw.1 c1
      refine lv_iload_n hx hb d_Mo_isJoined_38 rfl (lv_at hl 2 rfl) ?_
      obtain ⟨hbo, hw⟩ := hw
      exact W.zret (v := x2) hx hb hr (g_nb hbo) (fun t ht hW => ⟨⟨x2, S, rfl, hw, by rw [ht]; exact hP, va_K.moved hW.alike hK⟩, hS.F ht⟩) hS.2.2 d_Mo_isJoined_39
    · replace hw := hw.2 c1
      refine lv_iload_n hx hb d_Mo_isJoined_12 rfl (lv_at hl 2 rfl) ?_
      refine lv_if_ne (tgt := 26) hx hb d_Mo_isJoined_13 (by decide) (fun c2 => ?_) (fun c2 => ?_)
      · replace hw := hw.1 c2
        exact mw_Mo_isJoined_26 C0 ih x0 x1 x3 S H locs ls hx0 hw hP hS (lv_sub hl [0, 1, 3] rfl)
      · replace hw := hw.2 c2
        refine lv_aload_n hx hb d_Mo_isJoined_16 rfl (lv_at hl 0 rfl) ?_
        refine g_get hx hb hts (fun w h => List.mem_cons_of_mem _ (in_Mo w h)) hown hK hP hx0 (gce_Mo hx0.1) rfl 31 (by decide) (hts _ (List.mem_cons_of_mem _ gw_838)) rfl d_Mo_isJoined_17 ?_
        refine lv_iload_n hx hb d_Mo_isJoined_20 rfl (lv_at hl 3 rfl) ?_
        obtain ⟨hin, hw⟩ := hw
        refine g_iaload hx hb hK hP (gis_Mo_order hY hx0) hin d_Mo_isJoined_21 ?_
        refine lv_iload_n hx hb d_Mo_isJoined_22 rfl (lv_at hl 1 rfl) ?_
        refine lv_icmp_ne (tgt := 30) hx hb d_Mo_isJoined_23 (by decide) (fun c4 => ?_) (fun c4 => ?_)
        · replace hw := hw.1 c4
          refine lv_iconst (v := 0) hx hb d_Mo_isJoined_30 (by decide) ?_
          exact mw_Mo_isJoined_31 C0 ih x0 x1 x3 0 S H locs ls hx0 hw hP hS (lv_sub hl [0, 1, 3] rfl)
        · replace hw := hw.2 c4
          exact mw_Mo_isJoined_26 C0 ih x0 x1 x3 S H locs ls hx0 hw hP hS (lv_sub hl [0, 1, 3] rfl)
set_option maxHeartbeats 4000000 in
set_option maxRecDepth 100000 in
theorem mw_Mo_isJoined {p : Program} {l : Launch} {e : Env} {s : State} {m : MethodId} {args : Array Value} {below : List Frame} {meth : Method} {c : Code} {Y : gY} {Q : Int32 → gS → Prop} (C : gCx p s m args meth c Y "LogDiskModel" c_Mo_isJoined 4 (Option.some Jvm.ClassFile.FieldType.boolean) w_Mo_isJoined) : ∀ (x0 : gI) (x1 : Int32)  (S : gS) (H : Heap) (locs : List Loc) (ls : Array Slot), gis Y 10 x0 → wp_Mo_isJoined (gLn Y) Q x0 x1 S → gWd Y S H → va_S (gA Y s.heap.size) s.heap H locs → lv_has ls 4 [(0, .ref (gad Y x0)), (1, .int x1)] → W p l e (gRm 0 0) s m args below meth c H locs 0 0 (MQ below (va_Qi Q (gB Y) (gA Y s.heap.size)) args s 0 0 (gA Y s.heap.size)) (F0 m 0 ls []) := by
  have C0 := C
  obtain ⟨hx, hb, hml, hown, hts, hr, hlocks, hK, hY, hSt⟩ := C
  intro x0 x1 S H locs ls hx0 hw hP hS hl
  unfold wp_Mo_isJoined at hw
  refine lv_iconst (v := 0) hx hb d_Mo_isJoined_0 (by decide) ?_
  refine lv_istore_n (lv' := [(2, .int 0), (0, .ref (gad Y x0)), (1, .int x1)]) hx hb d_Mo_isJoined_1 rfl hl (by decide) rfl (fun ls hl => ?_)
  refine lv_iconst (v := 0) hx hb d_Mo_isJoined_2 (by decide) ?_
  refine lv_istore_n (lv' := [(3, .int 0), (2, .int 0), (0, .ref (gad Y x0)), (1, .int x1)]) hx hb d_Mo_isJoined_3 rfl hl (by decide) rfl (fun ls hl => ?_)
  obtain ⟨n, hw⟩ := hw
  exact mw_Mo_isJoined_4 C0 n x0 x1 0 0 S H locs ls hx0 hw hP hS (lv_sub hl [2, 3, 1, 0] rfl)
set_option maxHeartbeats 4000000 in
set_option maxRecDepth 100000 in
theorem k_Mo_isJoined (l : Launch) (Y : gY) (hY : gOK Y) (sz : Nat) (x0 : gI) (x1 : Int32)  (hx0 : gis Y 10 x0) (S : gS) (Q : Int32 → gS → Prop) : Met l y_Mo_isJoined w_Mo_isJoined (gRm 0 0) (gPre Y [.ref (gad Y x0), .int x1] S sz (wp_Mo_isJoined (gLn Y) Q x0 x1 S)) (va_Qi Q (gB Y) (gA Y sz)) 0 0 (gA Y sz) := by
  refine Met.ofW (cc := c_Mo_isJoined) (maxL := 4) (ret := (Option.some Jvm.ClassFile.FieldType.boolean)) (by decide) rfl ?_
  intro p e s m args below meth c s₁ B hml hv
  obtain ⟨rfl, hsz, hP, hK, hSt, hw⟩ := hv
  subst hsz
  have hts := atoms_spec (ws := w_Mo_isJoined) B.pre
  have hl := lv_entry ([.ref (gad Y x0), .int x1]) (n := 4) (Nat.le_of_ble_eq_true rfl)
  rw [lg_entry_eq]
  generalize (lg_sl ([.ref (gad Y x0), .int x1]) ++ List.replicate (4 - (lg_sl ([.ref (gad Y x0), .int x1])).length) Slot.unset).toArray = ls at hl ⊢
  exact mw_Mo_isJoined ⟨B.exec, B.bytes, hml, findClass_of_methodNamed B.named, hts, B.returns, B.notSynchronized, hK, hY, hSt⟩ x0 x1 S s.heap [] ls hx0 hw hP va_S.rf hl

def wp_Mo_nextSegment_66 (Ln : gI → Nat) (K2 : gI → Int32 → gS → Prop) (Q : Int32 → gS → Prop) (x0 : gI) (x1 : Int32)  (S : gS) : Prop :=
  ∀ v1_5 : Int32, v1_5 = x1 + 1 → (K2 x0 v1_5 S)
def wp_Mo_nextSegment_2 (Ln : gI → Nat) (Q : Int32 → gS → Prop) : Nat → gI → Int32 → gS → Prop
  | 0, _, _, _ => False
  | n2 + 1, x0, x1, S => ((16 ≤ x1) → (Q (-1 : Int32) S)) ∧ ((¬ 16 ≤ x1) → (wp_Mo_isJoined Ln (fun r3 S2 => ((¬ r3 = 0) → (wp_Mo_nextSegment_66 Ln (fun z0 z1 zS => wp_Mo_nextSegment_2 Ln Q n2 z0 z1 zS) Q x0 x1 S2)) ∧ ((r3 = 0) → (wp_Mo_whole Ln (fun r7 S6 => ((r7 ≤ 0) → (wp_Mo_nextSegment_66 Ln (fun z0 z1 zS => wp_Mo_nextSegment_2 Ln Q n2 z0 z1 zS) Q x0 x1 S6)) ∧ ((¬ r7 ≤ 0) → (wp_Mo_firstOf Ln (fun r10 S9 => ((¬ r10 = ((S9.1 x0 27) + 1)) → (wp_Mo_nextSegment_66 Ln (fun z0 z1 zS => wp_Mo_nextSegment_2 Ln Q n2 z0 z1 zS) Q x0 x1 S9)) ∧ ((r10 = ((S9.1 x0 27) + 1)) → (vp_in (330 * x1) (Ln (grf x0 12)) ∧ (vp_in (S9.1 (grf x0 12) (330 * x1).toNatClampNeg) (Ln (grf x0 6)) ∧ (wp_Mo_termOf Ln (fun r13 S12 => ((¬ (S9.1 (grf x0 6) (S9.1 (grf x0 12) (330 * x1).toNatClampNeg).toNatClampNeg) = r13) → (wp_Mo_nextSegment_66 Ln (fun z0 z1 zS => wp_Mo_nextSegment_2 Ln Q n2 z0 z1 zS) Q x0 x1 S12)) ∧ (((S9.1 (grf x0 6) (S9.1 (grf x0 12) (330 * x1).toNatClampNeg).toNatClampNeg) = r13) → (Q x1 S12))) x0 (S9.1 x0 27) S9))))) x0 x1 S6))) x0 x1 S2))) x0 x1 S))
def wp_Mo_nextSegment (Ln : gI → Nat) (Q : Int32 → gS → Prop) (x0 : gI)  (S : gS) : Prop :=
  ∃ n2 : Nat, wp_Mo_nextSegment_2 Ln Q n2 x0 4 S
set_option maxHeartbeats 4000000 in
set_option maxRecDepth 100000 in
theorem mw_Mo_nextSegment_66 {p : Program} {l : Launch} {e : Env} {s : State} {m : MethodId} {args : Array Value} {below : List Frame} {meth : Method} {c : Code} {Y : gY} {Q : Int32 → gS → Prop} {K2 : gI → Int32 → gS → Prop} (C : gCx p s m args meth c Y "LogDiskModel" c_Mo_nextSegment 2 (Option.some Jvm.ClassFile.FieldType.int) w_Mo_nextSegment) (hK2 : ∀ (x0 : gI) (x1 : Int32)  (S : gS) (H : Heap) (locs : List Loc) (ls : Array Slot), gis Y 10 x0 → K2 x0 x1 S → gWd Y S H → va_S (gA Y s.heap.size) s.heap H locs → lv_has ls 2 [(0, .ref (gad Y x0)), (1, .int x1)] → W p l e (gRm 3 66) s m args below meth c H locs 0 0 (MQ below (va_Qi Q (gB Y) (gA Y s.heap.size)) args s 0 0 (gA Y s.heap.size)) (F0 m 2 ls [])) : ∀ (x0 : gI) (x1 : Int32)  (S : gS) (H : Heap) (locs : List Loc) (ls : Array Slot), gis Y 10 x0 → wp_Mo_nextSegment_66 (gLn Y) K2 Q x0 x1 S → gWd Y S H → va_S (gA Y s.heap.size) s.heap H locs → lv_has ls 2 [(0, .ref (gad Y x0)), (1, .int x1)] → W p l e (gRm 3 66) s m args below meth c H locs 0 0 (MQ below (va_Qi Q (gB Y) (gA Y s.heap.size)) args s 0 0 (gA Y s.heap.size)) (F0 m 66 ls []) := by
  have C0 := C
  obtain ⟨hx, hb, hml, hown, hts, hr, hlocks, hK, hY, hSt⟩ := C
  intro x0 x1 S H locs ls hx0 hw hP hS hl
  unfold wp_Mo_nextSegment_66 at hw
  obtain ⟨v1_5, ev1_5⟩ : ∃ y : Int32, y = x1 + 1 := ⟨_, rfl⟩
  replace hw := hw v1_5 ev1_5
  refine lv_iinc (v := v1_5) (lv' := [(1, .int v1_5), (0, .ref (gad Y x0))]) hx hb d_Mo_nextSegment_66 hl (k := 1) rfl (by rw [ev1_5]; rfl) (by decide) rfl (fun ls hl => ?_)
  refine lv_goto (tgt := 2) hx hb d_Mo_nextSegment_69 (by decide) ?_
  exact hK2 x0 v1_5 S H locs ls hx0 hw hP hS (lv_sub hl [1, 0] rfl)
set_option maxHeartbeats 4000000 in
set_option maxRecDepth 100000 in
theorem mw_Mo_nextSegment_2 {p : Program} {l : Launch} {e : Env} {s : State} {m : MethodId} {args : Array Value} {below : List Frame} {meth : Method} {c : Code} {Y : gY} {Q : Int32 → gS → Prop} (C : gCx p s m args meth c Y "LogDiskModel" c_Mo_nextSegment 2 (Option.some Jvm.ClassFile.FieldType.int) w_Mo_nextSegment) : ∀ (n : Nat), ∀ (x0 : gI) (x1 : Int32)  (S : gS) (H : Heap) (locs : List Loc) (ls : Array Slot), gis Y 10 x0 → wp_Mo_nextSegment_2 (gLn Y) Q n x0 x1 S → gWd Y S H → va_S (gA Y s.heap.size) s.heap H locs → lv_has ls 2 [(0, .ref (gad Y x0)), (1, .int x1)] → W p l e (gRm 3 66) s m args below meth c H locs 0 0 (MQ below (va_Qi Q (gB Y) (gA Y s.heap.size)) args s 0 0 (gA Y s.heap.size)) (F0 m 2 ls []) := by
  have C0 := C
  obtain ⟨hx, hb, hml, hown, hts, hr, hlocks, hK, hY, hSt⟩ := C
  intro n
  induction n with
  | zero =>
    intro x0 x1 S H locs ls hx0 hw
    exact False.elim hw
  | succ n ih =>
    intro x0 x1 S H locs ls hx0 hw hP hS hl
    unfold wp_Mo_nextSegment_2 at hw
    refine lv_iload_n hx hb d_Mo_nextSegment_2 rfl (lv_at hl 1 rfl) ?_
    refine lv_bipush (v := 16) hx hb d_Mo_nextSegment_3 (by decide) ?_
    refine lv_icmp_ge (tgt := 72) hx hb d_Mo_nextSegment_5 (by decide) (fun c1 => ?_) (fun c1 => ?_)
    · replace hw := hw.1 c1
      refine lv_iconst (v := (-1 : Int32)) hx hb d_Mo_nextSegment_72 (by decide) ?_
      exact W.iret (v := (-1 : Int32)) hx hb hr (fun t ht hW => ⟨⟨(-1 : Int32), S, rfl, hw, by rw [ht]; exact hP, va_K.moved hW.alike hK⟩, hS.F ht⟩) hS.2.2 d_Mo_nextSegment_73
    · replace hw := hw.2 c1
      refine lv_aload_n hx hb d_Mo_nextSegment_8 rfl (lv_at hl 0 rfl) ?_
      refine lv_iload_n hx hb d_Mo_nextSegment_9 rfl (lv_at hl 1 rfl) ?_
      refine g_calli (va_runV (As := [.int x1]) (rest := []) ⟨hx, hb, hml, hown, hts⟩ (k_Mo_isJoined l Y hY H.size x0 x1 hx0 S _) (cwV 1 hts (gG_V gw_1081 gw_1083 gs_49 gw_12 gw_1084) rfl rfl rfl (by decide +kernel) ⟨Nat.le_of_ble_eq_true rfl, Nat.le_of_ble_eq_true rfl⟩) ⟨gPre_blind, g_recv hK hP hx0 (gce_Mo hx0.1) rfl, g_pre hK hSt hS hP hw⟩ rfl rfl hl.1 rfl (lv_room (Nat.le_of_ble_eq_true rfl)) d_Mo_nextSegment_10 ⟨Nat.zero_le _, Nat.zero_le _⟩) hS (fun r3 S2 H locs hw hP hS => ?_)
      refine lv_if_ne (tgt := 66) hx hb d_Mo_nextSegment_13 (by decide) (fun c4 => ?_) (fun c4 => ?_)
      · replace hw := hw.1 c4
        exact mw_Mo_nextSegment_66 C0 ih x0 x1 S2 H locs ls hx0 hw hP hS (lv_sub hl [0, 1] rfl)
      · replace hw := hw.2 c4
        refine lv_aload_n hx hb d_Mo_nextSegment_16 rfl (lv_at hl 0 rfl) ?_
        refine lv_iload_n hx hb d_Mo_nextSegment_17 rfl (lv_at hl 1 rfl) ?_
        refine g_calli (va_runV (As := [.int x1]) (rest := []) ⟨hx, hb, hml, hown, hts⟩ (k_Mo_whole l Y hY H.size x0 x1 hx0 S2 _) (cwV 1 hts (gG_V gw_1061 gw_1063 gs_44 gw_12 gw_1064) rfl rfl rfl (by decide +kernel) ⟨Nat.le_of_ble_eq_true rfl, Nat.le_of_ble_eq_true rfl⟩) ⟨gPre_blind, g_recv hK hP hx0 (gce_Mo hx0.1) rfl, g_pre hK hSt hS hP hw⟩ rfl rfl hl.1 rfl (lv_room (Nat.le_of_ble_eq_true rfl)) d_Mo_nextSegment_18 ⟨Nat.zero_le _, Nat.zero_le _⟩) hS (fun r7 S6 H locs hw hP hS => ?_)
        refine lv_if_le (tgt := 66) hx hb d_Mo_nextSegment_21 (by decide) (fun c8 => ?_) (fun c8 => ?_)
        · replace hw := hw.1 c8
          exact mw_Mo_nextSegment_66 C0 ih x0 x1 S6 H locs ls hx0 hw hP hS (lv_sub hl [0, 1] rfl)
        · replace hw := hw.2 c8
          refine lv_aload_n hx hb d_Mo_nextSegment_24 rfl (lv_at hl 0 rfl) ?_
          refine lv_iload_n hx hb d_Mo_nextSegment_25 rfl (lv_at hl 1 rfl) ?_
          refine g_calli (va_runV (As := [.int x1]) (rest := []) ⟨hx, hb, hml, hown, hts⟩ (k_Mo_firstOf l Y hY H.size x0 x1 hx0 S6 _) (cwV 1 hts (gG_V gw_997 gw_999 gs_34 gw_12 gw_1000) rfl rfl rfl (by decide +kernel) ⟨Nat.le_of_ble_eq_true rfl, Nat.le_of_ble_eq_true rfl⟩) ⟨gPre_blind, g_recv hK hP hx0 (gce_Mo hx0.1) rfl, g_pre hK hSt hS hP hw⟩ rfl rfl hl.1 rfl (lv_room (Nat.le_of_ble_eq_true rfl)) d_Mo_nextSegment_26 ⟨Nat.zero_le _, Nat.zero_le _⟩) hS (fun r10 S9 H locs hw hP hS => ?_)
          refine lv_aload_n hx hb d_Mo_nextSegment_29 rfl (lv_at hl 0 rfl) ?_
          refine g_get hx hb hts (fun w h => List.mem_cons_of_mem _ (in_Mo w h)) hown hK hP hx0 (gce_Mo hx0.1) rfl 27 (by decide) (hts _ (List.mem_cons_of_mem _ gw_834)) rfl d_Mo_nextSegment_30 ?_
          refine lv_iconst (v := 1) hx hb d_Mo_nextSegment_33 (by decide) ?_
          refine lv_iadd hx hb d_Mo_nextSegment_34 ?_
          refine lv_icmp_ne (tgt := 66) hx hb d_Mo_nextSegment_35 (by decide) (fun c11 => ?_) (fun c11 => ?_)
          · replace hw := hw.1 c11
            exact mw_Mo_nextSegment_66 C0 ih x0 x1 S9 H locs ls hx0 hw hP hS (lv_sub hl [0, 1] rfl)
          · replace hw := hw.2 c11
            refine lv_aload_n hx hb d_Mo_nextSegment_38 rfl (lv_at hl 0 rfl) ?_
            refine g_get hx hb hts (fun w h => List.mem_cons_of_mem _ (in_Mo w h)) hown hK hP hx0 (gce_Mo hx0.1) rfl 6 (by decide) (hts _ (List.mem_cons_of_mem _ gw_813)) rfl d_Mo_nextSegment_39 ?_
            refine lv_aload_n hx hb d_Mo_nextSegment_42 rfl (lv_at hl 0 rfl) ?_
            refine g_get hx hb hts (fun w h => List.mem_cons_of_mem _ (in_Mo w h)) hown hK hP hx0 (gce_Mo hx0.1) rfl 12 (by decide) (hts _ (List.mem_cons_of_mem _ gw_819)) rfl d_Mo_nextSegment_43 ?_
            refine lv_sipush (v := 330) hx hb d_Mo_nextSegment_46 (by decide) ?_
            refine lv_iload_n hx hb d_Mo_nextSegment_49 rfl (lv_at hl 1 rfl) ?_
            refine lv_imul hx hb d_Mo_nextSegment_50 ?_
            obtain ⟨hin, hw⟩ := hw
            refine g_iaload hx hb hK hP (gis_Mo_rows hY hx0) hin d_Mo_nextSegment_51 ?_
            obtain ⟨hin, hw⟩ := hw
            refine g_iaload hx hb hK hP (gis_Mo_bs hY hx0) hin d_Mo_nextSegment_52 ?_
            refine lv_aload_n hx hb d_Mo_nextSegment_53 rfl (lv_at hl 0 rfl) ?_
            refine lv_aload_n hx hb d_Mo_nextSegment_54 rfl (lv_at hl 0 rfl) ?_
            refine g_get hx hb hts (fun w h => List.mem_cons_of_mem _ (in_Mo w h)) hown hK hP hx0 (gce_Mo hx0.1) rfl 27 (by decide) (hts _ (List.mem_cons_of_mem _ gw_834)) rfl d_Mo_nextSegment_55 ?_
            refine g_calli (va_runV (As := [.int (S9.1 x0 27)]) (rest := [.int (S9.1 (grf x0 6) (S9.1 (grf x0 12) (330 * x1).toNatClampNeg).toNatClampNeg)]) ⟨hx, hb, hml, hown, hts⟩ (k_Mo_termOf l Y hY H.size x0 (S9.1 x0 27) hx0 S9 _) (cwV 1 hts (gG_V gw_973 gw_975 gs_29 gw_12 gw_976) rfl rfl rfl (by decide +kernel) ⟨Nat.le_of_ble_eq_true rfl, Nat.le_of_ble_eq_true rfl⟩) ⟨gPre_blind, g_recv hK hP hx0 (gce_Mo hx0.1) rfl, g_pre hK hSt hS hP hw⟩ rfl rfl hl.1 rfl (lv_room (Nat.le_of_ble_eq_true rfl)) d_Mo_nextSegment_58 ⟨Nat.zero_le _, Nat.zero_le _⟩) hS (fun r13 S12 H locs hw hP hS => ?_)
            refine lv_icmp_ne (tgt := 66) hx hb d_Mo_nextSegment_61 (by decide) (fun c14 => ?_) (fun c14 => ?_)
            · replace hw := hw.1 c14
              exact mw_Mo_nextSegment_66 C0 ih x0 x1 S12 H locs ls hx0 hw hP hS (lv_sub hl [0, 1] rfl)
            · replace hw := hw.2 c14
              refine lv_iload_n hx hb d_Mo_nextSegment_64 rfl (lv_at hl 1 rfl) ?_
              exact W.iret (v := x1) hx hb hr (fun t ht hW => ⟨⟨x1, S12, rfl, hw, by rw [ht]; exact hP, va_K.moved hW.alike hK⟩, hS.F ht⟩) hS.2.2 d_Mo_nextSegment_65
set_option maxHeartbeats 4000000 in
set_option maxRecDepth 100000 in
theorem mw_Mo_nextSegment {p : Program} {l : Launch} {e : Env} {s : State} {m : MethodId} {args : Array Value} {below : List Frame} {meth : Method} {c : Code} {Y : gY} {Q : Int32 → gS → Prop} (C : gCx p s m args meth c Y "LogDiskModel" c_Mo_nextSegment 2 (Option.some Jvm.ClassFile.FieldType.int) w_Mo_nextSegment) : ∀ (x0 : gI)  (S : gS) (H : Heap) (locs : List Loc) (ls : Array Slot), gis Y 10 x0 → wp_Mo_nextSegment (gLn Y) Q x0 S → gWd Y S H → va_S (gA Y s.heap.size) s.heap H locs → lv_has ls 2 [(0, .ref (gad Y x0))] → W p l e (gRm 3 66) s m args below meth c H locs 0 0 (MQ below (va_Qi Q (gB Y) (gA Y s.heap.size)) args s 0 0 (gA Y s.heap.size)) (F0 m 0 ls []) := by
  have C0 := C
  obtain ⟨hx, hb, hml, hown, hts, hr, hlocks, hK, hY, hSt⟩ := C
  intro x0 S H locs ls hx0 hw hP hS hl
  unfold wp_Mo_nextSegment at hw
  refine lv_iconst (v := 4) hx hb d_Mo_nextSegment_0 (by decide) ?_
  refine lv_istore_n (lv' := [(1, .int 4), (0, .ref (gad Y x0))]) hx hb d_Mo_nextSegment_1 rfl hl (by decide) rfl (fun ls hl => ?_)
  obtain ⟨n, hw⟩ := hw
  exact mw_Mo_nextSegment_2 C0 n x0 4 S H locs ls hx0 hw hP hS (lv_sub hl [1, 0] rfl)
set_option maxHeartbeats 4000000 in
set_option maxRecDepth 100000 in
theorem k_Mo_nextSegment (l : Launch) (Y : gY) (hY : gOK Y) (sz : Nat) (x0 : gI)  (hx0 : gis Y 10 x0) (S : gS) (Q : Int32 → gS → Prop) : Met l y_Mo_nextSegment w_Mo_nextSegment (gRm 3 66) (gPre Y [.ref (gad Y x0)] S sz (wp_Mo_nextSegment (gLn Y) Q x0 S)) (va_Qi Q (gB Y) (gA Y sz)) 0 0 (gA Y sz) := by
  refine Met.ofW (cc := c_Mo_nextSegment) (maxL := 2) (ret := (Option.some Jvm.ClassFile.FieldType.int)) (by decide) rfl ?_
  intro p e s m args below meth c s₁ B hml hv
  obtain ⟨rfl, hsz, hP, hK, hSt, hw⟩ := hv
  subst hsz
  have hts := atoms_spec (ws := w_Mo_nextSegment) B.pre
  have hl := lv_entry ([.ref (gad Y x0)]) (n := 2) (Nat.le_of_ble_eq_true rfl)
  rw [lg_entry_eq]
  generalize (lg_sl ([.ref (gad Y x0)]) ++ List.replicate (2 - (lg_sl ([.ref (gad Y x0)])).length) Slot.unset).toArray = ls at hl ⊢
  exact mw_Mo_nextSegment ⟨B.exec, B.bytes, hml, findClass_of_methodNamed B.named, hts, B.returns, B.notSynchronized, hK, hY, hSt⟩ x0 S s.heap [] ls hx0 hw hP va_S.rf hl

def wp_Mo_crash_218 (Ln : gI → Nat) (Q : Int32 → gS → Prop) : Nat → gI → Int32 → gS → Prop
  | 0, _, _, _ => False
  | n218 + 1, x0, x6, S => ((16 ≤ x6) → (∀ S12 : gS, S12 = gset S x0 29 0 → (Q (S12.1 x0 27) S12))) ∧ ((¬ 16 ≤ x6) → (wp_Mo_settle Ln (fun S13 => ∀ v6_14 : Int32, v6_14 = x6 + 1 → (wp_Mo_crash_218 Ln Q n218 x0 v6_14 S13)) x0 x6 S))
def wp_Mo_crash_209 (Ln : gI → Nat) (K187 : gI → Int32 → gS → Prop) (Q : Int32 → gS → Prop) (x0 : gI) (x6 : Int32)  (S : gS) : Prop :=
  ∀ v6_18 : Int32, v6_18 = x6 + 1 → (K187 x0 v6_18 S)
def wp_Mo_crash_187 (Ln : gI → Nat) (Q : Int32 → gS → Prop) : Nat → gI → Int32 → gS → Prop
  | 0, _, _, _ => False
  | n187 + 1, x0, x6, S => ((16 ≤ x6) → (∃ n218 : Nat, wp_Mo_crash_218 Ln Q n218 x0 0 S)) ∧ ((¬ 16 ≤ x6) → (wp_Mo_isJoined Ln (fun r16 S15 => ((¬ r16 = 0) → (wp_Mo_crash_209 Ln (fun z0 z1 zS => wp_Mo_crash_187 Ln Q n187 z0 z1 zS) Q x0 x6 S15)) ∧ ((r16 = 0) → (wp_Mo_remove Ln (fun S19 => wp_Mo_crash_209 Ln (fun z0 z1 zS => wp_Mo_crash_187 Ln Q n187 z0 z1 zS) Q x0 x6 S19) x0 x6 S15))) x0 x6 S))
def wp_Mo_crash_179 (Ln : gI → Nat) (K149 : gI → Int32 → gS → Prop) (Q : Int32 → gS → Prop) (x0 : gI) (y0 : Int32) (S : gS) : Prop :=
  K149 x0 y0 S
def wp_Mo_crash_149 (Ln : gI → Nat) (Q : Int32 → gS → Prop) : Nat → gI → Int32 → gS → Prop
  | 0, _, _, _ => False
  | n149 + 1, x0, x5, S => ((x5 < 0) → (∃ n187 : Nat, wp_Mo_crash_187 Ln Q n187 x0 4 S)) ∧ ((¬ x5 < 0) → (wp_Mo_join Ln (fun S20 => vp_in x5 (Ln (grf x0 13)) ∧ ((((S20.1 (grf x0 13) x5.toNatClampNeg) ≤ 1) → (wp_Mo_crash_179 Ln (fun z0 z1 zS => wp_Mo_crash_149 Ln Q n149 z0 z1 zS) Q x0 (-1 : Int32) S20)) ∧ ((¬ (S20.1 (grf x0 13) x5.toNatClampNeg) ≤ 1) → (wp_Mo_nextSegment Ln (fun r23 S22 => wp_Mo_crash_179 Ln (fun z0 z1 zS => wp_Mo_crash_149 Ln Q n149 z0 z1 zS) Q x0 r23 S22) x0 S20)))) x0 x5 S))
def wp_Mo_crash_105 (Ln : gI → Nat) (K10 : gI → Int64 → Int32 → gS → Prop) (Q : Int32 → gS → Prop) (x0 : gI) (x3 : Int64) (x5 : Int32) (y0 : gI) (y1 : Int32) (y2 : Int32) (S : gS) : Prop :=
  wp_Mo_crashFile Ln (fun S28 => vp_in x5 (Ln (grf x0 18)) ∧ (∀ S29 : gS, S29 = gset S28 (grf x0 18) x5.toNatClampNeg (-1 : Int32) → (∀ v5_30 : Int32, v5_30 = x5 + 1 → (K10 x0 x3 v5_30 S29)))) y0 y1 y2 S
def wp_Mo_crash_78 (Ln : gI → Nat) (K10 : gI → Int64 → Int32 → gS → Prop) (Q : Int32 → gS → Prop) (x0 : gI) (x3 : Int64) (x5 : Int32) (y0 : Int32) (S : gS) : Prop :=
  vp_in x5 (Ln (grf x0 18)) ∧ ((((S.1 (grf x0 18) x5.toNatClampNeg) < 0) → (wp_Mo_crash_105 Ln K10 Q x0 x3 x5 x0 x5 y0 S)) ∧ ((¬ (S.1 (grf x0 18) x5.toNatClampNeg) < 0) → (vp_in x5 (Ln (grf x0 18)) ∧ (wp_Mo_crash_105 Ln K10 Q x0 x3 x5 x0 x5 (S.1 (grf x0 18) x5.toNatClampNeg) S))))
def wp_Mo_crash_10 (Ln : gI → Nat) (Q : Int32 → gS → Prop) : Nat → gI → Int64 → Int32 → gS → Prop
  | 0, _, _, _, _ => False
  | n10 + 1, x0, x3, x5, S => ((16 ≤ x5) → (wp_Mo_findSlots Ln (fun S3 => wp_Mo_findSnapshot Ln (fun S4 => ∀ S5 : gS, S5 = gset S4 x0 27 (S4.1 x0 23) → (∀ S6 : gS, S6 = gset S5 x0 30 0 → (wp_Mo_firstSegment Ln (fun r8 S7 => ∃ n149 : Nat, wp_Mo_crash_149 Ln Q n149 x0 r8 S7) x0 S6))) x0 S3) x0 S)) ∧ ((¬ 16 ≤ x5) → (∀ v3_24 : Int64, v3_24 = (x3 * (6364136223846793005 : Int64)) + (1442695040888963407 : Int64) → (∀ v6_25 : Int64, v6_25 = (ju_lushr v3_24 33) &&& (1048575 : Int64) → (((¬ (lg_cmp (ju_lushr v3_24 61) (0 : Int64)) = 0) → (vp_in x5 (Ln (grf x0 14)) ∧ (vp_in x5 (Ln (grf x0 16)) ∧ ((¬ (((2 : Int64) * (((S.1 (grf x0 14) x5.toNatClampNeg) - (S.1 (grf x0 16) x5.toNatClampNeg)).toInt64)) + (1 : Int64)) = 0) ∧ (wp_Mo_crash_78 Ln (fun z0 z1 z2 zS => wp_Mo_crash_10 Ln Q n10 z0 z1 z2 zS) Q x0 v3_24 x5 (1 + ((v6_25 - v6_25 / (((2 : Int64) * (((S.1 (grf x0 14) x5.toNatClampNeg) - (S.1 (grf x0 16) x5.toNatClampNeg)).toInt64)) + (1 : Int64)) * (((2 : Int64) * (((S.1 (grf x0 14) x5.toNatClampNeg) - (S.1 (grf x0 16) x5.toNatClampNeg)).toInt64)) + (1 : Int64))).toInt32)) S))))) ∧ (((lg_cmp (ju_lushr v3_24 61) (0 : Int64)) = 0) → (wp_Mo_crash_78 Ln (fun z0 z1 z2 zS => wp_Mo_crash_10 Ln Q n10 z0 z1 z2 zS) Q x0 v3_24 x5 0 S))))))
def wp_Mo_crash (Ln : gI → Nat) (Q : Int32 → gS → Prop) (x0 : gI) (x1 : Int64)  (S : gS) : Prop :=
  ∀ S1 : gS, S1 = gset S x0 0 0 → (∃ n10 : Nat, wp_Mo_crash_10 Ln Q n10 x0 x1 0 S1)
set_option maxHeartbeats 4000000 in
set_option maxRecDepth 100000 in
theorem mw_Mo_crash_218 {p : Program} {l : Launch} {e : Env} {s : State} {m : MethodId} {args : Array Value} {below : List Frame} {meth : Method} {c : Code} {Y : gY} {Q : Int32 → gS → Prop} (C : gCx p s m args meth c Y "LogDiskModel" c_Mo_crash 9 (Option.some Jvm.ClassFile.FieldType.int) w_Mo_crash) : ∀ (n : Nat), ∀ (x0 : gI) (x6 : Int32)  (S : gS) (H : Heap) (locs : List Loc) (ls : Array Slot), gis Y 10 x0 → wp_Mo_crash_218 (gLn Y) Q n x0 x6 S → gWd Y S H → va_S (gA Y s.heap.size) s.heap H locs → lv_has ls 9 [(0, .ref (gad Y x0)), (6, .int x6)] → W p l e (gRm 4 91) s m args below meth c H locs 0 0 (MQ below (va_Qi Q (gB Y) (gA Y s.heap.size)) args s 0 0 (gA Y s.heap.size)) (F0 m 218 ls []) := by
  have C0 := C
  obtain ⟨hx, hb, hml, hown, hts, hr, hlocks, hK, hY, hSt⟩ := C
  intro n
  induction n with
  | zero =>
    intro x0 x6 S H locs ls hx0 hw
    exact False.elim hw
  | succ n ih =>
    intro x0 x6 S H locs ls hx0 hw hP hS hl
    unfold wp_Mo_crash_218 at hw
    refine lv_iload hx hb d_Mo_crash_218 (lv_at hl 1 rfl) ?_
    refine lv_bipush (v := 16) hx hb d_Mo_crash_220 (by decide) ?_
    refine lv_icmp_ge (tgt := 237) hx hb d_Mo_crash_222 (by decide) (fun c11 => ?_) (fun c11 => ?_)
    · replace hw := hw.1 c11
      refine lv_aload_n hx hb d_Mo_crash_237 rfl (lv_at hl 0 rfl) ?_
      refine lv_iconst (v := 0) hx hb d_Mo_crash_238 (by decide) ?_
      refine g_put (ty := .boolean) (v := .int 0) (S' := gset S x0 29 0) hx hb hts (fun w h => List.mem_cons_of_mem _ (in_Mo w h)) ty_Mo tyok_Mo nm_Mo hown hK hY.1 hP hS hx0 (gce_Mo hx0.1) rfl 29 (by decide) (hts _ (List.mem_cons_of_mem _ gw_836)) rfl (by decide +kernel) rfl rfl (Nat.le_of_ble_eq_true rfl) (gp_Mo_dirty hx0.1) gce_gset d_Mo_crash_239 (fun H locs hP hS => ?_)
      obtain ⟨S12, eS12⟩ : ∃ z, z = gset S x0 29 0 := ⟨_, rfl⟩
      rw [← eS12] at hP
      replace hw := hw S12 eS12
      refine lv_aload_n hx hb d_Mo_crash_242 rfl (lv_at hl 0 rfl) ?_
      refine g_get hx hb hts (fun w h => List.mem_cons_of_mem _ (in_Mo w h)) hown hK hP hx0 (gce_Mo hx0.1) rfl 27 (by decide) (hts _ (List.mem_cons_of_mem _ gw_834)) rfl d_Mo_crash_243 ?_
      exact W.iret (v := (S12.1 x0 27)) hx hb hr (fun t ht hW => ⟨⟨(S12.1 x0 27), S12, rfl, hw, by rw [ht]; exact hP, va_K.moved hW.alike hK⟩, hS.F ht⟩) hS.2.2 d_Mo_crash_246
    · replace hw := hw.2 c11
      refine lv_aload_n hx hb d_Mo_crash_225 rfl (lv_at hl 0 rfl) ?_
      refine lv_iload hx hb d_Mo_crash_226 (lv_at hl 1 rfl) ?_
      refine g_callv (va_runV (As := [.int x6]) (rest := []) ⟨hx, hb, hml, hown, hts⟩ (k_Mo_settle l Y hY H.size x0 x6 hx0 S _) (cwV 1 hts (gG_V gw_1017 gw_1019 gs_38 gw_12 gw_1020) rfl rfl rfl (by decide +kernel) ⟨Nat.le_of_ble_eq_true rfl, Nat.le_of_ble_eq_true rfl⟩) ⟨gPre_blind, g_recv hK hP hx0 (gce_Mo hx0.1) rfl, g_pre hK hSt hS hP hw⟩ rfl rfl hl.1 rfl (lv_room (Nat.le_of_ble_eq_true rfl)) d_Mo_crash_228 ⟨Nat.zero_le _, Nat.zero_le _⟩) hS (fun S13 H locs hw hP hS => ?_)
      obtain ⟨v6_14, ev6_14⟩ : ∃ y : Int32, y = x6 + 1 := ⟨_, rfl⟩
      replace hw := hw v6_14 ev6_14
      refine lv_iinc (v := v6_14) (lv' := [(6, .int v6_14), (0, .ref (gad Y x0))]) hx hb d_Mo_crash_231 hl (k := 1) rfl (by rw [ev6_14]; rfl) (by decide) rfl (fun ls hl => ?_)
      refine lv_goto (tgt := 218) hx hb d_Mo_crash_234 (by decide) ?_
      exact ih x0 v6_14 S13 H locs ls hx0 hw hP hS (lv_sub hl [1, 0] rfl)
set_option maxHeartbeats 4000000 in
set_option maxRecDepth 100000 in
theorem mw_Mo_crash_209 {p : Program} {l : Launch} {e : Env} {s : State} {m : MethodId} {args : Array Value} {below : List Frame} {meth : Method} {c : Code} {Y : gY} {Q : Int32 → gS → Prop} {K187 : gI → Int32 → gS → Prop} (C : gCx p s m args meth c Y "LogDiskModel" c_Mo_crash 9 (Option.some Jvm.ClassFile.FieldType.int) w_Mo_crash) (hK187 : ∀ (x0 : gI) (x6 : Int32)  (S : gS) (H : Heap) (locs : List Loc) (ls : Array Slot), gis Y 10 x0 → K187 x0 x6 S → gWd Y S H → va_S (gA Y s.heap.size) s.heap H locs → lv_has ls 9 [(0, .ref (gad Y x0)), (6, .int x6)] → W p l e (gRm 4 91) s m args below meth c H locs 0 0 (MQ below (va_Qi Q (gB Y) (gA Y s.heap.size)) args s 0 0 (gA Y s.heap.size)) (F0 m 187 ls [])) : ∀ (x0 : gI) (x6 : Int32)  (S : gS) (H : Heap) (locs : List Loc) (ls : Array Slot), gis Y 10 x0 → wp_Mo_crash_209 (gLn Y) K187 Q x0 x6 S → gWd Y S H → va_S (gA Y s.heap.size) s.heap H locs → lv_has ls 9 [(0, .ref (gad Y x0)), (6, .int x6)] → W p l e (gRm 4 91) s m args below meth c H locs 0 0 (MQ below (va_Qi Q (gB Y) (gA Y s.heap.size)) args s 0 0 (gA Y s.heap.size)) (F0 m 209 ls []) := by
  have C0 := C
  obtain ⟨hx, hb, hml, hown, hts, hr, hlocks, hK, hY, hSt⟩ := C
  intro x0 x6 S H locs ls hx0 hw hP hS hl
  unfold wp_Mo_crash_209 at hw
  obtain ⟨v6_18, ev6_18⟩ : ∃ y : Int32, y = x6 + 1 := ⟨_, rfl⟩
  replace hw := hw v6_18 ev6_18
  refine lv_iinc (v := v6_18) (lv' := [(6, .int v6_18), (0, .ref (gad Y x0))]) hx hb d_Mo_crash_209 hl (k := 1) rfl (by rw [ev6_18]; rfl) (by decide) rfl (fun ls hl => ?_)
  refine lv_goto (tgt := 187) hx hb d_Mo_crash_212 (by decide) ?_
  exact hK187 x0 v6_18 S H locs ls hx0 hw hP hS (lv_sub hl [1, 0] rfl)
set_option maxHeartbeats 4000000 in
set_option maxRecDepth 100000 in
theorem mw_Mo_crash_187 {p : Program} {l : Launch} {e : Env} {s : State} {m : MethodId} {args : Array Value} {below : List Frame} {meth : Method} {c : Code} {Y : gY} {Q : Int32 → gS → Prop} (C : gCx p s m args meth c Y "LogDiskModel" c_Mo_crash 9 (Option.some Jvm.ClassFile.FieldType.int) w_Mo_crash) : ∀ (n : Nat), ∀ (x0 : gI) (x6 : Int32)  (S : gS) (H : Heap) (locs : List Loc) (ls : Array Slot), gis Y 10 x0 → wp_Mo_crash_187 (gLn Y) Q n x0 x6 S → gWd Y S H → va_S (gA Y s.heap.size) s.heap H locs → lv_has ls 9 [(0, .ref (gad Y x0)), (6, .int x6)] → W p l e (gRm 4 91) s m args below meth c H locs 0 0 (MQ below (va_Qi Q (gB Y) (gA Y s.heap.size)) args s 0 0 (gA Y s.heap.size)) (F0 m 187 ls []) := by
  have C0 := C
  obtain ⟨hx, hb, hml, hown, hts, hr, hlocks, hK, hY, hSt⟩ := C
  intro n
  induction n with
  | zero =>
    intro x0 x6 S H locs ls hx0 hw
    exact False.elim hw
  | succ n ih =>
    intro x0 x6 S H locs ls hx0 hw hP hS hl
    unfold wp_Mo_crash_187 at hw
    refine lv_iload hx hb d_Mo_crash_187 (lv_at hl 1 rfl) ?_
    refine lv_bipush (v := 16) hx hb d_Mo_crash_189 (by decide) ?_
    refine lv_icmp_ge (tgt := 215) hx hb d_Mo_crash_191 (by decide) (fun c10 => ?_) (fun c10 => ?_)
    · replace hw := hw.1 c10
      refine lv_iconst (v := 0) hx hb d_Mo_crash_215 (by decide) ?_
      refine lv_istore (lv' := [(6, .int 0), (0, .ref (gad Y x0))]) hx hb d_Mo_crash_216 hl (by decide) rfl (fun ls hl => ?_)
      obtain ⟨n, hw⟩ := hw
      exact mw_Mo_crash_218 C0 n x0 0 S H locs ls hx0 hw hP hS (lv_sub hl [1, 0] rfl)
    · replace hw := hw.2 c10
      refine lv_aload_n hx hb d_Mo_crash_194 rfl (lv_at hl 0 rfl) ?_
      refine lv_iload hx hb d_Mo_crash_195 (lv_at hl 1 rfl) ?_
      refine g_calli (va_runV (As := [.int x6]) (rest := []) ⟨hx, hb, hml, hown, hts⟩ (k_Mo_isJoined l Y hY H.size x0 x6 hx0 S _) (cwV 1 hts (gG_V gw_1081 gw_1083 gs_49 gw_12 gw_1084) rfl rfl rfl (by decide +kernel) ⟨Nat.le_of_ble_eq_true rfl, Nat.le_of_ble_eq_true rfl⟩) ⟨gPre_blind, g_recv hK hP hx0 (gce_Mo hx0.1) rfl, g_pre hK hSt hS hP hw⟩ rfl rfl hl.1 rfl (lv_room (Nat.le_of_ble_eq_true rfl)) d_Mo_crash_197 ⟨Nat.zero_le _, Nat.zero_le _⟩) hS (fun r16 S15 H locs hw hP hS => ?_)
      refine lv_if_ne (tgt := 209) hx hb d_Mo_crash_200 (by decide) (fun c17 => ?_) (fun c17 => ?_)
      · replace hw := hw.1 c17
        exact mw_Mo_crash_209 C0 ih x0 x6 S15 H locs ls hx0 hw hP hS (lv_sub hl [0, 1] rfl)
      · replace hw := hw.2 c17
        refine lv_aload_n hx hb d_Mo_crash_203 rfl (lv_at hl 0 rfl) ?_
        refine lv_iload hx hb d_Mo_crash_204 (lv_at hl 1 rfl) ?_
        refine g_callv (va_runV (As := [.int x6]) (rest := []) ⟨hx, hb, hml, hown, hts⟩ (k_Mo_remove l Y hY H.size x0 x6 hx0 S15 _) (cwV 1 hts (gG_V gw_1001 gw_1003 gs_35 gw_12 gw_1004) rfl rfl rfl (by decide +kernel) ⟨Nat.le_of_ble_eq_true rfl, Nat.le_of_ble_eq_true rfl⟩) ⟨gPre_blind, g_recv hK hP hx0 (gce_Mo hx0.1) rfl, g_pre hK hSt hS hP hw⟩ rfl rfl hl.1 rfl (lv_room (Nat.le_of_ble_eq_true rfl)) d_Mo_crash_206 ⟨Nat.zero_le _, Nat.zero_le _⟩) hS (fun S19 H locs hw hP hS => ?_)
        exact mw_Mo_crash_209 C0 ih x0 x6 S19 H locs ls hx0 hw hP hS (lv_sub hl [0, 1] rfl)
set_option maxHeartbeats 4000000 in
set_option maxRecDepth 100000 in
theorem mw_Mo_crash_179 {p : Program} {l : Launch} {e : Env} {s : State} {m : MethodId} {args : Array Value} {below : List Frame} {meth : Method} {c : Code} {Y : gY} {Q : Int32 → gS → Prop} {K149 : gI → Int32 → gS → Prop} (C : gCx p s m args meth c Y "LogDiskModel" c_Mo_crash 9 (Option.some Jvm.ClassFile.FieldType.int) w_Mo_crash) (hK149 : ∀ (x0 : gI) (x5 : Int32)  (S : gS) (H : Heap) (locs : List Loc) (ls : Array Slot), gis Y 10 x0 → K149 x0 x5 S → gWd Y S H → va_S (gA Y s.heap.size) s.heap H locs → lv_has ls 9 [(0, .ref (gad Y x0)), (5, .int x5)] → W p l e (gRm 4 91) s m args below meth c H locs 0 0 (MQ below (va_Qi Q (gB Y) (gA Y s.heap.size)) args s 0 0 (gA Y s.heap.size)) (F0 m 149 ls [])) : ∀ (x0 : gI) (y0 : Int32) (S : gS) (H : Heap) (locs : List Loc) (ls : Array Slot), gis Y 10 x0 → wp_Mo_crash_179 (gLn Y) K149 Q x0 y0 S → gWd Y S H → va_S (gA Y s.heap.size) s.heap H locs → lv_has ls 9 [(0, .ref (gad Y x0))] → W p l e (gRm 4 91) s m args below meth c H locs 0 0 (MQ below (va_Qi Q (gB Y) (gA Y s.heap.size)) args s 0 0 (gA Y s.heap.size)) (F0 m 179 ls [.int y0]) := by
  have C0 := C
  obtain ⟨hx, hb, hml, hown, hts, hr, hlocks, hK, hY, hSt⟩ := C
  intro x0 y0 S H locs ls hx0 hw hP hS hl
  unfold wp_Mo_crash_179 at hw
  refine lv_istore (lv' := [(5, .int y0), (0, .ref (gad Y x0))]) hx hb d_Mo_crash_179 hl (by decide) rfl (fun ls hl => ?_)
  refine lv_goto (tgt := 149) hx hb d_Mo_crash_181 (by decide) ?_
  exact hK149 x0 y0 S H locs ls hx0 hw hP hS (lv_sub hl [1, 0] rfl)
set_option maxHeartbeats 4000000 in
set_option maxRecDepth 100000 in
theorem mw_Mo_crash_149 {p : Program} {l : Launch} {e : Env} {s : State} {m : MethodId} {args : Array Value} {below : List Frame} {meth : Method} {c : Code} {Y : gY} {Q : Int32 → gS → Prop} (C : gCx p s m args meth c Y "LogDiskModel" c_Mo_crash 9 (Option.some Jvm.ClassFile.FieldType.int) w_Mo_crash) : ∀ (n : Nat), ∀ (x0 : gI) (x5 : Int32)  (S : gS) (H : Heap) (locs : List Loc) (ls : Array Slot), gis Y 10 x0 → wp_Mo_crash_149 (gLn Y) Q n x0 x5 S → gWd Y S H → va_S (gA Y s.heap.size) s.heap H locs → lv_has ls 9 [(0, .ref (gad Y x0)), (5, .int x5)] → W p l e (gRm 4 91) s m args below meth c H locs 0 0 (MQ below (va_Qi Q (gB Y) (gA Y s.heap.size)) args s 0 0 (gA Y s.heap.size)) (F0 m 149 ls []) := by
  have C0 := C
  obtain ⟨hx, hb, hml, hown, hts, hr, hlocks, hK, hY, hSt⟩ := C
  intro n
  induction n with
  | zero =>
    intro x0 x5 S H locs ls hx0 hw
    exact False.elim hw
  | succ n ih =>
    intro x0 x5 S H locs ls hx0 hw hP hS hl
    unfold wp_Mo_crash_149 at hw
    refine lv_iload hx hb d_Mo_crash_149 (lv_at hl 1 rfl) ?_
    refine lv_if_lt (tgt := 184) hx hb d_Mo_crash_151 (by decide) (fun c9 => ?_) (fun c9 => ?_)
    · replace hw := hw.1 c9
      refine lv_iconst (v := 4) hx hb d_Mo_crash_184 (by decide) ?_
      refine lv_istore (lv' := [(6, .int 4), (0, .ref (gad Y x0)), (5, .int x5)]) hx hb d_Mo_crash_185 hl (by decide) rfl (fun ls hl => ?_)
      obtain ⟨n, hw⟩ := hw
      exact mw_Mo_crash_187 C0 n x0 4 S H locs ls hx0 hw hP hS (lv_sub hl [1, 0] rfl)
    · replace hw := hw.2 c9
      refine lv_aload_n hx hb d_Mo_crash_154 rfl (lv_at hl 0 rfl) ?_
      refine lv_iload hx hb d_Mo_crash_155 (lv_at hl 1 rfl) ?_
      refine g_callv (va_runV (As := [.int x5]) (rest := []) ⟨hx, hb, hml, hown, hts⟩ (k_Mo_join l Y hY H.size x0 x5 hx0 S _) (cwV 1 hts (gG_V gw_1073 gw_1075 gs_47 gw_12 gw_1076) rfl rfl rfl (by decide +kernel) ⟨Nat.le_of_ble_eq_true rfl, Nat.le_of_ble_eq_true rfl⟩) ⟨gPre_blind, g_recv hK hP hx0 (gce_Mo hx0.1) rfl, g_pre hK hSt hS hP hw⟩ rfl rfl hl.1 rfl (lv_room (Nat.le_of_ble_eq_true rfl)) d_Mo_crash_157 ⟨Nat.zero_le _, Nat.zero_le _⟩) hS (fun S20 H locs hw hP hS => ?_)
      refine lv_aload_n hx hb d_Mo_crash_160 rfl (lv_at hl 0 rfl) ?_
      refine g_get hx hb hts (fun w h => List.mem_cons_of_mem _ (in_Mo w h)) hown hK hP hx0 (gce_Mo hx0.1) rfl 13 (by decide) (hts _ (List.mem_cons_of_mem _ gw_820)) rfl d_Mo_crash_161 ?_
      refine lv_iload hx hb d_Mo_crash_164 (lv_at hl 1 rfl) ?_
      obtain ⟨hin, hw⟩ := hw
      refine g_iaload hx hb hK hP (gis_Mo_counts hY hx0) hin d_Mo_crash_166 ?_
      refine lv_iconst (v := 1) hx hb d_Mo_crash_167 (by decide) ?_
      refine lv_icmp_le (tgt := 178) hx hb d_Mo_crash_168 (by decide) (fun c21 => ?_) (fun c21 => ?_)
      · replace hw := hw.1 c21
        refine lv_iconst (v := (-1 : Int32)) hx hb d_Mo_crash_178 (by decide) ?_
        exact mw_Mo_crash_179 C0 ih x0 (-1 : Int32) S20 H locs ls hx0 hw hP hS (lv_sub hl [0] rfl)
      · replace hw := hw.2 c21
        refine lv_aload_n hx hb d_Mo_crash_171 rfl (lv_at hl 0 rfl) ?_
        refine g_calli (va_runV (As := []) (rest := []) ⟨hx, hb, hml, hown, hts⟩ (k_Mo_nextSegment l Y hY H.size x0 hx0 S20 _) (cwV 0 hts (gG_V gw_1077 gw_1079 gs_48 gw_12 gw_1080) rfl rfl rfl (by decide +kernel) ⟨Nat.le_of_ble_eq_true rfl, Nat.le_of_ble_eq_true rfl⟩) ⟨gPre_blind, g_recv hK hP hx0 (gce_Mo hx0.1) rfl, g_pre hK hSt hS hP hw⟩ rfl rfl hl.1 rfl (lv_room (Nat.le_of_ble_eq_true rfl)) d_Mo_crash_172 ⟨Nat.zero_le _, Nat.zero_le _⟩) hS (fun r23 S22 H locs hw hP hS => ?_)
        refine lv_goto (tgt := 179) hx hb d_Mo_crash_175 (by decide) ?_
        exact mw_Mo_crash_179 C0 ih x0 r23 S22 H locs ls hx0 hw hP hS (lv_sub hl [0] rfl)
set_option maxHeartbeats 4000000 in
set_option maxRecDepth 100000 in
theorem mw_Mo_crash_105 {p : Program} {l : Launch} {e : Env} {s : State} {m : MethodId} {args : Array Value} {below : List Frame} {meth : Method} {c : Code} {Y : gY} {Q : Int32 → gS → Prop} {K10 : gI → Int64 → Int32 → gS → Prop} (C : gCx p s m args meth c Y "LogDiskModel" c_Mo_crash 9 (Option.some Jvm.ClassFile.FieldType.int) w_Mo_crash) (hK10 : ∀ (x0 : gI) (x3 : Int64) (x5 : Int32)  (S : gS) (H : Heap) (locs : List Loc) (ls : Array Slot), gis Y 10 x0 → K10 x0 x3 x5 S → gWd Y S H → va_S (gA Y s.heap.size) s.heap H locs → lv_has ls 9 [(0, .ref (gad Y x0)), (3, .long x3), (5, .int x5)] → W p l e (gRm 4 91) s m args below meth c H locs 0 0 (MQ below (va_Qi Q (gB Y) (gA Y s.heap.size)) args s 0 0 (gA Y s.heap.size)) (F0 m 10 ls [])) : ∀ (x0 : gI) (x3 : Int64) (x5 : Int32) (y0 : gI) (y1 : Int32) (y2 : Int32) (S : gS) (H : Heap) (locs : List Loc) (ls : Array Slot), gis Y 10 x0 → gis Y 10 y0 → wp_Mo_crash_105 (gLn Y) K10 Q x0 x3 x5 y0 y1 y2 S → gWd Y S H → va_S (gA Y s.heap.size) s.heap H locs → lv_has ls 9 [(0, .ref (gad Y x0)), (3, .long x3), (5, .int x5)] → W p l e (gRm 4 91) s m args below meth c H locs 0 0 (MQ below (va_Qi Q (gB Y) (gA Y s.heap.size)) args s 0 0 (gA Y s.heap.size)) (F0 m 105 ls [.int y2, .int y1, .ref (gad Y y0)]) := by
  have C0 := C
  obtain ⟨hx, hb, hml, hown, hts, hr, hlocks, hK, hY, hSt⟩ := C
  intro x0 x3 x5 y0 y1 y2 S H locs ls hx0 hy0 hw hP hS hl
  unfold wp_Mo_crash_105 at hw
  refine g_callv (va_runV (As := [.int y1, .int y2]) (rest := []) ⟨hx, hb, hml, hown, hts⟩ (k_Mo_crashFile l Y hY H.size y0 y1 y2 hy0 S _) (cwV 2 hts (gG_V gw_1053 gw_1055 gs_42 gw_12 gw_1056) rfl rfl rfl (by decide +kernel) ⟨Nat.le_of_ble_eq_true rfl, Nat.le_of_ble_eq_true rfl⟩) ⟨gPre_blind, g_recv hK hP hy0 (gce_Mo hy0.1) rfl, g_pre hK hSt hS hP hw⟩ rfl rfl hl.1 rfl (lv_room (Nat.le_of_ble_eq_true rfl)) d_Mo_crash_105 ⟨Nat.zero_le _, Nat.zero_le _⟩) hS (fun S28 H locs hw hP hS => ?_)
  refine lv_aload_n hx hb d_Mo_crash_108 rfl (lv_at hl 0 rfl) ?_
  refine g_get hx hb hts (fun w h => List.mem_cons_of_mem _ (in_Mo w h)) hown hK hP hx0 (gce_Mo hx0.1) rfl 18 (by decide) (hts _ (List.mem_cons_of_mem _ gw_825)) rfl d_Mo_crash_109 ?_
  refine lv_iload hx hb d_Mo_crash_112 (lv_at hl 2 rfl) ?_
  refine lv_iconst (v := (-1 : Int32)) hx hb d_Mo_crash_114 (by decide) ?_
  obtain ⟨hin, hw⟩ := hw
  refine g_iastore hx hb hK hY.1 hP hS (gis_Mo_keeps hY hx0) hin d_Mo_crash_115 (fun S29 eS29 H locs hP hS => ?_)
  replace hw := hw S29 eS29
  obtain ⟨v5_30, ev5_30⟩ : ∃ y : Int32, y = x5 + 1 := ⟨_, rfl⟩
  replace hw := hw v5_30 ev5_30
  refine lv_iinc (v := v5_30) (lv' := [(5, .int v5_30), (0, .ref (gad Y x0)), (3, .long x3)]) hx hb d_Mo_crash_116 hl (k := 2) rfl (by rw [ev5_30]; rfl) (by decide) rfl (fun ls hl => ?_)
  refine lv_goto (tgt := 10) hx hb d_Mo_crash_119 (by decide) ?_
  exact hK10 x0 x3 v5_30 S29 H locs ls hx0 hw hP hS (lv_sub hl [1, 2, 0] rfl)
set_option maxHeartbeats 4000000 in
set_option maxRecDepth 100000 in
theorem mw_Mo_crash_78 {p : Program} {l : Launch} {e : Env} {s : State} {m : MethodId} {args : Array Value} {below : List Frame} {meth : Method} {c : Code} {Y : gY} {Q : Int32 → gS → Prop} {K10 : gI → Int64 → Int32 → gS → Prop} (C : gCx p s m args meth c Y "LogDiskModel" c_Mo_crash 9 (Option.some Jvm.ClassFile.FieldType.int) w_Mo_crash) (hK10 : ∀ (x0 : gI) (x3 : Int64) (x5 : Int32)  (S : gS) (H : Heap) (locs : List Loc) (ls : Array Slot), gis Y 10 x0 → K10 x0 x3 x5 S → gWd Y S H → va_S (gA Y s.heap.size) s.heap H locs → lv_has ls 9 [(0, .ref (gad Y x0)), (3, .long x3), (5, .int x5)] → W p l e (gRm 4 91) s m args below meth c H locs 0 0 (MQ below (va_Qi Q (gB Y) (gA Y s.heap.size)) args s 0 0 (gA Y s.heap.size)) (F0 m 10 ls [])) : ∀ (x0 : gI) (x3 : Int64) (x5 : Int32) (y0 : Int32) (S : gS) (H : Heap) (locs : List Loc) (ls : Array Slot), gis Y 10 x0 → wp_Mo_crash_78 (gLn Y) K10 Q x0 x3 x5 y0 S → gWd Y S H → va_S (gA Y s.heap.size) s.heap H locs → lv_has ls 9 [(0, .ref (gad Y x0)), (3, .long x3), (5, .int x5)] → W p l e (gRm 4 91) s m args below meth c H locs 0 0 (MQ below (va_Qi Q (gB Y) (gA Y s.heap.size)) args s 0 0 (gA Y s.heap.size)) (F0 m 78 ls [.int y0]) := by
  have C0 := C
  obtain ⟨hx, hb, hml, hown, hts, hr, hlocks, hK, hY, hSt⟩ := C
  intro x0 x3 x5 y0 S H locs ls hx0 hw hP hS hl
  unfold wp_Mo_crash_78 at hw
  refine lv_istore (lv' := [(8, .int y0), (0, .ref (gad Y x0)), (3, .long x3), (5, .int x5)]) hx hb d_Mo_crash_78 hl (by decide) rfl (fun ls hl => ?_)
  refine lv_aload_n hx hb d_Mo_crash_80 rfl (lv_at hl 1 rfl) ?_
  refine lv_iload hx hb d_Mo_crash_81 (lv_at hl 3 rfl) ?_
  refine lv_aload_n hx hb d_Mo_crash_83 rfl (lv_at hl 1 rfl) ?_
  refine g_get hx hb hts (fun w h => List.mem_cons_of_mem _ (in_Mo w h)) hown hK hP hx0 (gce_Mo hx0.1) rfl 18 (by decide) (hts _ (List.mem_cons_of_mem _ gw_825)) rfl d_Mo_crash_84 ?_
  refine lv_iload hx hb d_Mo_crash_87 (lv_at hl 3 rfl) ?_
  obtain ⟨hin, hw⟩ := hw
  refine g_iaload hx hb hK hP (gis_Mo_keeps hY hx0) hin d_Mo_crash_89 ?_
  refine lv_if_lt (tgt := 103) hx hb d_Mo_crash_90 (by decide) (fun c27 => ?_) (fun c27 => ?_)
  · replace hw := hw.1 c27
    refine lv_iload hx hb d_Mo_crash_103 (lv_at hl 0 rfl) ?_
    exact mw_Mo_crash_105 C0 hK10 x0 x3 x5 x0 x5 y0 S H locs ls hx0 hx0 hw hP hS (lv_sub hl [1, 2, 3] rfl)
  · replace hw := hw.2 c27
    refine lv_aload_n hx hb d_Mo_crash_93 rfl (lv_at hl 1 rfl) ?_
    refine g_get hx hb hts (fun w h => List.mem_cons_of_mem _ (in_Mo w h)) hown hK hP hx0 (gce_Mo hx0.1) rfl 18 (by decide) (hts _ (List.mem_cons_of_mem _ gw_825)) rfl d_Mo_crash_94 ?_
    refine lv_iload hx hb d_Mo_crash_97 (lv_at hl 3 rfl) ?_
    obtain ⟨hin, hw⟩ := hw
    refine g_iaload hx hb hK hP (gis_Mo_keeps hY hx0) hin d_Mo_crash_99 ?_
    refine lv_goto (tgt := 105) hx hb d_Mo_crash_100 (by decide) ?_
    exact mw_Mo_crash_105 C0 hK10 x0 x3 x5 x0 x5 (S.1 (grf x0 18) x5.toNatClampNeg) S H locs ls hx0 hx0 hw hP hS (lv_sub hl [1, 2, 3] rfl)
set_option maxHeartbeats 4000000 in
set_option maxRecDepth 100000 in
theorem mw_Mo_crash_10 {p : Program} {l : Launch} {e : Env} {s : State} {m : MethodId} {args : Array Value} {below : List Frame} {meth : Method} {c : Code} {Y : gY} {Q : Int32 → gS → Prop} (C : gCx p s m args meth c Y "LogDiskModel" c_Mo_crash 9 (Option.some Jvm.ClassFile.FieldType.int) w_Mo_crash) : ∀ (n : Nat), ∀ (x0 : gI) (x3 : Int64) (x5 : Int32)  (S : gS) (H : Heap) (locs : List Loc) (ls : Array Slot), gis Y 10 x0 → wp_Mo_crash_10 (gLn Y) Q n x0 x3 x5 S → gWd Y S H → va_S (gA Y s.heap.size) s.heap H locs → lv_has ls 9 [(0, .ref (gad Y x0)), (3, .long x3), (5, .int x5)] → W p l e (gRm 4 91) s m args below meth c H locs 0 0 (MQ below (va_Qi Q (gB Y) (gA Y s.heap.size)) args s 0 0 (gA Y s.heap.size)) (F0 m 10 ls []) := by
  have C0 := C
  obtain ⟨hx, hb, hml, hown, hts, hr, hlocks, hK, hY, hSt⟩ := C
  intro n
  induction n with
  | zero =>
    intro x0 x3 x5 S H locs ls hx0 hw
    exact False.elim hw
  | succ n ih =>
    intro x0 x3 x5 S H locs ls hx0 hw hP hS hl
    unfold wp_Mo_crash_10 at hw
    refine lv_iload hx hb d_Mo_crash_10 (lv_at hl 2 rfl) ?_
    refine lv_bipush (v := 16) hx hb d_Mo_crash_12 (by decide) ?_
    refine lv_icmp_ge (tgt := 122) hx hb d_Mo_crash_14 (by decide) (fun c2 => ?_) (fun c2 => ?_)
    · replace hw := hw.1 c2
      refine lv_aload_n hx hb d_Mo_crash_122 rfl (lv_at hl 0 rfl) ?_
      refine g_callv (va_runV (As := []) (rest := []) ⟨hx, hb, hml, hown, hts⟩ (k_Mo_findSlots l Y hY H.size x0 hx0 S _) (cwV 0 hts (gG_V gw_1057 gw_1059 gs_43 gw_12 gw_1060) rfl rfl rfl (by decide +kernel) ⟨Nat.le_of_ble_eq_true rfl, Nat.le_of_ble_eq_true rfl⟩) ⟨gPre_blind, g_recv hK hP hx0 (gce_Mo hx0.1) rfl, g_pre hK hSt hS hP hw⟩ rfl rfl hl.1 rfl (lv_room (Nat.le_of_ble_eq_true rfl)) d_Mo_crash_123 ⟨Nat.zero_le _, Nat.zero_le _⟩) hS (fun S3 H locs hw hP hS => ?_)
      refine lv_aload_n hx hb d_Mo_crash_126 rfl (lv_at hl 0 rfl) ?_
      refine g_callv (va_runV (As := []) (rest := []) ⟨hx, hb, hml, hown, hts⟩ (k_Mo_findSnapshot l Y hY H.size x0 hx0 S3 _) (cwV 0 hts (gG_V gw_1065 gw_1067 gs_45 gw_12 gw_1068) rfl rfl rfl (by decide +kernel) ⟨Nat.le_of_ble_eq_true rfl, Nat.le_of_ble_eq_true rfl⟩) ⟨gPre_blind, g_recv hK hP hx0 (gce_Mo hx0.1) rfl, g_pre hK hSt hS hP hw⟩ rfl rfl hl.1 rfl (lv_room (Nat.le_of_ble_eq_true rfl)) d_Mo_crash_127 ⟨Nat.zero_le _, Nat.zero_le _⟩) hS (fun S4 H locs hw hP hS => ?_)
      refine lv_aload_n hx hb d_Mo_crash_130 rfl (lv_at hl 0 rfl) ?_
      refine lv_aload_n hx hb d_Mo_crash_131 rfl (lv_at hl 0 rfl) ?_
      refine g_get hx hb hts (fun w h => List.mem_cons_of_mem _ (in_Mo w h)) hown hK hP hx0 (gce_Mo hx0.1) rfl 23 (by decide) (hts _ (List.mem_cons_of_mem _ gw_830)) rfl d_Mo_crash_132 ?_
      refine g_put (ty := .int) (v := .int (S4.1 x0 23)) (S' := gset S4 x0 27 (S4.1 x0 23)) hx hb hts (fun w h => List.mem_cons_of_mem _ (in_Mo w h)) ty_Mo tyok_Mo nm_Mo hown hK hY.1 hP hS hx0 (gce_Mo hx0.1) rfl 27 (by decide) (hts _ (List.mem_cons_of_mem _ gw_834)) rfl (by decide +kernel) rfl rfl (Nat.le_of_ble_eq_true rfl) (gp_Mo_last hx0.1) gce_gset d_Mo_crash_135 (fun H locs hP hS => ?_)
      obtain ⟨S5, eS5⟩ : ∃ z, z = gset S4 x0 27 (S4.1 x0 23) := ⟨_, rfl⟩
      rw [← eS5] at hP
      replace hw := hw S5 eS5
      refine lv_aload_n hx hb d_Mo_crash_138 rfl (lv_at hl 0 rfl) ?_
      refine lv_iconst (v := 0) hx hb d_Mo_crash_139 (by decide) ?_
      refine g_put (ty := .int) (v := .int 0) (S' := gset S5 x0 30 0) hx hb hts (fun w h => List.mem_cons_of_mem _ (in_Mo w h)) ty_Mo tyok_Mo nm_Mo hown hK hY.1 hP hS hx0 (gce_Mo hx0.1) rfl 30 (by decide) (hts _ (List.mem_cons_of_mem _ gw_837)) rfl (by decide +kernel) rfl rfl (Nat.le_of_ble_eq_true rfl) (gp_Mo_segments hx0.1) gce_gset d_Mo_crash_140 (fun H locs hP hS => ?_)
      obtain ⟨S6, eS6⟩ : ∃ z, z = gset S5 x0 30 0 := ⟨_, rfl⟩
      rw [← eS6] at hP
      replace hw := hw S6 eS6
      refine lv_aload_n hx hb d_Mo_crash_143 rfl (lv_at hl 0 rfl) ?_
      refine g_calli (va_runV (As := []) (rest := []) ⟨hx, hb, hml, hown, hts⟩ (k_Mo_firstSegment l Y hY H.size x0 hx0 S6 _) (cwV 0 hts (gG_V gw_1069 gw_1071 gs_46 gw_12 gw_1072) rfl rfl rfl (by decide +kernel) ⟨Nat.le_of_ble_eq_true rfl, Nat.le_of_ble_eq_true rfl⟩) ⟨gPre_blind, g_recv hK hP hx0 (gce_Mo hx0.1) rfl, g_pre hK hSt hS hP hw⟩ rfl rfl hl.1 rfl (lv_room (Nat.le_of_ble_eq_true rfl)) d_Mo_crash_144 ⟨Nat.zero_le _, Nat.zero_le _⟩) hS (fun r8 S7 H locs hw hP hS => ?_)
      refine lv_istore (lv' := [(5, .int r8), (0, .ref (gad Y x0)), (3, .long x3)]) hx hb d_Mo_crash_147 hl (by decide) rfl (fun ls hl => ?_)
      obtain ⟨n, hw⟩ := hw
      exact mw_Mo_crash_149 C0 n x0 r8 S7 H locs ls hx0 hw hP hS (lv_sub hl [1, 0] rfl)
    · replace hw := hw.2 c2
      refine lv_lload_n hx hb d_Mo_crash_17 rfl (lv_at hl 1 rfl) ?_
      refine lv_ldc2 (v := 6364136223846793005) hx hb hown (hts _ (List.mem_cons_of_mem _ gw_1049)) d_Mo_crash_18 ?_
      refine lv_lmul hx hb d_Mo_crash_21 ?_
      refine lv_ldc2 (v := 1442695040888963407) hx hb hown (hts _ (List.mem_cons_of_mem _ gw_1050)) d_Mo_crash_22 ?_
      refine lv_ladd hx hb d_Mo_crash_25 ?_
      refine lv_topl (fun v3_24 ev3_24 => ?_)
      replace hw := hw v3_24 ev3_24
      refine lv_lstore_n (lv' := [(3, .long v3_24), (0, .ref (gad Y x0)), (5, .int x5)]) hx hb d_Mo_crash_26 rfl hl (by decide) rfl (fun ls hl => ?_)
      refine lv_lload_n hx hb d_Mo_crash_27 rfl (lv_at hl 0 rfl) ?_
      refine lv_bipush (v := 33) hx hb d_Mo_crash_28 (by decide) ?_
      refine lv_lushr hx hb d_Mo_crash_30 rfl ?_
      refine lv_ldc2 (v := 1048575) hx hb hown (hts _ (List.mem_cons_of_mem _ gw_1051)) d_Mo_crash_31 ?_
      refine lv_land hx hb d_Mo_crash_34 ?_
      refine lv_topl (fun v6_25 ev6_25 => ?_)
      replace hw := hw v6_25 ev6_25
      refine lv_lstore (lv' := [(6, .long v6_25), (3, .long v3_24), (0, .ref (gad Y x0)), (5, .int x5)]) hx hb d_Mo_crash_35 hl (by decide) rfl (fun ls hl => ?_)
      refine lv_lload_n hx hb d_Mo_crash_37 rfl (lv_at hl 1 rfl) ?_
      refine lv_bipush (v := 61) hx hb d_Mo_crash_38 (by decide) ?_
      refine lv_lushr hx hb d_Mo_crash_40 rfl ?_
      refine lv_lconst (v := 0) hx hb d_Mo_crash_41 (by decide) ?_
      refine W.lcmp hx hb d_Mo_crash_42 ?_
      refine lv_if_ne (tgt := 50) hx hb d_Mo_crash_43 (by decide) (fun c26 => ?_) (fun c26 => ?_)
      · replace hw := hw.1 c26
        refine lv_iconst (v := 1) hx hb d_Mo_crash_50 (by decide) ?_
        refine lv_lload hx hb d_Mo_crash_51 (lv_at hl 0 rfl) ?_
        refine lv_ldc2 (v := 2) hx hb hown (hts _ (List.mem_cons_of_mem _ gw_1052)) d_Mo_crash_53 ?_
        refine lv_aload_n hx hb d_Mo_crash_56 rfl (lv_at hl 2 rfl) ?_
        refine g_get hx hb hts (fun w h => List.mem_cons_of_mem _ (in_Mo w h)) hown hK hP hx0 (gce_Mo hx0.1) rfl 14 (by decide) (hts _ (List.mem_cons_of_mem _ gw_821)) rfl d_Mo_crash_57 ?_
        refine lv_iload hx hb d_Mo_crash_60 (lv_at hl 3 rfl) ?_
        obtain ⟨hin, hw⟩ := hw
        refine g_iaload hx hb hK hP (gis_Mo_sizes hY hx0) hin d_Mo_crash_62 ?_
        refine lv_aload_n hx hb d_Mo_crash_63 rfl (lv_at hl 2 rfl) ?_
        refine g_get hx hb hts (fun w h => List.mem_cons_of_mem _ (in_Mo w h)) hown hK hP hx0 (gce_Mo hx0.1) rfl 16 (by decide) (hts _ (List.mem_cons_of_mem _ gw_823)) rfl d_Mo_crash_64 ?_
        refine lv_iload hx hb d_Mo_crash_67 (lv_at hl 3 rfl) ?_
        obtain ⟨hin, hw⟩ := hw
        refine g_iaload hx hb hK hP (gis_Mo_lows hY hx0) hin d_Mo_crash_69 ?_
        refine lv_isub hx hb d_Mo_crash_70 ?_
        refine lv_i2l hx hb d_Mo_crash_71 rfl ?_
        refine lv_lmul hx hb d_Mo_crash_72 ?_
        refine lv_lconst (v := 1) hx hb d_Mo_crash_73 (by decide) ?_
        refine lv_ladd hx hb d_Mo_crash_74 ?_
        obtain ⟨hne, hw⟩ := hw
        refine lv_lrem hx hb d_Mo_crash_75 hne ?_
        refine lv_l2i hx hb d_Mo_crash_76 rfl ?_
        refine lv_iadd hx hb d_Mo_crash_77 ?_
        exact mw_Mo_crash_78 C0 ih x0 v3_24 x5 (1 + ((v6_25 - v6_25 / (((2 : Int64) * (((S.1 (grf x0 14) x5.toNatClampNeg) - (S.1 (grf x0 16) x5.toNatClampNeg)).toInt64)) + (1 : Int64)) * (((2 : Int64) * (((S.1 (grf x0 14) x5.toNatClampNeg) - (S.1 (grf x0 16) x5.toNatClampNeg)).toInt64)) + (1 : Int64))).toInt32)) S H locs ls hx0 hw hP hS (lv_sub hl [2, 1, 3] rfl)
      · replace hw := hw.2 c26
        refine lv_iconst (v := 0) hx hb d_Mo_crash_46 (by decide) ?_
        refine lv_goto (tgt := 78) hx hb d_Mo_crash_47 (by decide) ?_
        exact mw_Mo_crash_78 C0 ih x0 v3_24 x5 0 S H locs ls hx0 hw hP hS (lv_sub hl [2, 1, 3] rfl)
set_option maxHeartbeats 4000000 in
set_option maxRecDepth 100000 in
theorem mw_Mo_crash {p : Program} {l : Launch} {e : Env} {s : State} {m : MethodId} {args : Array Value} {below : List Frame} {meth : Method} {c : Code} {Y : gY} {Q : Int32 → gS → Prop} (C : gCx p s m args meth c Y "LogDiskModel" c_Mo_crash 9 (Option.some Jvm.ClassFile.FieldType.int) w_Mo_crash) : ∀ (x0 : gI) (x1 : Int64)  (S : gS) (H : Heap) (locs : List Loc) (ls : Array Slot), gis Y 10 x0 → wp_Mo_crash (gLn Y) Q x0 x1 S → gWd Y S H → va_S (gA Y s.heap.size) s.heap H locs → lv_has ls 9 [(0, .ref (gad Y x0)), (1, .long x1)] → W p l e (gRm 4 91) s m args below meth c H locs 0 0 (MQ below (va_Qi Q (gB Y) (gA Y s.heap.size)) args s 0 0 (gA Y s.heap.size)) (F0 m 0 ls []) := by
  have C0 := C
  obtain ⟨hx, hb, hml, hown, hts, hr, hlocks, hK, hY, hSt⟩ := C
  intro x0 x1 S H locs ls hx0 hw hP hS hl
  unfold wp_Mo_crash at hw
  refine lv_aload_n hx hb d_Mo_crash_0 rfl (lv_at hl 0 rfl) ?_
  refine lv_iconst (v := 0) hx hb d_Mo_crash_1 (by decide) ?_
  refine g_put (ty := .int) (v := .int 0) (S' := gset S x0 0 0) hx hb hts (fun w h => List.mem_cons_of_mem _ (in_Mo w h)) ty_Mo tyok_Mo nm_Mo hown hK hY.1 hP hS hx0 (gce_Mo hx0.1) rfl 0 (by decide) (hts _ (List.mem_cons_of_mem _ gw_807)) rfl (by decide +kernel) rfl rfl (Nat.le_of_ble_eq_true rfl) (gp_Mo_thrown hx0.1) gce_gset d_Mo_crash_2 (fun H locs hP hS => ?_)
  obtain ⟨S1, eS1⟩ : ∃ z, z = gset S x0 0 0 := ⟨_, rfl⟩
  rw [← eS1] at hP
  replace hw := hw S1 eS1
  refine lv_lload_n hx hb d_Mo_crash_5 rfl (lv_at hl 1 rfl) ?_
  refine lv_lstore_n (lv' := [(3, .long x1), (0, .ref (gad Y x0)), (1, .long x1)]) hx hb d_Mo_crash_6 rfl hl (by decide) rfl (fun ls hl => ?_)
  refine lv_iconst (v := 0) hx hb d_Mo_crash_7 (by decide) ?_
  refine lv_istore (lv' := [(5, .int 0), (3, .long x1), (0, .ref (gad Y x0)), (1, .long x1)]) hx hb d_Mo_crash_8 hl (by decide) rfl (fun ls hl => ?_)
  obtain ⟨n, hw⟩ := hw
  exact mw_Mo_crash_10 C0 n x0 x1 0 S1 H locs ls hx0 hw hP hS (lv_sub hl [2, 1, 0] rfl)
set_option maxHeartbeats 4000000 in
set_option maxRecDepth 100000 in
theorem k_Mo_crash (l : Launch) (Y : gY) (hY : gOK Y) (sz : Nat) (x0 : gI) (x1 : Int64)  (hx0 : gis Y 10 x0) (S : gS) (Q : Int32 → gS → Prop) : Met l y_Mo_crash w_Mo_crash (gRm 4 91) (gPre Y [.ref (gad Y x0), .long x1] S sz (wp_Mo_crash (gLn Y) Q x0 x1 S)) (va_Qi Q (gB Y) (gA Y sz)) 0 0 (gA Y sz) := by
  refine Met.ofW (cc := c_Mo_crash) (maxL := 9) (ret := (Option.some Jvm.ClassFile.FieldType.int)) (by decide) rfl ?_
  intro p e s m args below meth c s₁ B hml hv
  obtain ⟨rfl, hsz, hP, hK, hSt, hw⟩ := hv
  subst hsz
  have hts := atoms_spec (ws := w_Mo_crash) B.pre
  have hl := lv_entry ([.ref (gad Y x0), .long x1]) (n := 9) (Nat.le_of_ble_eq_true rfl)
  rw [lg_entry_eq]
  generalize (lg_sl ([.ref (gad Y x0), .long x1]) ++ List.replicate (9 - (lg_sl ([.ref (gad Y x0), .long x1])).length) Slot.unset).toArray = ls at hl ⊢
  exact mw_Mo_crash ⟨B.exec, B.bytes, hml, findClass_of_methodNamed B.named, hts, B.returns, B.notSynchronized, hK, hY, hSt⟩ x0 x1 S s.heap [] ls hx0 hw hP va_S.rf hl

def wp_Mo_state (Ln : gI → Nat) (Q : Int32 → gS → Prop) (x0 : gI) (x1 : Int32)  (S : gS) : Prop :=
  ∀ S1 : gS, S1 = gset S x0 0 0 → (wp_Mo_within Ln (fun r3 S2 => ((¬ r3 = 0) → (((5 ≤ x1) → (((8 ≤ x1) → (((¬ x1 = 8) → (((¬ x1 = 9) → (Q (S2.1 x0 33) S2)) ∧ ((x1 = 9) → (wp_Mo_pagesUsed Ln (fun r10 S9 => Q r10 S9) x0 S2)))) ∧ ((x1 = 8) → (Q (S2.1 x0 30) S2)))) ∧ ((¬ 8 ≤ x1) → (((¬ x1 = 5) → (((¬ x1 = 6) → ((((S2.1 x0 29) = 0) → (Q 0 S2)) ∧ ((¬ (S2.1 x0 29) = 0) → (Q 1 S2)))) ∧ ((x1 = 6) → (Q (S2.1 x0 27) S2)))) ∧ ((x1 = 5) → (((0 ≤ (S2.1 x0 26)) → (vp_in (330 * (S2.1 x0 26)) (Ln (grf x0 12)) ∧ (vp_in (S2.1 (grf x0 12) (330 * (S2.1 x0 26)).toNatClampNeg) (Ln (grf x0 9)) ∧ (Q (S2.1 (grf x0 9) (S2.1 (grf x0 12) (330 * (S2.1 x0 26)).toNatClampNeg).toNatClampNeg) S2)))) ∧ ((¬ 0 ≤ (S2.1 x0 26)) → (Q 0 S2)))))))) ∧ ((¬ 5 ≤ x1) → (((¬ x1 = 0) → (((¬ x1 = 1) → (((¬ x1 = 2) → (((¬ x1 = 3) → (Q (S2.1 x0 25) S2)) ∧ ((x1 = 3) → (Q (S2.1 x0 24) S2)))) ∧ ((x1 = 2) → (Q (S2.1 x0 23) S2)))) ∧ ((x1 = 1) → (Q (S2.1 x0 20) S2)))) ∧ ((x1 = 0) → (Q (S2.1 x0 19) S2)))))) ∧ ((r3 = 0) → (wp_Mo_fail Ln (fun r20 S19 => Q r20 S19) x0 1 S2))) x1 0 10 S1)
set_option maxHeartbeats 4000000 in
set_option maxRecDepth 100000 in
theorem mw_Mo_state {p : Program} {l : Launch} {e : Env} {s : State} {m : MethodId} {args : Array Value} {below : List Frame} {meth : Method} {c : Code} {Y : gY} {Q : Int32 → gS → Prop} (C : gCx p s m args meth c Y "LogDiskModel" c_Mo_state 2 (Option.some Jvm.ClassFile.FieldType.int) w_Mo_state) : ∀ (x0 : gI) (x1 : Int32)  (S : gS) (H : Heap) (locs : List Loc) (ls : Array Slot), gis Y 10 x0 → wp_Mo_state (gLn Y) Q x0 x1 S → gWd Y S H → va_S (gA Y s.heap.size) s.heap H locs → lv_has ls 2 [(0, .ref (gad Y x0)), (1, .int x1)] → W p l e (gRm 2 42) s m args below meth c H locs 0 0 (MQ below (va_Qi Q (gB Y) (gA Y s.heap.size)) args s 0 0 (gA Y s.heap.size)) (F0 m 0 ls []) := by
  have C0 := C
  obtain ⟨hx, hb, hml, hown, hts, hr, hlocks, hK, hY, hSt⟩ := C
  intro x0 x1 S H locs ls hx0 hw hP hS hl
  unfold wp_Mo_state at hw
  refine lv_aload_n hx hb d_Mo_state_0 rfl (lv_at hl 0 rfl) ?_
  refine lv_iconst (v := 0) hx hb d_Mo_state_1 (by decide) ?_
  refine g_put (ty := .int) (v := .int 0) (S' := gset S x0 0 0) hx hb hts (fun w h => List.mem_cons_of_mem _ (in_Mo w h)) ty_Mo tyok_Mo nm_Mo hown hK hY.1 hP hS hx0 (gce_Mo hx0.1) rfl 0 (by decide) (hts _ (List.mem_cons_of_mem _ gw_807)) rfl (by decide +kernel) rfl rfl (Nat.le_of_ble_eq_true rfl) (gp_Mo_thrown hx0.1) gce_gset d_Mo_state_2 (fun H locs hP hS => ?_)
  obtain ⟨S1, eS1⟩ : ∃ z, z = gset S x0 0 0 := ⟨_, rfl⟩
  rw [← eS1] at hP
  replace hw := hw S1 eS1
  refine lv_iload_n hx hb d_Mo_state_5 rfl (lv_at hl 1 rfl) ?_
  refine lv_iconst (v := 0) hx hb d_Mo_state_6 (by decide) ?_
  refine lv_bipush (v := 10) hx hb d_Mo_state_7 (by decide) ?_
  refine g_calli (va_runS (As := [.int x1, .int 0, .int 10]) (rest := []) ⟨hx, hb, hml, hown, hts⟩ (k_Mo_within l Y hY H.size x1 0 10 S1 _) (va_cwS 3 hts (gG_S gw_922 gw_923 gw_12 gw_924) rfl rfl rfl (by decide +kernel) ⟨Nat.le_of_ble_eq_true rfl, Nat.le_of_ble_eq_true rfl⟩) ⟨gPre_blind, g_pre hK hSt hS hP hw⟩ rfl rfl hl.1 rfl (lv_room (Nat.le_of_ble_eq_true rfl)) d_Mo_state_9 ⟨Nat.zero_le _, Nat.zero_le _⟩) hS (fun r3 S2 H locs hw hP hS => ?_)
  refine lv_if_ne (tgt := 21) hx hb d_Mo_state_12 (by decide) (fun c4 => ?_) (fun c4 => ?_)
  · replace hw := hw.1 c4
    refine lv_iload_n hx hb d_Mo_state_21 rfl (lv_at hl 1 rfl) ?_
    refine lv_iconst (v := 5) hx hb d_Mo_state_22 (by decide) ?_
    refine lv_icmp_ge (tgt := 78) hx hb d_Mo_state_23 (by decide) (fun c5 => ?_) (fun c5 => ?_)
    · replace hw := hw.1 c5
      refine lv_iload_n hx hb d_Mo_state_78 rfl (lv_at hl 1 rfl) ?_
      refine lv_bipush (v := 8) hx hb d_Mo_state_79 (by decide) ?_
      refine lv_icmp_ge (tgt := 147) hx hb d_Mo_state_81 (by decide) (fun c6 => ?_) (fun c6 => ?_)
      · replace hw := hw.1 c6
        refine lv_iload_n hx hb d_Mo_state_147 rfl (lv_at hl 1 rfl) ?_
        refine lv_bipush (v := 8) hx hb d_Mo_state_148 (by decide) ?_
        refine lv_icmp_ne (tgt := 160) hx hb d_Mo_state_150 (by decide) (fun c7 => ?_) (fun c7 => ?_)
        · replace hw := hw.1 c7
          refine lv_iload_n hx hb d_Mo_state_160 rfl (lv_at hl 1 rfl) ?_
          refine lv_bipush (v := 9) hx hb d_Mo_state_161 (by decide) ?_
          refine lv_icmp_ne (tgt := 173) hx hb d_Mo_state_163 (by decide) (fun c8 => ?_) (fun c8 => ?_)
          · replace hw := hw.1 c8
            refine lv_aload_n hx hb d_Mo_state_173 rfl (lv_at hl 0 rfl) ?_
            refine g_get hx hb hts (fun w h => List.mem_cons_of_mem _ (in_Mo w h)) hown hK hP hx0 (gce_Mo hx0.1) rfl 33 (by decide) (hts _ (List.mem_cons_of_mem _ gw_840)) rfl d_Mo_state_174 ?_
            exact W.iret (v := (S2.1 x0 33)) hx hb hr (fun t ht hW => ⟨⟨(S2.1 x0 33), S2, rfl, hw, by rw [ht]; exact hP, va_K.moved hW.alike hK⟩, hS.F ht⟩) hS.2.2 d_Mo_state_177
          · replace hw := hw.2 c8
            refine lv_aload_n hx hb d_Mo_state_166 rfl (lv_at hl 0 rfl) ?_
            refine g_calli (va_runV (As := []) (rest := []) ⟨hx, hb, hml, hown, hts⟩ (k_Mo_pagesUsed l Y hY H.size x0 hx0 S2 _) (cwV 0 hts (gG_V gw_942 gw_944 gs_23 gw_12 gw_945) rfl rfl rfl (by decide +kernel) ⟨Nat.le_of_ble_eq_true rfl, Nat.le_of_ble_eq_true rfl⟩) ⟨gPre_blind, g_recv hK hP hx0 (gce_Mo hx0.1) rfl, g_pre hK hSt hS hP hw⟩ rfl rfl hl.1 rfl (lv_room (Nat.le_of_ble_eq_true rfl)) d_Mo_state_167 ⟨Nat.zero_le _, Nat.zero_le _⟩) hS (fun r10 S9 H locs hw hP hS => ?_)
            refine lv_goto (tgt := 177) hx hb d_Mo_state_170 (by decide) ?_
            exact W.iret (v := r10) hx hb hr (fun t ht hW => ⟨⟨r10, S9, rfl, hw, by rw [ht]; exact hP, va_K.moved hW.alike hK⟩, hS.F ht⟩) hS.2.2 d_Mo_state_177
        · replace hw := hw.2 c7
          refine lv_aload_n hx hb d_Mo_state_153 rfl (lv_at hl 0 rfl) ?_
          refine g_get hx hb hts (fun w h => List.mem_cons_of_mem _ (in_Mo w h)) hown hK hP hx0 (gce_Mo hx0.1) rfl 30 (by decide) (hts _ (List.mem_cons_of_mem _ gw_837)) rfl d_Mo_state_154 ?_
          refine lv_goto (tgt := 177) hx hb d_Mo_state_157 (by decide) ?_
          exact W.iret (v := (S2.1 x0 30)) hx hb hr (fun t ht hW => ⟨⟨(S2.1 x0 30), S2, rfl, hw, by rw [ht]; exact hP, va_K.moved hW.alike hK⟩, hS.F ht⟩) hS.2.2 d_Mo_state_177
      · replace hw := hw.2 c6
        refine lv_iload_n hx hb d_Mo_state_84 rfl (lv_at hl 1 rfl) ?_
        refine lv_iconst (v := 5) hx hb d_Mo_state_85 (by decide) ?_
        refine lv_icmp_ne (tgt := 121) hx hb d_Mo_state_86 (by decide) (fun c11 => ?_) (fun c11 => ?_)
        · replace hw := hw.1 c11
          refine lv_iload_n hx hb d_Mo_state_121 rfl (lv_at hl 1 rfl) ?_
          refine lv_bipush (v := 6) hx hb d_Mo_state_122 (by decide) ?_
          refine lv_icmp_ne (tgt := 134) hx hb d_Mo_state_124 (by decide) (fun c12 => ?_) (fun c12 => ?_)
          · replace hw := hw.1 c12
            refine lv_aload_n hx hb d_Mo_state_134 rfl (lv_at hl 0 rfl) ?_
            refine g_get hx hb hts (fun w h => List.mem_cons_of_mem _ (in_Mo w h)) hown hK hP hx0 (gce_Mo hx0.1) rfl 29 (by decide) (hts _ (List.mem_cons_of_mem _ gw_836)) rfl d_Mo_state_135 ?_
            refine lv_if_eq (tgt := 145) hx hb d_Mo_state_138 (by decide) (fun c13 => ?_) (fun c13 => ?_)
            · replace hw := hw.1 c13
              refine lv_iconst (v := 0) hx hb d_Mo_state_145 (by decide) ?_
              exact W.iret (v := 0) hx hb hr (fun t ht hW => ⟨⟨0, S2, rfl, hw, by rw [ht]; exact hP, va_K.moved hW.alike hK⟩, hS.F ht⟩) hS.2.2 d_Mo_state_146
            · replace hw := hw.2 c13
              refine lv_iconst (v := 1) hx hb d_Mo_state_141 (by decide) ?_
              refine lv_goto (tgt := 146) hx hb d_Mo_state_142 (by decide) ?_
              exact W.iret (v := 1) hx hb hr (fun t ht hW => ⟨⟨1, S2, rfl, hw, by rw [ht]; exact hP, va_K.moved hW.alike hK⟩, hS.F ht⟩) hS.2.2 d_Mo_state_146
          · replace hw := hw.2 c12
            refine lv_aload_n hx hb d_Mo_state_127 rfl (lv_at hl 0 rfl) ?_
            refine g_get hx hb hts (fun w h => List.mem_cons_of_mem _ (in_Mo w h)) hown hK hP hx0 (gce_Mo hx0.1) rfl 27 (by decide) (hts _ (List.mem_cons_of_mem _ gw_834)) rfl d_Mo_state_128 ?_
            refine lv_goto (tgt := 146) hx hb d_Mo_state_131 (by decide) ?_
            exact W.iret (v := (S2.1 x0 27)) hx hb hr (fun t ht hW => ⟨⟨(S2.1 x0 27), S2, rfl, hw, by rw [ht]; exact hP, va_K.moved hW.alike hK⟩, hS.F ht⟩) hS.2.2 d_Mo_state_146
        · replace hw := hw.2 c11
          refine lv_aload_n hx hb d_Mo_state_89 rfl (lv_at hl 0 rfl) ?_
          refine g_get hx hb hts (fun w h => List.mem_cons_of_mem _ (in_Mo w h)) hown hK hP hx0 (gce_Mo hx0.1) rfl 26 (by decide) (hts _ (List.mem_cons_of_mem _ gw_833)) rfl d_Mo_state_90 ?_
          refine lv_if_ge (tgt := 100) hx hb d_Mo_state_93 (by decide) (fun c14 => ?_) (fun c14 => ?_)
          · replace hw := hw.1 c14
            refine lv_aload_n hx hb d_Mo_state_100 rfl (lv_at hl 0 rfl) ?_
            refine g_get hx hb hts (fun w h => List.mem_cons_of_mem _ (in_Mo w h)) hown hK hP hx0 (gce_Mo hx0.1) rfl 9 (by decide) (hts _ (List.mem_cons_of_mem _ gw_816)) rfl d_Mo_state_101 ?_
            refine lv_aload_n hx hb d_Mo_state_104 rfl (lv_at hl 0 rfl) ?_
            refine g_get hx hb hts (fun w h => List.mem_cons_of_mem _ (in_Mo w h)) hown hK hP hx0 (gce_Mo hx0.1) rfl 12 (by decide) (hts _ (List.mem_cons_of_mem _ gw_819)) rfl d_Mo_state_105 ?_
            refine lv_sipush (v := 330) hx hb d_Mo_state_108 (by decide) ?_
            refine lv_aload_n hx hb d_Mo_state_111 rfl (lv_at hl 0 rfl) ?_
            refine g_get hx hb hts (fun w h => List.mem_cons_of_mem _ (in_Mo w h)) hown hK hP hx0 (gce_Mo hx0.1) rfl 26 (by decide) (hts _ (List.mem_cons_of_mem _ gw_833)) rfl d_Mo_state_112 ?_
            refine lv_imul hx hb d_Mo_state_115 ?_
            obtain ⟨hin, hw⟩ := hw
            refine g_iaload hx hb hK hP (gis_Mo_rows hY hx0) hin d_Mo_state_116 ?_
            obtain ⟨hin, hw⟩ := hw
            refine g_iaload hx hb hK hP (gis_Mo_lengths hY hx0) hin d_Mo_state_117 ?_
            refine lv_goto (tgt := 146) hx hb d_Mo_state_118 (by decide) ?_
            exact W.iret (v := (S2.1 (grf x0 9) (S2.1 (grf x0 12) (330 * (S2.1 x0 26)).toNatClampNeg).toNatClampNeg)) hx hb hr (fun t ht hW => ⟨⟨(S2.1 (grf x0 9) (S2.1 (grf x0 12) (330 * (S2.1 x0 26)).toNatClampNeg).toNatClampNeg), S2, rfl, hw, by rw [ht]; exact hP, va_K.moved hW.alike hK⟩, hS.F ht⟩) hS.2.2 d_Mo_state_146
          · replace hw := hw.2 c14
            refine lv_iconst (v := 0) hx hb d_Mo_state_96 (by decide) ?_
            refine lv_goto (tgt := 146) hx hb d_Mo_state_97 (by decide) ?_
            exact W.iret (v := 0) hx hb hr (fun t ht hW => ⟨⟨0, S2, rfl, hw, by rw [ht]; exact hP, va_K.moved hW.alike hK⟩, hS.F ht⟩) hS.2.2 d_Mo_state_146
    · replace hw := hw.2 c5
      refine lv_iload_n hx hb d_Mo_state_26 rfl (lv_at hl 1 rfl) ?_
      refine lv_if_ne (tgt := 37) hx hb d_Mo_state_27 (by decide) (fun c15 => ?_) (fun c15 => ?_)
      · replace hw := hw.1 c15
        refine lv_iload_n hx hb d_Mo_state_37 rfl (lv_at hl 1 rfl) ?_
        refine lv_iconst (v := 1) hx hb d_Mo_state_38 (by decide) ?_
        refine lv_icmp_ne (tgt := 49) hx hb d_Mo_state_39 (by decide) (fun c16 => ?_) (fun c16 => ?_)
        · replace hw := hw.1 c16
          refine lv_iload_n hx hb d_Mo_state_49 rfl (lv_at hl 1 rfl) ?_
          refine lv_iconst (v := 2) hx hb d_Mo_state_50 (by decide) ?_
          refine lv_icmp_ne (tgt := 61) hx hb d_Mo_state_51 (by decide) (fun c17 => ?_) (fun c17 => ?_)
          · replace hw := hw.1 c17
            refine lv_iload_n hx hb d_Mo_state_61 rfl (lv_at hl 1 rfl) ?_
            refine lv_iconst (v := 3) hx hb d_Mo_state_62 (by decide) ?_
            refine lv_icmp_ne (tgt := 73) hx hb d_Mo_state_63 (by decide) (fun c18 => ?_) (fun c18 => ?_)
            · replace hw := hw.1 c18
              refine lv_aload_n hx hb d_Mo_state_73 rfl (lv_at hl 0 rfl) ?_
              refine g_get hx hb hts (fun w h => List.mem_cons_of_mem _ (in_Mo w h)) hown hK hP hx0 (gce_Mo hx0.1) rfl 25 (by decide) (hts _ (List.mem_cons_of_mem _ gw_832)) rfl d_Mo_state_74 ?_
              exact W.iret (v := (S2.1 x0 25)) hx hb hr (fun t ht hW => ⟨⟨(S2.1 x0 25), S2, rfl, hw, by rw [ht]; exact hP, va_K.moved hW.alike hK⟩, hS.F ht⟩) hS.2.2 d_Mo_state_77
            · replace hw := hw.2 c18
              refine lv_aload_n hx hb d_Mo_state_66 rfl (lv_at hl 0 rfl) ?_
              refine g_get hx hb hts (fun w h => List.mem_cons_of_mem _ (in_Mo w h)) hown hK hP hx0 (gce_Mo hx0.1) rfl 24 (by decide) (hts _ (List.mem_cons_of_mem _ gw_831)) rfl d_Mo_state_67 ?_
              refine lv_goto (tgt := 77) hx hb d_Mo_state_70 (by decide) ?_
              exact W.iret (v := (S2.1 x0 24)) hx hb hr (fun t ht hW => ⟨⟨(S2.1 x0 24), S2, rfl, hw, by rw [ht]; exact hP, va_K.moved hW.alike hK⟩, hS.F ht⟩) hS.2.2 d_Mo_state_77
          · replace hw := hw.2 c17
            refine lv_aload_n hx hb d_Mo_state_54 rfl (lv_at hl 0 rfl) ?_
            refine g_get hx hb hts (fun w h => List.mem_cons_of_mem _ (in_Mo w h)) hown hK hP hx0 (gce_Mo hx0.1) rfl 23 (by decide) (hts _ (List.mem_cons_of_mem _ gw_830)) rfl d_Mo_state_55 ?_
            refine lv_goto (tgt := 77) hx hb d_Mo_state_58 (by decide) ?_
            exact W.iret (v := (S2.1 x0 23)) hx hb hr (fun t ht hW => ⟨⟨(S2.1 x0 23), S2, rfl, hw, by rw [ht]; exact hP, va_K.moved hW.alike hK⟩, hS.F ht⟩) hS.2.2 d_Mo_state_77
        · replace hw := hw.2 c16
          refine lv_aload_n hx hb d_Mo_state_42 rfl (lv_at hl 0 rfl) ?_
          refine g_get hx hb hts (fun w h => List.mem_cons_of_mem _ (in_Mo w h)) hown hK hP hx0 (gce_Mo hx0.1) rfl 20 (by decide) (hts _ (List.mem_cons_of_mem _ gw_827)) rfl d_Mo_state_43 ?_
          refine lv_goto (tgt := 77) hx hb d_Mo_state_46 (by decide) ?_
          exact W.iret (v := (S2.1 x0 20)) hx hb hr (fun t ht hW => ⟨⟨(S2.1 x0 20), S2, rfl, hw, by rw [ht]; exact hP, va_K.moved hW.alike hK⟩, hS.F ht⟩) hS.2.2 d_Mo_state_77
      · replace hw := hw.2 c15
        refine lv_aload_n hx hb d_Mo_state_30 rfl (lv_at hl 0 rfl) ?_
        refine g_get hx hb hts (fun w h => List.mem_cons_of_mem _ (in_Mo w h)) hown hK hP hx0 (gce_Mo hx0.1) rfl 19 (by decide) (hts _ (List.mem_cons_of_mem _ gw_826)) rfl d_Mo_state_31 ?_
        refine lv_goto (tgt := 77) hx hb d_Mo_state_34 (by decide) ?_
        exact W.iret (v := (S2.1 x0 19)) hx hb hr (fun t ht hW => ⟨⟨(S2.1 x0 19), S2, rfl, hw, by rw [ht]; exact hP, va_K.moved hW.alike hK⟩, hS.F ht⟩) hS.2.2 d_Mo_state_77
  · replace hw := hw.2 c4
    refine lv_aload_n hx hb d_Mo_state_15 rfl (lv_at hl 0 rfl) ?_
    refine lv_iconst (v := 1) hx hb d_Mo_state_16 (by decide) ?_
    refine g_calli (va_runV (As := [.int 1]) (rest := []) ⟨hx, hb, hml, hown, hts⟩ (k_Mo_fail l Y hY H.size x0 1 hx0 S2 _) (cwV 1 hts (gG_V gw_925 gw_927 gs_21 gw_12 gw_928) rfl rfl rfl (by decide +kernel) ⟨Nat.le_of_ble_eq_true rfl, Nat.le_of_ble_eq_true rfl⟩) ⟨gPre_blind, g_recv hK hP hx0 (gce_Mo hx0.1) rfl, g_pre hK hSt hS hP hw⟩ rfl rfl hl.1 rfl (lv_room (Nat.le_of_ble_eq_true rfl)) d_Mo_state_17 ⟨Nat.zero_le _, Nat.zero_le _⟩) hS (fun r20 S19 H locs hw hP hS => ?_)
    exact W.iret (v := r20) hx hb hr (fun t ht hW => ⟨⟨r20, S19, rfl, hw, by rw [ht]; exact hP, va_K.moved hW.alike hK⟩, hS.F ht⟩) hS.2.2 d_Mo_state_20
set_option maxHeartbeats 4000000 in
set_option maxRecDepth 100000 in
theorem k_Mo_state (l : Launch) (Y : gY) (hY : gOK Y) (sz : Nat) (x0 : gI) (x1 : Int32)  (hx0 : gis Y 10 x0) (S : gS) (Q : Int32 → gS → Prop) : Met l y_Mo_state w_Mo_state (gRm 2 42) (gPre Y [.ref (gad Y x0), .int x1] S sz (wp_Mo_state (gLn Y) Q x0 x1 S)) (va_Qi Q (gB Y) (gA Y sz)) 0 0 (gA Y sz) := by
  refine Met.ofW (cc := c_Mo_state) (maxL := 2) (ret := (Option.some Jvm.ClassFile.FieldType.int)) (by decide) rfl ?_
  intro p e s m args below meth c s₁ B hml hv
  obtain ⟨rfl, hsz, hP, hK, hSt, hw⟩ := hv
  subst hsz
  have hts := atoms_spec (ws := w_Mo_state) B.pre
  have hl := lv_entry ([.ref (gad Y x0), .int x1]) (n := 2) (Nat.le_of_ble_eq_true rfl)
  rw [lg_entry_eq]
  generalize (lg_sl ([.ref (gad Y x0), .int x1]) ++ List.replicate (2 - (lg_sl ([.ref (gad Y x0), .int x1])).length) Slot.unset).toArray = ls at hl ⊢
  exact mw_Mo_state ⟨B.exec, B.bytes, hml, findClass_of_methodNamed B.named, hts, B.returns, B.notSynchronized, hK, hY, hSt⟩ x0 x1 S s.heap [] ls hx0 hw hP va_S.rf hl

def wp_Mo_fileOf_36 (Ln : gI → Nat) (K4 : gI → Int32 → Int32 → Int32 → gS → Prop) (Q : Int32 → gS → Prop) (x0 : gI) (x1 : Int32) (x3 : Int32) (y0 : Int32) (S : gS) : Prop :=
  ∀ v3_5 : Int32, v3_5 = x3 + 1 → (K4 x0 x1 y0 v3_5 S)
def wp_Mo_fileOf_4 (Ln : gI → Nat) (Q : Int32 → gS → Prop) : Nat → gI → Int32 → Int32 → Int32 → gS → Prop
  | 0, _, _, _, _, _ => False
  | n4 + 1, x0, x1, x2, x3, S => (((S.1 x0 30) ≤ x3) → (Q x2 S)) ∧ ((¬ (S.1 x0 30) ≤ x3) → (vp_in x3 (Ln (grf x0 31)) ∧ (wp_Mo_placeIn Ln (fun r3 S2 => ((r3 < 0) → (wp_Mo_fileOf_36 Ln (fun z0 z1 z2 z3 zS => wp_Mo_fileOf_4 Ln Q n4 z0 z1 z2 z3 zS) Q x0 x1 x3 x2 S2)) ∧ ((¬ r3 < 0) → (vp_in x3 (Ln (grf x0 31)) ∧ (wp_Mo_fileOf_36 Ln (fun z0 z1 z2 z3 zS => wp_Mo_fileOf_4 Ln Q n4 z0 z1 z2 z3 zS) Q x0 x1 x3 (S2.1 (grf x0 31) x3.toNatClampNeg) S2)))) x0 (S.1 (grf x0 31) x3.toNatClampNeg) x1 S)))
def wp_Mo_fileOf (Ln : gI → Nat) (Q : Int32 → gS → Prop) (x0 : gI) (x1 : Int32)  (S : gS) : Prop :=
  ∃ n4 : Nat, wp_Mo_fileOf_4 Ln Q n4 x0 x1 (-1 : Int32) 0 S
set_option maxHeartbeats 4000000 in
set_option maxRecDepth 100000 in
theorem mw_Mo_fileOf_36 {p : Program} {l : Launch} {e : Env} {s : State} {m : MethodId} {args : Array Value} {below : List Frame} {meth : Method} {c : Code} {Y : gY} {Q : Int32 → gS → Prop} {K4 : gI → Int32 → Int32 → Int32 → gS → Prop} (C : gCx p s m args meth c Y "LogDiskModel" c_Mo_fileOf 4 (Option.some Jvm.ClassFile.FieldType.int) w_Mo_fileOf) (hK4 : ∀ (x0 : gI) (x1 : Int32) (x2 : Int32) (x3 : Int32)  (S : gS) (H : Heap) (locs : List Loc) (ls : Array Slot), gis Y 10 x0 → K4 x0 x1 x2 x3 S → gWd Y S H → va_S (gA Y s.heap.size) s.heap H locs → lv_has ls 4 [(0, .ref (gad Y x0)), (1, .int x1), (2, .int x2), (3, .int x3)] → W p l e (gRm 3 66) s m args below meth c H locs 0 0 (MQ below (va_Qi Q (gB Y) (gA Y s.heap.size)) args s 0 0 (gA Y s.heap.size)) (F0 m 4 ls [])) : ∀ (x0 : gI) (x1 : Int32) (x3 : Int32) (y0 : Int32) (S : gS) (H : Heap) (locs : List Loc) (ls : Array Slot), gis Y 10 x0 → wp_Mo_fileOf_36 (gLn Y) K4 Q x0 x1 x3 y0 S → gWd Y S H → va_S (gA Y s.heap.size) s.heap H locs → lv_has ls 4 [(0, .ref (gad Y x0)), (1, .int x1), (3, .int x3)] → W p l e (gRm 3 66) s m args below meth c H locs 0 0 (MQ below (va_Qi Q (gB Y) (gA Y s.heap.size)) args s 0 0 (gA Y s.heap.size)) (F0 m 36 ls [.int y0]) := by
  have C0 := C
  obtain ⟨hx, hb, hml, hown, hts, hr, hlocks, hK, hY, hSt⟩ := C
  intro x0 x1 x3 y0 S H locs ls hx0 hw hP hS hl
  unfold wp_Mo_fileOf_36 at hw
  refine lv_istore_n (lv' := [(2, .int y0), (0, .ref (gad Y x0)), (1, .int x1), (3, .int x3)]) hx hb d_Mo_fileOf_36 rfl hl (by decide) rfl (fun ls hl => ?_)
  obtain ⟨v3_5, ev3_5⟩ : ∃ y : Int32, y = x3 + 1 := ⟨_, rfl⟩
  replace hw := hw v3_5 ev3_5
  refine lv_iinc (v := v3_5) (lv' := [(3, .int v3_5), (2, .int y0), (0, .ref (gad Y x0)), (1, .int x1)]) hx hb d_Mo_fileOf_37 hl (k := 3) rfl (by rw [ev3_5]; rfl) (by decide) rfl (fun ls hl => ?_)
  refine lv_goto (tgt := 4) hx hb d_Mo_fileOf_40 (by decide) ?_
  exact hK4 x0 x1 y0 v3_5 S H locs ls hx0 hw hP hS (lv_sub hl [2, 3, 1, 0] rfl)
set_option maxHeartbeats 4000000 in
set_option maxRecDepth 100000 in
theorem mw_Mo_fileOf_4 {p : Program} {l : Launch} {e : Env} {s : State} {m : MethodId} {args : Array Value} {below : List Frame} {meth : Method} {c : Code} {Y : gY} {Q : Int32 → gS → Prop} (C : gCx p s m args meth c Y "LogDiskModel" c_Mo_fileOf 4 (Option.some Jvm.ClassFile.FieldType.int) w_Mo_fileOf) : ∀ (n : Nat), ∀ (x0 : gI) (x1 : Int32) (x2 : Int32) (x3 : Int32)  (S : gS) (H : Heap) (locs : List Loc) (ls : Array Slot), gis Y 10 x0 → wp_Mo_fileOf_4 (gLn Y) Q n x0 x1 x2 x3 S → gWd Y S H → va_S (gA Y s.heap.size) s.heap H locs → lv_has ls 4 [(0, .ref (gad Y x0)), (1, .int x1), (2, .int x2), (3, .int x3)] → W p l e (gRm 3 66) s m args below meth c H locs 0 0 (MQ below (va_Qi Q (gB Y) (gA Y s.heap.size)) args s 0 0 (gA Y s.heap.size)) (F0 m 4 ls []) := by
  have C0 := C
  obtain ⟨hx, hb, hml, hown, hts, hr, hlocks, hK, hY, hSt⟩ := C
  intro n
  induction n with
  | zero =>
    intro x0 x1 x2 x3 S H locs ls hx0 hw
    exact False.elim hw
  | succ n ih =>
    intro x0 x1 x2 x3 S H locs ls hx0 hw hP hS hl
    unfold wp_Mo_fileOf_4 at hw
    refine lv_iload_n hx hb d_Mo_fileOf_4 rfl (lv_at hl 3 rfl) ?_
    refine lv_aload_n hx hb d_Mo_fileOf_5 rfl (lv_at hl 0 rfl) ?_
    refine g_get hx hb hts (fun w h => List.mem_cons_of_mem _ (in_Mo w h)) hown hK hP hx0 (gce_Mo hx0.1) rfl 30 (by decide) (hts _ (List.mem_cons_of_mem _ gw_837)) rfl d_Mo_fileOf_6 ?_
    refine lv_icmp_ge (tgt := 43) hx hb d_Mo_fileOf_9 (by decide) (fun c1 => ?_) (fun c1 => ?_)
    · replace hw := hw.1 c1
      refine lv_iload_n hx hb d_Mo_fileOf_43 rfl (lv_at hl 2 rfl) ?_
      exact W.iret (v := x2) hx hb hr (fun t ht hW => ⟨⟨x2, S, rfl, hw, by rw [ht]; exact hP, va_K.moved hW.alike hK⟩, hS.F ht⟩) hS.2.2 d_Mo_fileOf_44
    · replace hw := hw.2 c1
      refine lv_aload_n hx hb d_Mo_fileOf_12 rfl (lv_at hl 0 rfl) ?_
      refine lv_aload_n hx hb d_Mo_fileOf_13 rfl (lv_at hl 0 rfl) ?_
      refine g_get hx hb hts (fun w h => List.mem_cons_of_mem _ (in_Mo w h)) hown hK hP hx0 (gce_Mo hx0.1) rfl 31 (by decide) (hts _ (List.mem_cons_of_mem _ gw_838)) rfl d_Mo_fileOf_14 ?_
      refine lv_iload_n hx hb d_Mo_fileOf_17 rfl (lv_at hl 3 rfl) ?_
      obtain ⟨hin, hw⟩ := hw
      refine g_iaload hx hb hK hP (gis_Mo_order hY hx0) hin d_Mo_fileOf_18 ?_
      refine lv_iload_n hx hb d_Mo_fileOf_19 rfl (lv_at hl 1 rfl) ?_
      refine g_calli (va_runV (As := [.int (S.1 (grf x0 31) x3.toNatClampNeg), .int x1]) (rest := []) ⟨hx, hb, hml, hown, hts⟩ (k_Mo_placeIn l Y hY H.size x0 (S.1 (grf x0 31) x3.toNatClampNeg) x1 hx0 S _) (cwV 2 hts (gG_V gw_1005 gw_1007 gs_36 gw_12 gw_1008) rfl rfl rfl (by decide +kernel) ⟨Nat.le_of_ble_eq_true rfl, Nat.le_of_ble_eq_true rfl⟩) ⟨gPre_blind, g_recv hK hP hx0 (gce_Mo hx0.1) rfl, g_pre hK hSt hS hP hw⟩ rfl rfl hl.1 rfl (lv_room (Nat.le_of_ble_eq_true rfl)) d_Mo_fileOf_20 ⟨Nat.zero_le _, Nat.zero_le _⟩) hS (fun r3 S2 H locs hw hP hS => ?_)
      refine lv_if_lt (tgt := 35) hx hb d_Mo_fileOf_23 (by decide) (fun c4 => ?_) (fun c4 => ?_)
      · replace hw := hw.1 c4
        refine lv_iload_n hx hb d_Mo_fileOf_35 rfl (lv_at hl 2 rfl) ?_
        exact mw_Mo_fileOf_36 C0 ih x0 x1 x3 x2 S2 H locs ls hx0 hw hP hS (lv_sub hl [0, 1, 3] rfl)
      · replace hw := hw.2 c4
        refine lv_aload_n hx hb d_Mo_fileOf_26 rfl (lv_at hl 0 rfl) ?_
        refine g_get hx hb hts (fun w h => List.mem_cons_of_mem _ (in_Mo w h)) hown hK hP hx0 (gce_Mo hx0.1) rfl 31 (by decide) (hts _ (List.mem_cons_of_mem _ gw_838)) rfl d_Mo_fileOf_27 ?_
        refine lv_iload_n hx hb d_Mo_fileOf_30 rfl (lv_at hl 3 rfl) ?_
        obtain ⟨hin, hw⟩ := hw
        refine g_iaload hx hb hK hP (gis_Mo_order hY hx0) hin d_Mo_fileOf_31 ?_
        refine lv_goto (tgt := 36) hx hb d_Mo_fileOf_32 (by decide) ?_
        exact mw_Mo_fileOf_36 C0 ih x0 x1 x3 (S2.1 (grf x0 31) x3.toNatClampNeg) S2 H locs ls hx0 hw hP hS (lv_sub hl [0, 1, 3] rfl)
set_option maxHeartbeats 4000000 in
set_option maxRecDepth 100000 in
theorem mw_Mo_fileOf {p : Program} {l : Launch} {e : Env} {s : State} {m : MethodId} {args : Array Value} {below : List Frame} {meth : Method} {c : Code} {Y : gY} {Q : Int32 → gS → Prop} (C : gCx p s m args meth c Y "LogDiskModel" c_Mo_fileOf 4 (Option.some Jvm.ClassFile.FieldType.int) w_Mo_fileOf) : ∀ (x0 : gI) (x1 : Int32)  (S : gS) (H : Heap) (locs : List Loc) (ls : Array Slot), gis Y 10 x0 → wp_Mo_fileOf (gLn Y) Q x0 x1 S → gWd Y S H → va_S (gA Y s.heap.size) s.heap H locs → lv_has ls 4 [(0, .ref (gad Y x0)), (1, .int x1)] → W p l e (gRm 3 66) s m args below meth c H locs 0 0 (MQ below (va_Qi Q (gB Y) (gA Y s.heap.size)) args s 0 0 (gA Y s.heap.size)) (F0 m 0 ls []) := by
  have C0 := C
  obtain ⟨hx, hb, hml, hown, hts, hr, hlocks, hK, hY, hSt⟩ := C
  intro x0 x1 S H locs ls hx0 hw hP hS hl
  unfold wp_Mo_fileOf at hw
  refine lv_iconst (v := (-1 : Int32)) hx hb d_Mo_fileOf_0 (by decide) ?_
  refine lv_istore_n (lv' := [(2, .int (-1 : Int32)), (0, .ref (gad Y x0)), (1, .int x1)]) hx hb d_Mo_fileOf_1 rfl hl (by decide) rfl (fun ls hl => ?_)
  refine lv_iconst (v := 0) hx hb d_Mo_fileOf_2 (by decide) ?_
  refine lv_istore_n (lv' := [(3, .int 0), (2, .int (-1 : Int32)), (0, .ref (gad Y x0)), (1, .int x1)]) hx hb d_Mo_fileOf_3 rfl hl (by decide) rfl (fun ls hl => ?_)
  obtain ⟨n, hw⟩ := hw
  exact mw_Mo_fileOf_4 C0 n x0 x1 (-1 : Int32) 0 S H locs ls hx0 hw hP hS (lv_sub hl [2, 3, 1, 0] rfl)
set_option maxHeartbeats 4000000 in
set_option maxRecDepth 100000 in
theorem k_Mo_fileOf (l : Launch) (Y : gY) (hY : gOK Y) (sz : Nat) (x0 : gI) (x1 : Int32)  (hx0 : gis Y 10 x0) (S : gS) (Q : Int32 → gS → Prop) : Met l y_Mo_fileOf w_Mo_fileOf (gRm 3 66) (gPre Y [.ref (gad Y x0), .int x1] S sz (wp_Mo_fileOf (gLn Y) Q x0 x1 S)) (va_Qi Q (gB Y) (gA Y sz)) 0 0 (gA Y sz) := by
  refine Met.ofW (cc := c_Mo_fileOf) (maxL := 4) (ret := (Option.some Jvm.ClassFile.FieldType.int)) (by decide) rfl ?_
  intro p e s m args below meth c s₁ B hml hv
  obtain ⟨rfl, hsz, hP, hK, hSt, hw⟩ := hv
  subst hsz
  have hts := atoms_spec (ws := w_Mo_fileOf) B.pre
  have hl := lv_entry ([.ref (gad Y x0), .int x1]) (n := 4) (Nat.le_of_ble_eq_true rfl)
  rw [lg_entry_eq]
  generalize (lg_sl ([.ref (gad Y x0), .int x1]) ++ List.replicate (4 - (lg_sl ([.ref (gad Y x0), .int x1])).length) Slot.unset).toArray = ls at hl ⊢
  exact mw_Mo_fileOf ⟨B.exec, B.bytes, hml, findClass_of_methodNamed B.named, hts, B.returns, B.notSynchronized, hK, hY, hSt⟩ x0 x1 S s.heap [] ls hx0 hw hP va_S.rf hl

def wp_Mo_entry_41 (Ln : gI → Nat) (Q : Int32 → gS → Prop) (x0 : gI)  (S : gS) : Prop :=
  wp_Mo_fail Ln (fun r6 S5 => Q r6 S5) x0 1 S
def wp_Mo_entry_35 (Ln : gI → Nat) (Q : Int32 → gS → Prop) (x0 : gI) (x1 : Int32) (x2 : Int32) (y0 : Int32) (y1 : Int32) (y2 : Int32) (S : gS) : Prop :=
  wp_Mo_within Ln (fun r9 S8 => ((¬ r9 = 0) → (((¬ x2 = 0) → (vp_in ((x1 - (S8.1 x0 23)) - 1) (Ln (grf x0 32)) ∧ (∀ v3_12 : Int32, v3_12 = S8.1 (grf x0 32) ((x1 - (S8.1 x0 23)) - 1).toNatClampNeg → (((3 ≤ x2) → (wp_Mo_fileOf Ln (fun r15 S14 => ((¬ x2 = 3) → (wp_Mo_placeIn Ln (fun r18 S17 => Q r18 S17) x0 r15 v3_12 S14)) ∧ ((x2 = 3) → (Q r15 S14))) x0 v3_12 S8)) ∧ ((¬ 3 ≤ x2) → (((¬ x2 = 1) → (vp_in v3_12 (Ln (grf x0 9)) ∧ (Q (S8.1 (grf x0 9) v3_12.toNatClampNeg) S8))) ∧ ((x2 = 1) → (vp_in v3_12 (Ln (grf x0 7)) ∧ (Q (S8.1 (grf x0 7) v3_12.toNatClampNeg) S8))))))))) ∧ ((x2 = 0) → (wp_Mo_termOf Ln (fun r21 S20 => Q r21 S20) x0 x1 S8)))) ∧ ((r9 = 0) → (wp_Mo_entry_41 Ln Q x0 S8))) y0 y1 y2 S
def wp_Mo_entry (Ln : gI → Nat) (Q : Int32 → gS → Prop) (x0 : gI) (x1 : Int32) (x2 : Int32)  (S : gS) : Prop :=
  ∀ S1 : gS, S1 = gset S x0 0 0 → (wp_Mo_within Ln (fun r3 S2 => ((r3 = 0) → (wp_Mo_entry_41 Ln Q x0 S2)) ∧ ((¬ r3 = 0) → (((¬ x1 = (S2.1 x0 23)) → (wp_Mo_entry_35 Ln Q x0 x1 x2 x2 0 4 S2)) ∧ ((x1 = (S2.1 x0 23)) → (wp_Mo_entry_35 Ln Q x0 x1 x2 x2 0 0 S2))))) x1 (S1.1 x0 23) (S1.1 x0 27) S1)
set_option maxHeartbeats 4000000 in
set_option maxRecDepth 100000 in
theorem mw_Mo_entry_41 {p : Program} {l : Launch} {e : Env} {s : State} {m : MethodId} {args : Array Value} {below : List Frame} {meth : Method} {c : Code} {Y : gY} {Q : Int32 → gS → Prop} (C : gCx p s m args meth c Y "LogDiskModel" c_Mo_entry 5 (Option.some Jvm.ClassFile.FieldType.int) w_Mo_entry) : ∀ (x0 : gI)  (S : gS) (H : Heap) (locs : List Loc) (ls : Array Slot), gis Y 10 x0 → wp_Mo_entry_41 (gLn Y) Q x0 S → gWd Y S H → va_S (gA Y s.heap.size) s.heap H locs → lv_has ls 5 [(0, .ref (gad Y x0))] → W p l e (gRm 4 89) s m args below meth c H locs 0 0 (MQ below (va_Qi Q (gB Y) (gA Y s.heap.size)) args s 0 0 (gA Y s.heap.size)) (F0 m 41 ls []) := by
  have C0 := C
  obtain ⟨hx, hb, hml, hown, hts, hr, hlocks, hK, hY, hSt⟩ := C
  intro x0 S H locs ls hx0 hw hP hS hl
  unfold wp_Mo_entry_41 at hw
  refine lv_aload_n hx hb d_Mo_entry_41 rfl (lv_at hl 0 rfl) ?_
  refine lv_iconst (v := 1) hx hb d_Mo_entry_42 (by decide) ?_
  refine g_calli (va_runV (As := [.int 1]) (rest := []) ⟨hx, hb, hml, hown, hts⟩ (k_Mo_fail l Y hY H.size x0 1 hx0 S _) (cwV 1 hts (gG_V gw_925 gw_927 gs_21 gw_12 gw_928) rfl rfl rfl (by decide +kernel) ⟨Nat.le_of_ble_eq_true rfl, Nat.le_of_ble_eq_true rfl⟩) ⟨gPre_blind, g_recv hK hP hx0 (gce_Mo hx0.1) rfl, g_pre hK hSt hS hP hw⟩ rfl rfl hl.1 rfl (lv_room (Nat.le_of_ble_eq_true rfl)) d_Mo_entry_43 ⟨Nat.zero_le _, Nat.zero_le _⟩) hS (fun r6 S5 H locs hw hP hS => ?_)
  exact W.iret (v := r6) hx hb hr (fun t ht hW => ⟨⟨r6, S5, rfl, hw, by rw [ht]; exact hP, va_K.moved hW.alike hK⟩, hS.F ht⟩) hS.2.2 d_Mo_entry_46
set_option maxHeartbeats 4000000 in
set_option maxRecDepth 100000 in
theorem mw_Mo_entry_35 {p : Program} {l : Launch} {e : Env} {s : State} {m : MethodId} {args : Array Value} {below : List Frame} {meth : Method} {c : Code} {Y : gY} {Q : Int32 → gS → Prop} (C : gCx p s m args meth c Y "LogDiskModel" c_Mo_entry 5 (Option.some Jvm.ClassFile.FieldType.int) w_Mo_entry) : ∀ (x0 : gI) (x1 : Int32) (x2 : Int32) (y0 : Int32) (y1 : Int32) (y2 : Int32) (S : gS) (H : Heap) (locs : List Loc) (ls : Array Slot), gis Y 10 x0 → wp_Mo_entry_35 (gLn Y) Q x0 x1 x2 y0 y1 y2 S → gWd Y S H → va_S (gA Y s.heap.size) s.heap H locs → lv_has ls 5 [(0, .ref (gad Y x0)), (1, .int x1), (2, .int x2)] → W p l e (gRm 4 89) s m args below meth c H locs 0 0 (MQ below (va_Qi Q (gB Y) (gA Y s.heap.size)) args s 0 0 (gA Y s.heap.size)) (F0 m 35 ls [.int y2, .int y1, .int y0]) := by
  have C0 := C
  obtain ⟨hx, hb, hml, hown, hts, hr, hlocks, hK, hY, hSt⟩ := C
  intro x0 x1 x2 y0 y1 y2 S H locs ls hx0 hw hP hS hl
  unfold wp_Mo_entry_35 at hw
  refine g_calli (va_runS (As := [.int y0, .int y1, .int y2]) (rest := []) ⟨hx, hb, hml, hown, hts⟩ (k_Mo_within l Y hY H.size y0 y1 y2 S _) (va_cwS 3 hts (gG_S gw_922 gw_923 gw_12 gw_924) rfl rfl rfl (by decide +kernel) ⟨Nat.le_of_ble_eq_true rfl, Nat.le_of_ble_eq_true rfl⟩) ⟨gPre_blind, g_pre hK hSt hS hP hw⟩ rfl rfl hl.1 rfl (lv_room (Nat.le_of_ble_eq_true rfl)) d_Mo_entry_35 ⟨Nat.zero_le _, Nat.zero_le _⟩) hS (fun r9 S8 H locs hw hP hS => ?_)
  refine lv_if_ne (tgt := 47) hx hb d_Mo_entry_38 (by decide) (fun c10 => ?_) (fun c10 => ?_)
  · replace hw := hw.1 c10
    refine lv_iload_n hx hb d_Mo_entry_47 rfl (lv_at hl 2 rfl) ?_
    refine lv_if_ne (tgt := 57) hx hb d_Mo_entry_48 (by decide) (fun c11 => ?_) (fun c11 => ?_)
    · replace hw := hw.1 c11
      refine lv_aload_n hx hb d_Mo_entry_57 rfl (lv_at hl 0 rfl) ?_
      refine g_get hx hb hts (fun w h => List.mem_cons_of_mem _ (in_Mo w h)) hown hK hP hx0 (gce_Mo hx0.1) rfl 32 (by decide) (hts _ (List.mem_cons_of_mem _ gw_839)) rfl d_Mo_entry_58 ?_
      refine lv_iload_n hx hb d_Mo_entry_61 rfl (lv_at hl 1 rfl) ?_
      refine lv_aload_n hx hb d_Mo_entry_62 rfl (lv_at hl 0 rfl) ?_
      refine g_get hx hb hts (fun w h => List.mem_cons_of_mem _ (in_Mo w h)) hown hK hP hx0 (gce_Mo hx0.1) rfl 23 (by decide) (hts _ (List.mem_cons_of_mem _ gw_830)) rfl d_Mo_entry_63 ?_
      refine lv_isub hx hb d_Mo_entry_66 ?_
      refine lv_iconst (v := 1) hx hb d_Mo_entry_67 (by decide) ?_
      refine lv_isub hx hb d_Mo_entry_68 ?_
      obtain ⟨hin, hw⟩ := hw
      refine g_iaload hx hb hK hP (gis_Mo_entries hY hx0) hin d_Mo_entry_69 ?_
      refine lv_topi (fun v3_12 ev3_12 => ?_)
      replace hw := hw v3_12 ev3_12
      refine lv_istore_n (lv' := [(3, .int v3_12), (0, .ref (gad Y x0)), (1, .int x1), (2, .int x2)]) hx hb d_Mo_entry_70 rfl hl (by decide) rfl (fun ls hl => ?_)
      refine lv_iload_n hx hb d_Mo_entry_71 rfl (lv_at hl 3 rfl) ?_
      refine lv_iconst (v := 3) hx hb d_Mo_entry_72 (by decide) ?_
      refine lv_icmp_ge (tgt := 97) hx hb d_Mo_entry_73 (by decide) (fun c13 => ?_) (fun c13 => ?_)
      · replace hw := hw.1 c13
        refine lv_aload_n hx hb d_Mo_entry_97 rfl (lv_at hl 1 rfl) ?_
        refine lv_iload_n hx hb d_Mo_entry_98 rfl (lv_at hl 0 rfl) ?_
        refine g_calli (va_runV (As := [.int v3_12]) (rest := []) ⟨hx, hb, hml, hown, hts⟩ (k_Mo_fileOf l Y hY H.size x0 v3_12 hx0 S8 _) (cwV 1 hts (gG_V gw_1093 gw_1095 gs_50 gw_12 gw_1096) rfl rfl rfl (by decide +kernel) ⟨Nat.le_of_ble_eq_true rfl, Nat.le_of_ble_eq_true rfl⟩) ⟨gPre_blind, g_recv hK hP hx0 (gce_Mo hx0.1) rfl, g_pre hK hSt hS hP hw⟩ rfl rfl hl.1 rfl (lv_room (Nat.le_of_ble_eq_true rfl)) d_Mo_entry_99 ⟨Nat.zero_le _, Nat.zero_le _⟩) hS (fun r15 S14 H locs hw hP hS => ?_)
        refine lv_istore (lv' := [(4, .int r15), (3, .int v3_12), (0, .ref (gad Y x0)), (1, .int x1), (2, .int x2)]) hx hb d_Mo_entry_102 hl (by decide) rfl (fun ls hl => ?_)
        refine lv_iload_n hx hb d_Mo_entry_104 rfl (lv_at hl 4 rfl) ?_
        refine lv_iconst (v := 3) hx hb d_Mo_entry_105 (by decide) ?_
        refine lv_icmp_ne (tgt := 114) hx hb d_Mo_entry_106 (by decide) (fun c16 => ?_) (fun c16 => ?_)
        · replace hw := hw.1 c16
          refine lv_aload_n hx hb d_Mo_entry_114 rfl (lv_at hl 2 rfl) ?_
          refine lv_iload hx hb d_Mo_entry_115 (lv_at hl 0 rfl) ?_
          refine lv_iload_n hx hb d_Mo_entry_117 rfl (lv_at hl 1 rfl) ?_
          refine g_calli (va_runV (As := [.int r15, .int v3_12]) (rest := []) ⟨hx, hb, hml, hown, hts⟩ (k_Mo_placeIn l Y hY H.size x0 r15 v3_12 hx0 S14 _) (cwV 2 hts (gG_V gw_1005 gw_1007 gs_36 gw_12 gw_1008) rfl rfl rfl (by decide +kernel) ⟨Nat.le_of_ble_eq_true rfl, Nat.le_of_ble_eq_true rfl⟩) ⟨gPre_blind, g_recv hK hP hx0 (gce_Mo hx0.1) rfl, g_pre hK hSt hS hP hw⟩ rfl rfl hl.1 rfl (lv_room (Nat.le_of_ble_eq_true rfl)) d_Mo_entry_118 ⟨Nat.zero_le _, Nat.zero_le _⟩) hS (fun r18 S17 H locs hw hP hS => ?_)
          exact W.iret (v := r18) hx hb hr (fun t ht hW => ⟨⟨r18, S17, rfl, hw, by rw [ht]; exact hP, va_K.moved hW.alike hK⟩, hS.F ht⟩) hS.2.2 d_Mo_entry_121
        · replace hw := hw.2 c16
          refine lv_iload hx hb d_Mo_entry_109 (lv_at hl 0 rfl) ?_
          refine lv_goto (tgt := 121) hx hb d_Mo_entry_111 (by decide) ?_
          exact W.iret (v := r15) hx hb hr (fun t ht hW => ⟨⟨r15, S14, rfl, hw, by rw [ht]; exact hP, va_K.moved hW.alike hK⟩, hS.F ht⟩) hS.2.2 d_Mo_entry_121
      · replace hw := hw.2 c13
        refine lv_iload_n hx hb d_Mo_entry_76 rfl (lv_at hl 3 rfl) ?_
        refine lv_iconst (v := 1) hx hb d_Mo_entry_77 (by decide) ?_
        refine lv_icmp_ne (tgt := 90) hx hb d_Mo_entry_78 (by decide) (fun c19 => ?_) (fun c19 => ?_)
        · replace hw := hw.1 c19
          refine lv_aload_n hx hb d_Mo_entry_90 rfl (lv_at hl 1 rfl) ?_
          refine g_get hx hb hts (fun w h => List.mem_cons_of_mem _ (in_Mo w h)) hown hK hP hx0 (gce_Mo hx0.1) rfl 9 (by decide) (hts _ (List.mem_cons_of_mem _ gw_816)) rfl d_Mo_entry_91 ?_
          refine lv_iload_n hx hb d_Mo_entry_94 rfl (lv_at hl 0 rfl) ?_
          obtain ⟨hin, hw⟩ := hw
          refine g_iaload hx hb hK hP (gis_Mo_lengths hY hx0) hin d_Mo_entry_95 ?_
          exact W.iret (v := (S8.1 (grf x0 9) v3_12.toNatClampNeg)) hx hb hr (fun t ht hW => ⟨⟨(S8.1 (grf x0 9) v3_12.toNatClampNeg), S8, rfl, hw, by rw [ht]; exact hP, va_K.moved hW.alike hK⟩, hS.F ht⟩) hS.2.2 d_Mo_entry_96
        · replace hw := hw.2 c19
          refine lv_aload_n hx hb d_Mo_entry_81 rfl (lv_at hl 1 rfl) ?_
          refine g_get hx hb hts (fun w h => List.mem_cons_of_mem _ (in_Mo w h)) hown hK hP hx0 (gce_Mo hx0.1) rfl 7 (by decide) (hts _ (List.mem_cons_of_mem _ gw_814)) rfl d_Mo_entry_82 ?_
          refine lv_iload_n hx hb d_Mo_entry_85 rfl (lv_at hl 0 rfl) ?_
          obtain ⟨hin, hw⟩ := hw
          refine g_iaload hx hb hK hP (gis_Mo_cs hY hx0) hin d_Mo_entry_86 ?_
          refine lv_goto (tgt := 96) hx hb d_Mo_entry_87 (by decide) ?_
          exact W.iret (v := (S8.1 (grf x0 7) v3_12.toNatClampNeg)) hx hb hr (fun t ht hW => ⟨⟨(S8.1 (grf x0 7) v3_12.toNatClampNeg), S8, rfl, hw, by rw [ht]; exact hP, va_K.moved hW.alike hK⟩, hS.F ht⟩) hS.2.2 d_Mo_entry_96
    · replace hw := hw.2 c11
      refine lv_aload_n hx hb d_Mo_entry_51 rfl (lv_at hl 0 rfl) ?_
      refine lv_iload_n hx hb d_Mo_entry_52 rfl (lv_at hl 1 rfl) ?_
      refine g_calli (va_runV (As := [.int x1]) (rest := []) ⟨hx, hb, hml, hown, hts⟩ (k_Mo_termOf l Y hY H.size x0 x1 hx0 S8 _) (cwV 1 hts (gG_V gw_973 gw_975 gs_29 gw_12 gw_976) rfl rfl rfl (by decide +kernel) ⟨Nat.le_of_ble_eq_true rfl, Nat.le_of_ble_eq_true rfl⟩) ⟨gPre_blind, g_recv hK hP hx0 (gce_Mo hx0.1) rfl, g_pre hK hSt hS hP hw⟩ rfl rfl hl.1 rfl (lv_room (Nat.le_of_ble_eq_true rfl)) d_Mo_entry_53 ⟨Nat.zero_le _, Nat.zero_le _⟩) hS (fun r21 S20 H locs hw hP hS => ?_)
      exact W.iret (v := r21) hx hb hr (fun t ht hW => ⟨⟨r21, S20, rfl, hw, by rw [ht]; exact hP, va_K.moved hW.alike hK⟩, hS.F ht⟩) hS.2.2 d_Mo_entry_56
  · replace hw := hw.2 c10
    exact mw_Mo_entry_41 C0 x0 S8 H locs ls hx0 hw hP hS (lv_sub hl [0] rfl)
set_option maxHeartbeats 4000000 in
set_option maxRecDepth 100000 in
theorem mw_Mo_entry {p : Program} {l : Launch} {e : Env} {s : State} {m : MethodId} {args : Array Value} {below : List Frame} {meth : Method} {c : Code} {Y : gY} {Q : Int32 → gS → Prop} (C : gCx p s m args meth c Y "LogDiskModel" c_Mo_entry 5 (Option.some Jvm.ClassFile.FieldType.int) w_Mo_entry) : ∀ (x0 : gI) (x1 : Int32) (x2 : Int32)  (S : gS) (H : Heap) (locs : List Loc) (ls : Array Slot), gis Y 10 x0 → wp_Mo_entry (gLn Y) Q x0 x1 x2 S → gWd Y S H → va_S (gA Y s.heap.size) s.heap H locs → lv_has ls 5 [(0, .ref (gad Y x0)), (1, .int x1), (2, .int x2)] → W p l e (gRm 4 89) s m args below meth c H locs 0 0 (MQ below (va_Qi Q (gB Y) (gA Y s.heap.size)) args s 0 0 (gA Y s.heap.size)) (F0 m 0 ls []) := by
  have C0 := C
  obtain ⟨hx, hb, hml, hown, hts, hr, hlocks, hK, hY, hSt⟩ := C
  intro x0 x1 x2 S H locs ls hx0 hw hP hS hl
  unfold wp_Mo_entry at hw
  refine lv_aload_n hx hb d_Mo_entry_0 rfl (lv_at hl 0 rfl) ?_
  refine lv_iconst (v := 0) hx hb d_Mo_entry_1 (by decide) ?_
  refine g_put (ty := .int) (v := .int 0) (S' := gset S x0 0 0) hx hb hts (fun w h => List.mem_cons_of_mem _ (in_Mo w h)) ty_Mo tyok_Mo nm_Mo hown hK hY.1 hP hS hx0 (gce_Mo hx0.1) rfl 0 (by decide) (hts _ (List.mem_cons_of_mem _ gw_807)) rfl (by decide +kernel) rfl rfl (Nat.le_of_ble_eq_true rfl) (gp_Mo_thrown hx0.1) gce_gset d_Mo_entry_2 (fun H locs hP hS => ?_)
  obtain ⟨S1, eS1⟩ : ∃ z, z = gset S x0 0 0 := ⟨_, rfl⟩
  rw [← eS1] at hP
  replace hw := hw S1 eS1
  refine lv_iload_n hx hb d_Mo_entry_5 rfl (lv_at hl 1 rfl) ?_
  refine lv_aload_n hx hb d_Mo_entry_6 rfl (lv_at hl 0 rfl) ?_
  refine g_get hx hb hts (fun w h => List.mem_cons_of_mem _ (in_Mo w h)) hown hK hP hx0 (gce_Mo hx0.1) rfl 23 (by decide) (hts _ (List.mem_cons_of_mem _ gw_830)) rfl d_Mo_entry_7 ?_
  refine lv_aload_n hx hb d_Mo_entry_10 rfl (lv_at hl 0 rfl) ?_
  refine g_get hx hb hts (fun w h => List.mem_cons_of_mem _ (in_Mo w h)) hown hK hP hx0 (gce_Mo hx0.1) rfl 27 (by decide) (hts _ (List.mem_cons_of_mem _ gw_834)) rfl d_Mo_entry_11 ?_
  refine g_calli (va_runS (As := [.int x1, .int (S1.1 x0 23), .int (S1.1 x0 27)]) (rest := []) ⟨hx, hb, hml, hown, hts⟩ (k_Mo_within l Y hY H.size x1 (S1.1 x0 23) (S1.1 x0 27) S1 _) (va_cwS 3 hts (gG_S gw_922 gw_923 gw_12 gw_924) rfl rfl rfl (by decide +kernel) ⟨Nat.le_of_ble_eq_true rfl, Nat.le_of_ble_eq_true rfl⟩) ⟨gPre_blind, g_pre hK hSt hS hP hw⟩ rfl rfl hl.1 rfl (lv_room (Nat.le_of_ble_eq_true rfl)) d_Mo_entry_14 ⟨Nat.zero_le _, Nat.zero_le _⟩) hS (fun r3 S2 H locs hw hP hS => ?_)
  refine lv_if_eq (tgt := 41) hx hb d_Mo_entry_17 (by decide) (fun c4 => ?_) (fun c4 => ?_)
  · replace hw := hw.1 c4
    exact mw_Mo_entry_41 C0 x0 S2 H locs ls hx0 hw hP hS (lv_sub hl [0] rfl)
  · replace hw := hw.2 c4
    refine lv_iload_n hx hb d_Mo_entry_20 rfl (lv_at hl 2 rfl) ?_
    refine lv_iconst (v := 0) hx hb d_Mo_entry_21 (by decide) ?_
    refine lv_iload_n hx hb d_Mo_entry_22 rfl (lv_at hl 1 rfl) ?_
    refine lv_aload_n hx hb d_Mo_entry_23 rfl (lv_at hl 0 rfl) ?_
    refine g_get hx hb hts (fun w h => List.mem_cons_of_mem _ (in_Mo w h)) hown hK hP hx0 (gce_Mo hx0.1) rfl 23 (by decide) (hts _ (List.mem_cons_of_mem _ gw_830)) rfl d_Mo_entry_24 ?_
    refine lv_icmp_ne (tgt := 34) hx hb d_Mo_entry_27 (by decide) (fun c7 => ?_) (fun c7 => ?_)
    · replace hw := hw.1 c7
      refine lv_iconst (v := 4) hx hb d_Mo_entry_34 (by decide) ?_
      exact mw_Mo_entry_35 C0 x0 x1 x2 x2 0 4 S2 H locs ls hx0 hw hP hS (lv_sub hl [0, 1, 2] rfl)
    · replace hw := hw.2 c7
      refine lv_iconst (v := 0) hx hb d_Mo_entry_30 (by decide) ?_
      refine lv_goto (tgt := 35) hx hb d_Mo_entry_31 (by decide) ?_
      exact mw_Mo_entry_35 C0 x0 x1 x2 x2 0 0 S2 H locs ls hx0 hw hP hS (lv_sub hl [0, 1, 2] rfl)
set_option maxHeartbeats 4000000 in
set_option maxRecDepth 100000 in
theorem k_Mo_entry (l : Launch) (Y : gY) (hY : gOK Y) (sz : Nat) (x0 : gI) (x1 : Int32) (x2 : Int32)  (hx0 : gis Y 10 x0) (S : gS) (Q : Int32 → gS → Prop) : Met l y_Mo_entry w_Mo_entry (gRm 4 89) (gPre Y [.ref (gad Y x0), .int x1, .int x2] S sz (wp_Mo_entry (gLn Y) Q x0 x1 x2 S)) (va_Qi Q (gB Y) (gA Y sz)) 0 0 (gA Y sz) := by
  refine Met.ofW (cc := c_Mo_entry) (maxL := 5) (ret := (Option.some Jvm.ClassFile.FieldType.int)) (by decide) rfl ?_
  intro p e s m args below meth c s₁ B hml hv
  obtain ⟨rfl, hsz, hP, hK, hSt, hw⟩ := hv
  subst hsz
  have hts := atoms_spec (ws := w_Mo_entry) B.pre
  have hl := lv_entry ([.ref (gad Y x0), .int x1, .int x2]) (n := 5) (Nat.le_of_ble_eq_true rfl)
  rw [lg_entry_eq]
  generalize (lg_sl ([.ref (gad Y x0), .int x1, .int x2]) ++ List.replicate (5 - (lg_sl ([.ref (gad Y x0), .int x1, .int x2])).length) Slot.unset).toArray = ls at hl ⊢
  exact mw_Mo_entry ⟨B.exec, B.bytes, hml, findClass_of_methodNamed B.named, hts, B.returns, B.notSynchronized, hK, hY, hSt⟩ x0 x1 x2 S s.heap [] ls hx0 hw hP va_S.rf hl

def wp_Mo_contentAt (Ln : gI → Nat) (Q : Int32 → gS → Prop) (x0 : gI) (x1 : Int32) (x2 : Int32)  (S : gS) : Prop :=
  ∀ S1 : gS, S1 = gset S x0 0 0 → (wp_Mo_within Ln (fun r3 S2 => ((¬ r3 = 0) → (vp_in ((x1 - (S2.1 x0 23)) - 1) (Ln (grf x0 32)) ∧ (∀ v3_5 : Int32, v3_5 = S2.1 (grf x0 32) ((x1 - (S2.1 x0 23)) - 1).toNatClampNeg → (vp_in v3_5 (Ln (grf x0 9)) ∧ (wp_Mo_within Ln (fun r7 S6 => ((r7 = 0) → (wp_Mo_fail Ln (fun r10 S9 => Q r10 S9) x0 2 S6)) ∧ ((¬ r7 = 0) → (vp_in v3_5 (Ln (grf x0 8)) ∧ (vp_in ((S6.1 (grf x0 8) v3_5.toNatClampNeg) + x2) (Ln (grf x0 10)) ∧ (Q (S6.1 (grf x0 10) ((S6.1 (grf x0 8) v3_5.toNatClampNeg) + x2).toNatClampNeg) S6))))) x2 0 ((S2.1 (grf x0 9) v3_5.toNatClampNeg) - 1) S2))))) ∧ ((r3 = 0) → (wp_Mo_fail Ln (fun r12 S11 => Q r12 S11) x0 1 S2))) x1 ((S1.1 x0 23) + 1) (S1.1 x0 27) S1)
set_option maxHeartbeats 4000000 in
set_option maxRecDepth 100000 in
theorem mw_Mo_contentAt {p : Program} {l : Launch} {e : Env} {s : State} {m : MethodId} {args : Array Value} {below : List Frame} {meth : Method} {c : Code} {Y : gY} {Q : Int32 → gS → Prop} (C : gCx p s m args meth c Y "LogDiskModel" c_Mo_contentAt 4 (Option.some Jvm.ClassFile.FieldType.int) w_Mo_contentAt) : ∀ (x0 : gI) (x1 : Int32) (x2 : Int32)  (S : gS) (H : Heap) (locs : List Loc) (ls : Array Slot), gis Y 10 x0 → wp_Mo_contentAt (gLn Y) Q x0 x1 x2 S → gWd Y S H → va_S (gA Y s.heap.size) s.heap H locs → lv_has ls 4 [(0, .ref (gad Y x0)), (1, .int x1), (2, .int x2)] → W p l e (gRm 1 22) s m args below meth c H locs 0 0 (MQ below (va_Qi Q (gB Y) (gA Y s.heap.size)) args s 0 0 (gA Y s.heap.size)) (F0 m 0 ls []) := by
  have C0 := C
  obtain ⟨hx, hb, hml, hown, hts, hr, hlocks, hK, hY, hSt⟩ := C
  intro x0 x1 x2 S H locs ls hx0 hw hP hS hl
  unfold wp_Mo_contentAt at hw
  refine lv_aload_n hx hb d_Mo_contentAt_0 rfl (lv_at hl 0 rfl) ?_
  refine lv_iconst (v := 0) hx hb d_Mo_contentAt_1 (by decide) ?_
  refine g_put (ty := .int) (v := .int 0) (S' := gset S x0 0 0) hx hb hts (fun w h => List.mem_cons_of_mem _ (in_Mo w h)) ty_Mo tyok_Mo nm_Mo hown hK hY.1 hP hS hx0 (gce_Mo hx0.1) rfl 0 (by decide) (hts _ (List.mem_cons_of_mem _ gw_807)) rfl (by decide +kernel) rfl rfl (Nat.le_of_ble_eq_true rfl) (gp_Mo_thrown hx0.1) gce_gset d_Mo_contentAt_2 (fun H locs hP hS => ?_)
  obtain ⟨S1, eS1⟩ : ∃ z, z = gset S x0 0 0 := ⟨_, rfl⟩
  rw [← eS1] at hP
  replace hw := hw S1 eS1
  refine lv_iload_n hx hb d_Mo_contentAt_5 rfl (lv_at hl 1 rfl) ?_
  refine lv_aload_n hx hb d_Mo_contentAt_6 rfl (lv_at hl 0 rfl) ?_
  refine g_get hx hb hts (fun w h => List.mem_cons_of_mem _ (in_Mo w h)) hown hK hP hx0 (gce_Mo hx0.1) rfl 23 (by decide) (hts _ (List.mem_cons_of_mem _ gw_830)) rfl d_Mo_contentAt_7 ?_
  refine lv_iconst (v := 1) hx hb d_Mo_contentAt_10 (by decide) ?_
  refine lv_iadd hx hb d_Mo_contentAt_11 ?_
  refine lv_aload_n hx hb d_Mo_contentAt_12 rfl (lv_at hl 0 rfl) ?_
  refine g_get hx hb hts (fun w h => List.mem_cons_of_mem _ (in_Mo w h)) hown hK hP hx0 (gce_Mo hx0.1) rfl 27 (by decide) (hts _ (List.mem_cons_of_mem _ gw_834)) rfl d_Mo_contentAt_13 ?_
  refine g_calli (va_runS (As := [.int x1, .int ((S1.1 x0 23) + 1), .int (S1.1 x0 27)]) (rest := []) ⟨hx, hb, hml, hown, hts⟩ (k_Mo_within l Y hY H.size x1 ((S1.1 x0 23) + 1) (S1.1 x0 27) S1 _) (va_cwS 3 hts (gG_S gw_922 gw_923 gw_12 gw_924) rfl rfl rfl (by decide +kernel) ⟨Nat.le_of_ble_eq_true rfl, Nat.le_of_ble_eq_true rfl⟩) ⟨gPre_blind, g_pre hK hSt hS hP hw⟩ rfl rfl hl.1 rfl (lv_room (Nat.le_of_ble_eq_true rfl)) d_Mo_contentAt_16 ⟨Nat.zero_le _, Nat.zero_le _⟩) hS (fun r3 S2 H locs hw hP hS => ?_)
  refine lv_if_ne (tgt := 28) hx hb d_Mo_contentAt_19 (by decide) (fun c4 => ?_) (fun c4 => ?_)
  · replace hw := hw.1 c4
    refine lv_aload_n hx hb d_Mo_contentAt_28 rfl (lv_at hl 0 rfl) ?_
    refine g_get hx hb hts (fun w h => List.mem_cons_of_mem _ (in_Mo w h)) hown hK hP hx0 (gce_Mo hx0.1) rfl 32 (by decide) (hts _ (List.mem_cons_of_mem _ gw_839)) rfl d_Mo_contentAt_29 ?_
    refine lv_iload_n hx hb d_Mo_contentAt_32 rfl (lv_at hl 1 rfl) ?_
    refine lv_aload_n hx hb d_Mo_contentAt_33 rfl (lv_at hl 0 rfl) ?_
    refine g_get hx hb hts (fun w h => List.mem_cons_of_mem _ (in_Mo w h)) hown hK hP hx0 (gce_Mo hx0.1) rfl 23 (by decide) (hts _ (List.mem_cons_of_mem _ gw_830)) rfl d_Mo_contentAt_34 ?_
    refine lv_isub hx hb d_Mo_contentAt_37 ?_
    refine lv_iconst (v := 1) hx hb d_Mo_contentAt_38 (by decide) ?_
    refine lv_isub hx hb d_Mo_contentAt_39 ?_
    obtain ⟨hin, hw⟩ := hw
    refine g_iaload hx hb hK hP (gis_Mo_entries hY hx0) hin d_Mo_contentAt_40 ?_
    refine lv_topi (fun v3_5 ev3_5 => ?_)
    replace hw := hw v3_5 ev3_5
    refine lv_istore_n (lv' := [(3, .int v3_5), (0, .ref (gad Y x0)), (1, .int x1), (2, .int x2)]) hx hb d_Mo_contentAt_41 rfl hl (by decide) rfl (fun ls hl => ?_)
    refine lv_iload_n hx hb d_Mo_contentAt_42 rfl (lv_at hl 3 rfl) ?_
    refine lv_iconst (v := 0) hx hb d_Mo_contentAt_43 (by decide) ?_
    refine lv_aload_n hx hb d_Mo_contentAt_44 rfl (lv_at hl 1 rfl) ?_
    refine g_get hx hb hts (fun w h => List.mem_cons_of_mem _ (in_Mo w h)) hown hK hP hx0 (gce_Mo hx0.1) rfl 9 (by decide) (hts _ (List.mem_cons_of_mem _ gw_816)) rfl d_Mo_contentAt_45 ?_
    refine lv_iload_n hx hb d_Mo_contentAt_48 rfl (lv_at hl 0 rfl) ?_
    obtain ⟨hin, hw⟩ := hw
    refine g_iaload hx hb hK hP (gis_Mo_lengths hY hx0) hin d_Mo_contentAt_49 ?_
    refine lv_iconst (v := 1) hx hb d_Mo_contentAt_50 (by decide) ?_
    refine lv_isub hx hb d_Mo_contentAt_51 ?_
    refine g_calli (va_runS (As := [.int x2, .int 0, .int ((S2.1 (grf x0 9) v3_5.toNatClampNeg) - 1)]) (rest := []) ⟨hx, hb, hml, hown, hts⟩ (k_Mo_within l Y hY H.size x2 0 ((S2.1 (grf x0 9) v3_5.toNatClampNeg) - 1) S2 _) (va_cwS 3 hts (gG_S gw_922 gw_923 gw_12 gw_924) rfl rfl rfl (by decide +kernel) ⟨Nat.le_of_ble_eq_true rfl, Nat.le_of_ble_eq_true rfl⟩) ⟨gPre_blind, g_pre hK hSt hS hP hw⟩ rfl rfl hl.1 rfl (lv_room (Nat.le_of_ble_eq_true rfl)) d_Mo_contentAt_52 ⟨Nat.zero_le _, Nat.zero_le _⟩) hS (fun r7 S6 H locs hw hP hS => ?_)
    refine lv_if_eq (tgt := 74) hx hb d_Mo_contentAt_55 (by decide) (fun c8 => ?_) (fun c8 => ?_)
    · replace hw := hw.1 c8
      refine lv_aload_n hx hb d_Mo_contentAt_74 rfl (lv_at hl 1 rfl) ?_
      refine lv_iconst (v := 2) hx hb d_Mo_contentAt_75 (by decide) ?_
      refine g_calli (va_runV (As := [.int 2]) (rest := []) ⟨hx, hb, hml, hown, hts⟩ (k_Mo_fail l Y hY H.size x0 2 hx0 S6 _) (cwV 1 hts (gG_V gw_925 gw_927 gs_21 gw_12 gw_928) rfl rfl rfl (by decide +kernel) ⟨Nat.le_of_ble_eq_true rfl, Nat.le_of_ble_eq_true rfl⟩) ⟨gPre_blind, g_recv hK hP hx0 (gce_Mo hx0.1) rfl, g_pre hK hSt hS hP hw⟩ rfl rfl hl.1 rfl (lv_room (Nat.le_of_ble_eq_true rfl)) d_Mo_contentAt_76 ⟨Nat.zero_le _, Nat.zero_le _⟩) hS (fun r10 S9 H locs hw hP hS => ?_)
      exact W.iret (v := r10) hx hb hr (fun t ht hW => ⟨⟨r10, S9, rfl, hw, by rw [ht]; exact hP, va_K.moved hW.alike hK⟩, hS.F ht⟩) hS.2.2 d_Mo_contentAt_79
    · replace hw := hw.2 c8
      refine lv_aload_n hx hb d_Mo_contentAt_58 rfl (lv_at hl 1 rfl) ?_
      refine g_get hx hb hts (fun w h => List.mem_cons_of_mem _ (in_Mo w h)) hown hK hP hx0 (gce_Mo hx0.1) rfl 10 (by decide) (hts _ (List.mem_cons_of_mem _ gw_817)) rfl d_Mo_contentAt_59 ?_
      refine lv_aload_n hx hb d_Mo_contentAt_62 rfl (lv_at hl 1 rfl) ?_
      refine g_get hx hb hts (fun w h => List.mem_cons_of_mem _ (in_Mo w h)) hown hK hP hx0 (gce_Mo hx0.1) rfl 8 (by decide) (hts _ (List.mem_cons_of_mem _ gw_815)) rfl d_Mo_contentAt_63 ?_
      refine lv_iload_n hx hb d_Mo_contentAt_66 rfl (lv_at hl 0 rfl) ?_
      obtain ⟨hin, hw⟩ := hw
      refine g_iaload hx hb hK hP (gis_Mo_froms hY hx0) hin d_Mo_contentAt_67 ?_
      refine lv_iload_n hx hb d_Mo_contentAt_68 rfl (lv_at hl 3 rfl) ?_
      refine lv_iadd hx hb d_Mo_contentAt_69 ?_
      obtain ⟨hin, hw⟩ := hw
      refine g_iaload hx hb hK hP (gis_Mo_bytes hY hx0) hin d_Mo_contentAt_70 ?_
      refine lv_goto (tgt := 79) hx hb d_Mo_contentAt_71 (by decide) ?_
      exact W.iret (v := (S6.1 (grf x0 10) ((S6.1 (grf x0 8) v3_5.toNatClampNeg) + x2).toNatClampNeg)) hx hb hr (fun t ht hW => ⟨⟨(S6.1 (grf x0 10) ((S6.1 (grf x0 8) v3_5.toNatClampNeg) + x2).toNatClampNeg), S6, rfl, hw, by rw [ht]; exact hP, va_K.moved hW.alike hK⟩, hS.F ht⟩) hS.2.2 d_Mo_contentAt_79
  · replace hw := hw.2 c4
    refine lv_aload_n hx hb d_Mo_contentAt_22 rfl (lv_at hl 0 rfl) ?_
    refine lv_iconst (v := 1) hx hb d_Mo_contentAt_23 (by decide) ?_
    refine g_calli (va_runV (As := [.int 1]) (rest := []) ⟨hx, hb, hml, hown, hts⟩ (k_Mo_fail l Y hY H.size x0 1 hx0 S2 _) (cwV 1 hts (gG_V gw_925 gw_927 gs_21 gw_12 gw_928) rfl rfl rfl (by decide +kernel) ⟨Nat.le_of_ble_eq_true rfl, Nat.le_of_ble_eq_true rfl⟩) ⟨gPre_blind, g_recv hK hP hx0 (gce_Mo hx0.1) rfl, g_pre hK hSt hS hP hw⟩ rfl rfl hl.1 rfl (lv_room (Nat.le_of_ble_eq_true rfl)) d_Mo_contentAt_24 ⟨Nat.zero_le _, Nat.zero_le _⟩) hS (fun r12 S11 H locs hw hP hS => ?_)
    exact W.iret (v := r12) hx hb hr (fun t ht hW => ⟨⟨r12, S11, rfl, hw, by rw [ht]; exact hP, va_K.moved hW.alike hK⟩, hS.F ht⟩) hS.2.2 d_Mo_contentAt_27
set_option maxHeartbeats 4000000 in
set_option maxRecDepth 100000 in
theorem k_Mo_contentAt (l : Launch) (Y : gY) (hY : gOK Y) (sz : Nat) (x0 : gI) (x1 : Int32) (x2 : Int32)  (hx0 : gis Y 10 x0) (S : gS) (Q : Int32 → gS → Prop) : Met l y_Mo_contentAt w_Mo_contentAt (gRm 1 22) (gPre Y [.ref (gad Y x0), .int x1, .int x2] S sz (wp_Mo_contentAt (gLn Y) Q x0 x1 x2 S)) (va_Qi Q (gB Y) (gA Y sz)) 0 0 (gA Y sz) := by
  refine Met.ofW (cc := c_Mo_contentAt) (maxL := 4) (ret := (Option.some Jvm.ClassFile.FieldType.int)) (by decide) rfl ?_
  intro p e s m args below meth c s₁ B hml hv
  obtain ⟨rfl, hsz, hP, hK, hSt, hw⟩ := hv
  subst hsz
  have hts := atoms_spec (ws := w_Mo_contentAt) B.pre
  have hl := lv_entry ([.ref (gad Y x0), .int x1, .int x2]) (n := 4) (Nat.le_of_ble_eq_true rfl)
  rw [lg_entry_eq]
  generalize (lg_sl ([.ref (gad Y x0), .int x1, .int x2]) ++ List.replicate (4 - (lg_sl ([.ref (gad Y x0), .int x1, .int x2])).length) Slot.unset).toArray = ls at hl ⊢
  exact mw_Mo_contentAt ⟨B.exec, B.bytes, hml, findClass_of_methodNamed B.named, hts, B.returns, B.notSynchronized, hK, hY, hSt⟩ x0 x1 x2 S s.heap [] ls hx0 hw hP va_S.rf hl

def wp_Mo_snapshotAt_40 (Ln : gI → Nat) (Q : Int32 → gS → Prop) (x0 : gI)  (S : gS) : Prop :=
  wp_Mo_fail Ln (fun r4 S3 => Q r4 S3) x0 1 S
def wp_Mo_snapshotAt (Ln : gI → Nat) (Q : Int32 → gS → Prop) (x0 : gI) (x1 : Int32)  (S : gS) : Prop :=
  ∀ S1 : gS, S1 = gset S x0 0 0 → ((((S1.1 x0 26) < 0) → (wp_Mo_snapshotAt_40 Ln Q x0 S1)) ∧ ((¬ (S1.1 x0 26) < 0) → (vp_in (330 * (S1.1 x0 26)) (Ln (grf x0 12)) ∧ (vp_in (S1.1 (grf x0 12) (330 * (S1.1 x0 26)).toNatClampNeg) (Ln (grf x0 9)) ∧ (wp_Mo_within Ln (fun r6 S5 => ((¬ r6 = 0) → (vp_in (330 * (S5.1 x0 26)) (Ln (grf x0 12)) ∧ (vp_in (S5.1 (grf x0 12) (330 * (S5.1 x0 26)).toNatClampNeg) (Ln (grf x0 8)) ∧ (vp_in ((S5.1 (grf x0 8) (S5.1 (grf x0 12) (330 * (S5.1 x0 26)).toNatClampNeg).toNatClampNeg) + x1) (Ln (grf x0 10)) ∧ (Q (S5.1 (grf x0 10) ((S5.1 (grf x0 8) (S5.1 (grf x0 12) (330 * (S5.1 x0 26)).toNatClampNeg).toNatClampNeg) + x1).toNatClampNeg) S5))))) ∧ ((r6 = 0) → (wp_Mo_snapshotAt_40 Ln Q x0 S5))) x1 0 ((S1.1 (grf x0 9) (S1.1 (grf x0 12) (330 * (S1.1 x0 26)).toNatClampNeg).toNatClampNeg) - 1) S1)))))
set_option maxHeartbeats 4000000 in
set_option maxRecDepth 100000 in
theorem mw_Mo_snapshotAt_40 {p : Program} {l : Launch} {e : Env} {s : State} {m : MethodId} {args : Array Value} {below : List Frame} {meth : Method} {c : Code} {Y : gY} {Q : Int32 → gS → Prop} (C : gCx p s m args meth c Y "LogDiskModel" c_Mo_snapshotAt 2 (Option.some Jvm.ClassFile.FieldType.int) w_Mo_snapshotAt) : ∀ (x0 : gI)  (S : gS) (H : Heap) (locs : List Loc) (ls : Array Slot), gis Y 10 x0 → wp_Mo_snapshotAt_40 (gLn Y) Q x0 S → gWd Y S H → va_S (gA Y s.heap.size) s.heap H locs → lv_has ls 2 [(0, .ref (gad Y x0))] → W p l e (gRm 1 22) s m args below meth c H locs 0 0 (MQ below (va_Qi Q (gB Y) (gA Y s.heap.size)) args s 0 0 (gA Y s.heap.size)) (F0 m 40 ls []) := by
  have C0 := C
  obtain ⟨hx, hb, hml, hown, hts, hr, hlocks, hK, hY, hSt⟩ := C
  intro x0 S H locs ls hx0 hw hP hS hl
  unfold wp_Mo_snapshotAt_40 at hw
  refine lv_aload_n hx hb d_Mo_snapshotAt_40 rfl (lv_at hl 0 rfl) ?_
  refine lv_iconst (v := 1) hx hb d_Mo_snapshotAt_41 (by decide) ?_
  refine g_calli (va_runV (As := [.int 1]) (rest := []) ⟨hx, hb, hml, hown, hts⟩ (k_Mo_fail l Y hY H.size x0 1 hx0 S _) (cwV 1 hts (gG_V gw_925 gw_927 gs_21 gw_12 gw_928) rfl rfl rfl (by decide +kernel) ⟨Nat.le_of_ble_eq_true rfl, Nat.le_of_ble_eq_true rfl⟩) ⟨gPre_blind, g_recv hK hP hx0 (gce_Mo hx0.1) rfl, g_pre hK hSt hS hP hw⟩ rfl rfl hl.1 rfl (lv_room (Nat.le_of_ble_eq_true rfl)) d_Mo_snapshotAt_42 ⟨Nat.zero_le _, Nat.zero_le _⟩) hS (fun r4 S3 H locs hw hP hS => ?_)
  exact W.iret (v := r4) hx hb hr (fun t ht hW => ⟨⟨r4, S3, rfl, hw, by rw [ht]; exact hP, va_K.moved hW.alike hK⟩, hS.F ht⟩) hS.2.2 d_Mo_snapshotAt_45
set_option maxHeartbeats 4000000 in
set_option maxRecDepth 100000 in
theorem mw_Mo_snapshotAt {p : Program} {l : Launch} {e : Env} {s : State} {m : MethodId} {args : Array Value} {below : List Frame} {meth : Method} {c : Code} {Y : gY} {Q : Int32 → gS → Prop} (C : gCx p s m args meth c Y "LogDiskModel" c_Mo_snapshotAt 2 (Option.some Jvm.ClassFile.FieldType.int) w_Mo_snapshotAt) : ∀ (x0 : gI) (x1 : Int32)  (S : gS) (H : Heap) (locs : List Loc) (ls : Array Slot), gis Y 10 x0 → wp_Mo_snapshotAt (gLn Y) Q x0 x1 S → gWd Y S H → va_S (gA Y s.heap.size) s.heap H locs → lv_has ls 2 [(0, .ref (gad Y x0)), (1, .int x1)] → W p l e (gRm 1 22) s m args below meth c H locs 0 0 (MQ below (va_Qi Q (gB Y) (gA Y s.heap.size)) args s 0 0 (gA Y s.heap.size)) (F0 m 0 ls []) := by
  have C0 := C
  obtain ⟨hx, hb, hml, hown, hts, hr, hlocks, hK, hY, hSt⟩ := C
  intro x0 x1 S H locs ls hx0 hw hP hS hl
  unfold wp_Mo_snapshotAt at hw
  refine lv_aload_n hx hb d_Mo_snapshotAt_0 rfl (lv_at hl 0 rfl) ?_
  refine lv_iconst (v := 0) hx hb d_Mo_snapshotAt_1 (by decide) ?_
  refine g_put (ty := .int) (v := .int 0) (S' := gset S x0 0 0) hx hb hts (fun w h => List.mem_cons_of_mem _ (in_Mo w h)) ty_Mo tyok_Mo nm_Mo hown hK hY.1 hP hS hx0 (gce_Mo hx0.1) rfl 0 (by decide) (hts _ (List.mem_cons_of_mem _ gw_807)) rfl (by decide +kernel) rfl rfl (Nat.le_of_ble_eq_true rfl) (gp_Mo_thrown hx0.1) gce_gset d_Mo_snapshotAt_2 (fun H locs hP hS => ?_)
  obtain ⟨S1, eS1⟩ : ∃ z, z = gset S x0 0 0 := ⟨_, rfl⟩
  rw [← eS1] at hP
  replace hw := hw S1 eS1
  refine lv_aload_n hx hb d_Mo_snapshotAt_5 rfl (lv_at hl 0 rfl) ?_
  refine g_get hx hb hts (fun w h => List.mem_cons_of_mem _ (in_Mo w h)) hown hK hP hx0 (gce_Mo hx0.1) rfl 26 (by decide) (hts _ (List.mem_cons_of_mem _ gw_833)) rfl d_Mo_snapshotAt_6 ?_
  refine lv_if_lt (tgt := 40) hx hb d_Mo_snapshotAt_9 (by decide) (fun c2 => ?_) (fun c2 => ?_)
  · replace hw := hw.1 c2
    exact mw_Mo_snapshotAt_40 C0 x0 S1 H locs ls hx0 hw hP hS (lv_sub hl [0] rfl)
  · replace hw := hw.2 c2
    refine lv_iload_n hx hb d_Mo_snapshotAt_12 rfl (lv_at hl 1 rfl) ?_
    refine lv_iconst (v := 0) hx hb d_Mo_snapshotAt_13 (by decide) ?_
    refine lv_aload_n hx hb d_Mo_snapshotAt_14 rfl (lv_at hl 0 rfl) ?_
    refine g_get hx hb hts (fun w h => List.mem_cons_of_mem _ (in_Mo w h)) hown hK hP hx0 (gce_Mo hx0.1) rfl 9 (by decide) (hts _ (List.mem_cons_of_mem _ gw_816)) rfl d_Mo_snapshotAt_15 ?_
    refine lv_aload_n hx hb d_Mo_snapshotAt_18 rfl (lv_at hl 0 rfl) ?_
    refine g_get hx hb hts (fun w h => List.mem_cons_of_mem _ (in_Mo w h)) hown hK hP hx0 (gce_Mo hx0.1) rfl 12 (by decide) (hts _ (List.mem_cons_of_mem _ gw_819)) rfl d_Mo_snapshotAt_19 ?_
    refine lv_sipush (v := 330) hx hb d_Mo_snapshotAt_22 (by decide) ?_
    refine lv_aload_n hx hb d_Mo_snapshotAt_25 rfl (lv_at hl 0 rfl) ?_
    refine g_get hx hb hts (fun w h => List.mem_cons_of_mem _ (in_Mo w h)) hown hK hP hx0 (gce_Mo hx0.1) rfl 26 (by decide) (hts _ (List.mem_cons_of_mem _ gw_833)) rfl d_Mo_snapshotAt_26 ?_
    refine lv_imul hx hb d_Mo_snapshotAt_29 ?_
    obtain ⟨hin, hw⟩ := hw
    refine g_iaload hx hb hK hP (gis_Mo_rows hY hx0) hin d_Mo_snapshotAt_30 ?_
    obtain ⟨hin, hw⟩ := hw
    refine g_iaload hx hb hK hP (gis_Mo_lengths hY hx0) hin d_Mo_snapshotAt_31 ?_
    refine lv_iconst (v := 1) hx hb d_Mo_snapshotAt_32 (by decide) ?_
    refine lv_isub hx hb d_Mo_snapshotAt_33 ?_
    refine g_calli (va_runS (As := [.int x1, .int 0, .int ((S1.1 (grf x0 9) (S1.1 (grf x0 12) (330 * (S1.1 x0 26)).toNatClampNeg).toNatClampNeg) - 1)]) (rest := []) ⟨hx, hb, hml, hown, hts⟩ (k_Mo_within l Y hY H.size x1 0 ((S1.1 (grf x0 9) (S1.1 (grf x0 12) (330 * (S1.1 x0 26)).toNatClampNeg).toNatClampNeg) - 1) S1 _) (va_cwS 3 hts (gG_S gw_922 gw_923 gw_12 gw_924) rfl rfl rfl (by decide +kernel) ⟨Nat.le_of_ble_eq_true rfl, Nat.le_of_ble_eq_true rfl⟩) ⟨gPre_blind, g_pre hK hSt hS hP hw⟩ rfl rfl hl.1 rfl (lv_room (Nat.le_of_ble_eq_true rfl)) d_Mo_snapshotAt_34 ⟨Nat.zero_le _, Nat.zero_le _⟩) hS (fun r6 S5 H locs hw hP hS => ?_)
    refine lv_if_ne (tgt := 46) hx hb d_Mo_snapshotAt_37 (by decide) (fun c7 => ?_) (fun c7 => ?_)
    · replace hw := hw.1 c7
      refine lv_aload_n hx hb d_Mo_snapshotAt_46 rfl (lv_at hl 0 rfl) ?_
      refine g_get hx hb hts (fun w h => List.mem_cons_of_mem _ (in_Mo w h)) hown hK hP hx0 (gce_Mo hx0.1) rfl 10 (by decide) (hts _ (List.mem_cons_of_mem _ gw_817)) rfl d_Mo_snapshotAt_47 ?_
      refine lv_aload_n hx hb d_Mo_snapshotAt_50 rfl (lv_at hl 0 rfl) ?_
      refine g_get hx hb hts (fun w h => List.mem_cons_of_mem _ (in_Mo w h)) hown hK hP hx0 (gce_Mo hx0.1) rfl 8 (by decide) (hts _ (List.mem_cons_of_mem _ gw_815)) rfl d_Mo_snapshotAt_51 ?_
      refine lv_aload_n hx hb d_Mo_snapshotAt_54 rfl (lv_at hl 0 rfl) ?_
      refine g_get hx hb hts (fun w h => List.mem_cons_of_mem _ (in_Mo w h)) hown hK hP hx0 (gce_Mo hx0.1) rfl 12 (by decide) (hts _ (List.mem_cons_of_mem _ gw_819)) rfl d_Mo_snapshotAt_55 ?_
      refine lv_sipush (v := 330) hx hb d_Mo_snapshotAt_58 (by decide) ?_
      refine lv_aload_n hx hb d_Mo_snapshotAt_61 rfl (lv_at hl 0 rfl) ?_
      refine g_get hx hb hts (fun w h => List.mem_cons_of_mem _ (in_Mo w h)) hown hK hP hx0 (gce_Mo hx0.1) rfl 26 (by decide) (hts _ (List.mem_cons_of_mem _ gw_833)) rfl d_Mo_snapshotAt_62 ?_
      refine lv_imul hx hb d_Mo_snapshotAt_65 ?_
      obtain ⟨hin, hw⟩ := hw
      refine g_iaload hx hb hK hP (gis_Mo_rows hY hx0) hin d_Mo_snapshotAt_66 ?_
      obtain ⟨hin, hw⟩ := hw
      refine g_iaload hx hb hK hP (gis_Mo_froms hY hx0) hin d_Mo_snapshotAt_67 ?_
      refine lv_iload_n hx hb d_Mo_snapshotAt_68 rfl (lv_at hl 1 rfl) ?_
      refine lv_iadd hx hb d_Mo_snapshotAt_69 ?_
      obtain ⟨hin, hw⟩ := hw
      refine g_iaload hx hb hK hP (gis_Mo_bytes hY hx0) hin d_Mo_snapshotAt_70 ?_
      exact W.iret (v := (S5.1 (grf x0 10) ((S5.1 (grf x0 8) (S5.1 (grf x0 12) (330 * (S5.1 x0 26)).toNatClampNeg).toNatClampNeg) + x1).toNatClampNeg)) hx hb hr (fun t ht hW => ⟨⟨(S5.1 (grf x0 10) ((S5.1 (grf x0 8) (S5.1 (grf x0 12) (330 * (S5.1 x0 26)).toNatClampNeg).toNatClampNeg) + x1).toNatClampNeg), S5, rfl, hw, by rw [ht]; exact hP, va_K.moved hW.alike hK⟩, hS.F ht⟩) hS.2.2 d_Mo_snapshotAt_71
    · replace hw := hw.2 c7
      exact mw_Mo_snapshotAt_40 C0 x0 S5 H locs ls hx0 hw hP hS (lv_sub hl [0] rfl)
set_option maxHeartbeats 4000000 in
set_option maxRecDepth 100000 in
theorem k_Mo_snapshotAt (l : Launch) (Y : gY) (hY : gOK Y) (sz : Nat) (x0 : gI) (x1 : Int32)  (hx0 : gis Y 10 x0) (S : gS) (Q : Int32 → gS → Prop) : Met l y_Mo_snapshotAt w_Mo_snapshotAt (gRm 1 22) (gPre Y [.ref (gad Y x0), .int x1] S sz (wp_Mo_snapshotAt (gLn Y) Q x0 x1 S)) (va_Qi Q (gB Y) (gA Y sz)) 0 0 (gA Y sz) := by
  refine Met.ofW (cc := c_Mo_snapshotAt) (maxL := 2) (ret := (Option.some Jvm.ClassFile.FieldType.int)) (by decide) rfl ?_
  intro p e s m args below meth c s₁ B hml hv
  obtain ⟨rfl, hsz, hP, hK, hSt, hw⟩ := hv
  subst hsz
  have hts := atoms_spec (ws := w_Mo_snapshotAt) B.pre
  have hl := lv_entry ([.ref (gad Y x0), .int x1]) (n := 2) (Nat.le_of_ble_eq_true rfl)
  rw [lg_entry_eq]
  generalize (lg_sl ([.ref (gad Y x0), .int x1]) ++ List.replicate (2 - (lg_sl ([.ref (gad Y x0), .int x1])).length) Slot.unset).toArray = ls at hl ⊢
  exact mw_Mo_snapshotAt ⟨B.exec, B.bytes, hml, findClass_of_methodNamed B.named, hts, B.returns, B.notSynchronized, hK, hY, hSt⟩ x0 x1 S s.heap [] ls hx0 hw hP va_S.rf hl

def wp_Mo_segment_28 (Ln : gI → Nat) (Q : Int32 → gS → Prop) (x0 : gI)  (S : gS) : Prop :=
  wp_Mo_fail Ln (fun r6 S5 => Q r6 S5) x0 1 S
def wp_Mo_segment (Ln : gI → Nat) (Q : Int32 → gS → Prop) (x0 : gI) (x1 : Int32) (x2 : Int32)  (S : gS) : Prop :=
  ∀ S1 : gS, S1 = gset S x0 0 0 → (wp_Mo_within Ln (fun r3 S2 => ((r3 = 0) → (wp_Mo_segment_28 Ln Q x0 S2)) ∧ ((¬ r3 = 0) → (wp_Mo_within Ln (fun r8 S7 => ((¬ r8 = 0) → (((¬ x2 = 0) → (vp_in x1 (Ln (grf x0 31)) ∧ (wp_Mo_firstOf Ln (fun r12 S11 => Q r12 S11) x0 (S7.1 (grf x0 31) x1.toNatClampNeg) S7))) ∧ ((x2 = 0) → (vp_in x1 (Ln (grf x0 31)) ∧ (Q (S7.1 (grf x0 31) x1.toNatClampNeg) S7))))) ∧ ((r8 = 0) → (wp_Mo_segment_28 Ln Q x0 S7))) x2 0 1 S2))) x1 0 ((S1.1 x0 30) - 1) S1)
set_option maxHeartbeats 4000000 in
set_option maxRecDepth 100000 in
theorem mw_Mo_segment_28 {p : Program} {l : Launch} {e : Env} {s : State} {m : MethodId} {args : Array Value} {below : List Frame} {meth : Method} {c : Code} {Y : gY} {Q : Int32 → gS → Prop} (C : gCx p s m args meth c Y "LogDiskModel" c_Mo_segment 3 (Option.some Jvm.ClassFile.FieldType.int) w_Mo_segment) : ∀ (x0 : gI)  (S : gS) (H : Heap) (locs : List Loc) (ls : Array Slot), gis Y 10 x0 → wp_Mo_segment_28 (gLn Y) Q x0 S → gWd Y S H → va_S (gA Y s.heap.size) s.heap H locs → lv_has ls 3 [(0, .ref (gad Y x0))] → W p l e (gRm 1 22) s m args below meth c H locs 0 0 (MQ below (va_Qi Q (gB Y) (gA Y s.heap.size)) args s 0 0 (gA Y s.heap.size)) (F0 m 28 ls []) := by
  have C0 := C
  obtain ⟨hx, hb, hml, hown, hts, hr, hlocks, hK, hY, hSt⟩ := C
  intro x0 S H locs ls hx0 hw hP hS hl
  unfold wp_Mo_segment_28 at hw
  refine lv_aload_n hx hb d_Mo_segment_28 rfl (lv_at hl 0 rfl) ?_
  refine lv_iconst (v := 1) hx hb d_Mo_segment_29 (by decide) ?_
  refine g_calli (va_runV (As := [.int 1]) (rest := []) ⟨hx, hb, hml, hown, hts⟩ (k_Mo_fail l Y hY H.size x0 1 hx0 S _) (cwV 1 hts (gG_V gw_925 gw_927 gs_21 gw_12 gw_928) rfl rfl rfl (by decide +kernel) ⟨Nat.le_of_ble_eq_true rfl, Nat.le_of_ble_eq_true rfl⟩) ⟨gPre_blind, g_recv hK hP hx0 (gce_Mo hx0.1) rfl, g_pre hK hSt hS hP hw⟩ rfl rfl hl.1 rfl (lv_room (Nat.le_of_ble_eq_true rfl)) d_Mo_segment_30 ⟨Nat.zero_le _, Nat.zero_le _⟩) hS (fun r6 S5 H locs hw hP hS => ?_)
  exact W.iret (v := r6) hx hb hr (fun t ht hW => ⟨⟨r6, S5, rfl, hw, by rw [ht]; exact hP, va_K.moved hW.alike hK⟩, hS.F ht⟩) hS.2.2 d_Mo_segment_33
set_option maxHeartbeats 4000000 in
set_option maxRecDepth 100000 in
theorem mw_Mo_segment {p : Program} {l : Launch} {e : Env} {s : State} {m : MethodId} {args : Array Value} {below : List Frame} {meth : Method} {c : Code} {Y : gY} {Q : Int32 → gS → Prop} (C : gCx p s m args meth c Y "LogDiskModel" c_Mo_segment 3 (Option.some Jvm.ClassFile.FieldType.int) w_Mo_segment) : ∀ (x0 : gI) (x1 : Int32) (x2 : Int32)  (S : gS) (H : Heap) (locs : List Loc) (ls : Array Slot), gis Y 10 x0 → wp_Mo_segment (gLn Y) Q x0 x1 x2 S → gWd Y S H → va_S (gA Y s.heap.size) s.heap H locs → lv_has ls 3 [(0, .ref (gad Y x0)), (1, .int x1), (2, .int x2)] → W p l e (gRm 1 22) s m args below meth c H locs 0 0 (MQ below (va_Qi Q (gB Y) (gA Y s.heap.size)) args s 0 0 (gA Y s.heap.size)) (F0 m 0 ls []) := by
  have C0 := C
  obtain ⟨hx, hb, hml, hown, hts, hr, hlocks, hK, hY, hSt⟩ := C
  intro x0 x1 x2 S H locs ls hx0 hw hP hS hl
  unfold wp_Mo_segment at hw
  refine lv_aload_n hx hb d_Mo_segment_0 rfl (lv_at hl 0 rfl) ?_
  refine lv_iconst (v := 0) hx hb d_Mo_segment_1 (by decide) ?_
  refine g_put (ty := .int) (v := .int 0) (S' := gset S x0 0 0) hx hb hts (fun w h => List.mem_cons_of_mem _ (in_Mo w h)) ty_Mo tyok_Mo nm_Mo hown hK hY.1 hP hS hx0 (gce_Mo hx0.1) rfl 0 (by decide) (hts _ (List.mem_cons_of_mem _ gw_807)) rfl (by decide +kernel) rfl rfl (Nat.le_of_ble_eq_true rfl) (gp_Mo_thrown hx0.1) gce_gset d_Mo_segment_2 (fun H locs hP hS => ?_)
  obtain ⟨S1, eS1⟩ : ∃ z, z = gset S x0 0 0 := ⟨_, rfl⟩
  rw [← eS1] at hP
  replace hw := hw S1 eS1
  refine lv_iload_n hx hb d_Mo_segment_5 rfl (lv_at hl 1 rfl) ?_
  refine lv_iconst (v := 0) hx hb d_Mo_segment_6 (by decide) ?_
  refine lv_aload_n hx hb d_Mo_segment_7 rfl (lv_at hl 0 rfl) ?_
  refine g_get hx hb hts (fun w h => List.mem_cons_of_mem _ (in_Mo w h)) hown hK hP hx0 (gce_Mo hx0.1) rfl 30 (by decide) (hts _ (List.mem_cons_of_mem _ gw_837)) rfl d_Mo_segment_8 ?_
  refine lv_iconst (v := 1) hx hb d_Mo_segment_11 (by decide) ?_
  refine lv_isub hx hb d_Mo_segment_12 ?_
  refine g_calli (va_runS (As := [.int x1, .int 0, .int ((S1.1 x0 30) - 1)]) (rest := []) ⟨hx, hb, hml, hown, hts⟩ (k_Mo_within l Y hY H.size x1 0 ((S1.1 x0 30) - 1) S1 _) (va_cwS 3 hts (gG_S gw_922 gw_923 gw_12 gw_924) rfl rfl rfl (by decide +kernel) ⟨Nat.le_of_ble_eq_true rfl, Nat.le_of_ble_eq_true rfl⟩) ⟨gPre_blind, g_pre hK hSt hS hP hw⟩ rfl rfl hl.1 rfl (lv_room (Nat.le_of_ble_eq_true rfl)) d_Mo_segment_13 ⟨Nat.zero_le _, Nat.zero_le _⟩) hS (fun r3 S2 H locs hw hP hS => ?_)
  refine lv_if_eq (tgt := 28) hx hb d_Mo_segment_16 (by decide) (fun c4 => ?_) (fun c4 => ?_)
  · replace hw := hw.1 c4
    exact mw_Mo_segment_28 C0 x0 S2 H locs ls hx0 hw hP hS (lv_sub hl [0] rfl)
  · replace hw := hw.2 c4
    refine lv_iload_n hx hb d_Mo_segment_19 rfl (lv_at hl 2 rfl) ?_
    refine lv_iconst (v := 0) hx hb d_Mo_segment_20 (by decide) ?_
    refine lv_iconst (v := 1) hx hb d_Mo_segment_21 (by decide) ?_
    refine g_calli (va_runS (As := [.int x2, .int 0, .int 1]) (rest := []) ⟨hx, hb, hml, hown, hts⟩ (k_Mo_within l Y hY H.size x2 0 1 S2 _) (va_cwS 3 hts (gG_S gw_922 gw_923 gw_12 gw_924) rfl rfl rfl (by decide +kernel) ⟨Nat.le_of_ble_eq_true rfl, Nat.le_of_ble_eq_true rfl⟩) ⟨gPre_blind, g_pre hK hSt hS hP hw⟩ rfl rfl hl.1 rfl (lv_room (Nat.le_of_ble_eq_true rfl)) d_Mo_segment_22 ⟨Nat.zero_le _, Nat.zero_le _⟩) hS (fun r8 S7 H locs hw hP hS => ?_)
    refine lv_if_ne (tgt := 34) hx hb d_Mo_segment_25 (by decide) (fun c9 => ?_) (fun c9 => ?_)
    · replace hw := hw.1 c9
      refine lv_iload_n hx hb d_Mo_segment_34 rfl (lv_at hl 2 rfl) ?_
      refine lv_if_ne (tgt := 47) hx hb d_Mo_segment_35 (by decide) (fun c10 => ?_) (fun c10 => ?_)
      · replace hw := hw.1 c10
        refine lv_aload_n hx hb d_Mo_segment_47 rfl (lv_at hl 0 rfl) ?_
        refine lv_aload_n hx hb d_Mo_segment_48 rfl (lv_at hl 0 rfl) ?_
        refine g_get hx hb hts (fun w h => List.mem_cons_of_mem _ (in_Mo w h)) hown hK hP hx0 (gce_Mo hx0.1) rfl 31 (by decide) (hts _ (List.mem_cons_of_mem _ gw_838)) rfl d_Mo_segment_49 ?_
        refine lv_iload_n hx hb d_Mo_segment_52 rfl (lv_at hl 1 rfl) ?_
        obtain ⟨hin, hw⟩ := hw
        refine g_iaload hx hb hK hP (gis_Mo_order hY hx0) hin d_Mo_segment_53 ?_
        refine g_calli (va_runV (As := [.int (S7.1 (grf x0 31) x1.toNatClampNeg)]) (rest := []) ⟨hx, hb, hml, hown, hts⟩ (k_Mo_firstOf l Y hY H.size x0 (S7.1 (grf x0 31) x1.toNatClampNeg) hx0 S7 _) (cwV 1 hts (gG_V gw_997 gw_999 gs_34 gw_12 gw_1000) rfl rfl rfl (by decide +kernel) ⟨Nat.le_of_ble_eq_true rfl, Nat.le_of_ble_eq_true rfl⟩) ⟨gPre_blind, g_recv hK hP hx0 (gce_Mo hx0.1) rfl, g_pre hK hSt hS hP hw⟩ rfl rfl hl.1 rfl (lv_room (Nat.le_of_ble_eq_true rfl)) d_Mo_segment_54 ⟨Nat.zero_le _, Nat.zero_le _⟩) hS (fun r12 S11 H locs hw hP hS => ?_)
        exact W.iret (v := r12) hx hb hr (fun t ht hW => ⟨⟨r12, S11, rfl, hw, by rw [ht]; exact hP, va_K.moved hW.alike hK⟩, hS.F ht⟩) hS.2.2 d_Mo_segment_57
      · replace hw := hw.2 c10
        refine lv_aload_n hx hb d_Mo_segment_38 rfl (lv_at hl 0 rfl) ?_
        refine g_get hx hb hts (fun w h => List.mem_cons_of_mem _ (in_Mo w h)) hown hK hP hx0 (gce_Mo hx0.1) rfl 31 (by decide) (hts _ (List.mem_cons_of_mem _ gw_838)) rfl d_Mo_segment_39 ?_
        refine lv_iload_n hx hb d_Mo_segment_42 rfl (lv_at hl 1 rfl) ?_
        obtain ⟨hin, hw⟩ := hw
        refine g_iaload hx hb hK hP (gis_Mo_order hY hx0) hin d_Mo_segment_43 ?_
        refine lv_goto (tgt := 57) hx hb d_Mo_segment_44 (by decide) ?_
        exact W.iret (v := (S7.1 (grf x0 31) x1.toNatClampNeg)) hx hb hr (fun t ht hW => ⟨⟨(S7.1 (grf x0 31) x1.toNatClampNeg), S7, rfl, hw, by rw [ht]; exact hP, va_K.moved hW.alike hK⟩, hS.F ht⟩) hS.2.2 d_Mo_segment_57
    · replace hw := hw.2 c9
      exact mw_Mo_segment_28 C0 x0 S7 H locs ls hx0 hw hP hS (lv_sub hl [0] rfl)
set_option maxHeartbeats 4000000 in
set_option maxRecDepth 100000 in
theorem k_Mo_segment (l : Launch) (Y : gY) (hY : gOK Y) (sz : Nat) (x0 : gI) (x1 : Int32) (x2 : Int32)  (hx0 : gis Y 10 x0) (S : gS) (Q : Int32 → gS → Prop) : Met l y_Mo_segment w_Mo_segment (gRm 1 22) (gPre Y [.ref (gad Y x0), .int x1, .int x2] S sz (wp_Mo_segment (gLn Y) Q x0 x1 x2 S)) (va_Qi Q (gB Y) (gA Y sz)) 0 0 (gA Y sz) := by
  refine Met.ofW (cc := c_Mo_segment) (maxL := 3) (ret := (Option.some Jvm.ClassFile.FieldType.int)) (by decide) rfl ?_
  intro p e s m args below meth c s₁ B hml hv
  obtain ⟨rfl, hsz, hP, hK, hSt, hw⟩ := hv
  subst hsz
  have hts := atoms_spec (ws := w_Mo_segment) B.pre
  have hl := lv_entry ([.ref (gad Y x0), .int x1, .int x2]) (n := 3) (Nat.le_of_ble_eq_true rfl)
  rw [lg_entry_eq]
  generalize (lg_sl ([.ref (gad Y x0), .int x1, .int x2]) ++ List.replicate (3 - (lg_sl ([.ref (gad Y x0), .int x1, .int x2])).length) Slot.unset).toArray = ls at hl ⊢
  exact mw_Mo_segment ⟨B.exec, B.bytes, hml, findClass_of_methodNamed B.named, hts, B.returns, B.notSynchronized, hK, hY, hSt⟩ x0 x1 x2 S s.heap [] ls hx0 hw hP va_S.rf hl

def wp_Mo_file_24 (Ln : gI → Nat) (Q : Int32 → gS → Prop) (x0 : gI)  (S : gS) : Prop :=
  wp_Mo_fail Ln (fun r6 S5 => Q r6 S5) x0 1 S
def wp_Mo_file_89 (Ln : gI → Nat) (Q : Int32 → gS → Prop) (y0 : gI) (y1 : Int32) (S : gS) : Prop :=
  vp_in y1 (Ln y0) ∧ ((((S.1 y0 y1.toNatClampNeg) = 0) → (Q 0 S)) ∧ ((¬ (S.1 y0 y1.toNatClampNeg) = 0) → (Q 1 S)))
def wp_Mo_file (Ln : gI → Nat) (Q : Int32 → gS → Prop) (x0 : gI) (x1 : Int32) (x2 : Int32)  (S : gS) : Prop :=
  ∀ S1 : gS, S1 = gset S x0 0 0 → (wp_Mo_within Ln (fun r3 S2 => ((r3 = 0) → (wp_Mo_file_24 Ln Q x0 S2)) ∧ ((¬ r3 = 0) → (wp_Mo_within Ln (fun r8 S7 => ((¬ r8 = 0) → (((3 ≤ x2) → (((¬ x2 = 3) → (wp_Mo_file_89 Ln Q (grf x0 15) (16 + x1) S7)) ∧ ((x2 = 3) → (wp_Mo_file_89 Ln Q (grf x0 15) x1 S7)))) ∧ ((¬ 3 ≤ x2) → (((¬ x2 = 0) → (((¬ x2 = 1) → (vp_in x1 (Ln (grf x0 16)) ∧ (Q (S7.1 (grf x0 16) x1.toNatClampNeg) S7))) ∧ ((x2 = 1) → (vp_in (16 + x1) (Ln (grf x0 14)) ∧ (Q (S7.1 (grf x0 14) (16 + x1).toNatClampNeg) S7))))) ∧ ((x2 = 0) → (vp_in x1 (Ln (grf x0 14)) ∧ (Q (S7.1 (grf x0 14) x1.toNatClampNeg) S7))))))) ∧ ((r8 = 0) → (wp_Mo_file_24 Ln Q x0 S7))) x2 0 4 S2))) x1 0 15 S1)
set_option maxHeartbeats 4000000 in
set_option maxRecDepth 100000 in
theorem mw_Mo_file_24 {p : Program} {l : Launch} {e : Env} {s : State} {m : MethodId} {args : Array Value} {below : List Frame} {meth : Method} {c : Code} {Y : gY} {Q : Int32 → gS → Prop} (C : gCx p s m args meth c Y "LogDiskModel" c_Mo_file 3 (Option.some Jvm.ClassFile.FieldType.int) w_Mo_file) : ∀ (x0 : gI)  (S : gS) (H : Heap) (locs : List Loc) (ls : Array Slot), gis Y 10 x0 → wp_Mo_file_24 (gLn Y) Q x0 S → gWd Y S H → va_S (gA Y s.heap.size) s.heap H locs → lv_has ls 3 [(0, .ref (gad Y x0))] → W p l e (gRm 1 22) s m args below meth c H locs 0 0 (MQ below (va_Qi Q (gB Y) (gA Y s.heap.size)) args s 0 0 (gA Y s.heap.size)) (F0 m 24 ls []) := by
  have C0 := C
  obtain ⟨hx, hb, hml, hown, hts, hr, hlocks, hK, hY, hSt⟩ := C
  intro x0 S H locs ls hx0 hw hP hS hl
  unfold wp_Mo_file_24 at hw
  refine lv_aload_n hx hb d_Mo_file_24 rfl (lv_at hl 0 rfl) ?_
  refine lv_iconst (v := 1) hx hb d_Mo_file_25 (by decide) ?_
  refine g_calli (va_runV (As := [.int 1]) (rest := []) ⟨hx, hb, hml, hown, hts⟩ (k_Mo_fail l Y hY H.size x0 1 hx0 S _) (cwV 1 hts (gG_V gw_925 gw_927 gs_21 gw_12 gw_928) rfl rfl rfl (by decide +kernel) ⟨Nat.le_of_ble_eq_true rfl, Nat.le_of_ble_eq_true rfl⟩) ⟨gPre_blind, g_recv hK hP hx0 (gce_Mo hx0.1) rfl, g_pre hK hSt hS hP hw⟩ rfl rfl hl.1 rfl (lv_room (Nat.le_of_ble_eq_true rfl)) d_Mo_file_26 ⟨Nat.zero_le _, Nat.zero_le _⟩) hS (fun r6 S5 H locs hw hP hS => ?_)
  exact W.iret (v := r6) hx hb hr (fun t ht hW => ⟨⟨r6, S5, rfl, hw, by rw [ht]; exact hP, va_K.moved hW.alike hK⟩, hS.F ht⟩) hS.2.2 d_Mo_file_29
set_option maxHeartbeats 4000000 in
set_option maxRecDepth 100000 in
theorem mw_Mo_file_89 {p : Program} {l : Launch} {e : Env} {s : State} {m : MethodId} {args : Array Value} {below : List Frame} {meth : Method} {c : Code} {Y : gY} {Q : Int32 → gS → Prop} (C : gCx p s m args meth c Y "LogDiskModel" c_Mo_file 3 (Option.some Jvm.ClassFile.FieldType.int) w_Mo_file) : ∀ (y0 : gI) (y1 : Int32) (S : gS) (H : Heap) (locs : List Loc) (ls : Array Slot), gis Y 22 y0 → wp_Mo_file_89 (gLn Y) Q y0 y1 S → gWd Y S H → va_S (gA Y s.heap.size) s.heap H locs → lv_has ls 3 [] → W p l e (gRm 1 22) s m args below meth c H locs 0 0 (MQ below (va_Qi Q (gB Y) (gA Y s.heap.size)) args s 0 0 (gA Y s.heap.size)) (F0 m 89 ls [.int y1, .ref (gad Y y0)]) := by
  have C0 := C
  obtain ⟨hx, hb, hml, hown, hts, hr, hlocks, hK, hY, hSt⟩ := C
  intro y0 y1 S H locs ls hy0 hw hP hS hl
  unfold wp_Mo_file_89 at hw
  obtain ⟨hin, hw⟩ := hw
  refine g_zaload hx hb hK hP hy0 hin d_Mo_file_89 ?_
  refine lv_if_eq (tgt := 97) hx hb d_Mo_file_90 (by decide) (fun c12 => ?_) (fun c12 => ?_)
  · replace hw := hw.1 c12
    refine lv_iconst (v := 0) hx hb d_Mo_file_97 (by decide) ?_
    exact W.iret (v := 0) hx hb hr (fun t ht hW => ⟨⟨0, S, rfl, hw, by rw [ht]; exact hP, va_K.moved hW.alike hK⟩, hS.F ht⟩) hS.2.2 d_Mo_file_98
  · replace hw := hw.2 c12
    refine lv_iconst (v := 1) hx hb d_Mo_file_93 (by decide) ?_
    refine lv_goto (tgt := 98) hx hb d_Mo_file_94 (by decide) ?_
    exact W.iret (v := 1) hx hb hr (fun t ht hW => ⟨⟨1, S, rfl, hw, by rw [ht]; exact hP, va_K.moved hW.alike hK⟩, hS.F ht⟩) hS.2.2 d_Mo_file_98
set_option maxHeartbeats 4000000 in
set_option maxRecDepth 100000 in
theorem mw_Mo_file {p : Program} {l : Launch} {e : Env} {s : State} {m : MethodId} {args : Array Value} {below : List Frame} {meth : Method} {c : Code} {Y : gY} {Q : Int32 → gS → Prop} (C : gCx p s m args meth c Y "LogDiskModel" c_Mo_file 3 (Option.some Jvm.ClassFile.FieldType.int) w_Mo_file) : ∀ (x0 : gI) (x1 : Int32) (x2 : Int32)  (S : gS) (H : Heap) (locs : List Loc) (ls : Array Slot), gis Y 10 x0 → wp_Mo_file (gLn Y) Q x0 x1 x2 S → gWd Y S H → va_S (gA Y s.heap.size) s.heap H locs → lv_has ls 3 [(0, .ref (gad Y x0)), (1, .int x1), (2, .int x2)] → W p l e (gRm 1 22) s m args below meth c H locs 0 0 (MQ below (va_Qi Q (gB Y) (gA Y s.heap.size)) args s 0 0 (gA Y s.heap.size)) (F0 m 0 ls []) := by
  have C0 := C
  obtain ⟨hx, hb, hml, hown, hts, hr, hlocks, hK, hY, hSt⟩ := C
  intro x0 x1 x2 S H locs ls hx0 hw hP hS hl
  unfold wp_Mo_file at hw
  refine lv_aload_n hx hb d_Mo_file_0 rfl (lv_at hl 0 rfl) ?_
  refine lv_iconst (v := 0) hx hb d_Mo_file_1 (by decide) ?_
  refine g_put (ty := .int) (v := .int 0) (S' := gset S x0 0 0) hx hb hts (fun w h => List.mem_cons_of_mem _ (in_Mo w h)) ty_Mo tyok_Mo nm_Mo hown hK hY.1 hP hS hx0 (gce_Mo hx0.1) rfl 0 (by decide) (hts _ (List.mem_cons_of_mem _ gw_807)) rfl (by decide +kernel) rfl rfl (Nat.le_of_ble_eq_true rfl) (gp_Mo_thrown hx0.1) gce_gset d_Mo_file_2 (fun H locs hP hS => ?_)
  obtain ⟨S1, eS1⟩ : ∃ z, z = gset S x0 0 0 := ⟨_, rfl⟩
  rw [← eS1] at hP
  replace hw := hw S1 eS1
  refine lv_iload_n hx hb d_Mo_file_5 rfl (lv_at hl 1 rfl) ?_
  refine lv_iconst (v := 0) hx hb d_Mo_file_6 (by decide) ?_
  refine lv_bipush (v := 15) hx hb d_Mo_file_7 (by decide) ?_
  refine g_calli (va_runS (As := [.int x1, .int 0, .int 15]) (rest := []) ⟨hx, hb, hml, hown, hts⟩ (k_Mo_within l Y hY H.size x1 0 15 S1 _) (va_cwS 3 hts (gG_S gw_922 gw_923 gw_12 gw_924) rfl rfl rfl (by decide +kernel) ⟨Nat.le_of_ble_eq_true rfl, Nat.le_of_ble_eq_true rfl⟩) ⟨gPre_blind, g_pre hK hSt hS hP hw⟩ rfl rfl hl.1 rfl (lv_room (Nat.le_of_ble_eq_true rfl)) d_Mo_file_9 ⟨Nat.zero_le _, Nat.zero_le _⟩) hS (fun r3 S2 H locs hw hP hS => ?_)
  refine lv_if_eq (tgt := 24) hx hb d_Mo_file_12 (by decide) (fun c4 => ?_) (fun c4 => ?_)
  · replace hw := hw.1 c4
    exact mw_Mo_file_24 C0 x0 S2 H locs ls hx0 hw hP hS (lv_sub hl [0] rfl)
  · replace hw := hw.2 c4
    refine lv_iload_n hx hb d_Mo_file_15 rfl (lv_at hl 2 rfl) ?_
    refine lv_iconst (v := 0) hx hb d_Mo_file_16 (by decide) ?_
    refine lv_iconst (v := 4) hx hb d_Mo_file_17 (by decide) ?_
    refine g_calli (va_runS (As := [.int x2, .int 0, .int 4]) (rest := []) ⟨hx, hb, hml, hown, hts⟩ (k_Mo_within l Y hY H.size x2 0 4 S2 _) (va_cwS 3 hts (gG_S gw_922 gw_923 gw_12 gw_924) rfl rfl rfl (by decide +kernel) ⟨Nat.le_of_ble_eq_true rfl, Nat.le_of_ble_eq_true rfl⟩) ⟨gPre_blind, g_pre hK hSt hS hP hw⟩ rfl rfl hl.1 rfl (lv_room (Nat.le_of_ble_eq_true rfl)) d_Mo_file_18 ⟨Nat.zero_le _, Nat.zero_le _⟩) hS (fun r8 S7 H locs hw hP hS => ?_)
    refine lv_if_ne (tgt := 30) hx hb d_Mo_file_21 (by decide) (fun c9 => ?_) (fun c9 => ?_)
    · replace hw := hw.1 c9
      refine lv_iload_n hx hb d_Mo_file_30 rfl (lv_at hl 2 rfl) ?_
      refine lv_iconst (v := 3) hx hb d_Mo_file_31 (by decide) ?_
      refine lv_icmp_ge (tgt := 72) hx hb d_Mo_file_32 (by decide) (fun c10 => ?_) (fun c10 => ?_)
      · replace hw := hw.1 c10
        refine lv_aload_n hx hb d_Mo_file_72 rfl (lv_at hl 0 rfl) ?_
        refine g_get hx hb hts (fun w h => List.mem_cons_of_mem _ (in_Mo w h)) hown hK hP hx0 (gce_Mo hx0.1) rfl 15 (by decide) (hts _ (List.mem_cons_of_mem _ gw_822)) rfl d_Mo_file_73 ?_
        refine lv_iload_n hx hb d_Mo_file_76 rfl (lv_at hl 2 rfl) ?_
        refine lv_iconst (v := 3) hx hb d_Mo_file_77 (by decide) ?_
        refine lv_icmp_ne (tgt := 85) hx hb d_Mo_file_78 (by decide) (fun c11 => ?_) (fun c11 => ?_)
        · replace hw := hw.1 c11
          refine lv_bipush (v := 16) hx hb d_Mo_file_85 (by decide) ?_
          refine lv_iload_n hx hb d_Mo_file_87 rfl (lv_at hl 1 rfl) ?_
          refine lv_iadd hx hb d_Mo_file_88 ?_
          exact mw_Mo_file_89 C0 (grf x0 15) (16 + x1) S7 H locs ls (gis_Mo_there hY hx0) hw hP hS (lv_sub hl [] rfl)
        · replace hw := hw.2 c11
          refine lv_iload_n hx hb d_Mo_file_81 rfl (lv_at hl 1 rfl) ?_
          refine lv_goto (tgt := 89) hx hb d_Mo_file_82 (by decide) ?_
          exact mw_Mo_file_89 C0 (grf x0 15) x1 S7 H locs ls (gis_Mo_there hY hx0) hw hP hS (lv_sub hl [] rfl)
      · replace hw := hw.2 c10
        refine lv_iload_n hx hb d_Mo_file_35 rfl (lv_at hl 2 rfl) ?_
        refine lv_if_ne (tgt := 48) hx hb d_Mo_file_36 (by decide) (fun c13 => ?_) (fun c13 => ?_)
        · replace hw := hw.1 c13
          refine lv_iload_n hx hb d_Mo_file_48 rfl (lv_at hl 2 rfl) ?_
          refine lv_iconst (v := 1) hx hb d_Mo_file_49 (by decide) ?_
          refine lv_icmp_ne (tgt := 65) hx hb d_Mo_file_50 (by decide) (fun c14 => ?_) (fun c14 => ?_)
          · replace hw := hw.1 c14
            refine lv_aload_n hx hb d_Mo_file_65 rfl (lv_at hl 0 rfl) ?_
            refine g_get hx hb hts (fun w h => List.mem_cons_of_mem _ (in_Mo w h)) hown hK hP hx0 (gce_Mo hx0.1) rfl 16 (by decide) (hts _ (List.mem_cons_of_mem _ gw_823)) rfl d_Mo_file_66 ?_
            refine lv_iload_n hx hb d_Mo_file_69 rfl (lv_at hl 1 rfl) ?_
            obtain ⟨hin, hw⟩ := hw
            refine g_iaload hx hb hK hP (gis_Mo_lows hY hx0) hin d_Mo_file_70 ?_
            exact W.iret (v := (S7.1 (grf x0 16) x1.toNatClampNeg)) hx hb hr (fun t ht hW => ⟨⟨(S7.1 (grf x0 16) x1.toNatClampNeg), S7, rfl, hw, by rw [ht]; exact hP, va_K.moved hW.alike hK⟩, hS.F ht⟩) hS.2.2 d_Mo_file_71
          · replace hw := hw.2 c14
            refine lv_aload_n hx hb d_Mo_file_53 rfl (lv_at hl 0 rfl) ?_
            refine g_get hx hb hts (fun w h => List.mem_cons_of_mem _ (in_Mo w h)) hown hK hP hx0 (gce_Mo hx0.1) rfl 14 (by decide) (hts _ (List.mem_cons_of_mem _ gw_821)) rfl d_Mo_file_54 ?_
            refine lv_bipush (v := 16) hx hb d_Mo_file_57 (by decide) ?_
            refine lv_iload_n hx hb d_Mo_file_59 rfl (lv_at hl 1 rfl) ?_
            refine lv_iadd hx hb d_Mo_file_60 ?_
            obtain ⟨hin, hw⟩ := hw
            refine g_iaload hx hb hK hP (gis_Mo_sizes hY hx0) hin d_Mo_file_61 ?_
            refine lv_goto (tgt := 71) hx hb d_Mo_file_62 (by decide) ?_
            exact W.iret (v := (S7.1 (grf x0 14) (16 + x1).toNatClampNeg)) hx hb hr (fun t ht hW => ⟨⟨(S7.1 (grf x0 14) (16 + x1).toNatClampNeg), S7, rfl, hw, by rw [ht]; exact hP, va_K.moved hW.alike hK⟩, hS.F ht⟩) hS.2.2 d_Mo_file_71
        · replace hw := hw.2 c13
          refine lv_aload_n hx hb d_Mo_file_39 rfl (lv_at hl 0 rfl) ?_
          refine g_get hx hb hts (fun w h => List.mem_cons_of_mem _ (in_Mo w h)) hown hK hP hx0 (gce_Mo hx0.1) rfl 14 (by decide) (hts _ (List.mem_cons_of_mem _ gw_821)) rfl d_Mo_file_40 ?_
          refine lv_iload_n hx hb d_Mo_file_43 rfl (lv_at hl 1 rfl) ?_
          obtain ⟨hin, hw⟩ := hw
          refine g_iaload hx hb hK hP (gis_Mo_sizes hY hx0) hin d_Mo_file_44 ?_
          refine lv_goto (tgt := 71) hx hb d_Mo_file_45 (by decide) ?_
          exact W.iret (v := (S7.1 (grf x0 14) x1.toNatClampNeg)) hx hb hr (fun t ht hW => ⟨⟨(S7.1 (grf x0 14) x1.toNatClampNeg), S7, rfl, hw, by rw [ht]; exact hP, va_K.moved hW.alike hK⟩, hS.F ht⟩) hS.2.2 d_Mo_file_71
    · replace hw := hw.2 c9
      exact mw_Mo_file_24 C0 x0 S7 H locs ls hx0 hw hP hS (lv_sub hl [0] rfl)
set_option maxHeartbeats 4000000 in
set_option maxRecDepth 100000 in
theorem k_Mo_file (l : Launch) (Y : gY) (hY : gOK Y) (sz : Nat) (x0 : gI) (x1 : Int32) (x2 : Int32)  (hx0 : gis Y 10 x0) (S : gS) (Q : Int32 → gS → Prop) : Met l y_Mo_file w_Mo_file (gRm 1 22) (gPre Y [.ref (gad Y x0), .int x1, .int x2] S sz (wp_Mo_file (gLn Y) Q x0 x1 x2 S)) (va_Qi Q (gB Y) (gA Y sz)) 0 0 (gA Y sz) := by
  refine Met.ofW (cc := c_Mo_file) (maxL := 3) (ret := (Option.some Jvm.ClassFile.FieldType.int)) (by decide) rfl ?_
  intro p e s m args below meth c s₁ B hml hv
  obtain ⟨rfl, hsz, hP, hK, hSt, hw⟩ := hv
  subst hsz
  have hts := atoms_spec (ws := w_Mo_file) B.pre
  have hl := lv_entry ([.ref (gad Y x0), .int x1, .int x2]) (n := 3) (Nat.le_of_ble_eq_true rfl)
  rw [lg_entry_eq]
  generalize (lg_sl ([.ref (gad Y x0), .int x1, .int x2]) ++ List.replicate (3 - (lg_sl ([.ref (gad Y x0), .int x1, .int x2])).length) Slot.unset).toArray = ls at hl ⊢
  exact mw_Mo_file ⟨B.exec, B.bytes, hml, findClass_of_methodNamed B.named, hts, B.returns, B.notSynchronized, hK, hY, hSt⟩ x0 x1 x2 S s.heap [] ls hx0 hw hP va_S.rf hl

def wp_Mo_byteAt_31 (Ln : gI → Nat) (Q : Int32 → gS → Prop) (x0 : gI)  (S : gS) : Prop :=
  wp_Mo_fail Ln (fun r6 S5 => Q r6 S5) x0 1 S
def wp_Mo_byteAt_42 (Ln : gI → Nat) (Q : Int32 → gS → Prop) : Nat → gI → Int32 → Int32 → Int32 → gS → Prop
  | 0, _, _, _, _, _ => False
  | n42 + 1, x0, x1, x3, x4, S => vp_in ((330 * x1) + x4) (Ln (grf x0 12)) ∧ (wp_Mo_space Ln (fun r11 S10 => ((x3 < r11) → (vp_in ((330 * x1) + x4) (Ln (grf x0 12)) ∧ (wp_Mo_frameAt Ln (fun r14 S13 => Q r14 S13) x0 (S10.1 (grf x0 12) ((330 * x1) + x4).toNatClampNeg) x3 S10))) ∧ ((¬ x3 < r11) → (vp_in ((330 * x1) + x4) (Ln (grf x0 12)) ∧ (wp_Mo_space Ln (fun r16 S15 => ∀ v3_17 : Int32, v3_17 = x3 - r16 → (∀ v4_18 : Int32, v4_18 = x4 + 1 → (wp_Mo_byteAt_42 Ln Q n42 x0 x1 v3_17 v4_18 S15))) x0 (S10.1 (grf x0 12) ((330 * x1) + x4).toNatClampNeg) S10)))) x0 (S.1 (grf x0 12) ((330 * x1) + x4).toNatClampNeg) S)
def wp_Mo_byteAt (Ln : gI → Nat) (Q : Int32 → gS → Prop) (x0 : gI) (x1 : Int32) (x2 : Int32)  (S : gS) : Prop :=
  ∀ S1 : gS, S1 = gset S x0 0 0 → (wp_Mo_within Ln (fun r3 S2 => ((r3 = 0) → (wp_Mo_byteAt_31 Ln Q x0 S2)) ∧ ((¬ r3 = 0) → (vp_in x1 (Ln (grf x0 14)) ∧ (wp_Mo_within Ln (fun r8 S7 => ((¬ r8 = 0) → (∃ n42 : Nat, wp_Mo_byteAt_42 Ln Q n42 x0 x1 x2 0 S7)) ∧ ((r8 = 0) → (wp_Mo_byteAt_31 Ln Q x0 S7))) x2 0 ((S2.1 (grf x0 14) x1.toNatClampNeg) - 1) S2)))) x1 0 15 S1)
set_option maxHeartbeats 4000000 in
set_option maxRecDepth 100000 in
theorem mw_Mo_byteAt_31 {p : Program} {l : Launch} {e : Env} {s : State} {m : MethodId} {args : Array Value} {below : List Frame} {meth : Method} {c : Code} {Y : gY} {Q : Int32 → gS → Prop} (C : gCx p s m args meth c Y "LogDiskModel" c_Mo_byteAt 5 (Option.some Jvm.ClassFile.FieldType.int) w_Mo_byteAt) : ∀ (x0 : gI)  (S : gS) (H : Heap) (locs : List Loc) (ls : Array Slot), gis Y 10 x0 → wp_Mo_byteAt_31 (gLn Y) Q x0 S → gWd Y S H → va_S (gA Y s.heap.size) s.heap H locs → lv_has ls 5 [(0, .ref (gad Y x0))] → W p l e (gRm 4 90) s m args below meth c H locs 0 0 (MQ below (va_Qi Q (gB Y) (gA Y s.heap.size)) args s 0 0 (gA Y s.heap.size)) (F0 m 31 ls []) := by
  have C0 := C
  obtain ⟨hx, hb, hml, hown, hts, hr, hlocks, hK, hY, hSt⟩ := C
  intro x0 S H locs ls hx0 hw hP hS hl
  unfold wp_Mo_byteAt_31 at hw
  refine lv_aload_n hx hb d_Mo_byteAt_31 rfl (lv_at hl 0 rfl) ?_
  refine lv_iconst (v := 1) hx hb d_Mo_byteAt_32 (by decide) ?_
  refine g_calli (va_runV (As := [.int 1]) (rest := []) ⟨hx, hb, hml, hown, hts⟩ (k_Mo_fail l Y hY H.size x0 1 hx0 S _) (cwV 1 hts (gG_V gw_925 gw_927 gs_21 gw_12 gw_928) rfl rfl rfl (by decide +kernel) ⟨Nat.le_of_ble_eq_true rfl, Nat.le_of_ble_eq_true rfl⟩) ⟨gPre_blind, g_recv hK hP hx0 (gce_Mo hx0.1) rfl, g_pre hK hSt hS hP hw⟩ rfl rfl hl.1 rfl (lv_room (Nat.le_of_ble_eq_true rfl)) d_Mo_byteAt_33 ⟨Nat.zero_le _, Nat.zero_le _⟩) hS (fun r6 S5 H locs hw hP hS => ?_)
  exact W.iret (v := r6) hx hb hr (fun t ht hW => ⟨⟨r6, S5, rfl, hw, by rw [ht]; exact hP, va_K.moved hW.alike hK⟩, hS.F ht⟩) hS.2.2 d_Mo_byteAt_36
set_option maxHeartbeats 4000000 in
set_option maxRecDepth 100000 in
theorem mw_Mo_byteAt_42 {p : Program} {l : Launch} {e : Env} {s : State} {m : MethodId} {args : Array Value} {below : List Frame} {meth : Method} {c : Code} {Y : gY} {Q : Int32 → gS → Prop} (C : gCx p s m args meth c Y "LogDiskModel" c_Mo_byteAt 5 (Option.some Jvm.ClassFile.FieldType.int) w_Mo_byteAt) : ∀ (n : Nat), ∀ (x0 : gI) (x1 : Int32) (x3 : Int32) (x4 : Int32)  (S : gS) (H : Heap) (locs : List Loc) (ls : Array Slot), gis Y 10 x0 → wp_Mo_byteAt_42 (gLn Y) Q n x0 x1 x3 x4 S → gWd Y S H → va_S (gA Y s.heap.size) s.heap H locs → lv_has ls 5 [(0, .ref (gad Y x0)), (1, .int x1), (3, .int x3), (4, .int x4)] → W p l e (gRm 4 90) s m args below meth c H locs 0 0 (MQ below (va_Qi Q (gB Y) (gA Y s.heap.size)) args s 0 0 (gA Y s.heap.size)) (F0 m 42 ls []) := by
  have C0 := C
  obtain ⟨hx, hb, hml, hown, hts, hr, hlocks, hK, hY, hSt⟩ := C
  intro n
  induction n with
  | zero =>
    intro x0 x1 x3 x4 S H locs ls hx0 hw
    exact False.elim hw
  | succ n ih =>
    intro x0 x1 x3 x4 S H locs ls hx0 hw hP hS hl
    unfold wp_Mo_byteAt_42 at hw
    refine lv_iload_n hx hb d_Mo_byteAt_42 rfl (lv_at hl 2 rfl) ?_
    refine lv_aload_n hx hb d_Mo_byteAt_43 rfl (lv_at hl 0 rfl) ?_
    refine lv_aload_n hx hb d_Mo_byteAt_44 rfl (lv_at hl 0 rfl) ?_
    refine g_get hx hb hts (fun w h => List.mem_cons_of_mem _ (in_Mo w h)) hown hK hP hx0 (gce_Mo hx0.1) rfl 12 (by decide) (hts _ (List.mem_cons_of_mem _ gw_819)) rfl d_Mo_byteAt_45 ?_
    refine lv_sipush (v := 330) hx hb d_Mo_byteAt_48 (by decide) ?_
    refine lv_iload_n hx hb d_Mo_byteAt_51 rfl (lv_at hl 1 rfl) ?_
    refine lv_imul hx hb d_Mo_byteAt_52 ?_
    refine lv_iload hx hb d_Mo_byteAt_53 (lv_at hl 3 rfl) ?_
    refine lv_iadd hx hb d_Mo_byteAt_55 ?_
    obtain ⟨hin, hw⟩ := hw
    refine g_iaload hx hb hK hP (gis_Mo_rows hY hx0) hin d_Mo_byteAt_56 ?_
    refine g_calli (va_runV (As := [.int (S.1 (grf x0 12) ((330 * x1) + x4).toNatClampNeg)]) (rest := [.int x3]) ⟨hx, hb, hml, hown, hts⟩ (k_Mo_space l Y hY H.size x0 (S.1 (grf x0 12) ((330 * x1) + x4).toNatClampNeg) hx0 S _) (cwV 1 hts (gG_V gw_953 gw_955 gs_25 gw_12 gw_956) rfl rfl rfl (by decide +kernel) ⟨Nat.le_of_ble_eq_true rfl, Nat.le_of_ble_eq_true rfl⟩) ⟨gPre_blind, g_recv hK hP hx0 (gce_Mo hx0.1) rfl, g_pre hK hSt hS hP hw⟩ rfl rfl hl.1 rfl (lv_room (Nat.le_of_ble_eq_true rfl)) d_Mo_byteAt_57 ⟨Nat.zero_le _, Nat.zero_le _⟩) hS (fun r11 S10 H locs hw hP hS => ?_)
    refine lv_icmp_lt (tgt := 89) hx hb d_Mo_byteAt_60 (by decide) (fun c12 => ?_) (fun c12 => ?_)
    · replace hw := hw.1 c12
      refine lv_aload_n hx hb d_Mo_byteAt_89 rfl (lv_at hl 0 rfl) ?_
      refine lv_aload_n hx hb d_Mo_byteAt_90 rfl (lv_at hl 0 rfl) ?_
      refine g_get hx hb hts (fun w h => List.mem_cons_of_mem _ (in_Mo w h)) hown hK hP hx0 (gce_Mo hx0.1) rfl 12 (by decide) (hts _ (List.mem_cons_of_mem _ gw_819)) rfl d_Mo_byteAt_91 ?_
      refine lv_sipush (v := 330) hx hb d_Mo_byteAt_94 (by decide) ?_
      refine lv_iload_n hx hb d_Mo_byteAt_97 rfl (lv_at hl 1 rfl) ?_
      refine lv_imul hx hb d_Mo_byteAt_98 ?_
      refine lv_iload hx hb d_Mo_byteAt_99 (lv_at hl 3 rfl) ?_
      refine lv_iadd hx hb d_Mo_byteAt_101 ?_
      obtain ⟨hin, hw⟩ := hw
      refine g_iaload hx hb hK hP (gis_Mo_rows hY hx0) hin d_Mo_byteAt_102 ?_
      refine lv_iload_n hx hb d_Mo_byteAt_103 rfl (lv_at hl 2 rfl) ?_
      refine g_calli (va_runV (As := [.int (S10.1 (grf x0 12) ((330 * x1) + x4).toNatClampNeg), .int x3]) (rest := []) ⟨hx, hb, hml, hown, hts⟩ (k_Mo_frameAt l Y hY H.size x0 (S10.1 (grf x0 12) ((330 * x1) + x4).toNatClampNeg) x3 hx0 S10 _) (cwV 2 hts (gG_V gw_1117 gw_1119 gs_51 gw_12 gw_1120) rfl rfl rfl (by decide +kernel) ⟨Nat.le_of_ble_eq_true rfl, Nat.le_of_ble_eq_true rfl⟩) ⟨gPre_blind, g_recv hK hP hx0 (gce_Mo hx0.1) rfl, g_pre hK hSt hS hP hw⟩ rfl rfl hl.1 rfl (lv_room (Nat.le_of_ble_eq_true rfl)) d_Mo_byteAt_104 ⟨Nat.zero_le _, Nat.zero_le _⟩) hS (fun r14 S13 H locs hw hP hS => ?_)
      exact W.iret (v := r14) hx hb hr (fun t ht hW => ⟨⟨r14, S13, rfl, hw, by rw [ht]; exact hP, va_K.moved hW.alike hK⟩, hS.F ht⟩) hS.2.2 d_Mo_byteAt_107
    · replace hw := hw.2 c12
      refine lv_iload_n hx hb d_Mo_byteAt_63 rfl (lv_at hl 2 rfl) ?_
      refine lv_aload_n hx hb d_Mo_byteAt_64 rfl (lv_at hl 0 rfl) ?_
      refine lv_aload_n hx hb d_Mo_byteAt_65 rfl (lv_at hl 0 rfl) ?_
      refine g_get hx hb hts (fun w h => List.mem_cons_of_mem _ (in_Mo w h)) hown hK hP hx0 (gce_Mo hx0.1) rfl 12 (by decide) (hts _ (List.mem_cons_of_mem _ gw_819)) rfl d_Mo_byteAt_66 ?_
      refine lv_sipush (v := 330) hx hb d_Mo_byteAt_69 (by decide) ?_
      refine lv_iload_n hx hb d_Mo_byteAt_72 rfl (lv_at hl 1 rfl) ?_
      refine lv_imul hx hb d_Mo_byteAt_73 ?_
      refine lv_iload hx hb d_Mo_byteAt_74 (lv_at hl 3 rfl) ?_
      refine lv_iadd hx hb d_Mo_byteAt_76 ?_
      obtain ⟨hin, hw⟩ := hw
      refine g_iaload hx hb hK hP (gis_Mo_rows hY hx0) hin d_Mo_byteAt_77 ?_
      refine g_calli (va_runV (As := [.int (S10.1 (grf x0 12) ((330 * x1) + x4).toNatClampNeg)]) (rest := [.int x3]) ⟨hx, hb, hml, hown, hts⟩ (k_Mo_space l Y hY H.size x0 (S10.1 (grf x0 12) ((330 * x1) + x4).toNatClampNeg) hx0 S10 _) (cwV 1 hts (gG_V gw_953 gw_955 gs_25 gw_12 gw_956) rfl rfl rfl (by decide +kernel) ⟨Nat.le_of_ble_eq_true rfl, Nat.le_of_ble_eq_true rfl⟩) ⟨gPre_blind, g_recv hK hP hx0 (gce_Mo hx0.1) rfl, g_pre hK hSt hS hP hw⟩ rfl rfl hl.1 rfl (lv_room (Nat.le_of_ble_eq_true rfl)) d_Mo_byteAt_78 ⟨Nat.zero_le _, Nat.zero_le _⟩) hS (fun r16 S15 H locs hw hP hS => ?_)
      refine lv_isub hx hb d_Mo_byteAt_81 ?_
      refine lv_topi (fun v3_17 ev3_17 => ?_)
      replace hw := hw v3_17 ev3_17
      refine lv_istore_n (lv' := [(3, .int v3_17), (0, .ref (gad Y x0)), (1, .int x1), (4, .int x4)]) hx hb d_Mo_byteAt_82 rfl hl (by decide) rfl (fun ls hl => ?_)
      obtain ⟨v4_18, ev4_18⟩ : ∃ y : Int32, y = x4 + 1 := ⟨_, rfl⟩
      replace hw := hw v4_18 ev4_18
      refine lv_iinc (v := v4_18) (lv' := [(4, .int v4_18), (3, .int v3_17), (0, .ref (gad Y x0)), (1, .int x1)]) hx hb d_Mo_byteAt_83 hl (k := 3) rfl (by rw [ev4_18]; rfl) (by decide) rfl (fun ls hl => ?_)
      refine lv_goto (tgt := 42) hx hb d_Mo_byteAt_86 (by decide) ?_
      exact ih x0 x1 v3_17 v4_18 S15 H locs ls hx0 hw hP hS (lv_sub hl [2, 3, 1, 0] rfl)
set_option maxHeartbeats 4000000 in
set_option maxRecDepth 100000 in
theorem mw_Mo_byteAt {p : Program} {l : Launch} {e : Env} {s : State} {m : MethodId} {args : Array Value} {below : List Frame} {meth : Method} {c : Code} {Y : gY} {Q : Int32 → gS → Prop} (C : gCx p s m args meth c Y "LogDiskModel" c_Mo_byteAt 5 (Option.some Jvm.ClassFile.FieldType.int) w_Mo_byteAt) : ∀ (x0 : gI) (x1 : Int32) (x2 : Int32)  (S : gS) (H : Heap) (locs : List Loc) (ls : Array Slot), gis Y 10 x0 → wp_Mo_byteAt (gLn Y) Q x0 x1 x2 S → gWd Y S H → va_S (gA Y s.heap.size) s.heap H locs → lv_has ls 5 [(0, .ref (gad Y x0)), (1, .int x1), (2, .int x2)] → W p l e (gRm 4 90) s m args below meth c H locs 0 0 (MQ below (va_Qi Q (gB Y) (gA Y s.heap.size)) args s 0 0 (gA Y s.heap.size)) (F0 m 0 ls []) := by
  have C0 := C
  obtain ⟨hx, hb, hml, hown, hts, hr, hlocks, hK, hY, hSt⟩ := C
  intro x0 x1 x2 S H locs ls hx0 hw hP hS hl
  unfold wp_Mo_byteAt at hw
  refine lv_aload_n hx hb d_Mo_byteAt_0 rfl (lv_at hl 0 rfl) ?_
  refine lv_iconst (v := 0) hx hb d_Mo_byteAt_1 (by decide) ?_
  refine g_put (ty := .int) (v := .int 0) (S' := gset S x0 0 0) hx hb hts (fun w h => List.mem_cons_of_mem _ (in_Mo w h)) ty_Mo tyok_Mo nm_Mo hown hK hY.1 hP hS hx0 (gce_Mo hx0.1) rfl 0 (by decide) (hts _ (List.mem_cons_of_mem _ gw_807)) rfl (by decide +kernel) rfl rfl (Nat.le_of_ble_eq_true rfl) (gp_Mo_thrown hx0.1) gce_gset d_Mo_byteAt_2 (fun H locs hP hS => ?_)
  obtain ⟨S1, eS1⟩ : ∃ z, z = gset S x0 0 0 := ⟨_, rfl⟩
  rw [← eS1] at hP
  replace hw := hw S1 eS1
  refine lv_iload_n hx hb d_Mo_byteAt_5 rfl (lv_at hl 1 rfl) ?_
  refine lv_iconst (v := 0) hx hb d_Mo_byteAt_6 (by decide) ?_
  refine lv_bipush (v := 15) hx hb d_Mo_byteAt_7 (by decide) ?_
  refine g_calli (va_runS (As := [.int x1, .int 0, .int 15]) (rest := []) ⟨hx, hb, hml, hown, hts⟩ (k_Mo_within l Y hY H.size x1 0 15 S1 _) (va_cwS 3 hts (gG_S gw_922 gw_923 gw_12 gw_924) rfl rfl rfl (by decide +kernel) ⟨Nat.le_of_ble_eq_true rfl, Nat.le_of_ble_eq_true rfl⟩) ⟨gPre_blind, g_pre hK hSt hS hP hw⟩ rfl rfl hl.1 rfl (lv_room (Nat.le_of_ble_eq_true rfl)) d_Mo_byteAt_9 ⟨Nat.zero_le _, Nat.zero_le _⟩) hS (fun r3 S2 H locs hw hP hS => ?_)
  refine lv_if_eq (tgt := 31) hx hb d_Mo_byteAt_12 (by decide) (fun c4 => ?_) (fun c4 => ?_)
  · replace hw := hw.1 c4
    exact mw_Mo_byteAt_31 C0 x0 S2 H locs ls hx0 hw hP hS (lv_sub hl [0] rfl)
  · replace hw := hw.2 c4
    refine lv_iload_n hx hb d_Mo_byteAt_15 rfl (lv_at hl 2 rfl) ?_
    refine lv_iconst (v := 0) hx hb d_Mo_byteAt_16 (by decide) ?_
    refine lv_aload_n hx hb d_Mo_byteAt_17 rfl (lv_at hl 0 rfl) ?_
    refine g_get hx hb hts (fun w h => List.mem_cons_of_mem _ (in_Mo w h)) hown hK hP hx0 (gce_Mo hx0.1) rfl 14 (by decide) (hts _ (List.mem_cons_of_mem _ gw_821)) rfl d_Mo_byteAt_18 ?_
    refine lv_iload_n hx hb d_Mo_byteAt_21 rfl (lv_at hl 1 rfl) ?_
    obtain ⟨hin, hw⟩ := hw
    refine g_iaload hx hb hK hP (gis_Mo_sizes hY hx0) hin d_Mo_byteAt_22 ?_
    refine lv_iconst (v := 1) hx hb d_Mo_byteAt_23 (by decide) ?_
    refine lv_isub hx hb d_Mo_byteAt_24 ?_
    refine g_calli (va_runS (As := [.int x2, .int 0, .int ((S2.1 (grf x0 14) x1.toNatClampNeg) - 1)]) (rest := []) ⟨hx, hb, hml, hown, hts⟩ (k_Mo_within l Y hY H.size x2 0 ((S2.1 (grf x0 14) x1.toNatClampNeg) - 1) S2 _) (va_cwS 3 hts (gG_S gw_922 gw_923 gw_12 gw_924) rfl rfl rfl (by decide +kernel) ⟨Nat.le_of_ble_eq_true rfl, Nat.le_of_ble_eq_true rfl⟩) ⟨gPre_blind, g_pre hK hSt hS hP hw⟩ rfl rfl hl.1 rfl (lv_room (Nat.le_of_ble_eq_true rfl)) d_Mo_byteAt_25 ⟨Nat.zero_le _, Nat.zero_le _⟩) hS (fun r8 S7 H locs hw hP hS => ?_)
    refine lv_if_ne (tgt := 37) hx hb d_Mo_byteAt_28 (by decide) (fun c9 => ?_) (fun c9 => ?_)
    · replace hw := hw.1 c9
      refine lv_iload_n hx hb d_Mo_byteAt_37 rfl (lv_at hl 2 rfl) ?_
      refine lv_istore_n (lv' := [(3, .int x2), (0, .ref (gad Y x0)), (1, .int x1), (2, .int x2)]) hx hb d_Mo_byteAt_38 rfl hl (by decide) rfl (fun ls hl => ?_)
      refine lv_iconst (v := 0) hx hb d_Mo_byteAt_39 (by decide) ?_
      refine lv_istore (lv' := [(4, .int 0), (3, .int x2), (0, .ref (gad Y x0)), (1, .int x1), (2, .int x2)]) hx hb d_Mo_byteAt_40 hl (by decide) rfl (fun ls hl => ?_)
      obtain ⟨n, hw⟩ := hw
      exact mw_Mo_byteAt_42 C0 n x0 x1 x2 0 S7 H locs ls hx0 hw hP hS (lv_sub hl [2, 3, 1, 0] rfl)
    · replace hw := hw.2 c9
      exact mw_Mo_byteAt_31 C0 x0 S7 H locs ls hx0 hw hP hS (lv_sub hl [0] rfl)
set_option maxHeartbeats 4000000 in
set_option maxRecDepth 100000 in
theorem k_Mo_byteAt (l : Launch) (Y : gY) (hY : gOK Y) (sz : Nat) (x0 : gI) (x1 : Int32) (x2 : Int32)  (hx0 : gis Y 10 x0) (S : gS) (Q : Int32 → gS → Prop) : Met l y_Mo_byteAt w_Mo_byteAt (gRm 4 90) (gPre Y [.ref (gad Y x0), .int x1, .int x2] S sz (wp_Mo_byteAt (gLn Y) Q x0 x1 x2 S)) (va_Qi Q (gB Y) (gA Y sz)) 0 0 (gA Y sz) := by
  refine Met.ofW (cc := c_Mo_byteAt) (maxL := 5) (ret := (Option.some Jvm.ClassFile.FieldType.int)) (by decide) rfl ?_
  intro p e s m args below meth c s₁ B hml hv
  obtain ⟨rfl, hsz, hP, hK, hSt, hw⟩ := hv
  subst hsz
  have hts := atoms_spec (ws := w_Mo_byteAt) B.pre
  have hl := lv_entry ([.ref (gad Y x0), .int x1, .int x2]) (n := 5) (Nat.le_of_ble_eq_true rfl)
  rw [lg_entry_eq]
  generalize (lg_sl ([.ref (gad Y x0), .int x1, .int x2]) ++ List.replicate (5 - (lg_sl ([.ref (gad Y x0), .int x1, .int x2])).length) Slot.unset).toArray = ls at hl ⊢
  exact mw_Mo_byteAt ⟨B.exec, B.bytes, hml, findClass_of_methodNamed B.named, hts, B.returns, B.notSynchronized, hK, hY, hSt⟩ x0 x1 x2 S s.heap [] ls hx0 hw hP va_S.rf hl
