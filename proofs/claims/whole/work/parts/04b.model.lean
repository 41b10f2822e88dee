def wp_Mo_remove (Ln : gI → Nat) (Q : gS → Prop) (x0 : gI) (x1 : Int32)  (S : gS) : Prop :=
  wp_Mo_cut Ln (fun S1 => vp_in x1 (Ln (grf x0 15)) ∧ (∀ S2 : gS, S2 = gset S1 (grf x0 15) x1.toNatClampNeg (vp_nar .boolean 0) → (Q S2))) x0 x1 0 S
set_option maxHeartbeats 4000000 in
set_option maxRecDepth 100000 in
theorem mw_Mo_remove {p : Program} {l : Launch} {e : Env} {s : State} {m : MethodId} {args : Array Value} {below : List Frame} {meth : Method} {c : Code} {Y : gY} {Q : gS → Prop} (C : gCx p s m args meth c Y "LogDiskModel" c_Mo_remove 2 (Option.none : Option Jvm.ClassFile.FieldType) w_Mo_remove) : ∀ (x0 : gI) (x1 : Int32)  (S : gS) (H : Heap) (locs : List Loc) (ls : Array Slot), gis Y 10 x0 → wp_Mo_remove (gLn Y) Q x0 x1 S → gWd Y S H → va_S (gA Y s.heap.size) s.heap H locs → lv_has ls 2 [(0, .ref (gad Y x0)), (1, .int x1)] → W p l e (gRm 3 66) s m args below meth c H locs 0 0 (MQ below (va_Qv Q (gB Y) (gA Y s.heap.size)) args s 0 0 (gA Y s.heap.size)) (F0 m 0 ls []) := by
  have C0 := C
  obtain ⟨hx, hb, hml, hown, hts, hr, hlocks, hK, hY, hSt⟩ := C
  intro x0 x1 S H locs ls hx0 hw hP hS hl
  unfold wp_Mo_remove at hw
  refine lv_aload_n hx hb d_Mo_remove_0 rfl (lv_at hl 0 rfl) ?_
  refine lv_iload_n hx hb d_Mo_remove_1 rfl (lv_at hl 1 rfl) ?_
  refine lv_iconst (v := 0) hx hb d_Mo_remove_2 (by decide) ?_
  refine g_callv (va_runV (As := [.int x1, .int 0]) (rest := []) ⟨hx, hb, hml, hown, hts⟩ (k_Mo_cut l Y hY H.size x0 x1 0 hx0 S _) (cwV 2 hts (gG_V gw_949 gw_951 gs_24 gw_12 gw_952) rfl rfl rfl (by decide +kernel) ⟨Nat.le_of_ble_eq_true rfl, Nat.le_of_ble_eq_true rfl⟩) ⟨gPre_blind, g_recv hK hP hx0 (gce_Mo hx0.1) rfl, g_pre hK hSt hS hP hw⟩ rfl rfl hl.1 rfl (lv_room (Nat.le_of_ble_eq_true rfl)) d_Mo_remove_3 ⟨Nat.zero_le _, Nat.zero_le _⟩) hS (fun S1 H locs hw hP hS => ?_)
  refine lv_aload_n hx hb d_Mo_remove_6 rfl (lv_at hl 0 rfl) ?_
  refine g_get hx hb hts (fun w h => List.mem_cons_of_mem _ (in_Mo w h)) hown hK hP hx0 (gce_Mo hx0.1) rfl 15 (by decide) (hts _ (List.mem_cons_of_mem _ gw_822)) rfl d_Mo_remove_7 ?_
  refine lv_iload_n hx hb d_Mo_remove_10 rfl (lv_at hl 1 rfl) ?_
  refine lv_iconst (v := 0) hx hb d_Mo_remove_11 (by decide) ?_
  obtain ⟨hin, hw⟩ := hw
  refine g_zastore hx hb hK hY.1 hP hS (gis_Mo_there hY hx0) hin d_Mo_remove_12 (fun S2 eS2 H locs hP hS => ?_)
  replace hw := hw S2 eS2
  exact W.vret hx hb hr (fun t ht hW => ⟨⟨S2, rfl, hw, by rw [ht]; exact hP, va_K.moved hW.alike hK⟩, hS.F ht⟩) hS.2.2 d_Mo_remove_13
set_option maxHeartbeats 4000000 in
set_option maxRecDepth 100000 in
theorem k_Mo_remove (l : Launch) (Y : gY) (hY : gOK Y) (sz : Nat) (x0 : gI) (x1 : Int32)  (hx0 : gis Y 10 x0) (S : gS) (Q : gS → Prop) : Met l y_Mo_remove w_Mo_remove (gRm 3 66) (gPre Y [.ref (gad Y x0), .int x1] S sz (wp_Mo_remove (gLn Y) Q x0 x1 S)) (va_Qv Q (gB Y) (gA Y sz)) 0 0 (gA Y sz) := by
  refine Met.ofW (cc := c_Mo_remove) (maxL := 2) (ret := (Option.none : Option Jvm.ClassFile.FieldType)) (by decide) rfl ?_
  intro p e s m args below meth c s₁ B hml hv
  obtain ⟨rfl, hsz, hP, hK, hSt, hw⟩ := hv
  subst hsz
  have hts := atoms_spec (ws := w_Mo_remove) B.pre
  have hl := lv_entry ([.ref (gad Y x0), .int x1]) (n := 2) (Nat.le_of_ble_eq_true rfl)
  rw [lg_entry_eq]
  generalize (lg_sl ([.ref (gad Y x0), .int x1]) ++ List.replicate (2 - (lg_sl ([.ref (gad Y x0), .int x1])).length) Slot.unset).toArray = ls at hl ⊢
  exact mw_Mo_remove ⟨B.exec, B.bytes, hml, findClass_of_methodNamed B.named, hts, B.returns, B.notSynchronized, hK, hY, hSt⟩ x0 x1 S s.heap [] ls hx0 hw hP va_S.rf hl

def wp_Mo_put_45 (Ln : gI → Nat) (Q : gS → Prop) (x0 : gI) (x1 : Int32) (x2 : Int32)  (S : gS) : Prop :=
  vp_in x1 (Ln (grf x0 13)) ∧ (vp_in ((330 * x1) + (S.1 (grf x0 13) x1.toNatClampNeg)) (Ln (grf x0 12)) ∧ (∀ S2 : gS, S2 = gset S (grf x0 12) ((330 * x1) + (S.1 (grf x0 13) x1.toNatClampNeg)).toNatClampNeg x2 → (vp_in x1 (Ln (grf x0 13)) ∧ (vp_in x1 (Ln (grf x0 13)) ∧ (∀ S3 : gS, S3 = gset S2 (grf x0 13) x1.toNatClampNeg ((S2.1 (grf x0 13) x1.toNatClampNeg) + 1) → (vp_in x1 (Ln (grf x0 14)) ∧ (wp_Mo_space Ln (fun r5 S4 => vp_in x1 (Ln (grf x0 14)) ∧ (∀ S6 : gS, S6 = gset S4 (grf x0 14) x1.toNatClampNeg ((S3.1 (grf x0 14) x1.toNatClampNeg) + r5) → (vp_in x1 (Ln (grf x0 15)) ∧ (∀ S7 : gS, S7 = gset S6 (grf x0 15) x1.toNatClampNeg (vp_nar .boolean 1) → (Q S7))))) x0 x2 S3)))))))
def wp_Mo_put (Ln : gI → Nat) (Q : gS → Prop) (x0 : gI) (x1 : Int32) (x2 : Int32)  (S : gS) : Prop :=
  vp_in x1 (Ln (grf x0 14)) ∧ (((((S.1 (grf x0 14) x1.toNatClampNeg) - (S.1 (grf x0 14) x1.toNatClampNeg) / 64 * 64) = 0) → (wp_Mo_put_45 Ln Q x0 x1 x2 S)) ∧ ((¬ ((S.1 (grf x0 14) x1.toNatClampNeg) - (S.1 (grf x0 14) x1.toNatClampNeg) / 64 * 64) = 0) → (vp_in x1 (Ln (grf x0 14)) ∧ (vp_in x1 (Ln (grf x0 17)) ∧ ((((S.1 (grf x0 17) x1.toNatClampNeg) ≤ ((S.1 (grf x0 14) x1.toNatClampNeg) / 64)) → (wp_Mo_put_45 Ln Q x0 x1 x2 S)) ∧ ((¬ (S.1 (grf x0 17) x1.toNatClampNeg) ≤ ((S.1 (grf x0 14) x1.toNatClampNeg) / 64)) → (vp_in x1 (Ln (grf x0 14)) ∧ (vp_in x1 (Ln (grf x0 17)) ∧ (∀ S9 : gS, S9 = gset S (grf x0 17) x1.toNatClampNeg ((S.1 (grf x0 14) x1.toNatClampNeg) / 64) → (wp_Mo_put_45 Ln Q x0 x1 x2 S9))))))))))
set_option maxHeartbeats 4000000 in
set_option maxRecDepth 100000 in
theorem mw_Mo_put_45 {p : Program} {l : Launch} {e : Env} {s : State} {m : MethodId} {args : Array Value} {below : List Frame} {meth : Method} {c : Code} {Y : gY} {Q : gS → Prop} (C : gCx p s m args meth c Y "LogDiskModel" c_Mo_put 3 (Option.none : Option Jvm.ClassFile.FieldType) w_Mo_put) : ∀ (x0 : gI) (x1 : Int32) (x2 : Int32)  (S : gS) (H : Heap) (locs : List Loc) (ls : Array Slot), gis Y 10 x0 → wp_Mo_put_45 (gLn Y) Q x0 x1 x2 S → gWd Y S H → va_S (gA Y s.heap.size) s.heap H locs → lv_has ls 3 [(0, .ref (gad Y x0)), (1, .int x1), (2, .int x2)] → W p l e (gRm 2 42) s m args below meth c H locs 0 0 (MQ below (va_Qv Q (gB Y) (gA Y s.heap.size)) args s 0 0 (gA Y s.heap.size)) (F0 m 45 ls []) := by
  have C0 := C
  obtain ⟨hx, hb, hml, hown, hts, hr, hlocks, hK, hY, hSt⟩ := C
  intro x0 x1 x2 S H locs ls hx0 hw hP hS hl
  unfold wp_Mo_put_45 at hw
  refine lv_aload_n hx hb d_Mo_put_45 rfl (lv_at hl 0 rfl) ?_
  refine g_get hx hb hts (fun w h => List.mem_cons_of_mem _ (in_Mo w h)) hown hK hP hx0 (gce_Mo hx0.1) rfl 12 (by decide) (hts _ (List.mem_cons_of_mem _ gw_819)) rfl d_Mo_put_46 ?_
  refine lv_sipush (v := 330) hx hb d_Mo_put_49 (by decide) ?_
  refine lv_iload_n hx hb d_Mo_put_52 rfl (lv_at hl 1 rfl) ?_
  refine lv_imul hx hb d_Mo_put_53 ?_
  refine lv_aload_n hx hb d_Mo_put_54 rfl (lv_at hl 0 rfl) ?_
  refine g_get hx hb hts (fun w h => List.mem_cons_of_mem _ (in_Mo w h)) hown hK hP hx0 (gce_Mo hx0.1) rfl 13 (by decide) (hts _ (List.mem_cons_of_mem _ gw_820)) rfl d_Mo_put_55 ?_
  refine lv_iload_n hx hb d_Mo_put_58 rfl (lv_at hl 1 rfl) ?_
  obtain ⟨hin, hw⟩ := hw
  refine g_iaload hx hb hK hP (gis_Mo_counts hY hx0) hin d_Mo_put_59 ?_
  refine lv_iadd hx hb d_Mo_put_60 ?_
  refine lv_iload_n hx hb d_Mo_put_61 rfl (lv_at hl 2 rfl) ?_
  obtain ⟨hin, hw⟩ := hw
  refine g_iastore hx hb hK hY.1 hP hS (gis_Mo_rows hY hx0) hin d_Mo_put_62 (fun S2 eS2 H locs hP hS => ?_)
  replace hw := hw S2 eS2
  refine lv_aload_n hx hb d_Mo_put_63 rfl (lv_at hl 0 rfl) ?_
  refine g_get hx hb hts (fun w h => List.mem_cons_of_mem _ (in_Mo w h)) hown hK hP hx0 (gce_Mo hx0.1) rfl 13 (by decide) (hts _ (List.mem_cons_of_mem _ gw_820)) rfl d_Mo_put_64 ?_
  refine lv_iload_n hx hb d_Mo_put_67 rfl (lv_at hl 1 rfl) ?_
  refine lv_dup2_11 hx hb d_Mo_put_68 rfl rfl ?_
  obtain ⟨hin, hw⟩ := hw
  refine g_iaload hx hb hK hP (gis_Mo_counts hY hx0) hin d_Mo_put_69 ?_
  refine lv_iconst (v := 1) hx hb d_Mo_put_70 (by decide) ?_
  refine lv_iadd hx hb d_Mo_put_71 ?_
  obtain ⟨hin, hw⟩ := hw
  refine g_iastore hx hb hK hY.1 hP hS (gis_Mo_counts hY hx0) hin d_Mo_put_72 (fun S3 eS3 H locs hP hS => ?_)
  replace hw := hw S3 eS3
  refine lv_aload_n hx hb d_Mo_put_73 rfl (lv_at hl 0 rfl) ?_
  refine g_get hx hb hts (fun w h => List.mem_cons_of_mem _ (in_Mo w h)) hown hK hP hx0 (gce_Mo hx0.1) rfl 14 (by decide) (hts _ (List.mem_cons_of_mem _ gw_821)) rfl d_Mo_put_74 ?_
  refine lv_iload_n hx hb d_Mo_put_77 rfl (lv_at hl 1 rfl) ?_
  refine lv_dup2_11 hx hb d_Mo_put_78 rfl rfl ?_
  obtain ⟨hin, hw⟩ := hw
  refine g_iaload hx hb hK hP (gis_Mo_sizes hY hx0) hin d_Mo_put_79 ?_
  refine lv_aload_n hx hb d_Mo_put_80 rfl (lv_at hl 0 rfl) ?_
  refine lv_iload_n hx hb d_Mo_put_81 rfl (lv_at hl 2 rfl) ?_
  refine g_calli (va_runV (As := [.int x2]) (rest := [.int (S3.1 (grf x0 14) x1.toNatClampNeg), .int x1, .ref (gad Y (grf x0 14))]) ⟨hx, hb, hml, hown, hts⟩ (k_Mo_space l Y hY H.size x0 x2 hx0 S3 _) (cwV 1 hts (gG_V gw_953 gw_955 gs_25 gw_12 gw_956) rfl rfl rfl (by decide +kernel) ⟨Nat.le_of_ble_eq_true rfl, Nat.le_of_ble_eq_true rfl⟩) ⟨gPre_blind, g_recv hK hP hx0 (gce_Mo hx0.1) rfl, g_pre hK hSt hS hP hw⟩ rfl rfl hl.1 rfl (lv_room (Nat.le_of_ble_eq_true rfl)) d_Mo_put_82 ⟨Nat.zero_le _, Nat.zero_le _⟩) hS (fun r5 S4 H locs hw hP hS => ?_)
  refine lv_iadd hx hb d_Mo_put_85 ?_
  obtain ⟨hin, hw⟩ := hw
  refine g_iastore hx hb hK hY.1 hP hS (gis_Mo_sizes hY hx0) hin d_Mo_put_86 (fun S6 eS6 H locs hP hS => ?_)
  replace hw := hw S6 eS6
  refine lv_aload_n hx hb d_Mo_put_87 rfl (lv_at hl 0 rfl) ?_
  refine g_get hx hb hts (fun w h => List.mem_cons_of_mem _ (in_Mo w h)) hown hK hP hx0 (gce_Mo hx0.1) rfl 15 (by decide) (hts _ (List.mem_cons_of_mem _ gw_822)) rfl d_Mo_put_88 ?_
  refine lv_iload_n hx hb d_Mo_put_91 rfl (lv_at hl 1 rfl) ?_
  refine lv_iconst (v := 1) hx hb d_Mo_put_92 (by decide) ?_
  obtain ⟨hin, hw⟩ := hw
  refine g_zastore hx hb hK hY.1 hP hS (gis_Mo_there hY hx0) hin d_Mo_put_93 (fun S7 eS7 H locs hP hS => ?_)
  replace hw := hw S7 eS7
  exact W.vret hx hb hr (fun t ht hW => ⟨⟨S7, rfl, hw, by rw [ht]; exact hP, va_K.moved hW.alike hK⟩, hS.F ht⟩) hS.2.2 d_Mo_put_94
set_option maxHeartbeats 4000000 in
set_option maxRecDepth 100000 in
theorem mw_Mo_put {p : Program} {l : Launch} {e : Env} {s : State} {m : MethodId} {args : Array Value} {below : List Frame} {meth : Method} {c : Code} {Y : gY} {Q : gS → Prop} (C : gCx p s m args meth c Y "LogDiskModel" c_Mo_put 3 (Option.none : Option Jvm.ClassFile.FieldType) w_Mo_put) : ∀ (x0 : gI) (x1 : Int32) (x2 : Int32)  (S : gS) (H : Heap) (locs : List Loc) (ls : Array Slot), gis Y 10 x0 → wp_Mo_put (gLn Y) Q x0 x1 x2 S → gWd Y S H → va_S (gA Y s.heap.size) s.heap H locs → lv_has ls 3 [(0, .ref (gad Y x0)), (1, .int x1), (2, .int x2)] → W p l e (gRm 2 42) s m args below meth c H locs 0 0 (MQ below (va_Qv Q (gB Y) (gA Y s.heap.size)) args s 0 0 (gA Y s.heap.size)) (F0 m 0 ls []) := by
  have C0 := C
  obtain ⟨hx, hb, hml, hown, hts, hr, hlocks, hK, hY, hSt⟩ := C
  intro x0 x1 x2 S H locs ls hx0 hw hP hS hl
  unfold wp_Mo_put at hw
  refine lv_aload_n hx hb d_Mo_put_0 rfl (lv_at hl 0 rfl) ?_
  refine g_get hx hb hts (fun w h => List.mem_cons_of_mem _ (in_Mo w h)) hown hK hP hx0 (gce_Mo hx0.1) rfl 14 (by decide) (hts _ (List.mem_cons_of_mem _ gw_821)) rfl d_Mo_put_1 ?_
  refine lv_iload_n hx hb d_Mo_put_4 rfl (lv_at hl 1 rfl) ?_
  obtain ⟨hin, hw⟩ := hw
  refine g_iaload hx hb hK hP (gis_Mo_sizes hY hx0) hin d_Mo_put_5 ?_
  refine lv_bipush (v := 64) hx hb d_Mo_put_6 (by decide) ?_
  refine lv_irem hx hb d_Mo_put_8 (by decide) ?_
  refine lv_if_eq (tgt := 45) hx hb d_Mo_put_9 (by decide) (fun c1 => ?_) (fun c1 => ?_)
  · replace hw := hw.1 c1
    exact mw_Mo_put_45 C0 x0 x1 x2 S H locs ls hx0 hw hP hS (lv_sub hl [0, 1, 2] rfl)
  · replace hw := hw.2 c1
    refine lv_aload_n hx hb d_Mo_put_12 rfl (lv_at hl 0 rfl) ?_
    refine g_get hx hb hts (fun w h => List.mem_cons_of_mem _ (in_Mo w h)) hown hK hP hx0 (gce_Mo hx0.1) rfl 14 (by decide) (hts _ (List.mem_cons_of_mem _ gw_821)) rfl d_Mo_put_13 ?_
    refine lv_iload_n hx hb d_Mo_put_16 rfl (lv_at hl 1 rfl) ?_
    obtain ⟨hin, hw⟩ := hw
    refine g_iaload hx hb hK hP (gis_Mo_sizes hY hx0) hin d_Mo_put_17 ?_
    refine lv_bipush (v := 64) hx hb d_Mo_put_18 (by decide) ?_
    refine lv_idiv hx hb d_Mo_put_20 (by decide) ?_
    refine lv_aload_n hx hb d_Mo_put_21 rfl (lv_at hl 0 rfl) ?_
    refine g_get hx hb hts (fun w h => List.mem_cons_of_mem _ (in_Mo w h)) hown hK hP hx0 (gce_Mo hx0.1) rfl 17 (by decide) (hts _ (List.mem_cons_of_mem _ gw_824)) rfl d_Mo_put_22 ?_
    refine lv_iload_n hx hb d_Mo_put_25 rfl (lv_at hl 1 rfl) ?_
    obtain ⟨hin, hw⟩ := hw
    refine g_iaload hx hb hK hP (gis_Mo_shared hY hx0) hin d_Mo_put_26 ?_
    refine lv_icmp_ge (tgt := 45) hx hb d_Mo_put_27 (by decide) (fun c8 => ?_) (fun c8 => ?_)
    · replace hw := hw.1 c8
      exact mw_Mo_put_45 C0 x0 x1 x2 S H locs ls hx0 hw hP hS (lv_sub hl [0, 1, 2] rfl)
    · replace hw := hw.2 c8
      refine lv_aload_n hx hb d_Mo_put_30 rfl (lv_at hl 0 rfl) ?_
      refine g_get hx hb hts (fun w h => List.mem_cons_of_mem _ (in_Mo w h)) hown hK hP hx0 (gce_Mo hx0.1) rfl 17 (by decide) (hts _ (List.mem_cons_of_mem _ gw_824)) rfl d_Mo_put_31 ?_
      refine lv_iload_n hx hb d_Mo_put_34 rfl (lv_at hl 1 rfl) ?_
      refine lv_aload_n hx hb d_Mo_put_35 rfl (lv_at hl 0 rfl) ?_
      refine g_get hx hb hts (fun w h => List.mem_cons_of_mem _ (in_Mo w h)) hown hK hP hx0 (gce_Mo hx0.1) rfl 14 (by decide) (hts _ (List.mem_cons_of_mem _ gw_821)) rfl d_Mo_put_36 ?_
      refine lv_iload_n hx hb d_Mo_put_39 rfl (lv_at hl 1 rfl) ?_
      obtain ⟨hin, hw⟩ := hw
      refine g_iaload hx hb hK hP (gis_Mo_sizes hY hx0) hin d_Mo_put_40 ?_
      refine lv_bipush (v := 64) hx hb d_Mo_put_41 (by decide) ?_
      refine lv_idiv hx hb d_Mo_put_43 (by decide) ?_
      obtain ⟨hin, hw⟩ := hw
      refine g_iastore hx hb hK hY.1 hP hS (gis_Mo_shared hY hx0) hin d_Mo_put_44 (fun S9 eS9 H locs hP hS => ?_)
      replace hw := hw S9 eS9
      exact mw_Mo_put_45 C0 x0 x1 x2 S9 H locs ls hx0 hw hP hS (lv_sub hl [0, 1, 2] rfl)
set_option maxHeartbeats 4000000 in
set_option maxRecDepth 100000 in
theorem k_Mo_put (l : Launch) (Y : gY) (hY : gOK Y) (sz : Nat) (x0 : gI) (x1 : Int32) (x2 : Int32)  (hx0 : gis Y 10 x0) (S : gS) (Q : gS → Prop) : Met l y_Mo_put w_Mo_put (gRm 2 42) (gPre Y [.ref (gad Y x0), .int x1, .int x2] S sz (wp_Mo_put (gLn Y) Q x0 x1 x2 S)) (va_Qv Q (gB Y) (gA Y sz)) 0 0 (gA Y sz) := by
  refine Met.ofW (cc := c_Mo_put) (maxL := 3) (ret := (Option.none : Option Jvm.ClassFile.FieldType)) (by decide) rfl ?_
  intro p e s m args below meth c s₁ B hml hv
  obtain ⟨rfl, hsz, hP, hK, hSt, hw⟩ := hv
  subst hsz
  have hts := atoms_spec (ws := w_Mo_put) B.pre
  have hl := lv_entry ([.ref (gad Y x0), .int x1, .int x2]) (n := 3) (Nat.le_of_ble_eq_true rfl)
  rw [lg_entry_eq]
  generalize (lg_sl ([.ref (gad Y x0), .int x1, .int x2]) ++ List.replicate (3 - (lg_sl ([.ref (gad Y x0), .int x1, .int x2])).length) Slot.unset).toArray = ls at hl ⊢
  exact mw_Mo_put ⟨B.exec, B.bytes, hml, findClass_of_methodNamed B.named, hts, B.returns, B.notSynchronized, hK, hY, hSt⟩ x0 x1 x2 S s.heap [] ls hx0 hw hP va_S.rf hl

def wp_Mo_copy_2 (Ln : gI → Nat) (Q : gS → Prop) : Nat → gI → Int32 → Int32 → Int32 → gS → Prop
  | 0, _, _, _, _, _ => False
  | n2 + 1, x0, x1, x2, x3, S => vp_in x1 (Ln (grf x0 13)) ∧ ((((S.1 (grf x0 13) x1.toNatClampNeg) ≤ x3) → (vp_in x1 (Ln (grf x0 13)) ∧ (vp_in x2 (Ln (grf x0 13)) ∧ (∀ S2 : gS, S2 = gset S (grf x0 13) x2.toNatClampNeg (S.1 (grf x0 13) x1.toNatClampNeg) → (vp_in x1 (Ln (grf x0 14)) ∧ (vp_in x2 (Ln (grf x0 14)) ∧ (∀ S3 : gS, S3 = gset S2 (grf x0 14) x2.toNatClampNeg (S2.1 (grf x0 14) x1.toNatClampNeg) → (vp_in x1 (Ln (grf x0 15)) ∧ (vp_in x2 (Ln (grf x0 15)) ∧ (∀ S4 : gS, S4 = gset S3 (grf x0 15) x2.toNatClampNeg (vp_nar .boolean (S3.1 (grf x0 15) x1.toNatClampNeg)) → (Q S4))))))))))) ∧ ((¬ (S.1 (grf x0 13) x1.toNatClampNeg) ≤ x3) → (vp_in ((330 * x1) + x3) (Ln (grf x0 12)) ∧ (vp_in ((330 * x2) + x3) (Ln (grf x0 12)) ∧ (∀ S5 : gS, S5 = gset S (grf x0 12) ((330 * x2) + x3).toNatClampNeg (S.1 (grf x0 12) ((330 * x1) + x3).toNatClampNeg) → (∀ v3_6 : Int32, v3_6 = x3 + 1 → (wp_Mo_copy_2 Ln Q n2 x0 x1 x2 v3_6 S5)))))))
def wp_Mo_copy (Ln : gI → Nat) (Q : gS → Prop) (x0 : gI) (x1 : Int32) (x2 : Int32)  (S : gS) : Prop :=
  ∃ n2 : Nat, wp_Mo_copy_2 Ln Q n2 x0 x1 x2 0 S
set_option maxHeartbeats 4000000 in
set_option maxRecDepth 100000 in
theorem mw_Mo_copy_2 {p : Program} {l : Launch} {e : Env} {s : State} {m : MethodId} {args : Array Value} {below : List Frame} {meth : Method} {c : Code} {Y : gY} {Q : gS → Prop} (C : gCx p s m args meth c Y "LogDiskModel" c_Mo_copy 4 (Option.none : Option Jvm.ClassFile.FieldType) w_Mo_copy) : ∀ (n : Nat), ∀ (x0 : gI) (x1 : Int32) (x2 : Int32) (x3 : Int32)  (S : gS) (H : Heap) (locs : List Loc) (ls : Array Slot), gis Y 10 x0 → wp_Mo_copy_2 (gLn Y) Q n x0 x1 x2 x3 S → gWd Y S H → va_S (gA Y s.heap.size) s.heap H locs → lv_has ls 4 [(0, .ref (gad Y x0)), (1, .int x1), (2, .int x2), (3, .int x3)] → W p l e (gRm 0 0) s m args below meth c H locs 0 0 (MQ below (va_Qv Q (gB Y) (gA Y s.heap.size)) args s 0 0 (gA Y s.heap.size)) (F0 m 2 ls []) := by
  have C0 := C
  obtain ⟨hx, hb, hml, hown, hts, hr, hlocks, hK, hY, hSt⟩ := C
  intro n
  induction n with
  | zero =>
    intro x0 x1 x2 x3 S H locs ls hx0 hw
    exact False.elim hw
  | succ n ih =>
    intro x0 x1 x2 x3 S H locs ls hx0 hw hP hS hl
    unfold wp_Mo_copy_2 at hw
    refine lv_iload_n hx hb d_Mo_copy_2 rfl (lv_at hl 3 rfl) ?_
    refine lv_aload_n hx hb d_Mo_copy_3 rfl (lv_at hl 0 rfl) ?_
    refine g_get hx hb hts (fun w h => List.mem_cons_of_mem _ (in_Mo w h)) hown hK hP hx0 (gce_Mo hx0.1) rfl 13 (by decide) (hts _ (List.mem_cons_of_mem _ gw_820)) rfl d_Mo_copy_4 ?_
    refine lv_iload_n hx hb d_Mo_copy_7 rfl (lv_at hl 1 rfl) ?_
    obtain ⟨hin, hw⟩ := hw
    refine g_iaload hx hb hK hP (gis_Mo_counts hY hx0) hin d_Mo_copy_8 ?_
    refine lv_icmp_ge (tgt := 42) hx hb d_Mo_copy_9 (by decide) (fun c1 => ?_) (fun c1 => ?_)
    · replace hw := hw.1 c1
      refine lv_aload_n hx hb d_Mo_copy_42 rfl (lv_at hl 0 rfl) ?_
      refine g_get hx hb hts (fun w h => List.mem_cons_of_mem _ (in_Mo w h)) hown hK hP hx0 (gce_Mo hx0.1) rfl 13 (by decide) (hts _ (List.mem_cons_of_mem _ gw_820)) rfl d_Mo_copy_43 ?_
      refine lv_iload_n hx hb d_Mo_copy_46 rfl (lv_at hl 2 rfl) ?_
      refine lv_aload_n hx hb d_Mo_copy_47 rfl (lv_at hl 0 rfl) ?_
      refine g_get hx hb hts (fun w h => List.mem_cons_of_mem _ (in_Mo w h)) hown hK hP hx0 (gce_Mo hx0.1) rfl 13 (by decide) (hts _ (List.mem_cons_of_mem _ gw_820)) rfl d_Mo_copy_48 ?_
      refine lv_iload_n hx hb d_Mo_copy_51 rfl (lv_at hl 1 rfl) ?_
      obtain ⟨hin, hw⟩ := hw
      refine g_iaload hx hb hK hP (gis_Mo_counts hY hx0) hin d_Mo_copy_52 ?_
      obtain ⟨hin, hw⟩ := hw
      refine g_iastore hx hb hK hY.1 hP hS (gis_Mo_counts hY hx0) hin d_Mo_copy_53 (fun S2 eS2 H locs hP hS => ?_)
      replace hw := hw S2 eS2
      refine lv_aload_n hx hb d_Mo_copy_54 rfl (lv_at hl 0 rfl) ?_
      refine g_get hx hb hts (fun w h => List.mem_cons_of_mem _ (in_Mo w h)) hown hK hP hx0 (gce_Mo hx0.1) rfl 14 (by decide) (hts _ (List.mem_cons_of_mem _ gw_821)) rfl d_Mo_copy_55 ?_
      refine lv_iload_n hx hb d_Mo_copy_58 rfl (lv_at hl 2 rfl) ?_
      refine lv_aload_n hx hb d_Mo_copy_59 rfl (lv_at hl 0 rfl) ?_
      refine g_get hx hb hts (fun w h => List.mem_cons_of_mem _ (in_Mo w h)) hown hK hP hx0 (gce_Mo hx0.1) rfl 14 (by decide) (hts _ (List.mem_cons_of_mem _ gw_821)) rfl d_Mo_copy_60 ?_
      refine lv_iload_n hx hb d_Mo_copy_63 rfl (lv_at hl 1 rfl) ?_
      obtain ⟨hin, hw⟩ := hw
      refine g_iaload hx hb hK hP (gis_Mo_sizes hY hx0) hin d_Mo_copy_64 ?_
      obtain ⟨hin, hw⟩ := hw
      refine g_iastore hx hb hK hY.1 hP hS (gis_Mo_sizes hY hx0) hin d_Mo_copy_65 (fun S3 eS3 H locs hP hS => ?_)
      replace hw := hw S3 eS3
      refine lv_aload_n hx hb d_Mo_copy_66 rfl (lv_at hl 0 rfl) ?_
      refine g_get hx hb hts (fun w h => List.mem_cons_of_mem _ (in_Mo w h)) hown hK hP hx0 (gce_Mo hx0.1) rfl 15 (by decide) (hts _ (List.mem_cons_of_mem _ gw_822)) rfl d_Mo_copy_67 ?_
      refine lv_iload_n hx hb d_Mo_copy_70 rfl (lv_at hl 2 rfl) ?_
      refine lv_aload_n hx hb d_Mo_copy_71 rfl (lv_at hl 0 rfl) ?_
      refine g_get hx hb hts (fun w h => List.mem_cons_of_mem _ (in_Mo w h)) hown hK hP hx0 (gce_Mo hx0.1) rfl 15 (by decide) (hts _ (List.mem_cons_of_mem _ gw_822)) rfl d_Mo_copy_72 ?_
      refine lv_iload_n hx hb d_Mo_copy_75 rfl (lv_at hl 1 rfl) ?_
      obtain ⟨hin, hw⟩ := hw
      refine g_zaload hx hb hK hP (gis_Mo_there hY hx0) hin d_Mo_copy_76 ?_
      obtain ⟨hin, hw⟩ := hw
      refine g_zastore hx hb hK hY.1 hP hS (gis_Mo_there hY hx0) hin d_Mo_copy_77 (fun S4 eS4 H locs hP hS => ?_)
      replace hw := hw S4 eS4
      exact W.vret hx hb hr (fun t ht hW => ⟨⟨S4, rfl, hw, by rw [ht]; exact hP, va_K.moved hW.alike hK⟩, hS.F ht⟩) hS.2.2 d_Mo_copy_78
    · replace hw := hw.2 c1
      refine lv_aload_n hx hb d_Mo_copy_12 rfl (lv_at hl 0 rfl) ?_
      refine g_get hx hb hts (fun w h => List.mem_cons_of_mem _ (in_Mo w h)) hown hK hP hx0 (gce_Mo hx0.1) rfl 12 (by decide) (hts _ (List.mem_cons_of_mem _ gw_819)) rfl d_Mo_copy_13 ?_
      refine lv_sipush (v := 330) hx hb d_Mo_copy_16 (by decide) ?_
      refine lv_iload_n hx hb d_Mo_copy_19 rfl (lv_at hl 2 rfl) ?_
      refine lv_imul hx hb d_Mo_copy_20 ?_
      refine lv_iload_n hx hb d_Mo_copy_21 rfl (lv_at hl 3 rfl) ?_
      refine lv_iadd hx hb d_Mo_copy_22 ?_
      refine lv_aload_n hx hb d_Mo_copy_23 rfl (lv_at hl 0 rfl) ?_
      refine g_get hx hb hts (fun w h => List.mem_cons_of_mem _ (in_Mo w h)) hown hK hP hx0 (gce_Mo hx0.1) rfl 12 (by decide) (hts _ (List.mem_cons_of_mem _ gw_819)) rfl d_Mo_copy_24 ?_
      refine lv_sipush (v := 330) hx hb d_Mo_copy_27 (by decide) ?_
      refine lv_iload_n hx hb d_Mo_copy_30 rfl (lv_at hl 1 rfl) ?_
      refine lv_imul hx hb d_Mo_copy_31 ?_
      refine lv_iload_n hx hb d_Mo_copy_32 rfl (lv_at hl 3 rfl) ?_
      refine lv_iadd hx hb d_Mo_copy_33 ?_
      obtain ⟨hin, hw⟩ := hw
      refine g_iaload hx hb hK hP (gis_Mo_rows hY hx0) hin d_Mo_copy_34 ?_
      obtain ⟨hin, hw⟩ := hw
      refine g_iastore hx hb hK hY.1 hP hS (gis_Mo_rows hY hx0) hin d_Mo_copy_35 (fun S5 eS5 H locs hP hS => ?_)
      replace hw := hw S5 eS5
      obtain ⟨v3_6, ev3_6⟩ : ∃ y : Int32, y = x3 + 1 := ⟨_, rfl⟩
      replace hw := hw v3_6 ev3_6
      refine lv_iinc (v := v3_6) (lv' := [(3, .int v3_6), (0, .ref (gad Y x0)), (1, .int x1), (2, .int x2)]) hx hb d_Mo_copy_36 hl (k := 3) rfl (by rw [ev3_6]; rfl) (by decide) rfl (fun ls hl => ?_)
      refine lv_goto (tgt := 2) hx hb d_Mo_copy_39 (by decide) ?_
      exact ih x0 x1 x2 v3_6 S5 H locs ls hx0 hw hP hS (lv_sub hl [1, 2, 3, 0] rfl)
set_option maxHeartbeats 4000000 in
set_option maxRecDepth 100000 in
theorem mw_Mo_copy {p : Program} {l : Launch} {e : Env} {s : State} {m : MethodId} {args : Array Value} {below : List Frame} {meth : Method} {c : Code} {Y : gY} {Q : gS → Prop} (C : gCx p s m args meth c Y "LogDiskModel" c_Mo_copy 4 (Option.none : Option Jvm.ClassFile.FieldType) w_Mo_copy) : ∀ (x0 : gI) (x1 : Int32) (x2 : Int32)  (S : gS) (H : Heap) (locs : List Loc) (ls : Array Slot), gis Y 10 x0 → wp_Mo_copy (gLn Y) Q x0 x1 x2 S → gWd Y S H → va_S (gA Y s.heap.size) s.heap H locs → lv_has ls 4 [(0, .ref (gad Y x0)), (1, .int x1), (2, .int x2)] → W p l e (gRm 0 0) s m args below meth c H locs 0 0 (MQ below (va_Qv Q (gB Y) (gA Y s.heap.size)) args s 0 0 (gA Y s.heap.size)) (F0 m 0 ls []) := by
  have C0 := C
  obtain ⟨hx, hb, hml, hown, hts, hr, hlocks, hK, hY, hSt⟩ := C
  intro x0 x1 x2 S H locs ls hx0 hw hP hS hl
  unfold wp_Mo_copy at hw
  refine lv_iconst (v := 0) hx hb d_Mo_copy_0 (by decide) ?_
  refine lv_istore_n (lv' := [(3, .int 0), (0, .ref (gad Y x0)), (1, .int x1), (2, .int x2)]) hx hb d_Mo_copy_1 rfl hl (by decide) rfl (fun ls hl => ?_)
  obtain ⟨n, hw⟩ := hw
  exact mw_Mo_copy_2 C0 n x0 x1 x2 0 S H locs ls hx0 hw hP hS (lv_sub hl [1, 2, 3, 0] rfl)
set_option maxHeartbeats 4000000 in
set_option maxRecDepth 100000 in
theorem k_Mo_copy (l : Launch) (Y : gY) (hY : gOK Y) (sz : Nat) (x0 : gI) (x1 : Int32) (x2 : Int32)  (hx0 : gis Y 10 x0) (S : gS) (Q : gS → Prop) : Met l y_Mo_copy w_Mo_copy (gRm 0 0) (gPre Y [.ref (gad Y x0), .int x1, .int x2] S sz (wp_Mo_copy (gLn Y) Q x0 x1 x2 S)) (va_Qv Q (gB Y) (gA Y sz)) 0 0 (gA Y sz) := by
  refine Met.ofW (cc := c_Mo_copy) (maxL := 4) (ret := (Option.none : Option Jvm.ClassFile.FieldType)) (by decide) rfl ?_
  intro p e s m args below meth c s₁ B hml hv
  obtain ⟨rfl, hsz, hP, hK, hSt, hw⟩ := hv
  subst hsz
  have hts := atoms_spec (ws := w_Mo_copy) B.pre
  have hl := lv_entry ([.ref (gad Y x0), .int x1, .int x2]) (n := 4) (Nat.le_of_ble_eq_true rfl)
  rw [lg_entry_eq]
  generalize (lg_sl ([.ref (gad Y x0), .int x1, .int x2]) ++ List.replicate (4 - (lg_sl ([.ref (gad Y x0), .int x1, .int x2])).length) Slot.unset).toArray = ls at hl ⊢
  exact mw_Mo_copy ⟨B.exec, B.bytes, hml, findClass_of_methodNamed B.named, hts, B.returns, B.notSynchronized, hK, hY, hSt⟩ x0 x1 x2 S s.heap [] ls hx0 hw hP va_S.rf hl

def wp_Mo_settle (Ln : gI → Nat) (Q : gS → Prop) (x0 : gI) (x1 : Int32)  (S : gS) : Prop :=
  wp_Mo_copy Ln (fun S1 => vp_in x1 (Ln (grf x0 14)) ∧ (vp_in x1 (Ln (grf x0 16)) ∧ (∀ S2 : gS, S2 = gset S1 (grf x0 16) x1.toNatClampNeg (S1.1 (grf x0 14) x1.toNatClampNeg) → (vp_in x1 (Ln (grf x0 14)) ∧ (wp_Mo_pages Ln (fun r4 S3 => vp_in x1 (Ln (grf x0 17)) ∧ (∀ S5 : gS, S5 = gset S3 (grf x0 17) x1.toNatClampNeg r4 → (Q S5))) (S2.1 (grf x0 14) x1.toNatClampNeg) S2))))) x0 x1 (16 + x1) S
set_option maxHeartbeats 4000000 in
set_option maxRecDepth 100000 in
theorem mw_Mo_settle {p : Program} {l : Launch} {e : Env} {s : State} {m : MethodId} {args : Array Value} {below : List Frame} {meth : Method} {c : Code} {Y : gY} {Q : gS → Prop} (C : gCx p s m args meth c Y "LogDiskModel" c_Mo_settle 2 (Option.none : Option Jvm.ClassFile.FieldType) w_Mo_settle) : ∀ (x0 : gI) (x1 : Int32)  (S : gS) (H : Heap) (locs : List Loc) (ls : Array Slot), gis Y 10 x0 → wp_Mo_settle (gLn Y) Q x0 x1 S → gWd Y S H → va_S (gA Y s.heap.size) s.heap H locs → lv_has ls 2 [(0, .ref (gad Y x0)), (1, .int x1)] → W p l e (gRm 1 23) s m args below meth c H locs 0 0 (MQ below (va_Qv Q (gB Y) (gA Y s.heap.size)) args s 0 0 (gA Y s.heap.size)) (F0 m 0 ls []) := by
  have C0 := C
  obtain ⟨hx, hb, hml, hown, hts, hr, hlocks, hK, hY, hSt⟩ := C
  intro x0 x1 S H locs ls hx0 hw hP hS hl
  unfold wp_Mo_settle at hw
  refine lv_aload_n hx hb d_Mo_settle_0 rfl (lv_at hl 0 rfl) ?_
  refine lv_iload_n hx hb d_Mo_settle_1 rfl (lv_at hl 1 rfl) ?_
  refine lv_bipush (v := 16) hx hb d_Mo_settle_2 (by decide) ?_
  refine lv_iload_n hx hb d_Mo_settle_4 rfl (lv_at hl 1 rfl) ?_
  refine lv_iadd hx hb d_Mo_settle_5 ?_
  refine g_callv (va_runV (As := [.int x1, .int (16 + x1)]) (rest := []) ⟨hx, hb, hml, hown, hts⟩ (k_Mo_copy l Y hY H.size x0 x1 (16 + x1) hx0 S _) (cwV 2 hts (gG_V gw_1021 gw_1023 gs_39 gw_12 gw_1024) rfl rfl rfl (by decide +kernel) ⟨Nat.le_of_ble_eq_true rfl, Nat.le_of_ble_eq_true rfl⟩) ⟨gPre_blind, g_recv hK hP hx0 (gce_Mo hx0.1) rfl, g_pre hK hSt hS hP hw⟩ rfl rfl hl.1 rfl (lv_room (Nat.le_of_ble_eq_true rfl)) d_Mo_settle_6 ⟨Nat.zero_le _, Nat.zero_le _⟩) hS (fun S1 H locs hw hP hS => ?_)
  refine lv_aload_n hx hb d_Mo_settle_9 rfl (lv_at hl 0 rfl) ?_
  refine g_get hx hb hts (fun w h => List.mem_cons_of_mem _ (in_Mo w h)) hown hK hP hx0 (gce_Mo hx0.1) rfl 16 (by decide) (hts _ (List.mem_cons_of_mem _ gw_823)) rfl d_Mo_settle_10 ?_
  refine lv_iload_n hx hb d_Mo_settle_13 rfl (lv_at hl 1 rfl) ?_
  refine lv_aload_n hx hb d_Mo_settle_14 rfl (lv_at hl 0 rfl) ?_
  refine g_get hx hb hts (fun w h => List.mem_cons_of_mem _ (in_Mo w h)) hown hK hP hx0 (gce_Mo hx0.1) rfl 14 (by decide) (hts _ (List.mem_cons_of_mem _ gw_821)) rfl d_Mo_settle_15 ?_
  refine lv_iload_n hx hb d_Mo_settle_18 rfl (lv_at hl 1 rfl) ?_
  obtain ⟨hin, hw⟩ := hw
  refine g_iaload hx hb hK hP (gis_Mo_sizes hY hx0) hin d_Mo_settle_19 ?_
  obtain ⟨hin, hw⟩ := hw
  refine g_iastore hx hb hK hY.1 hP hS (gis_Mo_lows hY hx0) hin d_Mo_settle_20 (fun S2 eS2 H locs hP hS => ?_)
  replace hw := hw S2 eS2
  refine lv_aload_n hx hb d_Mo_settle_21 rfl (lv_at hl 0 rfl) ?_
  refine g_get hx hb hts (fun w h => List.mem_cons_of_mem _ (in_Mo w h)) hown hK hP hx0 (gce_Mo hx0.1) rfl 17 (by decide) (hts _ (List.mem_cons_of_mem _ gw_824)) rfl d_Mo_settle_22 ?_
  refine lv_iload_n hx hb d_Mo_settle_25 rfl (lv_at hl 1 rfl) ?_
  refine lv_aload_n hx hb d_Mo_settle_26 rfl (lv_at hl 0 rfl) ?_
  refine g_get hx hb hts (fun w h => List.mem_cons_of_mem _ (in_Mo w h)) hown hK hP hx0 (gce_Mo hx0.1) rfl 14 (by decide) (hts _ (List.mem_cons_of_mem _ gw_821)) rfl d_Mo_settle_27 ?_
  refine lv_iload_n hx hb d_Mo_settle_30 rfl (lv_at hl 1 rfl) ?_
  obtain ⟨hin, hw⟩ := hw
  refine g_iaload hx hb hK hP (gis_Mo_sizes hY hx0) hin d_Mo_settle_31 ?_
  refine g_calli (va_runS (As := [.int (S2.1 (grf x0 14) x1.toNatClampNeg)]) (rest := [.int x1, .ref (gad Y (grf x0 17))]) ⟨hx, hb, hml, hown, hts⟩ (k_Mo_pages l Y hY H.size (S2.1 (grf x0 14) x1.toNatClampNeg) S2 _) (va_cwS 1 hts (gG_S gw_946 gw_947 gw_12 gw_948) rfl rfl rfl (by decide +kernel) ⟨Nat.le_of_ble_eq_true rfl, Nat.le_of_ble_eq_true rfl⟩) ⟨gPre_blind, g_pre hK hSt hS hP hw⟩ rfl rfl hl.1 rfl (lv_room (Nat.le_of_ble_eq_true rfl)) d_Mo_settle_32 ⟨Nat.zero_le _, Nat.zero_le _⟩) hS (fun r4 S3 H locs hw hP hS => ?_)
  obtain ⟨hin, hw⟩ := hw
  refine g_iastore hx hb hK hY.1 hP hS (gis_Mo_shared hY hx0) hin d_Mo_settle_35 (fun S5 eS5 H locs hP hS => ?_)
  replace hw := hw S5 eS5
  exact W.vret hx hb hr (fun t ht hW => ⟨⟨S5, rfl, hw, by rw [ht]; exact hP, va_K.moved hW.alike hK⟩, hS.F ht⟩) hS.2.2 d_Mo_settle_36
set_option maxHeartbeats 4000000 in
set_option maxRecDepth 100000 in
theorem k_Mo_settle (l : Launch) (Y : gY) (hY : gOK Y) (sz : Nat) (x0 : gI) (x1 : Int32)  (hx0 : gis Y 10 x0) (S : gS) (Q : gS → Prop) : Met l y_Mo_settle w_Mo_settle (gRm 1 23) (gPre Y [.ref (gad Y x0), .int x1] S sz (wp_Mo_settle (gLn Y) Q x0 x1 S)) (va_Qv Q (gB Y) (gA Y sz)) 0 0 (gA Y sz) := by
  refine Met.ofW (cc := c_Mo_settle) (maxL := 2) (ret := (Option.none : Option Jvm.ClassFile.FieldType)) (by decide) rfl ?_
  intro p e s m args below meth c s₁ B hml hv
  obtain ⟨rfl, hsz, hP, hK, hSt, hw⟩ := hv
  subst hsz
  have hts := atoms_spec (ws := w_Mo_settle) B.pre
  have hl := lv_entry ([.ref (gad Y x0), .int x1]) (n := 2) (Nat.le_of_ble_eq_true rfl)
  rw [lg_entry_eq]
  generalize (lg_sl ([.ref (gad Y x0), .int x1]) ++ List.replicate (2 - (lg_sl ([.ref (gad Y x0), .int x1])).length) Slot.unset).toArray = ls at hl ⊢
  exact mw_Mo_settle ⟨B.exec, B.bytes, hml, findClass_of_methodNamed B.named, hts, B.returns, B.notSynchronized, hK, hY, hSt⟩ x0 x1 S s.heap [] ls hx0 hw hP va_S.rf hl

def wp_Mo_feed_42 (Ln : gI → Nat) (Q : Int32 → gS → Prop) : Nat → gI → Int64 → Int32 → Int32 → gS → Prop
  | 0, _, _, _, _, _ => False
  | n42 + 1, x0, x1, x3, x4, S => ((x3 ≤ x4) → (∀ S7 : gS, S7 = gset S x0 33 ((S.1 x0 33) + x3) → (Q (S7.1 x0 33) S7))) ∧ ((¬ x3 ≤ x4) → (wp_Mo_byteOf Ln (fun r9 S8 => vp_in ((S.1 x0 33) + x4) (Ln (grf x0 34)) ∧ (∀ S10 : gS, S10 = gset S8 (grf x0 34) ((S.1 x0 33) + x4).toNatClampNeg r9 → (∀ v4_11 : Int32, v4_11 = x4 + 1 → (wp_Mo_feed_42 Ln Q n42 x0 x1 x3 v4_11 S10)))) x1 x4 S))
def wp_Mo_feed (Ln : gI → Nat) (Q : Int32 → gS → Prop) (x0 : gI) (x1 : Int64) (x3 : Int32)  (S : gS) : Prop :=
  ∀ S1 : gS, S1 = gset S x0 0 0 → (wp_Mo_within Ln (fun r3 S2 => ((¬ r3 = 0) → (((((S2.1 x0 33) + x3) ≤ 4096) → (∃ n42 : Nat, wp_Mo_feed_42 Ln Q n42 x0 x1 x3 0 S2)) ∧ ((¬ ((S2.1 x0 33) + x3) ≤ 4096) → (wp_Mo_fail Ln (fun r13 S12 => Q r13 S12) x0 2 S2)))) ∧ ((r3 = 0) → (wp_Mo_fail Ln (fun r15 S14 => Q r15 S14) x0 1 S2))) x3 1 8 S1)
set_option maxHeartbeats 4000000 in
set_option maxRecDepth 100000 in
theorem mw_Mo_feed_42 {p : Program} {l : Launch} {e : Env} {s : State} {m : MethodId} {args : Array Value} {below : List Frame} {meth : Method} {c : Code} {Y : gY} {Q : Int32 → gS → Prop} (C : gCx p s m args meth c Y "LogDiskModel" c_Mo_feed 5 (Option.some Jvm.ClassFile.FieldType.int) w_Mo_feed) : ∀ (n : Nat), ∀ (x0 : gI) (x1 : Int64) (x3 : Int32) (x4 : Int32)  (S : gS) (H : Heap) (locs : List Loc) (ls : Array Slot), gis Y 10 x0 → wp_Mo_feed_42 (gLn Y) Q n x0 x1 x3 x4 S → gWd Y S H → va_S (gA Y s.heap.size) s.heap H locs → lv_has ls 5 [(0, .ref (gad Y x0)), (1, .long x1), (3, .int x3), (4, .int x4)] → W p l e (gRm 1 22) s m args below meth c H locs 0 0 (MQ below (va_Qi Q (gB Y) (gA Y s.heap.size)) args s 0 0 (gA Y s.heap.size)) (F0 m 42 ls []) := by
  have C0 := C
  obtain ⟨hx, hb, hml, hown, hts, hr, hlocks, hK, hY, hSt⟩ := C
  intro n
  induction n with
  | zero =>
    intro x0 x1 x3 x4 S H locs ls hx0 hw
    exact False.elim hw
  | succ n ih =>
    intro x0 x1 x3 x4 S H locs ls hx0 hw hP hS hl
    unfold wp_Mo_feed_42 at hw
    refine lv_iload hx hb d_Mo_feed_42 (lv_at hl 3 rfl) ?_
    refine lv_iload_n hx hb d_Mo_feed_44 rfl (lv_at hl 2 rfl) ?_
    refine lv_icmp_ge (tgt := 72) hx hb d_Mo_feed_45 (by decide) (fun c6 => ?_) (fun c6 => ?_)
    · replace hw := hw.1 c6
      refine lv_aload_n hx hb d_Mo_feed_72 rfl (lv_at hl 0 rfl) ?_
      refine lv_dup hx hb d_Mo_feed_73 rfl ?_
      refine g_get hx hb hts (fun w h => List.mem_cons_of_mem _ (in_Mo w h)) hown hK hP hx0 (gce_Mo hx0.1) rfl 33 (by decide) (hts _ (List.mem_cons_of_mem _ gw_840)) rfl d_Mo_feed_74 ?_
      refine lv_iload_n hx hb d_Mo_feed_77 rfl (lv_at hl 2 rfl) ?_
      refine lv_iadd hx hb d_Mo_feed_78 ?_
      refine g_put (ty := .int) (v := .int ((S.1 x0 33) + x3)) (S' := gset S x0 33 ((S.1 x0 33) + x3)) hx hb hts (fun w h => List.mem_cons_of_mem _ (in_Mo w h)) ty_Mo tyok_Mo nm_Mo hown hK hY.1 hP hS hx0 (gce_Mo hx0.1) rfl 33 (by decide) (hts _ (List.mem_cons_of_mem _ gw_840)) rfl (by decide +kernel) rfl rfl (Nat.le_of_ble_eq_true rfl) (gp_Mo_tape hx0.1) gce_gset d_Mo_feed_79 (fun H locs hP hS => ?_)
      obtain ⟨S7, eS7⟩ : ∃ z, z = gset S x0 33 ((S.1 x0 33) + x3) := ⟨_, rfl⟩
      rw [← eS7] at hP
      replace hw := hw S7 eS7
      refine lv_aload_n hx hb d_Mo_feed_82 rfl (lv_at hl 0 rfl) ?_
      refine g_get hx hb hts (fun w h => List.mem_cons_of_mem _ (in_Mo w h)) hown hK hP hx0 (gce_Mo hx0.1) rfl 33 (by decide) (hts _ (List.mem_cons_of_mem _ gw_840)) rfl d_Mo_feed_83 ?_
      exact W.iret (v := (S7.1 x0 33)) hx hb hr (fun t ht hW => ⟨⟨(S7.1 x0 33), S7, rfl, hw, by rw [ht]; exact hP, va_K.moved hW.alike hK⟩, hS.F ht⟩) hS.2.2 d_Mo_feed_86
    · replace hw := hw.2 c6
      refine lv_aload_n hx hb d_Mo_feed_48 rfl (lv_at hl 0 rfl) ?_
      refine g_get hx hb hts (fun w h => List.mem_cons_of_mem _ (in_Mo w h)) hown hK hP hx0 (gce_Mo hx0.1) rfl 34 (by decide) (hts _ (List.mem_cons_of_mem _ gw_841)) rfl d_Mo_feed_49 ?_
      refine lv_aload_n hx hb d_Mo_feed_52 rfl (lv_at hl 0 rfl) ?_
      refine g_get hx hb hts (fun w h => List.mem_cons_of_mem _ (in_Mo w h)) hown hK hP hx0 (gce_Mo hx0.1) rfl 33 (by decide) (hts _ (List.mem_cons_of_mem _ gw_840)) rfl d_Mo_feed_53 ?_
      refine lv_iload hx hb d_Mo_feed_56 (lv_at hl 3 rfl) ?_
      refine lv_iadd hx hb d_Mo_feed_58 ?_
      refine lv_lload_n hx hb d_Mo_feed_59 rfl (lv_at hl 1 rfl) ?_
      refine lv_iload hx hb d_Mo_feed_60 (lv_at hl 3 rfl) ?_
      refine g_calli (va_runS (As := [.long x1, .int x4]) (rest := [.int ((S.1 x0 33) + x4), .ref (gad Y (grf x0 34))]) ⟨hx, hb, hml, hown, hts⟩ (k_Mo_byteOf l Y hY H.size x1 x4 S _) (va_cwS 2 hts (gG_S gw_929 gw_930 gw_12 gw_931) rfl rfl rfl (by decide +kernel) ⟨Nat.le_of_ble_eq_true rfl, Nat.le_of_ble_eq_true rfl⟩) ⟨gPre_blind, g_pre hK hSt hS hP hw⟩ rfl rfl hl.1 rfl (lv_room (Nat.le_of_ble_eq_true rfl)) d_Mo_feed_62 ⟨Nat.zero_le _, Nat.zero_le _⟩) hS (fun r9 S8 H locs hw hP hS => ?_)
      obtain ⟨hin, hw⟩ := hw
      refine g_iastore hx hb hK hY.1 hP hS (gis_Mo_fed hY hx0) hin d_Mo_feed_65 (fun S10 eS10 H locs hP hS => ?_)
      replace hw := hw S10 eS10
      obtain ⟨v4_11, ev4_11⟩ : ∃ y : Int32, y = x4 + 1 := ⟨_, rfl⟩
      replace hw := hw v4_11 ev4_11
      refine lv_iinc (v := v4_11) (lv' := [(4, .int v4_11), (0, .ref (gad Y x0)), (1, .long x1), (3, .int x3)]) hx hb d_Mo_feed_66 hl (k := 3) rfl (by rw [ev4_11]; rfl) (by decide) rfl (fun ls hl => ?_)
      refine lv_goto (tgt := 42) hx hb d_Mo_feed_69 (by decide) ?_
      exact ih x0 x1 x3 v4_11 S10 H locs ls hx0 hw hP hS (lv_sub hl [1, 2, 3, 0] rfl)
set_option maxHeartbeats 4000000 in
set_option maxRecDepth 100000 in
theorem mw_Mo_feed {p : Program} {l : Launch} {e : Env} {s : State} {m : MethodId} {args : Array Value} {below : List Frame} {meth : Method} {c : Code} {Y : gY} {Q : Int32 → gS → Prop} (C : gCx p s m args meth c Y "LogDiskModel" c_Mo_feed 5 (Option.some Jvm.ClassFile.FieldType.int) w_Mo_feed) : ∀ (x0 : gI) (x1 : Int64) (x3 : Int32)  (S : gS) (H : Heap) (locs : List Loc) (ls : Array Slot), gis Y 10 x0 → wp_Mo_feed (gLn Y) Q x0 x1 x3 S → gWd Y S H → va_S (gA Y s.heap.size) s.heap H locs → lv_has ls 5 [(0, .ref (gad Y x0)), (1, .long x1), (3, .int x3)] → W p l e (gRm 1 22) s m args below meth c H locs 0 0 (MQ below (va_Qi Q (gB Y) (gA Y s.heap.size)) args s 0 0 (gA Y s.heap.size)) (F0 m 0 ls []) := by
  have C0 := C
  obtain ⟨hx, hb, hml, hown, hts, hr, hlocks, hK, hY, hSt⟩ := C
  intro x0 x1 x3 S H locs ls hx0 hw hP hS hl
  unfold wp_Mo_feed at hw
  refine lv_aload_n hx hb d_Mo_feed_0 rfl (lv_at hl 0 rfl) ?_
  refine lv_iconst (v := 0) hx hb d_Mo_feed_1 (by decide) ?_
  refine g_put (ty := .int) (v := .int 0) (S' := gset S x0 0 0) hx hb hts (fun w h => List.mem_cons_of_mem _ (in_Mo w h)) ty_Mo tyok_Mo nm_Mo hown hK hY.1 hP hS hx0 (gce_Mo hx0.1) rfl 0 (by decide) (hts _ (List.mem_cons_of_mem _ gw_807)) rfl (by decide +kernel) rfl rfl (Nat.le_of_ble_eq_true rfl) (gp_Mo_thrown hx0.1) gce_gset d_Mo_feed_2 (fun H locs hP hS => ?_)
  obtain ⟨S1, eS1⟩ : ∃ z, z = gset S x0 0 0 := ⟨_, rfl⟩
  rw [← eS1] at hP
  replace hw := hw S1 eS1
  refine lv_iload_n hx hb d_Mo_feed_5 rfl (lv_at hl 2 rfl) ?_
  refine lv_iconst (v := 1) hx hb d_Mo_feed_6 (by decide) ?_
  refine lv_bipush (v := 8) hx hb d_Mo_feed_7 (by decide) ?_
  refine g_calli (va_runS (As := [.int x3, .int 1, .int 8]) (rest := []) ⟨hx, hb, hml, hown, hts⟩ (k_Mo_within l Y hY H.size x3 1 8 S1 _) (va_cwS 3 hts (gG_S gw_922 gw_923 gw_12 gw_924) rfl rfl rfl (by decide +kernel) ⟨Nat.le_of_ble_eq_true rfl, Nat.le_of_ble_eq_true rfl⟩) ⟨gPre_blind, g_pre hK hSt hS hP hw⟩ rfl rfl hl.1 rfl (lv_room (Nat.le_of_ble_eq_true rfl)) d_Mo_feed_9 ⟨Nat.zero_le _, Nat.zero_le _⟩) hS (fun r3 S2 H locs hw hP hS => ?_)
  refine lv_if_ne (tgt := 21) hx hb d_Mo_feed_12 (by decide) (fun c4 => ?_) (fun c4 => ?_)
  · replace hw := hw.1 c4
    refine lv_aload_n hx hb d_Mo_feed_21 rfl (lv_at hl 0 rfl) ?_
    refine g_get hx hb hts (fun w h => List.mem_cons_of_mem _ (in_Mo w h)) hown hK hP hx0 (gce_Mo hx0.1) rfl 33 (by decide) (hts _ (List.mem_cons_of_mem _ gw_840)) rfl d_Mo_feed_22 ?_
    refine lv_iload_n hx hb d_Mo_feed_25 rfl (lv_at hl 2 rfl) ?_
    refine lv_iadd hx hb d_Mo_feed_26 ?_
    refine lv_sipush (v := 4096) hx hb d_Mo_feed_27 (by decide) ?_
    refine lv_icmp_le (tgt := 39) hx hb d_Mo_feed_30 (by decide) (fun c5 => ?_) (fun c5 => ?_)
    · replace hw := hw.1 c5
      refine lv_iconst (v := 0) hx hb d_Mo_feed_39 (by decide) ?_
      refine lv_istore (lv' := [(4, .int 0), (0, .ref (gad Y x0)), (1, .long x1), (3, .int x3)]) hx hb d_Mo_feed_40 hl (by decide) rfl (fun ls hl => ?_)
      obtain ⟨n, hw⟩ := hw
      exact mw_Mo_feed_42 C0 n x0 x1 x3 0 S2 H locs ls hx0 hw hP hS (lv_sub hl [1, 2, 3, 0] rfl)
    · replace hw := hw.2 c5
      refine lv_aload_n hx hb d_Mo_feed_33 rfl (lv_at hl 0 rfl) ?_
      refine lv_iconst (v := 2) hx hb d_Mo_feed_34 (by decide) ?_
      refine g_calli (va_runV (As := [.int 2]) (rest := []) ⟨hx, hb, hml, hown, hts⟩ (k_Mo_fail l Y hY H.size x0 2 hx0 S2 _) (cwV 1 hts (gG_V gw_925 gw_927 gs_21 gw_12 gw_928) rfl rfl rfl (by decide +kernel) ⟨Nat.le_of_ble_eq_true rfl, Nat.le_of_ble_eq_true rfl⟩) ⟨gPre_blind, g_recv hK hP hx0 (gce_Mo hx0.1) rfl, g_pre hK hSt hS hP hw⟩ rfl rfl hl.1 rfl (lv_room (Nat.le_of_ble_eq_true rfl)) d_Mo_feed_35 ⟨Nat.zero_le _, Nat.zero_le _⟩) hS (fun r13 S12 H locs hw hP hS => ?_)
      exact W.iret (v := r13) hx hb hr (fun t ht hW => ⟨⟨r13, S12, rfl, hw, by rw [ht]; exact hP, va_K.moved hW.alike hK⟩, hS.F ht⟩) hS.2.2 d_Mo_feed_38
  · replace hw := hw.2 c4
    refine lv_aload_n hx hb d_Mo_feed_15 rfl (lv_at hl 0 rfl) ?_
    refine lv_iconst (v := 1) hx hb d_Mo_feed_16 (by decide) ?_
    refine g_calli (va_runV (As := [.int 1]) (rest := []) ⟨hx, hb, hml, hown, hts⟩ (k_Mo_fail l Y hY H.size x0 1 hx0 S2 _) (cwV 1 hts (gG_V gw_925 gw_927 gs_21 gw_12 gw_928) rfl rfl rfl (by decide +kernel) ⟨Nat.le_of_ble_eq_true rfl, Nat.le_of_ble_eq_true rfl⟩) ⟨gPre_blind, g_recv hK hP hx0 (gce_Mo hx0.1) rfl, g_pre hK hSt hS hP hw⟩ rfl rfl hl.1 rfl (lv_room (Nat.le_of_ble_eq_true rfl)) d_Mo_feed_17 ⟨Nat.zero_le _, Nat.zero_le _⟩) hS (fun r15 S14 H locs hw hP hS => ?_)
    exact W.iret (v := r15) hx hb hr (fun t ht hW => ⟨⟨r15, S14, rfl, hw, by rw [ht]; exact hP, va_K.moved hW.alike hK⟩, hS.F ht⟩) hS.2.2 d_Mo_feed_20
set_option maxHeartbeats 4000000 in
set_option maxRecDepth 100000 in
theorem k_Mo_feed (l : Launch) (Y : gY) (hY : gOK Y) (sz : Nat) (x0 : gI) (x1 : Int64) (x3 : Int32)  (hx0 : gis Y 10 x0) (S : gS) (Q : Int32 → gS → Prop) : Met l y_Mo_feed w_Mo_feed (gRm 1 22) (gPre Y [.ref (gad Y x0), .long x1, .int x3] S sz (wp_Mo_feed (gLn Y) Q x0 x1 x3 S)) (va_Qi Q (gB Y) (gA Y sz)) 0 0 (gA Y sz) := by
  refine Met.ofW (cc := c_Mo_feed) (maxL := 5) (ret := (Option.some Jvm.ClassFile.FieldType.int)) (by decide) rfl ?_
  intro p e s m args below meth c s₁ B hml hv
  obtain ⟨rfl, hsz, hP, hK, hSt, hw⟩ := hv
  subst hsz
  have hts := atoms_spec (ws := w_Mo_feed) B.pre
  have hl := lv_entry ([.ref (gad Y x0), .long x1, .int x3]) (n := 5) (Nat.le_of_ble_eq_true rfl)
  rw [lg_entry_eq]
  generalize (lg_sl ([.ref (gad Y x0), .long x1, .int x3]) ++ List.replicate (5 - (lg_sl ([.ref (gad Y x0), .long x1, .int x3])).length) Slot.unset).toArray = ls at hl ⊢
  exact mw_Mo_feed ⟨B.exec, B.bytes, hml, findClass_of_methodNamed B.named, hts, B.returns, B.notSynchronized, hK, hY, hSt⟩ x0 x1 x3 S s.heap [] ls hx0 hw hP va_S.rf hl

def wp_Mo_save_28 (Ln : gI → Nat) (Q : Int32 → gS → Prop) (x0 : gI)  (S : gS) : Prop :=
  wp_Mo_fail Ln (fun r6 S5 => Q r6 S5) x0 1 S
def wp_Mo_save_54 (Ln : gI → Nat) (Q : Int32 → gS → Prop) (x0 : gI) (x1 : Int32) (x2 : Int32) (y0 : Int32) (S : gS) : Prop :=
  wp_Mo_hasRoomAnew Ln (fun r12 S11 => ((¬ r12 = 0) → (∀ S14 : gS, S14 = gset S11 x0 19 x1 → (∀ S15 : gS, S15 = gset S14 x0 20 x2 → (∀ S16 : gS, S16 = gset S15 x0 21 ((S15.1 x0 21) + 1) → (wp_Mo_cut Ln (fun S17 => wp_Mo_make Ln (fun r19 S18 => wp_Mo_put Ln (fun S20 => ∀ S21 : gS, S21 = gset S20 x0 22 y0 → (∀ S22 : gS, S22 = gset S21 x0 28 1 → (∀ S23 : gS, S23 = gset S22 x0 29 1 → (Q y0 S23)))) x0 y0 r19 S18) x0 0 (S17.1 x0 21) x1 x2 S17) x0 y0 0 S16))))) ∧ ((r12 = 0) → (wp_Mo_fail Ln (fun r25 S24 => Q r25 S24) x0 2 S11))) x0 y0 32 S
def wp_Mo_save (Ln : gI → Nat) (Q : Int32 → gS → Prop) (x0 : gI) (x1 : Int32) (x2 : Int32)  (S : gS) : Prop :=
  ∀ S1 : gS, S1 = gset S x0 0 0 → (wp_Mo_within Ln (fun r3 S2 => ((r3 = 0) → (wp_Mo_save_28 Ln Q x0 S2)) ∧ ((¬ r3 = 0) → (wp_Mo_within Ln (fun r8 S7 => ((¬ r8 = 0) → ((((S7.1 x0 28) = 0) → (wp_Mo_save_54 Ln Q x0 x1 x2 (1 - (S7.1 x0 22)) S7)) ∧ ((¬ (S7.1 x0 28) = 0) → (wp_Mo_save_54 Ln Q x0 x1 x2 (S7.1 x0 22) S7)))) ∧ ((r8 = 0) → (wp_Mo_save_28 Ln Q x0 S7))) x2 (-1 : Int32) 6 S2))) x1 (S1.1 x0 19) 1000000 S1)
set_option maxHeartbeats 4000000 in
set_option maxRecDepth 100000 in
theorem mw_Mo_save_28 {p : Program} {l : Launch} {e : Env} {s : State} {m : MethodId} {args : Array Value} {below : List Frame} {meth : Method} {c : Code} {Y : gY} {Q : Int32 → gS → Prop} (C : gCx p s m args meth c Y "LogDiskModel" c_Mo_save 5 (Option.some Jvm.ClassFile.FieldType.int) w_Mo_save) : ∀ (x0 : gI)  (S : gS) (H : Heap) (locs : List Loc) (ls : Array Slot), gis Y 10 x0 → wp_Mo_save_28 (gLn Y) Q x0 S → gWd Y S H → va_S (gA Y s.heap.size) s.heap H locs → lv_has ls 5 [(0, .ref (gad Y x0))] → W p l e (gRm 3 66) s m args below meth c H locs 0 0 (MQ below (va_Qi Q (gB Y) (gA Y s.heap.size)) args s 0 0 (gA Y s.heap.size)) (F0 m 28 ls []) := by
  have C0 := C
  obtain ⟨hx, hb, hml, hown, hts, hr, hlocks, hK, hY, hSt⟩ := C
  intro x0 S H locs ls hx0 hw hP hS hl
  unfold wp_Mo_save_28 at hw
  refine lv_aload_n hx hb d_Mo_save_28 rfl (lv_at hl 0 rfl) ?_
  refine lv_iconst (v := 1) hx hb d_Mo_save_29 (by decide) ?_
  refine g_calli (va_runV (As := [.int 1]) (rest := []) ⟨hx, hb, hml, hown, hts⟩ (k_Mo_fail l Y hY H.size x0 1 hx0 S _) (cwV 1 hts (gG_V gw_925 gw_927 gs_21 gw_12 gw_928) rfl rfl rfl (by decide +kernel) ⟨Nat.le_of_ble_eq_true rfl, Nat.le_of_ble_eq_true rfl⟩) ⟨gPre_blind, g_recv hK hP hx0 (gce_Mo hx0.1) rfl, g_pre hK hSt hS hP hw⟩ rfl rfl hl.1 rfl (lv_room (Nat.le_of_ble_eq_true rfl)) d_Mo_save_30 ⟨Nat.zero_le _, Nat.zero_le _⟩) hS (fun r6 S5 H locs hw hP hS => ?_)
  exact W.iret (v := r6) hx hb hr (fun t ht hW => ⟨⟨r6, S5, rfl, hw, by rw [ht]; exact hP, va_K.moved hW.alike hK⟩, hS.F ht⟩) hS.2.2 d_Mo_save_33
set_option maxHeartbeats 4000000 in
set_option maxRecDepth 100000 in
theorem mw_Mo_save_54 {p : Program} {l : Launch} {e : Env} {s : State} {m : MethodId} {args : Array Value} {below : List Frame} {meth : Method} {c : Code} {Y : gY} {Q : Int32 → gS → Prop} (C : gCx p s m args meth c Y "LogDiskModel" c_Mo_save 5 (Option.some Jvm.ClassFile.FieldType.int) w_Mo_save) : ∀ (x0 : gI) (x1 : Int32) (x2 : Int32) (y0 : Int32) (S : gS) (H : Heap) (locs : List Loc) (ls : Array Slot), gis Y 10 x0 → wp_Mo_save_54 (gLn Y) Q x0 x1 x2 y0 S → gWd Y S H → va_S (gA Y s.heap.size) s.heap H locs → lv_has ls 5 [(0, .ref (gad Y x0)), (1, .int x1), (2, .int x2)] → W p l e (gRm 3 66) s m args below meth c H locs 0 0 (MQ below (va_Qi Q (gB Y) (gA Y s.heap.size)) args s 0 0 (gA Y s.heap.size)) (F0 m 54 ls [.int y0]) := by
  have C0 := C
  obtain ⟨hx, hb, hml, hown, hts, hr, hlocks, hK, hY, hSt⟩ := C
  intro x0 x1 x2 y0 S H locs ls hx0 hw hP hS hl
  unfold wp_Mo_save_54 at hw
  refine lv_istore_n (lv' := [(3, .int y0), (0, .ref (gad Y x0)), (1, .int x1), (2, .int x2)]) hx hb d_Mo_save_54 rfl hl (by decide) rfl (fun ls hl => ?_)
  refine lv_aload_n hx hb d_Mo_save_55 rfl (lv_at hl 1 rfl) ?_
  refine lv_iload_n hx hb d_Mo_save_56 rfl (lv_at hl 0 rfl) ?_
  refine lv_bipush (v := 32) hx hb d_Mo_save_57 (by decide) ?_
  refine g_calli (va_runV (As := [.int y0, .int 32]) (rest := []) ⟨hx, hb, hml, hown, hts⟩ (k_Mo_hasRoomAnew l Y hY H.size x0 y0 32 hx0 S _) (cwV 2 hts (gG_V gw_938 gw_940 gs_22 gw_12 gw_941) rfl rfl rfl (by decide +kernel) ⟨Nat.le_of_ble_eq_true rfl, Nat.le_of_ble_eq_true rfl⟩) ⟨gPre_blind, g_recv hK hP hx0 (gce_Mo hx0.1) rfl, g_pre hK hSt hS hP hw⟩ rfl rfl hl.1 rfl (lv_room (Nat.le_of_ble_eq_true rfl)) d_Mo_save_59 ⟨Nat.zero_le _, Nat.zero_le _⟩) hS (fun r12 S11 H locs hw hP hS => ?_)
  refine lv_if_ne (tgt := 71) hx hb d_Mo_save_62 (by decide) (fun c13 => ?_) (fun c13 => ?_)
  · replace hw := hw.1 c13
    refine lv_aload_n hx hb d_Mo_save_71 rfl (lv_at hl 1 rfl) ?_
    refine lv_iload_n hx hb d_Mo_save_72 rfl (lv_at hl 2 rfl) ?_
    refine g_put (ty := .int) (v := .int x1) (S' := gset S11 x0 19 x1) hx hb hts (fun w h => List.mem_cons_of_mem _ (in_Mo w h)) ty_Mo tyok_Mo nm_Mo hown hK hY.1 hP hS hx0 (gce_Mo hx0.1) rfl 19 (by decide) (hts _ (List.mem_cons_of_mem _ gw_826)) rfl (by decide +kernel) rfl rfl (Nat.le_of_ble_eq_true rfl) (gp_Mo_term hx0.1) gce_gset d_Mo_save_73 (fun H locs hP hS => ?_)
    obtain ⟨S14, eS14⟩ : ∃ z, z = gset S11 x0 19 x1 := ⟨_, rfl⟩
    rw [← eS14] at hP
    replace hw := hw S14 eS14
    refine lv_aload_n hx hb d_Mo_save_76 rfl (lv_at hl 1 rfl) ?_
    refine lv_iload_n hx hb d_Mo_save_77 rfl (lv_at hl 3 rfl) ?_
    refine g_put (ty := .int) (v := .int x2) (S' := gset S14 x0 20 x2) hx hb hts (fun w h => List.mem_cons_of_mem _ (in_Mo w h)) ty_Mo tyok_Mo nm_Mo hown hK hY.1 hP hS hx0 (gce_Mo hx0.1) rfl 20 (by decide) (hts _ (List.mem_cons_of_mem _ gw_827)) rfl (by decide +kernel) rfl rfl (Nat.le_of_ble_eq_true rfl) (gp_Mo_voted hx0.1) gce_gset d_Mo_save_78 (fun H locs hP hS => ?_)
    obtain ⟨S15, eS15⟩ : ∃ z, z = gset S14 x0 20 x2 := ⟨_, rfl⟩
    rw [← eS15] at hP
    replace hw := hw S15 eS15
    refine lv_aload_n hx hb d_Mo_save_81 rfl (lv_at hl 1 rfl) ?_
    refine lv_dup hx hb d_Mo_save_82 rfl ?_
    refine g_get hx hb hts (fun w h => List.mem_cons_of_mem _ (in_Mo w h)) hown hK hP hx0 (gce_Mo hx0.1) rfl 21 (by decide) (hts _ (List.mem_cons_of_mem _ gw_828)) rfl d_Mo_save_83 ?_
    refine lv_iconst (v := 1) hx hb d_Mo_save_86 (by decide) ?_
    refine lv_iadd hx hb d_Mo_save_87 ?_
    refine g_put (ty := .int) (v := .int ((S15.1 x0 21) + 1)) (S' := gset S15 x0 21 ((S15.1 x0 21) + 1)) hx hb hts (fun w h => List.mem_cons_of_mem _ (in_Mo w h)) ty_Mo tyok_Mo nm_Mo hown hK hY.1 hP hS hx0 (gce_Mo hx0.1) rfl 21 (by decide) (hts _ (List.mem_cons_of_mem _ gw_828)) rfl (by decide +kernel) rfl rfl (Nat.le_of_ble_eq_true rfl) (gp_Mo_times hx0.1) gce_gset d_Mo_save_88 (fun H locs hP hS => ?_)
    obtain ⟨S16, eS16⟩ : ∃ z, z = gset S15 x0 21 ((S15.1 x0 21) + 1) := ⟨_, rfl⟩
    rw [← eS16] at hP
    replace hw := hw S16 eS16
    refine lv_aload_n hx hb d_Mo_save_91 rfl (lv_at hl 1 rfl) ?_
    refine lv_iload_n hx hb d_Mo_save_92 rfl (lv_at hl 0 rfl) ?_
    refine lv_iconst (v := 0) hx hb d_Mo_save_93 (by decide) ?_
    refine g_callv (va_runV (As := [.int y0, .int 0]) (rest := []) ⟨hx, hb, hml, hown, hts⟩ (k_Mo_cut l Y hY H.size x0 y0 0 hx0 S16 _) (cwV 2 hts (gG_V gw_949 gw_951 gs_24 gw_12 gw_952) rfl rfl rfl (by decide +kernel) ⟨Nat.le_of_ble_eq_true rfl, Nat.le_of_ble_eq_true rfl⟩) ⟨gPre_blind, g_recv hK hP hx0 (gce_Mo hx0.1) rfl, g_pre hK hSt hS hP hw⟩ rfl rfl hl.1 rfl (lv_room (Nat.le_of_ble_eq_true rfl)) d_Mo_save_94 ⟨Nat.zero_le _, Nat.zero_le _⟩) hS (fun S17 H locs hw hP hS => ?_)
    refine lv_aload_n hx hb d_Mo_save_97 rfl (lv_at hl 1 rfl) ?_
    refine lv_iconst (v := 0) hx hb d_Mo_save_98 (by decide) ?_
    refine lv_aload_n hx hb d_Mo_save_99 rfl (lv_at hl 1 rfl) ?_
    refine g_get hx hb hts (fun w h => List.mem_cons_of_mem _ (in_Mo w h)) hown hK hP hx0 (gce_Mo hx0.1) rfl 21 (by decide) (hts _ (List.mem_cons_of_mem _ gw_828)) rfl d_Mo_save_100 ?_
    refine lv_iload_n hx hb d_Mo_save_103 rfl (lv_at hl 2 rfl) ?_
    refine lv_iload_n hx hb d_Mo_save_104 rfl (lv_at hl 3 rfl) ?_
    refine g_calli (va_runV (As := [.int 0, .int (S17.1 x0 21), .int x1, .int x2]) (rest := []) ⟨hx, hb, hml, hown, hts⟩ (k_Mo_make l Y hY H.size x0 0 (S17.1 x0 21) x1 x2 hx0 S17 _) (cwV 4 hts (gG_V gw_961 gw_963 gs_27 gw_12 gw_964) rfl rfl rfl (by decide +kernel) ⟨Nat.le_of_ble_eq_true rfl, Nat.le_of_ble_eq_true rfl⟩) ⟨gPre_blind, g_recv hK hP hx0 (gce_Mo hx0.1) rfl, g_pre hK hSt hS hP hw⟩ rfl rfl hl.1 rfl (lv_room (Nat.le_of_ble_eq_true rfl)) d_Mo_save_105 ⟨Nat.zero_le _, Nat.zero_le _⟩) hS (fun r19 S18 H locs hw hP hS => ?_)
    refine lv_istore (lv' := [(4, .int r19), (3, .int y0), (0, .ref (gad Y x0)), (1, .int x1), (2, .int x2)]) hx hb d_Mo_save_108 hl (by decide) rfl (fun ls hl => ?_)
    refine lv_aload_n hx hb d_Mo_save_110 rfl (lv_at hl 2 rfl) ?_
    refine lv_iload_n hx hb d_Mo_save_111 rfl (lv_at hl 1 rfl) ?_
    refine lv_iload hx hb d_Mo_save_112 (lv_at hl 0 rfl) ?_
    refine g_callv (va_runV (As := [.int y0, .int r19]) (rest := []) ⟨hx, hb, hml, hown, hts⟩ (k_Mo_put l Y hY H.size x0 y0 r19 hx0 S18 _) (cwV 2 hts (gG_V gw_965 gw_967 gs_28 gw_12 gw_968) rfl rfl rfl (by decide +kernel) ⟨Nat.le_of_ble_eq_true rfl, Nat.le_of_ble_eq_true rfl⟩) ⟨gPre_blind, g_recv hK hP hx0 (gce_Mo hx0.1) rfl, g_pre hK hSt hS hP hw⟩ rfl rfl hl.1 rfl (lv_room (Nat.le_of_ble_eq_true rfl)) d_Mo_save_114 ⟨Nat.zero_le _, Nat.zero_le _⟩) hS (fun S20 H locs hw hP hS => ?_)
    refine lv_aload_n hx hb d_Mo_save_117 rfl (lv_at hl 2 rfl) ?_
    refine lv_iload_n hx hb d_Mo_save_118 rfl (lv_at hl 1 rfl) ?_
    refine g_put (ty := .int) (v := .int y0) (S' := gset S20 x0 22 y0) hx hb hts (fun w h => List.mem_cons_of_mem _ (in_Mo w h)) ty_Mo tyok_Mo nm_Mo hown hK hY.1 hP hS hx0 (gce_Mo hx0.1) rfl 22 (by decide) (hts _ (List.mem_cons_of_mem _ gw_829)) rfl (by decide +kernel) rfl rfl (Nat.le_of_ble_eq_true rfl) (gp_Mo_slot hx0.1) gce_gset d_Mo_save_119 (fun H locs hP hS => ?_)
    obtain ⟨S21, eS21⟩ : ∃ z, z = gset S20 x0 22 y0 := ⟨_, rfl⟩
    rw [← eS21] at hP
    replace hw := hw S21 eS21
    refine lv_aload_n hx hb d_Mo_save_122 rfl (lv_at hl 2 rfl) ?_
    refine lv_iconst (v := 1) hx hb d_Mo_save_123 (by decide) ?_
    refine g_put (ty := .boolean) (v := .int 1) (S' := gset S21 x0 28 1) hx hb hts (fun w h => List.mem_cons_of_mem _ (in_Mo w h)) ty_Mo tyok_Mo nm_Mo hown hK hY.1 hP hS hx0 (gce_Mo hx0.1) rfl 28 (by decide) (hts _ (List.mem_cons_of_mem _ gw_835)) rfl (by decide +kernel) rfl rfl (Nat.le_of_ble_eq_true rfl) (gp_Mo_slotSince hx0.1) gce_gset d_Mo_save_124 (fun H locs hP hS => ?_)
    obtain ⟨S22, eS22⟩ : ∃ z, z = gset S21 x0 28 1 := ⟨_, rfl⟩
    rw [← eS22] at hP
    replace hw := hw S22 eS22
    refine lv_aload_n hx hb d_Mo_save_127 rfl (lv_at hl 2 rfl) ?_
    refine lv_iconst (v := 1) hx hb d_Mo_save_128 (by decide) ?_
    refine g_put (ty := .boolean) (v := .int 1) (S' := gset S22 x0 29 1) hx hb hts (fun w h => List.mem_cons_of_mem _ (in_Mo w h)) ty_Mo tyok_Mo nm_Mo hown hK hY.1 hP hS hx0 (gce_Mo hx0.1) rfl 29 (by decide) (hts _ (List.mem_cons_of_mem _ gw_836)) rfl (by decide +kernel) rfl rfl (Nat.le_of_ble_eq_true rfl) (gp_Mo_dirty hx0.1) gce_gset d_Mo_save_129 (fun H locs hP hS => ?_)
    obtain ⟨S23, eS23⟩ : ∃ z, z = gset S22 x0 29 1 := ⟨_, rfl⟩
    rw [← eS23] at hP
    replace hw := hw S23 eS23
    refine lv_iload_n hx hb d_Mo_save_132 rfl (lv_at hl 1 rfl) ?_
    exact W.iret (v := y0) hx hb hr (fun t ht hW => ⟨⟨y0, S23, rfl, hw, by rw [ht]; exact hP, va_K.moved hW.alike hK⟩, hS.F ht⟩) hS.2.2 d_Mo_save_133
  · replace hw := hw.2 c13
    refine lv_aload_n hx hb d_Mo_save_65 rfl (lv_at hl 1 rfl) ?_
    refine lv_iconst (v := 2) hx hb d_Mo_save_66 (by decide) ?_
    refine g_calli (va_runV (As := [.int 2]) (rest := []) ⟨hx, hb, hml, hown, hts⟩ (k_Mo_fail l Y hY H.size x0 2 hx0 S11 _) (cwV 1 hts (gG_V gw_925 gw_927 gs_21 gw_12 gw_928) rfl rfl rfl (by decide +kernel) ⟨Nat.le_of_ble_eq_true rfl, Nat.le_of_ble_eq_true rfl⟩) ⟨gPre_blind, g_recv hK hP hx0 (gce_Mo hx0.1) rfl, g_pre hK hSt hS hP hw⟩ rfl rfl hl.1 rfl (lv_room (Nat.le_of_ble_eq_true rfl)) d_Mo_save_67 ⟨Nat.zero_le _, Nat.zero_le _⟩) hS (fun r25 S24 H locs hw hP hS => ?_)
    exact W.iret (v := r25) hx hb hr (fun t ht hW => ⟨⟨r25, S24, rfl, hw, by rw [ht]; exact hP, va_K.moved hW.alike hK⟩, hS.F ht⟩) hS.2.2 d_Mo_save_70
set_option maxHeartbeats 4000000 in
set_option maxRecDepth 100000 in
theorem mw_Mo_save {p : Program} {l : Launch} {e : Env} {s : State} {m : MethodId} {args : Array Value} {below : List Frame} {meth : Method} {c : Code} {Y : gY} {Q : Int32 → gS → Prop} (C : gCx p s m args meth c Y "LogDiskModel" c_Mo_save 5 (Option.some Jvm.ClassFile.FieldType.int) w_Mo_save) : ∀ (x0 : gI) (x1 : Int32) (x2 : Int32)  (S : gS) (H : Heap) (locs : List Loc) (ls : Array Slot), gis Y 10 x0 → wp_Mo_save (gLn Y) Q x0 x1 x2 S → gWd Y S H → va_S (gA Y s.heap.size) s.heap H locs → lv_has ls 5 [(0, .ref (gad Y x0)), (1, .int x1), (2, .int x2)] → W p l e (gRm 3 66) s m args below meth c H locs 0 0 (MQ below (va_Qi Q (gB Y) (gA Y s.heap.size)) args s 0 0 (gA Y s.heap.size)) (F0 m 0 ls []) := by
  have C0 := C
  obtain ⟨hx, hb, hml, hown, hts, hr, hlocks, hK, hY, hSt⟩ := C
  intro x0 x1 x2 S H locs ls hx0 hw hP hS hl
  unfold wp_Mo_save at hw
  refine lv_aload_n hx hb d_Mo_save_0 rfl (lv_at hl 0 rfl) ?_
  refine lv_iconst (v := 0) hx hb d_Mo_save_1 (by decide) ?_
  refine g_put (ty := .int) (v := .int 0) (S' := gset S x0 0 0) hx hb hts (fun w h => List.mem_cons_of_mem _ (in_Mo w h)) ty_Mo tyok_Mo nm_Mo hown hK hY.1 hP hS hx0 (gce_Mo hx0.1) rfl 0 (by decide) (hts _ (List.mem_cons_of_mem _ gw_807)) rfl (by decide +kernel) rfl rfl (Nat.le_of_ble_eq_true rfl) (gp_Mo_thrown hx0.1) gce_gset d_Mo_save_2 (fun H locs hP hS => ?_)
  obtain ⟨S1, eS1⟩ : ∃ z, z = gset S x0 0 0 := ⟨_, rfl⟩
  rw [← eS1] at hP
  replace hw := hw S1 eS1
  refine lv_iload_n hx hb d_Mo_save_5 rfl (lv_at hl 1 rfl) ?_
  refine lv_aload_n hx hb d_Mo_save_6 rfl (lv_at hl 0 rfl) ?_
  refine g_get hx hb hts (fun w h => List.mem_cons_of_mem _ (in_Mo w h)) hown hK hP hx0 (gce_Mo hx0.1) rfl 19 (by decide) (hts _ (List.mem_cons_of_mem _ gw_826)) rfl d_Mo_save_7 ?_
  refine lv_ldc (v := 1000000) hx hb hown (hts _ (List.mem_cons_of_mem _ gw_937)) d_Mo_save_10 ?_
  refine g_calli (va_runS (As := [.int x1, .int (S1.1 x0 19), .int 1000000]) (rest := []) ⟨hx, hb, hml, hown, hts⟩ (k_Mo_within l Y hY H.size x1 (S1.1 x0 19) 1000000 S1 _) (va_cwS 3 hts (gG_S gw_922 gw_923 gw_12 gw_924) rfl rfl rfl (by decide +kernel) ⟨Nat.le_of_ble_eq_true rfl, Nat.le_of_ble_eq_true rfl⟩) ⟨gPre_blind, g_pre hK hSt hS hP hw⟩ rfl rfl hl.1 rfl (lv_room (Nat.le_of_ble_eq_true rfl)) d_Mo_save_12 ⟨Nat.zero_le _, Nat.zero_le _⟩) hS (fun r3 S2 H locs hw hP hS => ?_)
  refine lv_if_eq (tgt := 28) hx hb d_Mo_save_15 (by decide) (fun c4 => ?_) (fun c4 => ?_)
  · replace hw := hw.1 c4
    exact mw_Mo_save_28 C0 x0 S2 H locs ls hx0 hw hP hS (lv_sub hl [0] rfl)
  · replace hw := hw.2 c4
    refine lv_iload_n hx hb d_Mo_save_18 rfl (lv_at hl 2 rfl) ?_
    refine lv_iconst (v := (-1 : Int32)) hx hb d_Mo_save_19 (by decide) ?_
    refine lv_bipush (v := 6) hx hb d_Mo_save_20 (by decide) ?_
    refine g_calli (va_runS (As := [.int x2, .int (-1 : Int32), .int 6]) (rest := []) ⟨hx, hb, hml, hown, hts⟩ (k_Mo_within l Y hY H.size x2 (-1 : Int32) 6 S2 _) (va_cwS 3 hts (gG_S gw_922 gw_923 gw_12 gw_924) rfl rfl rfl (by decide +kernel) ⟨Nat.le_of_ble_eq_true rfl, Nat.le_of_ble_eq_true rfl⟩) ⟨gPre_blind, g_pre hK hSt hS hP hw⟩ rfl rfl hl.1 rfl (lv_room (Nat.le_of_ble_eq_true rfl)) d_Mo_save_22 ⟨Nat.zero_le _, Nat.zero_le _⟩) hS (fun r8 S7 H locs hw hP hS => ?_)
    refine lv_if_ne (tgt := 34) hx hb d_Mo_save_25 (by decide) (fun c9 => ?_) (fun c9 => ?_)
    · replace hw := hw.1 c9
      refine lv_aload_n hx hb d_Mo_save_34 rfl (lv_at hl 0 rfl) ?_
      refine g_get hx hb hts (fun w h => List.mem_cons_of_mem _ (in_Mo w h)) hown hK hP hx0 (gce_Mo hx0.1) rfl 28 (by decide) (hts _ (List.mem_cons_of_mem _ gw_835)) rfl d_Mo_save_35 ?_
      refine lv_if_eq (tgt := 48) hx hb d_Mo_save_38 (by decide) (fun c10 => ?_) (fun c10 => ?_)
      · replace hw := hw.1 c10
        refine lv_iconst (v := 1) hx hb d_Mo_save_48 (by decide) ?_
        refine lv_aload_n hx hb d_Mo_save_49 rfl (lv_at hl 0 rfl) ?_
        refine g_get hx hb hts (fun w h => List.mem_cons_of_mem _ (in_Mo w h)) hown hK hP hx0 (gce_Mo hx0.1) rfl 22 (by decide) (hts _ (List.mem_cons_of_mem _ gw_829)) rfl d_Mo_save_50 ?_
        refine lv_isub hx hb d_Mo_save_53 ?_
        exact mw_Mo_save_54 C0 x0 x1 x2 (1 - (S7.1 x0 22)) S7 H locs ls hx0 hw hP hS (lv_sub hl [0, 1, 2] rfl)
      · replace hw := hw.2 c10
        refine lv_aload_n hx hb d_Mo_save_41 rfl (lv_at hl 0 rfl) ?_
        refine g_get hx hb hts (fun w h => List.mem_cons_of_mem _ (in_Mo w h)) hown hK hP hx0 (gce_Mo hx0.1) rfl 22 (by decide) (hts _ (List.mem_cons_of_mem _ gw_829)) rfl d_Mo_save_42 ?_
        refine lv_goto (tgt := 54) hx hb d_Mo_save_45 (by decide) ?_
        exact mw_Mo_save_54 C0 x0 x1 x2 (S7.1 x0 22) S7 H locs ls hx0 hw hP hS (lv_sub hl [0, 1, 2] rfl)
    · replace hw := hw.2 c9
      exact mw_Mo_save_28 C0 x0 S7 H locs ls hx0 hw hP hS (lv_sub hl [0] rfl)
set_option maxHeartbeats 4000000 in
set_option maxRecDepth 100000 in
theorem k_Mo_save (l : Launch) (Y : gY) (hY : gOK Y) (sz : Nat) (x0 : gI) (x1 : Int32) (x2 : Int32)  (hx0 : gis Y 10 x0) (S : gS) (Q : Int32 → gS → Prop) : Met l y_Mo_save w_Mo_save (gRm 3 66) (gPre Y [.ref (gad Y x0), .int x1, .int x2] S sz (wp_Mo_save (gLn Y) Q x0 x1 x2 S)) (va_Qi Q (gB Y) (gA Y sz)) 0 0 (gA Y sz) := by
  refine Met.ofW (cc := c_Mo_save) (maxL := 5) (ret := (Option.some Jvm.ClassFile.FieldType.int)) (by decide) rfl ?_
  intro p e s m args below meth c s₁ B hml hv
  obtain ⟨rfl, hsz, hP, hK, hSt, hw⟩ := hv
  subst hsz
  have hts := atoms_spec (ws := w_Mo_save) B.pre
  have hl := lv_entry ([.ref (gad Y x0), .int x1, .int x2]) (n := 5) (Nat.le_of_ble_eq_true rfl)
  rw [lg_entry_eq]
  generalize (lg_sl ([.ref (gad Y x0), .int x1, .int x2]) ++ List.replicate (5 - (lg_sl ([.ref (gad Y x0), .int x1, .int x2])).length) Slot.unset).toArray = ls at hl ⊢
  exact mw_Mo_save ⟨B.exec, B.bytes, hml, findClass_of_methodNamed B.named, hts, B.returns, B.notSynchronized, hK, hY, hSt⟩ x0 x1 x2 S s.heap [] ls hx0 hw hP va_S.rf hl

def wp_Mo_termOf (Ln : gI → Nat) (Q : Int32 → gS → Prop) (x0 : gI) (x1 : Int32)  (S : gS) : Prop :=
  ((¬ x1 = (S.1 x0 23)) → (vp_in ((x1 - (S.1 x0 23)) - 1) (Ln (grf x0 32)) ∧ (vp_in (S.1 (grf x0 32) ((x1 - (S.1 x0 23)) - 1).toNatClampNeg) (Ln (grf x0 6)) ∧ (Q (S.1 (grf x0 6) (S.1 (grf x0 32) ((x1 - (S.1 x0 23)) - 1).toNatClampNeg).toNatClampNeg) S)))) ∧ ((x1 = (S.1 x0 23)) → (Q (S.1 x0 24) S))
set_option maxHeartbeats 4000000 in
set_option maxRecDepth 100000 in
theorem mw_Mo_termOf {p : Program} {l : Launch} {e : Env} {s : State} {m : MethodId} {args : Array Value} {below : List Frame} {meth : Method} {c : Code} {Y : gY} {Q : Int32 → gS → Prop} (C : gCx p s m args meth c Y "LogDiskModel" c_Mo_termOf 2 (Option.some Jvm.ClassFile.FieldType.int) w_Mo_termOf) : ∀ (x0 : gI) (x1 : Int32)  (S : gS) (H : Heap) (locs : List Loc) (ls : Array Slot), gis Y 10 x0 → wp_Mo_termOf (gLn Y) Q x0 x1 S → gWd Y S H → va_S (gA Y s.heap.size) s.heap H locs → lv_has ls 2 [(0, .ref (gad Y x0)), (1, .int x1)] → W p l e (gRm 0 0) s m args below meth c H locs 0 0 (MQ below (va_Qi Q (gB Y) (gA Y s.heap.size)) args s 0 0 (gA Y s.heap.size)) (F0 m 0 ls []) := by
  have C0 := C
  obtain ⟨hx, hb, hml, hown, hts, hr, hlocks, hK, hY, hSt⟩ := C
  intro x0 x1 S H locs ls hx0 hw hP hS hl
  unfold wp_Mo_termOf at hw
  refine lv_iload_n hx hb d_Mo_termOf_0 rfl (lv_at hl 1 rfl) ?_
  refine lv_aload_n hx hb d_Mo_termOf_1 rfl (lv_at hl 0 rfl) ?_
  refine g_get hx hb hts (fun w h => List.mem_cons_of_mem _ (in_Mo w h)) hown hK hP hx0 (gce_Mo hx0.1) rfl 23 (by decide) (hts _ (List.mem_cons_of_mem _ gw_830)) rfl d_Mo_termOf_2 ?_
  refine lv_icmp_ne (tgt := 15) hx hb d_Mo_termOf_5 (by decide) (fun c1 => ?_) (fun c1 => ?_)
  · replace hw := hw.1 c1
    refine lv_aload_n hx hb d_Mo_termOf_15 rfl (lv_at hl 0 rfl) ?_
    refine g_get hx hb hts (fun w h => List.mem_cons_of_mem _ (in_Mo w h)) hown hK hP hx0 (gce_Mo hx0.1) rfl 6 (by decide) (hts _ (List.mem_cons_of_mem _ gw_813)) rfl d_Mo_termOf_16 ?_
    refine lv_aload_n hx hb d_Mo_termOf_19 rfl (lv_at hl 0 rfl) ?_
    refine g_get hx hb hts (fun w h => List.mem_cons_of_mem _ (in_Mo w h)) hown hK hP hx0 (gce_Mo hx0.1) rfl 32 (by decide) (hts _ (List.mem_cons_of_mem _ gw_839)) rfl d_Mo_termOf_20 ?_
    refine lv_iload_n hx hb d_Mo_termOf_23 rfl (lv_at hl 1 rfl) ?_
    refine lv_aload_n hx hb d_Mo_termOf_24 rfl (lv_at hl 0 rfl) ?_
    refine g_get hx hb hts (fun w h => List.mem_cons_of_mem _ (in_Mo w h)) hown hK hP hx0 (gce_Mo hx0.1) rfl 23 (by decide) (hts _ (List.mem_cons_of_mem _ gw_830)) rfl d_Mo_termOf_25 ?_
    refine lv_isub hx hb d_Mo_termOf_28 ?_
    refine lv_iconst (v := 1) hx hb d_Mo_termOf_29 (by decide) ?_
    refine lv_isub hx hb d_Mo_termOf_30 ?_
    obtain ⟨hin, hw⟩ := hw
    refine g_iaload hx hb hK hP (gis_Mo_entries hY hx0) hin d_Mo_termOf_31 ?_
    obtain ⟨hin, hw⟩ := hw
    refine g_iaload hx hb hK hP (gis_Mo_bs hY hx0) hin d_Mo_termOf_32 ?_
    exact W.iret (v := (S.1 (grf x0 6) (S.1 (grf x0 32) ((x1 - (S.1 x0 23)) - 1).toNatClampNeg).toNatClampNeg)) hx hb hr (fun t ht hW => ⟨⟨(S.1 (grf x0 6) (S.1 (grf x0 32) ((x1 - (S.1 x0 23)) - 1).toNatClampNeg).toNatClampNeg), S, rfl, hw, by rw [ht]; exact hP, va_K.moved hW.alike hK⟩, hS.F ht⟩) hS.2.2 d_Mo_termOf_33
  · replace hw := hw.2 c1
    refine lv_aload_n hx hb d_Mo_termOf_8 rfl (lv_at hl 0 rfl) ?_
    refine g_get hx hb hts (fun w h => List.mem_cons_of_mem _ (in_Mo w h)) hown hK hP hx0 (gce_Mo hx0.1) rfl 24 (by decide) (hts _ (List.mem_cons_of_mem _ gw_831)) rfl d_Mo_termOf_9 ?_
    refine lv_goto (tgt := 33) hx hb d_Mo_termOf_12 (by decide) ?_
    exact W.iret (v := (S.1 x0 24)) hx hb hr (fun t ht hW => ⟨⟨(S.1 x0 24), S, rfl, hw, by rw [ht]; exact hP, va_K.moved hW.alike hK⟩, hS.F ht⟩) hS.2.2 d_Mo_termOf_33
set_option maxHeartbeats 4000000 in
set_option maxRecDepth 100000 in
theorem k_Mo_termOf (l : Launch) (Y : gY) (hY : gOK Y) (sz : Nat) (x0 : gI) (x1 : Int32)  (hx0 : gis Y 10 x0) (S : gS) (Q : Int32 → gS → Prop) : Met l y_Mo_termOf w_Mo_termOf (gRm 0 0) (gPre Y [.ref (gad Y x0), .int x1] S sz (wp_Mo_termOf (gLn Y) Q x0 x1 S)) (va_Qi Q (gB Y) (gA Y sz)) 0 0 (gA Y sz) := by
  refine Met.ofW (cc := c_Mo_termOf) (maxL := 2) (ret := (Option.some Jvm.ClassFile.FieldType.int)) (by decide) rfl ?_
  intro p e s m args below meth c s₁ B hml hv
  obtain ⟨rfl, hsz, hP, hK, hSt, hw⟩ := hv
  subst hsz
  have hts := atoms_spec (ws := w_Mo_termOf) B.pre
  have hl := lv_entry ([.ref (gad Y x0), .int x1]) (n := 2) (Nat.le_of_ble_eq_true rfl)
  rw [lg_entry_eq]
  generalize (lg_sl ([.ref (gad Y x0), .int x1]) ++ List.replicate (2 - (lg_sl ([.ref (gad Y x0), .int x1])).length) Slot.unset).toArray = ls at hl ⊢
  exact mw_Mo_termOf ⟨B.exec, B.bytes, hml, findClass_of_methodNamed B.named, hts, B.returns, B.notSynchronized, hK, hY, hSt⟩ x0 x1 S s.heap [] ls hx0 hw hP va_S.rf hl

def wp_Mo_freeFile_2 (Ln : gI → Nat) (Q : Int32 → gS → Prop) : Nat → gI → Int32 → gS → Prop
  | 0, _, _, _ => False
  | n2 + 1, x0, x1, S => ((16 ≤ x1) → (Q x1 S)) ∧ ((¬ 16 ≤ x1) → (vp_in x1 (Ln (grf x0 15)) ∧ ((((S.1 (grf x0 15) x1.toNatClampNeg) = 0) → (Q x1 S)) ∧ ((¬ (S.1 (grf x0 15) x1.toNatClampNeg) = 0) → (∀ v1_3 : Int32, v1_3 = x1 + 1 → (wp_Mo_freeFile_2 Ln Q n2 x0 v1_3 S))))))
def wp_Mo_freeFile (Ln : gI → Nat) (Q : Int32 → gS → Prop) (x0 : gI)  (S : gS) : Prop :=
  ∃ n2 : Nat, wp_Mo_freeFile_2 Ln Q n2 x0 4 S
set_option maxHeartbeats 4000000 in
set_option maxRecDepth 100000 in
theorem mw_Mo_freeFile_2 {p : Program} {l : Launch} {e : Env} {s : State} {m : MethodId} {args : Array Value} {below : List Frame} {meth : Method} {c : Code} {Y : gY} {Q : Int32 → gS → Prop} (C : gCx p s m args meth c Y "LogDiskModel" c_Mo_freeFile 2 (Option.some Jvm.ClassFile.FieldType.int) w_Mo_freeFile) : ∀ (n : Nat), ∀ (x0 : gI) (x1 : Int32)  (S : gS) (H : Heap) (locs : List Loc) (ls : Array Slot), gis Y 10 x0 → wp_Mo_freeFile_2 (gLn Y) Q n x0 x1 S → gWd Y S H → va_S (gA Y s.heap.size) s.heap H locs → lv_has ls 2 [(0, .ref (gad Y x0)), (1, .int x1)] → W p l e (gRm 0 0) s m args below meth c H locs 0 0 (MQ below (va_Qi Q (gB Y) (gA Y s.heap.size)) args s 0 0 (gA Y s.heap.size)) (F0 m 2 ls []) := by
  have C0 := C
  obtain ⟨hx, hb, hml, hown, hts, hr, hlocks, hK, hY, hSt⟩ := C
  intro n
  induction n with
  | zero =>
    intro x0 x1 S H locs ls hx0 hw
    exact False.elim hw
  | succ n ih =>
    intro x0 x1 S H locs ls hx0 hw hP hS hl
    unfold wp_Mo_freeFile_2 at hw
    refine lv_iload_n hx hb d_Mo_freeFile_2 rfl (lv_at hl 1 rfl) ?_
    refine lv_bipush (v := 16) hx hb d_Mo_freeFile_3 (by decide) ?_
    refine lv_icmp_ge (tgt := 23) hx hb d_Mo_freeFile_5 (by decide) (fun c1 => ?_) (fun c1 => ?_)
    · replace hw := hw.1 c1
      refine lv_iload_n hx hb d_Mo_freeFile_23 rfl (lv_at hl 1 rfl) ?_
      exact W.iret (v := x1) hx hb hr (fun t ht hW => ⟨⟨x1, S, rfl, hw, by rw [ht]; exact hP, va_K.moved hW.alike hK⟩, hS.F ht⟩) hS.2.2 d_Mo_freeFile_24
    · replace hw := hw.2 c1
      refine lv_aload_n hx hb d_Mo_freeFile_8 rfl (lv_at hl 0 rfl) ?_
      refine g_get hx hb hts (fun w h => List.mem_cons_of_mem _ (in_Mo w h)) hown hK hP hx0 (gce_Mo hx0.1) rfl 15 (by decide) (hts _ (List.mem_cons_of_mem _ gw_822)) rfl d_Mo_freeFile_9 ?_
      refine lv_iload_n hx hb d_Mo_freeFile_12 rfl (lv_at hl 1 rfl) ?_
      obtain ⟨hin, hw⟩ := hw
      refine g_zaload hx hb hK hP (gis_Mo_there hY hx0) hin d_Mo_freeFile_13 ?_
      refine lv_if_eq (tgt := 23) hx hb d_Mo_freeFile_14 (by decide) (fun c2 => ?_) (fun c2 => ?_)
      · replace hw := hw.1 c2
        refine lv_iload_n hx hb d_Mo_freeFile_23 rfl (lv_at hl 1 rfl) ?_
        exact W.iret (v := x1) hx hb hr (fun t ht hW => ⟨⟨x1, S, rfl, hw, by rw [ht]; exact hP, va_K.moved hW.alike hK⟩, hS.F ht⟩) hS.2.2 d_Mo_freeFile_24
      · replace hw := hw.2 c2
        obtain ⟨v1_3, ev1_3⟩ : ∃ y : Int32, y = x1 + 1 := ⟨_, rfl⟩
        replace hw := hw v1_3 ev1_3
        refine lv_iinc (v := v1_3) (lv' := [(1, .int v1_3), (0, .ref (gad Y x0))]) hx hb d_Mo_freeFile_17 hl (k := 1) rfl (by rw [ev1_3]; rfl) (by decide) rfl (fun ls hl => ?_)
        refine lv_goto (tgt := 2) hx hb d_Mo_freeFile_20 (by decide) ?_
        exact ih x0 v1_3 S H locs ls hx0 hw hP hS (lv_sub hl [1, 0] rfl)
set_option maxHeartbeats 4000000 in
set_option maxRecDepth 100000 in
theorem mw_Mo_freeFile {p : Program} {l : Launch} {e : Env} {s : State} {m : MethodId} {args : Array Value} {below : List Frame} {meth : Method} {c : Code} {Y : gY} {Q : Int32 → gS → Prop} (C : gCx p s m args meth c Y "LogDiskModel" c_Mo_freeFile 2 (Option.some Jvm.ClassFile.FieldType.int) w_Mo_freeFile) : ∀ (x0 : gI)  (S : gS) (H : Heap) (locs : List Loc) (ls : Array Slot), gis Y 10 x0 → wp_Mo_freeFile (gLn Y) Q x0 S → gWd Y S H → va_S (gA Y s.heap.size) s.heap H locs → lv_has ls 2 [(0, .ref (gad Y x0))] → W p l e (gRm 0 0) s m args below meth c H locs 0 0 (MQ below (va_Qi Q (gB Y) (gA Y s.heap.size)) args s 0 0 (gA Y s.heap.size)) (F0 m 0 ls []) := by
  have C0 := C
  obtain ⟨hx, hb, hml, hown, hts, hr, hlocks, hK, hY, hSt⟩ := C
  intro x0 S H locs ls hx0 hw hP hS hl
  unfold wp_Mo_freeFile at hw
  refine lv_iconst (v := 4) hx hb d_Mo_freeFile_0 (by decide) ?_
  refine lv_istore_n (lv' := [(1, .int 4), (0, .ref (gad Y x0))]) hx hb d_Mo_freeFile_1 rfl hl (by decide) rfl (fun ls hl => ?_)
  obtain ⟨n, hw⟩ := hw
  exact mw_Mo_freeFile_2 C0 n x0 4 S H locs ls hx0 hw hP hS (lv_sub hl [1, 0] rfl)
set_option maxHeartbeats 4000000 in
set_option maxRecDepth 100000 in
theorem k_Mo_freeFile (l : Launch) (Y : gY) (hY : gOK Y) (sz : Nat) (x0 : gI)  (hx0 : gis Y 10 x0) (S : gS) (Q : Int32 → gS → Prop) : Met l y_Mo_freeFile w_Mo_freeFile (gRm 0 0) (gPre Y [.ref (gad Y x0)] S sz (wp_Mo_freeFile (gLn Y) Q x0 S)) (va_Qi Q (gB Y) (gA Y sz)) 0 0 (gA Y sz) := by
  refine Met.ofW (cc := c_Mo_freeFile) (maxL := 2) (ret := (Option.some Jvm.ClassFile.FieldType.int)) (by decide) rfl ?_
  intro p e s m args below meth c s₁ B hml hv
  obtain ⟨rfl, hsz, hP, hK, hSt, hw⟩ := hv
  subst hsz
  have hts := atoms_spec (ws := w_Mo_freeFile) B.pre
  have hl := lv_entry ([.ref (gad Y x0)]) (n := 2) (Nat.le_of_ble_eq_true rfl)
  rw [lg_entry_eq]
  generalize (lg_sl ([.ref (gad Y x0)]) ++ List.replicate (2 - (lg_sl ([.ref (gad Y x0)])).length) Slot.unset).toArray = ls at hl ⊢
  exact mw_Mo_freeFile ⟨B.exec, B.bytes, hml, findClass_of_methodNamed B.named, hts, B.returns, B.notSynchronized, hK, hY, hSt⟩ x0 S s.heap [] ls hx0 hw hP va_S.rf hl

def wp_Mo_append_41 (Ln : gI → Nat) (Q : Int32 → gS → Prop) (x0 : gI)  (S : gS) : Prop :=
  wp_Mo_fail Ln (fun r10 S9 => Q r10 S9) x0 1 S
def wp_Mo_append_161 (Ln : gI → Nat) (Q : Int32 → gS → Prop) (x0 : gI)  (S : gS) : Prop :=
  wp_Mo_fail Ln (fun r21 S20 => Q r21 S20) x0 3 S
def wp_Mo_append_223 (Ln : gI → Nat) (Q : Int32 → gS → Prop) (x0 : gI) (x1 : Int32) (x2 : Int32) (x3 : Int32) (x5 : Int32)  (S : gS) : Prop :=
  wp_Mo_make Ln (fun r28 S27 => wp_Mo_fill Ln (fun S29 => wp_Mo_put Ln (fun S30 => vp_in ((S30.1 x0 27) - (S30.1 x0 23)) (Ln (grf x0 32)) ∧ (∀ S31 : gS, S31 = gset S30 (grf x0 32) ((S30.1 x0 27) - (S30.1 x0 23)).toNatClampNeg r28 → (∀ S32 : gS, S32 = gset S31 x0 27 ((S31.1 x0 27) + 1) → (∀ S33 : gS, S33 = gset S32 x0 29 1 → (Q (S33.1 x0 27) S33))))) x0 x5 r28 S29) x0 r28 x3 S27) x0 3 ((S.1 x0 27) + 1) x1 x2 S
def wp_Mo_append_154 (Ln : gI → Nat) (Q : Int32 → gS → Prop) (x0 : gI) (x1 : Int32) (x2 : Int32) (x3 : Int32) (x4 : Int32) (x5 : Int32) (y0 : gI) (y1 : Int32) (y2 : Int32) (y3 : Int32) (S : gS) : Prop :=
  wp_Mo_hasRoom Ln (fun r24 S23 => ((¬ r24 = 0) → (((¬ x4 = 0) → (wp_Mo_append_223 Ln Q x0 x1 x2 x3 x5 S23)) ∧ ((x4 = 0) → (wp_Mo_termOf Ln (fun r35 S34 => wp_Mo_make Ln (fun r37 S36 => wp_Mo_put Ln (fun S38 => vp_in (S38.1 x0 30) (Ln (grf x0 31)) ∧ (∀ S39 : gS, S39 = gset S38 (grf x0 31) (S38.1 x0 30).toNatClampNeg x5 → (∀ S40 : gS, S40 = gset S39 x0 30 ((S39.1 x0 30) + 1) → (wp_Mo_append_223 Ln Q x0 x1 x2 x3 x5 S40)))) x0 x5 r37 S36) x0 2 ((S23.1 x0 27) + 1) r35 0 S34) x0 (S23.1 x0 27) S23)))) ∧ ((r24 = 0) → (wp_Mo_append_161 Ln Q x0 S23))) y0 y1 (y2 + y3) S
def wp_Mo_append_127 (Ln : gI → Nat) (Q : Int32 → gS → Prop) (x0 : gI) (x1 : Int32) (x2 : Int32) (x3 : Int32) (x4 : Int32) (y0 : Int32) (S : gS) : Prop :=
  ((y0 = 16) → (wp_Mo_append_161 Ln Q x0 S)) ∧ ((¬ y0 = 16) → (((x4 = 0) → (wp_Mo_append_154 Ln Q x0 x1 x2 x3 x4 y0 x0 y0 (25 + x3) 24 S)) ∧ ((¬ x4 = 0) → (wp_Mo_append_154 Ln Q x0 x1 x2 x3 x4 y0 x0 y0 (25 + x3) 0 S))))
def wp_Mo_append_102 (Ln : gI → Nat) (Q : Int32 → gS → Prop) (x0 : gI) (x1 : Int32) (x2 : Int32) (x3 : Int32) (y0 : Int32) (S : gS) : Prop :=
  ((y0 = 0) → (wp_Mo_freeFile Ln (fun r18 S17 => wp_Mo_append_127 Ln Q x0 x1 x2 x3 y0 r18 S17) x0 S)) ∧ ((¬ y0 = 0) → (vp_in ((S.1 x0 30) - 1) (Ln (grf x0 31)) ∧ (wp_Mo_append_127 Ln Q x0 x1 x2 x3 y0 (S.1 (grf x0 31) ((S.1 x0 30) - 1).toNatClampNeg) S)))
def wp_Mo_append_101 (Ln : gI → Nat) (Q : Int32 → gS → Prop) (x0 : gI) (x1 : Int32) (x2 : Int32) (x3 : Int32)  (S : gS) : Prop :=
  wp_Mo_append_102 Ln Q x0 x1 x2 x3 0 S
def wp_Mo_append (Ln : gI → Nat) (Q : Int32 → gS → Prop) (x0 : gI) (x1 : Int32) (x2 : Int32)  (S : gS) : Prop :=
  ∀ S1 : gS, S1 = gset S x0 0 0 → (∀ v3_2 : Int32, v3_2 = S1.1 x0 33 → (∀ S3 : gS, S3 = gset S1 x0 33 0 → (wp_Mo_termOf Ln (fun r5 S4 => wp_Mo_within Ln (fun r7 S6 => ((r7 = 0) → (wp_Mo_append_41 Ln Q x0 S6)) ∧ ((¬ r7 = 0) → (wp_Mo_within Ln (fun r12 S11 => ((¬ r12 = 0) → (((¬ ((S11.1 x0 27) - (S11.1 x0 23)) = 300) → ((((S11.1 x0 30) ≤ 0) → (wp_Mo_append_101 Ln Q x0 x1 x2 v3_2 S11)) ∧ ((¬ (S11.1 x0 30) ≤ 0) → (vp_in ((S11.1 x0 30) - 1) (Ln (grf x0 31)) ∧ (vp_in (S11.1 (grf x0 31) ((S11.1 x0 30) - 1).toNatClampNeg) (Ln (grf x0 14)) ∧ (((8000 < (S11.1 (grf x0 14) (S11.1 (grf x0 31) ((S11.1 x0 30) - 1).toNatClampNeg).toNatClampNeg)) → (wp_Mo_append_101 Ln Q x0 x1 x2 v3_2 S11)) ∧ ((¬ 8000 < (S11.1 (grf x0 14) (S11.1 (grf x0 31) ((S11.1 x0 30) - 1).toNatClampNeg).toNatClampNeg)) → (wp_Mo_append_102 Ln Q x0 x1 x2 v3_2 1 S11)))))))) ∧ ((((S11.1 x0 27) - (S11.1 x0 23)) = 300) → (wp_Mo_fail Ln (fun r43 S42 => Q r43 S42) x0 2 S11)))) ∧ ((r12 = 0) → (wp_Mo_append_41 Ln Q x0 S11))) x2 0 2 S6))) x1 r5 1000000 S4) x0 (S3.1 x0 27) S3)))
set_option maxHeartbeats 4000000 in
set_option maxRecDepth 100000 in
theorem mw_Mo_append_41 {p : Program} {l : Launch} {e : Env} {s : State} {m : MethodId} {args : Array Value} {below : List Frame} {meth : Method} {c : Code} {Y : gY} {Q : Int32 → gS → Prop} (C : gCx p s m args meth c Y "LogDiskModel" c_Mo_append 7 (Option.some Jvm.ClassFile.FieldType.int) w_Mo_append) : ∀ (x0 : gI)  (S : gS) (H : Heap) (locs : List Loc) (ls : Array Slot), gis Y 10 x0 → wp_Mo_append_41 (gLn Y) Q x0 S → gWd Y S H → va_S (gA Y s.heap.size) s.heap H locs → lv_has ls 7 [(0, .ref (gad Y x0))] → W p l e (gRm 3 65) s m args below meth c H locs 0 0 (MQ below (va_Qi Q (gB Y) (gA Y s.heap.size)) args s 0 0 (gA Y s.heap.size)) (F0 m 41 ls []) := by
  have C0 := C
  obtain ⟨hx, hb, hml, hown, hts, hr, hlocks, hK, hY, hSt⟩ := C
  intro x0 S H locs ls hx0 hw hP hS hl
  unfold wp_Mo_append_41 at hw
  refine lv_aload_n hx hb d_Mo_append_41 rfl (lv_at hl 0 rfl) ?_
  refine lv_iconst (v := 1) hx hb d_Mo_append_42 (by decide) ?_
  refine g_calli (va_runV (As := [.int 1]) (rest := []) ⟨hx, hb, hml, hown, hts⟩ (k_Mo_fail l Y hY H.size x0 1 hx0 S _) (cwV 1 hts (gG_V gw_925 gw_927 gs_21 gw_12 gw_928) rfl rfl rfl (by decide +kernel) ⟨Nat.le_of_ble_eq_true rfl, Nat.le_of_ble_eq_true rfl⟩) ⟨gPre_blind, g_recv hK hP hx0 (gce_Mo hx0.1) rfl, g_pre hK hSt hS hP hw⟩ rfl rfl hl.1 rfl (lv_room (Nat.le_of_ble_eq_true rfl)) d_Mo_append_43 ⟨Nat.zero_le _, Nat.zero_le _⟩) hS (fun r10 S9 H locs hw hP hS => ?_)
  exact W.iret (v := r10) hx hb hr (fun t ht hW => ⟨⟨r10, S9, rfl, hw, by rw [ht]; exact hP, va_K.moved hW.alike hK⟩, hS.F ht⟩) hS.2.2 d_Mo_append_46
set_option maxHeartbeats 4000000 in
set_option maxRecDepth 100000 in
theorem mw_Mo_append_161 {p : Program} {l : Launch} {e : Env} {s : State} {m : MethodId} {args : Array Value} {below : List Frame} {meth : Method} {c : Code} {Y : gY} {Q : Int32 → gS → Prop} (C : gCx p s m args meth c Y "LogDiskModel" c_Mo_append 7 (Option.some Jvm.ClassFile.FieldType.int) w_Mo_append) : ∀ (x0 : gI)  (S : gS) (H : Heap) (locs : List Loc) (ls : Array Slot), gis Y 10 x0 → wp_Mo_append_161 (gLn Y) Q x0 S → gWd Y S H → va_S (gA Y s.heap.size) s.heap H locs → lv_has ls 7 [(0, .ref (gad Y x0))] → W p l e (gRm 3 65) s m args below meth c H locs 0 0 (MQ below (va_Qi Q (gB Y) (gA Y s.heap.size)) args s 0 0 (gA Y s.heap.size)) (F0 m 161 ls []) := by
  have C0 := C
  obtain ⟨hx, hb, hml, hown, hts, hr, hlocks, hK, hY, hSt⟩ := C
  intro x0 S H locs ls hx0 hw hP hS hl
  unfold wp_Mo_append_161 at hw
  refine lv_aload_n hx hb d_Mo_append_161 rfl (lv_at hl 0 rfl) ?_
  refine lv_iconst (v := 3) hx hb d_Mo_append_162 (by decide) ?_
  refine g_calli (va_runV (As := [.int 3]) (rest := []) ⟨hx, hb, hml, hown, hts⟩ (k_Mo_fail l Y hY H.size x0 3 hx0 S _) (cwV 1 hts (gG_V gw_925 gw_927 gs_21 gw_12 gw_928) rfl rfl rfl (by decide +kernel) ⟨Nat.le_of_ble_eq_true rfl, Nat.le_of_ble_eq_true rfl⟩) ⟨gPre_blind, g_recv hK hP hx0 (gce_Mo hx0.1) rfl, g_pre hK hSt hS hP hw⟩ rfl rfl hl.1 rfl (lv_room (Nat.le_of_ble_eq_true rfl)) d_Mo_append_163 ⟨Nat.zero_le _, Nat.zero_le _⟩) hS (fun r21 S20 H locs hw hP hS => ?_)
  exact W.iret (v := r21) hx hb hr (fun t ht hW => ⟨⟨r21, S20, rfl, hw, by rw [ht]; exact hP, va_K.moved hW.alike hK⟩, hS.F ht⟩) hS.2.2 d_Mo_append_166
set_option maxHeartbeats 4000000 in
set_option maxRecDepth 100000 in
theorem mw_Mo_append_223 {p : Program} {l : Launch} {e : Env} {s : State} {m : MethodId} {args : Array Value} {below : List Frame} {meth : Method} {c : Code} {Y : gY} {Q : Int32 → gS → Prop} (C : gCx p s m args meth c Y "LogDiskModel" c_Mo_append 7 (Option.some Jvm.ClassFile.FieldType.int) w_Mo_append) : ∀ (x0 : gI) (x1 : Int32) (x2 : Int32) (x3 : Int32) (x5 : Int32)  (S : gS) (H : Heap) (locs : List Loc) (ls : Array Slot), gis Y 10 x0 → wp_Mo_append_223 (gLn Y) Q x0 x1 x2 x3 x5 S → gWd Y S H → va_S (gA Y s.heap.size) s.heap H locs → lv_has ls 7 [(0, .ref (gad Y x0)), (1, .int x1), (2, .int x2), (3, .int x3), (5, .int x5)] → W p l e (gRm 3 65) s m args below meth c H locs 0 0 (MQ below (va_Qi Q (gB Y) (gA Y s.heap.size)) args s 0 0 (gA Y s.heap.size)) (F0 m 223 ls []) := by
  have C0 := C
  obtain ⟨hx, hb, hml, hown, hts, hr, hlocks, hK, hY, hSt⟩ := C
  intro x0 x1 x2 x3 x5 S H locs ls hx0 hw hP hS hl
  unfold wp_Mo_append_223 at hw
  refine lv_aload_n hx hb d_Mo_append_223 rfl (lv_at hl 0 rfl) ?_
  refine lv_iconst (v := 3) hx hb d_Mo_append_224 (by decide) ?_
  refine lv_aload_n hx hb d_Mo_append_225 rfl (lv_at hl 0 rfl) ?_
  refine g_get hx hb hts (fun w h => List.mem_cons_of_mem _ (in_Mo w h)) hown hK hP hx0 (gce_Mo hx0.1) rfl 27 (by decide) (hts _ (List.mem_cons_of_mem _ gw_834)) rfl d_Mo_append_226 ?_
  refine lv_iconst (v := 1) hx hb d_Mo_append_229 (by decide) ?_
  refine lv_iadd hx hb d_Mo_append_230 ?_
  refine lv_iload_n hx hb d_Mo_append_231 rfl (lv_at hl 1 rfl) ?_
  refine lv_iload_n hx hb d_Mo_append_232 rfl (lv_at hl 2 rfl) ?_
  refine g_calli (va_runV (As := [.int 3, .int ((S.1 x0 27) + 1), .int x1, .int x2]) (rest := []) ⟨hx, hb, hml, hown, hts⟩ (k_Mo_make l Y hY H.size x0 3 ((S.1 x0 27) + 1) x1 x2 hx0 S _) (cwV 4 hts (gG_V gw_961 gw_963 gs_27 gw_12 gw_964) rfl rfl rfl (by decide +kernel) ⟨Nat.le_of_ble_eq_true rfl, Nat.le_of_ble_eq_true rfl⟩) ⟨gPre_blind, g_recv hK hP hx0 (gce_Mo hx0.1) rfl, g_pre hK hSt hS hP hw⟩ rfl rfl hl.1 rfl (lv_room (Nat.le_of_ble_eq_true rfl)) d_Mo_append_233 ⟨Nat.zero_le _, Nat.zero_le _⟩) hS (fun r28 S27 H locs hw hP hS => ?_)
  refine lv_istore (lv' := [(6, .int r28), (0, .ref (gad Y x0)), (1, .int x1), (2, .int x2), (3, .int x3), (5, .int x5)]) hx hb d_Mo_append_236 hl (by decide) rfl (fun ls hl => ?_)
  refine lv_aload_n hx hb d_Mo_append_238 rfl (lv_at hl 1 rfl) ?_
  refine lv_iload hx hb d_Mo_append_239 (lv_at hl 0 rfl) ?_
  refine lv_iload_n hx hb d_Mo_append_241 rfl (lv_at hl 4 rfl) ?_
  refine g_callv (va_runV (As := [.int r28, .int x3]) (rest := []) ⟨hx, hb, hml, hown, hts⟩ (k_Mo_fill l Y hY H.size x0 r28 x3 hx0 S27 _) (cwV 2 hts (gG_V gw_989 gw_991 gs_33 gw_12 gw_992) rfl rfl rfl (by decide +kernel) ⟨Nat.le_of_ble_eq_true rfl, Nat.le_of_ble_eq_true rfl⟩) ⟨gPre_blind, g_recv hK hP hx0 (gce_Mo hx0.1) rfl, g_pre hK hSt hS hP hw⟩ rfl rfl hl.1 rfl (lv_room (Nat.le_of_ble_eq_true rfl)) d_Mo_append_242 ⟨Nat.zero_le _, Nat.zero_le _⟩) hS (fun S29 H locs hw hP hS => ?_)
  refine lv_aload_n hx hb d_Mo_append_245 rfl (lv_at hl 1 rfl) ?_
  refine lv_iload hx hb d_Mo_append_246 (lv_at hl 5 rfl) ?_
  refine lv_iload hx hb d_Mo_append_248 (lv_at hl 0 rfl) ?_
  refine g_callv (va_runV (As := [.int x5, .int r28]) (rest := []) ⟨hx, hb, hml, hown, hts⟩ (k_Mo_put l Y hY H.size x0 x5 r28 hx0 S29 _) (cwV 2 hts (gG_V gw_965 gw_967 gs_28 gw_12 gw_968) rfl rfl rfl (by decide +kernel) ⟨Nat.le_of_ble_eq_true rfl, Nat.le_of_ble_eq_true rfl⟩) ⟨gPre_blind, g_recv hK hP hx0 (gce_Mo hx0.1) rfl, g_pre hK hSt hS hP hw⟩ rfl rfl hl.1 rfl (lv_room (Nat.le_of_ble_eq_true rfl)) d_Mo_append_250 ⟨Nat.zero_le _, Nat.zero_le _⟩) hS (fun S30 H locs hw hP hS => ?_)
  refine lv_aload_n hx hb d_Mo_append_253 rfl (lv_at hl 1 rfl) ?_
  refine g_get hx hb hts (fun w h => List.mem_cons_of_mem _ (in_Mo w h)) hown hK hP hx0 (gce_Mo hx0.1) rfl 32 (by decide) (hts _ (List.mem_cons_of_mem _ gw_839)) rfl d_Mo_append_254 ?_
  refine lv_aload_n hx hb d_Mo_append_257 rfl (lv_at hl 1 rfl) ?_
  refine g_get hx hb hts (fun w h => List.mem_cons_of_mem _ (in_Mo w h)) hown hK hP hx0 (gce_Mo hx0.1) rfl 27 (by decide) (hts _ (List.mem_cons_of_mem _ gw_834)) rfl d_Mo_append_258 ?_
  refine lv_aload_n hx hb d_Mo_append_261 rfl (lv_at hl 1 rfl) ?_
  refine g_get hx hb hts (fun w h => List.mem_cons_of_mem _ (in_Mo w h)) hown hK hP hx0 (gce_Mo hx0.1) rfl 23 (by decide) (hts _ (List.mem_cons_of_mem _ gw_830)) rfl d_Mo_append_262 ?_
  refine lv_isub hx hb d_Mo_append_265 ?_
  refine lv_iload hx hb d_Mo_append_266 (lv_at hl 0 rfl) ?_
  obtain ⟨hin, hw⟩ := hw
  refine g_iastore hx hb hK hY.1 hP hS (gis_Mo_entries hY hx0) hin d_Mo_append_268 (fun S31 eS31 H locs hP hS => ?_)
  replace hw := hw S31 eS31
  refine lv_aload_n hx hb d_Mo_append_269 rfl (lv_at hl 1 rfl) ?_
  refine lv_dup hx hb d_Mo_append_270 rfl ?_
  refine g_get hx hb hts (fun w h => List.mem_cons_of_mem _ (in_Mo w h)) hown hK hP hx0 (gce_Mo hx0.1) rfl 27 (by decide) (hts _ (List.mem_cons_of_mem _ gw_834)) rfl d_Mo_append_271 ?_
  refine lv_iconst (v := 1) hx hb d_Mo_append_274 (by decide) ?_
  refine lv_iadd hx hb d_Mo_append_275 ?_
  refine g_put (ty := .int) (v := .int ((S31.1 x0 27) + 1)) (S' := gset S31 x0 27 ((S31.1 x0 27) + 1)) hx hb hts (fun w h => List.mem_cons_of_mem _ (in_Mo w h)) ty_Mo tyok_Mo nm_Mo hown hK hY.1 hP hS hx0 (gce_Mo hx0.1) rfl 27 (by decide) (hts _ (List.mem_cons_of_mem _ gw_834)) rfl (by decide +kernel) rfl rfl (Nat.le_of_ble_eq_true rfl) (gp_Mo_last hx0.1) gce_gset d_Mo_append_276 (fun H locs hP hS => ?_)
  obtain ⟨S32, eS32⟩ : ∃ z, z = gset S31 x0 27 ((S31.1 x0 27) + 1) := ⟨_, rfl⟩
  rw [← eS32] at hP
  replace hw := hw S32 eS32
  refine lv_aload_n hx hb d_Mo_append_279 rfl (lv_at hl 1 rfl) ?_
  refine lv_iconst (v := 1) hx hb d_Mo_append_280 (by decide) ?_
  refine g_put (ty := .boolean) (v := .int 1) (S' := gset S32 x0 29 1) hx hb hts (fun w h => List.mem_cons_of_mem _ (in_Mo w h)) ty_Mo tyok_Mo nm_Mo hown hK hY.1 hP hS hx0 (gce_Mo hx0.1) rfl 29 (by decide) (hts _ (List.mem_cons_of_mem _ gw_836)) rfl (by decide +kernel) rfl rfl (Nat.le_of_ble_eq_true rfl) (gp_Mo_dirty hx0.1) gce_gset d_Mo_append_281 (fun H locs hP hS => ?_)
  obtain ⟨S33, eS33⟩ : ∃ z, z = gset S32 x0 29 1 := ⟨_, rfl⟩
  rw [← eS33] at hP
  replace hw := hw S33 eS33
  refine lv_aload_n hx hb d_Mo_append_284 rfl (lv_at hl 1 rfl) ?_
  refine g_get hx hb hts (fun w h => List.mem_cons_of_mem _ (in_Mo w h)) hown hK hP hx0 (gce_Mo hx0.1) rfl 27 (by decide) (hts _ (List.mem_cons_of_mem _ gw_834)) rfl d_Mo_append_285 ?_
  exact W.iret (v := (S33.1 x0 27)) hx hb hr (fun t ht hW => ⟨⟨(S33.1 x0 27), S33, rfl, hw, by rw [ht]; exact hP, va_K.moved hW.alike hK⟩, hS.F ht⟩) hS.2.2 d_Mo_append_288
set_option maxHeartbeats 4000000 in
set_option maxRecDepth 100000 in
theorem mw_Mo_append_154 {p : Program} {l : Launch} {e : Env} {s : State} {m : MethodId} {args : Array Value} {below : List Frame} {meth : Method} {c : Code} {Y : gY} {Q : Int32 → gS → Prop} (C : gCx p s m args meth c Y "LogDiskModel" c_Mo_append 7 (Option.some Jvm.ClassFile.FieldType.int) w_Mo_append) : ∀ (x0 : gI) (x1 : Int32) (x2 : Int32) (x3 : Int32) (x4 : Int32) (x5 : Int32) (y0 : gI) (y1 : Int32) (y2 : Int32) (y3 : Int32) (S : gS) (H : Heap) (locs : List Loc) (ls : Array Slot), gis Y 10 x0 → gis Y 10 y0 → wp_Mo_append_154 (gLn Y) Q x0 x1 x2 x3 x4 x5 y0 y1 y2 y3 S → gWd Y S H → va_S (gA Y s.heap.size) s.heap H locs → lv_has ls 7 [(0, .ref (gad Y x0)), (1, .int x1), (2, .int x2), (3, .int x3), (4, .int x4), (5, .int x5)] → W p l e (gRm 3 65) s m args below meth c H locs 0 0 (MQ below (va_Qi Q (gB Y) (gA Y s.heap.size)) args s 0 0 (gA Y s.heap.size)) (F0 m 154 ls [.int y3, .int y2, .int y1, .ref (gad Y y0)]) := by
  have C0 := C
  obtain ⟨hx, hb, hml, hown, hts, hr, hlocks, hK, hY, hSt⟩ := C
  intro x0 x1 x2 x3 x4 x5 y0 y1 y2 y3 S H locs ls hx0 hy0 hw hP hS hl
  unfold wp_Mo_append_154 at hw
  refine lv_iadd hx hb d_Mo_append_154 ?_
  refine g_calli (va_runV (As := [.int y1, .int (y2 + y3)]) (rest := []) ⟨hx, hb, hml, hown, hts⟩ (k_Mo_hasRoom l Y hY H.size y0 y1 (y2 + y3) hy0 S _) (cwV 2 hts (gG_V gw_981 gw_983 gs_31 gw_12 gw_984) rfl rfl rfl (by decide +kernel) ⟨Nat.le_of_ble_eq_true rfl, Nat.le_of_ble_eq_true rfl⟩) ⟨gPre_blind, g_recv hK hP hy0 (gce_Mo hy0.1) rfl, g_pre hK hSt hS hP hw⟩ rfl rfl hl.1 rfl (lv_room (Nat.le_of_ble_eq_true rfl)) d_Mo_append_155 ⟨Nat.zero_le _, Nat.zero_le _⟩) hS (fun r24 S23 H locs hw hP hS => ?_)
  refine lv_if_ne (tgt := 167) hx hb d_Mo_append_158 (by decide) (fun c25 => ?_) (fun c25 => ?_)
  · replace hw := hw.1 c25
    refine lv_iload hx hb d_Mo_append_167 (lv_at hl 4 rfl) ?_
    refine lv_if_ne (tgt := 223) hx hb d_Mo_append_169 (by decide) (fun c26 => ?_) (fun c26 => ?_)
    · replace hw := hw.1 c26
      exact mw_Mo_append_223 C0 x0 x1 x2 x3 x5 S23 H locs ls hx0 hw hP hS (lv_sub hl [0, 1, 2, 3, 5] rfl)
    · replace hw := hw.2 c26
      refine lv_aload_n hx hb d_Mo_append_172 rfl (lv_at hl 0 rfl) ?_
      refine lv_iconst (v := 2) hx hb d_Mo_append_173 (by decide) ?_
      refine lv_aload_n hx hb d_Mo_append_174 rfl (lv_at hl 0 rfl) ?_
      refine g_get hx hb hts (fun w h => List.mem_cons_of_mem _ (in_Mo w h)) hown hK hP hx0 (gce_Mo hx0.1) rfl 27 (by decide) (hts _ (List.mem_cons_of_mem _ gw_834)) rfl d_Mo_append_175 ?_
      refine lv_iconst (v := 1) hx hb d_Mo_append_178 (by decide) ?_
      refine lv_iadd hx hb d_Mo_append_179 ?_
      refine lv_aload_n hx hb d_Mo_append_180 rfl (lv_at hl 0 rfl) ?_
      refine lv_aload_n hx hb d_Mo_append_181 rfl (lv_at hl 0 rfl) ?_
      refine g_get hx hb hts (fun w h => List.mem_cons_of_mem _ (in_Mo w h)) hown hK hP hx0 (gce_Mo hx0.1) rfl 27 (by decide) (hts _ (List.mem_cons_of_mem _ gw_834)) rfl d_Mo_append_182 ?_
      refine g_calli (va_runV (As := [.int (S23.1 x0 27)]) (rest := [.int ((S23.1 x0 27) + 1), .int 2, .ref (gad Y x0)]) ⟨hx, hb, hml, hown, hts⟩ (k_Mo_termOf l Y hY H.size x0 (S23.1 x0 27) hx0 S23 _) (cwV 1 hts (gG_V gw_973 gw_975 gs_29 gw_12 gw_976) rfl rfl rfl (by decide +kernel) ⟨Nat.le_of_ble_eq_true rfl, Nat.le_of_ble_eq_true rfl⟩) ⟨gPre_blind, g_recv hK hP hx0 (gce_Mo hx0.1) rfl, g_pre hK hSt hS hP hw⟩ rfl rfl hl.1 rfl (lv_room (Nat.le_of_ble_eq_true rfl)) d_Mo_append_185 ⟨Nat.zero_le _, Nat.zero_le _⟩) hS (fun r35 S34 H locs hw hP hS => ?_)
      refine lv_iconst (v := 0) hx hb d_Mo_append_188 (by decide) ?_
      refine g_calli (va_runV (As := [.int 2, .int ((S23.1 x0 27) + 1), .int r35, .int 0]) (rest := []) ⟨hx, hb, hml, hown, hts⟩ (k_Mo_make l Y hY H.size x0 2 ((S23.1 x0 27) + 1) r35 0 hx0 S34 _) (cwV 4 hts (gG_V gw_961 gw_963 gs_27 gw_12 gw_964) rfl rfl rfl (by decide +kernel) ⟨Nat.le_of_ble_eq_true rfl, Nat.le_of_ble_eq_true rfl⟩) ⟨gPre_blind, g_recv hK hP hx0 (gce_Mo hx0.1) rfl, g_pre hK hSt hS hP hw⟩ rfl rfl hl.1 rfl (lv_room (Nat.le_of_ble_eq_true rfl)) d_Mo_append_189 ⟨Nat.zero_le _, Nat.zero_le _⟩) hS (fun r37 S36 H locs hw hP hS => ?_)
      refine lv_istore (lv' := [(6, .int r37), (0, .ref (gad Y x0)), (1, .int x1), (2, .int x2), (3, .int x3), (4, .int x4), (5, .int x5)]) hx hb d_Mo_append_192 hl (by decide) rfl (fun ls hl => ?_)
      refine lv_aload_n hx hb d_Mo_append_194 rfl (lv_at hl 1 rfl) ?_
      refine lv_iload hx hb d_Mo_append_195 (lv_at hl 6 rfl) ?_
      refine lv_iload hx hb d_Mo_append_197 (lv_at hl 0 rfl) ?_
      refine g_callv (va_runV (As := [.int x5, .int r37]) (rest := []) ⟨hx, hb, hml, hown, hts⟩ (k_Mo_put l Y hY H.size x0 x5 r37 hx0 S36 _) (cwV 2 hts (gG_V gw_965 gw_967 gs_28 gw_12 gw_968) rfl rfl rfl (by decide +kernel) ⟨Nat.le_of_ble_eq_true rfl, Nat.le_of_ble_eq_true rfl⟩) ⟨gPre_blind, g_recv hK hP hx0 (gce_Mo hx0.1) rfl, g_pre hK hSt hS hP hw⟩ rfl rfl hl.1 rfl (lv_room (Nat.le_of_ble_eq_true rfl)) d_Mo_append_199 ⟨Nat.zero_le _, Nat.zero_le _⟩) hS (fun S38 H locs hw hP hS => ?_)
      refine lv_aload_n hx hb d_Mo_append_202 rfl (lv_at hl 1 rfl) ?_
      refine g_get hx hb hts (fun w h => List.mem_cons_of_mem _ (in_Mo w h)) hown hK hP hx0 (gce_Mo hx0.1) rfl 31 (by decide) (hts _ (List.mem_cons_of_mem _ gw_838)) rfl d_Mo_append_203 ?_
      refine lv_aload_n hx hb d_Mo_append_206 rfl (lv_at hl 1 rfl) ?_
      refine g_get hx hb hts (fun w h => List.mem_cons_of_mem _ (in_Mo w h)) hown hK hP hx0 (gce_Mo hx0.1) rfl 30 (by decide) (hts _ (List.mem_cons_of_mem _ gw_837)) rfl d_Mo_append_207 ?_
      refine lv_iload hx hb d_Mo_append_210 (lv_at hl 6 rfl) ?_
      obtain ⟨hin, hw⟩ := hw
      refine g_iastore hx hb hK hY.1 hP hS (gis_Mo_order hY hx0) hin d_Mo_append_212 (fun S39 eS39 H locs hP hS => ?_)
      replace hw := hw S39 eS39
      refine lv_aload_n hx hb d_Mo_append_213 rfl (lv_at hl 1 rfl) ?_
      refine lv_dup hx hb d_Mo_append_214 rfl ?_
      refine g_get hx hb hts (fun w h => List.mem_cons_of_mem _ (in_Mo w h)) hown hK hP hx0 (gce_Mo hx0.1) rfl 30 (by decide) (hts _ (List.mem_cons_of_mem _ gw_837)) rfl d_Mo_append_215 ?_
      refine lv_iconst (v := 1) hx hb d_Mo_append_218 (by decide) ?_
      refine lv_iadd hx hb d_Mo_append_219 ?_
      refine g_put (ty := .int) (v := .int ((S39.1 x0 30) + 1)) (S' := gset S39 x0 30 ((S39.1 x0 30) + 1)) hx hb hts (fun w h => List.mem_cons_of_mem _ (in_Mo w h)) ty_Mo tyok_Mo nm_Mo hown hK hY.1 hP hS hx0 (gce_Mo hx0.1) rfl 30 (by decide) (hts _ (List.mem_cons_of_mem _ gw_837)) rfl (by decide +kernel) rfl rfl (Nat.le_of_ble_eq_true rfl) (gp_Mo_segments hx0.1) gce_gset d_Mo_append_220 (fun H locs hP hS => ?_)
      obtain ⟨S40, eS40⟩ : ∃ z, z = gset S39 x0 30 ((S39.1 x0 30) + 1) := ⟨_, rfl⟩
      rw [← eS40] at hP
      replace hw := hw S40 eS40
      exact mw_Mo_append_223 C0 x0 x1 x2 x3 x5 S40 H locs ls hx0 hw hP hS (lv_sub hl [1, 2, 3, 4, 6] rfl)
  · replace hw := hw.2 c25
    exact mw_Mo_append_161 C0 x0 S23 H locs ls hx0 hw hP hS (lv_sub hl [0] rfl)
set_option maxHeartbeats 4000000 in
set_option maxRecDepth 100000 in
theorem mw_Mo_append_127 {p : Program} {l : Launch} {e : Env} {s : State} {m : MethodId} {args : Array Value} {below : List Frame} {meth : Method} {c : Code} {Y : gY} {Q : Int32 → gS → Prop} (C : gCx p s m args meth c Y "LogDiskModel" c_Mo_append 7 (Option.some Jvm.ClassFile.FieldType.int) w_Mo_append) : ∀ (x0 : gI) (x1 : Int32) (x2 : Int32) (x3 : Int32) (x4 : Int32) (y0 : Int32) (S : gS) (H : Heap) (locs : List Loc) (ls : Array Slot), gis Y 10 x0 → wp_Mo_append_127 (gLn Y) Q x0 x1 x2 x3 x4 y0 S → gWd Y S H → va_S (gA Y s.heap.size) s.heap H locs → lv_has ls 7 [(0, .ref (gad Y x0)), (1, .int x1), (2, .int x2), (3, .int x3), (4, .int x4)] → W p l e (gRm 3 65) s m args below meth c H locs 0 0 (MQ below (va_Qi Q (gB Y) (gA Y s.heap.size)) args s 0 0 (gA Y s.heap.size)) (F0 m 127 ls [.int y0]) := by
  have C0 := C
  obtain ⟨hx, hb, hml, hown, hts, hr, hlocks, hK, hY, hSt⟩ := C
  intro x0 x1 x2 x3 x4 y0 S H locs ls hx0 hw hP hS hl
  unfold wp_Mo_append_127 at hw
  refine lv_istore (lv' := [(5, .int y0), (0, .ref (gad Y x0)), (1, .int x1), (2, .int x2), (3, .int x3), (4, .int x4)]) hx hb d_Mo_append_127 hl (by decide) rfl (fun ls hl => ?_)
  refine lv_iload hx hb d_Mo_append_129 (lv_at hl 0 rfl) ?_
  refine lv_bipush (v := 16) hx hb d_Mo_append_131 (by decide) ?_
  refine lv_icmp_eq (tgt := 161) hx hb d_Mo_append_133 (by decide) (fun c19 => ?_) (fun c19 => ?_)
  · replace hw := hw.1 c19
    exact mw_Mo_append_161 C0 x0 S H locs ls hx0 hw hP hS (lv_sub hl [1] rfl)
  · replace hw := hw.2 c19
    refine lv_aload_n hx hb d_Mo_append_136 rfl (lv_at hl 1 rfl) ?_
    refine lv_iload hx hb d_Mo_append_137 (lv_at hl 0 rfl) ?_
    refine lv_bipush (v := 25) hx hb d_Mo_append_139 (by decide) ?_
    refine lv_iload_n hx hb d_Mo_append_141 rfl (lv_at hl 4 rfl) ?_
    refine lv_iadd hx hb d_Mo_append_142 ?_
    refine lv_iload hx hb d_Mo_append_143 (lv_at hl 5 rfl) ?_
    refine lv_if_eq (tgt := 152) hx hb d_Mo_append_145 (by decide) (fun c22 => ?_) (fun c22 => ?_)
    · replace hw := hw.1 c22
      refine lv_bipush (v := 24) hx hb d_Mo_append_152 (by decide) ?_
      exact mw_Mo_append_154 C0 x0 x1 x2 x3 x4 y0 x0 y0 (25 + x3) 24 S H locs ls hx0 hx0 hw hP hS (lv_sub hl [1, 2, 3, 4, 5, 0] rfl)
    · replace hw := hw.2 c22
      refine lv_iconst (v := 0) hx hb d_Mo_append_148 (by decide) ?_
      refine lv_goto (tgt := 154) hx hb d_Mo_append_149 (by decide) ?_
      exact mw_Mo_append_154 C0 x0 x1 x2 x3 x4 y0 x0 y0 (25 + x3) 0 S H locs ls hx0 hx0 hw hP hS (lv_sub hl [1, 2, 3, 4, 5, 0] rfl)
set_option maxHeartbeats 4000000 in
set_option maxRecDepth 100000 in
theorem mw_Mo_append_102 {p : Program} {l : Launch} {e : Env} {s : State} {m : MethodId} {args : Array Value} {below : List Frame} {meth : Method} {c : Code} {Y : gY} {Q : Int32 → gS → Prop} (C : gCx p s m args meth c Y "LogDiskModel" c_Mo_append 7 (Option.some Jvm.ClassFile.FieldType.int) w_Mo_append) : ∀ (x0 : gI) (x1 : Int32) (x2 : Int32) (x3 : Int32) (y0 : Int32) (S : gS) (H : Heap) (locs : List Loc) (ls : Array Slot), gis Y 10 x0 → wp_Mo_append_102 (gLn Y) Q x0 x1 x2 x3 y0 S → gWd Y S H → va_S (gA Y s.heap.size) s.heap H locs → lv_has ls 7 [(0, .ref (gad Y x0)), (1, .int x1), (2, .int x2), (3, .int x3)] → W p l e (gRm 3 65) s m args below meth c H locs 0 0 (MQ below (va_Qi Q (gB Y) (gA Y s.heap.size)) args s 0 0 (gA Y s.heap.size)) (F0 m 102 ls [.int y0]) := by
  have C0 := C
  obtain ⟨hx, hb, hml, hown, hts, hr, hlocks, hK, hY, hSt⟩ := C
  intro x0 x1 x2 x3 y0 S H locs ls hx0 hw hP hS hl
  unfold wp_Mo_append_102 at hw
  refine lv_istore (lv' := [(4, .int y0), (0, .ref (gad Y x0)), (1, .int x1), (2, .int x2), (3, .int x3)]) hx hb d_Mo_append_102 hl (by decide) rfl (fun ls hl => ?_)
  refine lv_iload hx hb d_Mo_append_104 (lv_at hl 0 rfl) ?_
  refine lv_if_eq (tgt := 123) hx hb d_Mo_append_106 (by decide) (fun c16 => ?_) (fun c16 => ?_)
  · replace hw := hw.1 c16
    refine lv_aload_n hx hb d_Mo_append_123 rfl (lv_at hl 1 rfl) ?_
    refine g_calli (va_runV (As := []) (rest := []) ⟨hx, hb, hml, hown, hts⟩ (k_Mo_freeFile l Y hY H.size x0 hx0 S _) (cwV 0 hts (gG_V gw_977 gw_979 gs_30 gw_12 gw_980) rfl rfl rfl (by decide +kernel) ⟨Nat.le_of_ble_eq_true rfl, Nat.le_of_ble_eq_true rfl⟩) ⟨gPre_blind, g_recv hK hP hx0 (gce_Mo hx0.1) rfl, g_pre hK hSt hS hP hw⟩ rfl rfl hl.1 rfl (lv_room (Nat.le_of_ble_eq_true rfl)) d_Mo_append_124 ⟨Nat.zero_le _, Nat.zero_le _⟩) hS (fun r18 S17 H locs hw hP hS => ?_)
    exact mw_Mo_append_127 C0 x0 x1 x2 x3 y0 r18 S17 H locs ls hx0 hw hP hS (lv_sub hl [1, 2, 3, 4, 0] rfl)
  · replace hw := hw.2 c16
    refine lv_aload_n hx hb d_Mo_append_109 rfl (lv_at hl 1 rfl) ?_
    refine g_get hx hb hts (fun w h => List.mem_cons_of_mem _ (in_Mo w h)) hown hK hP hx0 (gce_Mo hx0.1) rfl 31 (by decide) (hts _ (List.mem_cons_of_mem _ gw_838)) rfl d_Mo_append_110 ?_
    refine lv_aload_n hx hb d_Mo_append_113 rfl (lv_at hl 1 rfl) ?_
    refine g_get hx hb hts (fun w h => List.mem_cons_of_mem _ (in_Mo w h)) hown hK hP hx0 (gce_Mo hx0.1) rfl 30 (by decide) (hts _ (List.mem_cons_of_mem _ gw_837)) rfl d_Mo_append_114 ?_
    refine lv_iconst (v := 1) hx hb d_Mo_append_117 (by decide) ?_
    refine lv_isub hx hb d_Mo_append_118 ?_
    obtain ⟨hin, hw⟩ := hw
    refine g_iaload hx hb hK hP (gis_Mo_order hY hx0) hin d_Mo_append_119 ?_
    refine lv_goto (tgt := 127) hx hb d_Mo_append_120 (by decide) ?_
    exact mw_Mo_append_127 C0 x0 x1 x2 x3 y0 (S.1 (grf x0 31) ((S.1 x0 30) - 1).toNatClampNeg) S H locs ls hx0 hw hP hS (lv_sub hl [1, 2, 3, 4, 0] rfl)
set_option maxHeartbeats 4000000 in
set_option maxRecDepth 100000 in
theorem mw_Mo_append_101 {p : Program} {l : Launch} {e : Env} {s : State} {m : MethodId} {args : Array Value} {below : List Frame} {meth : Method} {c : Code} {Y : gY} {Q : Int32 → gS → Prop} (C : gCx p s m args meth c Y "LogDiskModel" c_Mo_append 7 (Option.some Jvm.ClassFile.FieldType.int) w_Mo_append) : ∀ (x0 : gI) (x1 : Int32) (x2 : Int32) (x3 : Int32)  (S : gS) (H : Heap) (locs : List Loc) (ls : Array Slot), gis Y 10 x0 → wp_Mo_append_101 (gLn Y) Q x0 x1 x2 x3 S → gWd Y S H → va_S (gA Y s.heap.size) s.heap H locs → lv_has ls 7 [(0, .ref (gad Y x0)), (1, .int x1), (2, .int x2), (3, .int x3)] → W p l e (gRm 3 65) s m args below meth c H locs 0 0 (MQ below (va_Qi Q (gB Y) (gA Y s.heap.size)) args s 0 0 (gA Y s.heap.size)) (F0 m 101 ls []) := by
  have C0 := C
  obtain ⟨hx, hb, hml, hown, hts, hr, hlocks, hK, hY, hSt⟩ := C
  intro x0 x1 x2 x3 S H locs ls hx0 hw hP hS hl
  unfold wp_Mo_append_101 at hw
  refine lv_iconst (v := 0) hx hb d_Mo_append_101 (by decide) ?_
  exact mw_Mo_append_102 C0 x0 x1 x2 x3 0 S H locs ls hx0 hw hP hS (lv_sub hl [0, 1, 2, 3] rfl)
set_option maxHeartbeats 4000000 in
set_option maxRecDepth 100000 in
theorem mw_Mo_append {p : Program} {l : Launch} {e : Env} {s : State} {m : MethodId} {args : Array Value} {below : List Frame} {meth : Method} {c : Code} {Y : gY} {Q : Int32 → gS → Prop} (C : gCx p s m args meth c Y "LogDiskModel" c_Mo_append 7 (Option.some Jvm.ClassFile.FieldType.int) w_Mo_append) : ∀ (x0 : gI) (x1 : Int32) (x2 : Int32)  (S : gS) (H : Heap) (locs : List Loc) (ls : Array Slot), gis Y 10 x0 → wp_Mo_append (gLn Y) Q x0 x1 x2 S → gWd Y S H → va_S (gA Y s.heap.size) s.heap H locs → lv_has ls 7 [(0, .ref (gad Y x0)), (1, .int x1), (2, .int x2)] → W p l e (gRm 3 65) s m args below meth c H locs 0 0 (MQ below (va_Qi Q (gB Y) (gA Y s.heap.size)) args s 0 0 (gA Y s.heap.size)) (F0 m 0 ls []) := by
  have C0 := C
  obtain ⟨hx, hb, hml, hown, hts, hr, hlocks, hK, hY, hSt⟩ := C
  intro x0 x1 x2 S H locs ls hx0 hw hP hS hl
  unfold wp_Mo_append at hw
  refine lv_aload_n hx hb d_Mo_append_0 rfl (lv_at hl 0 rfl) ?_
  refine lv_iconst (v := 0) hx hb d_Mo_append_1 (by decide) ?_
  refine g_put (ty := .int) (v := .int 0) (S' := gset S x0 0 0) hx hb hts (fun w h => List.mem_cons_of_mem _ (in_Mo w h)) ty_Mo tyok_Mo nm_Mo hown hK hY.1 hP hS hx0 (gce_Mo hx0.1) rfl 0 (by decide) (hts _ (List.mem_cons_of_mem _ gw_807)) rfl (by decide +kernel) rfl rfl (Nat.le_of_ble_eq_true rfl) (gp_Mo_thrown hx0.1) gce_gset d_Mo_append_2 (fun H locs hP hS => ?_)
  obtain ⟨S1, eS1⟩ : ∃ z, z = gset S x0 0 0 := ⟨_, rfl⟩
  rw [← eS1] at hP
  replace hw := hw S1 eS1
  refine lv_aload_n hx hb d_Mo_append_5 rfl (lv_at hl 0 rfl) ?_
  refine g_get hx hb hts (fun w h => List.mem_cons_of_mem _ (in_Mo w h)) hown hK hP hx0 (gce_Mo hx0.1) rfl 33 (by decide) (hts _ (List.mem_cons_of_mem _ gw_840)) rfl d_Mo_append_6 ?_
  refine lv_topi (fun v3_2 ev3_2 => ?_)
  replace hw := hw v3_2 ev3_2
  refine lv_istore_n (lv' := [(3, .int v3_2), (0, .ref (gad Y x0)), (1, .int x1), (2, .int x2)]) hx hb d_Mo_append_9 rfl hl (by decide) rfl (fun ls hl => ?_)
  refine lv_aload_n hx hb d_Mo_append_10 rfl (lv_at hl 1 rfl) ?_
  refine lv_iconst (v := 0) hx hb d_Mo_append_11 (by decide) ?_
  refine g_put (ty := .int) (v := .int 0) (S' := gset S1 x0 33 0) hx hb hts (fun w h => List.mem_cons_of_mem _ (in_Mo w h)) ty_Mo tyok_Mo nm_Mo hown hK hY.1 hP hS hx0 (gce_Mo hx0.1) rfl 33 (by decide) (hts _ (List.mem_cons_of_mem _ gw_840)) rfl (by decide +kernel) rfl rfl (Nat.le_of_ble_eq_true rfl) (gp_Mo_tape hx0.1) gce_gset d_Mo_append_12 (fun H locs hP hS => ?_)
  obtain ⟨S3, eS3⟩ : ∃ z, z = gset S1 x0 33 0 := ⟨_, rfl⟩
  rw [← eS3] at hP
  replace hw := hw S3 eS3
  refine lv_iload_n hx hb d_Mo_append_15 rfl (lv_at hl 2 rfl) ?_
  refine lv_aload_n hx hb d_Mo_append_16 rfl (lv_at hl 1 rfl) ?_
  refine lv_aload_n hx hb d_Mo_append_17 rfl (lv_at hl 1 rfl) ?_
  refine g_get hx hb hts (fun w h => List.mem_cons_of_mem _ (in_Mo w h)) hown hK hP hx0 (gce_Mo hx0.1) rfl 27 (by decide) (hts _ (List.mem_cons_of_mem _ gw_834)) rfl d_Mo_append_18 ?_
  refine g_calli (va_runV (As := [.int (S3.1 x0 27)]) (rest := [.int x1]) ⟨hx, hb, hml, hown, hts⟩ (k_Mo_termOf l Y hY H.size x0 (S3.1 x0 27) hx0 S3 _) (cwV 1 hts (gG_V gw_973 gw_975 gs_29 gw_12 gw_976) rfl rfl rfl (by decide +kernel) ⟨Nat.le_of_ble_eq_true rfl, Nat.le_of_ble_eq_true rfl⟩) ⟨gPre_blind, g_recv hK hP hx0 (gce_Mo hx0.1) rfl, g_pre hK hSt hS hP hw⟩ rfl rfl hl.1 rfl (lv_room (Nat.le_of_ble_eq_true rfl)) d_Mo_append_21 ⟨Nat.zero_le _, Nat.zero_le _⟩) hS (fun r5 S4 H locs hw hP hS => ?_)
  refine lv_ldc (v := 1000000) hx hb hown (hts _ (List.mem_cons_of_mem _ gw_937)) d_Mo_append_24 ?_
  refine g_calli (va_runS (As := [.int x1, .int r5, .int 1000000]) (rest := []) ⟨hx, hb, hml, hown, hts⟩ (k_Mo_within l Y hY H.size x1 r5 1000000 S4 _) (va_cwS 3 hts (gG_S gw_922 gw_923 gw_12 gw_924) rfl rfl rfl (by decide +kernel) ⟨Nat.le_of_ble_eq_true rfl, Nat.le_of_ble_eq_true rfl⟩) ⟨gPre_blind, g_pre hK hSt hS hP hw⟩ rfl rfl hl.1 rfl (lv_room (Nat.le_of_ble_eq_true rfl)) d_Mo_append_26 ⟨Nat.zero_le _, Nat.zero_le _⟩) hS (fun r7 S6 H locs hw hP hS => ?_)
  refine lv_if_eq (tgt := 41) hx hb d_Mo_append_29 (by decide) (fun c8 => ?_) (fun c8 => ?_)
  · replace hw := hw.1 c8
    exact mw_Mo_append_41 C0 x0 S6 H locs ls hx0 hw hP hS (lv_sub hl [1] rfl)
  · replace hw := hw.2 c8
    refine lv_iload_n hx hb d_Mo_append_32 rfl (lv_at hl 3 rfl) ?_
    refine lv_iconst (v := 0) hx hb d_Mo_append_33 (by decide) ?_
    refine lv_iconst (v := 2) hx hb d_Mo_append_34 (by decide) ?_
    refine g_calli (va_runS (As := [.int x2, .int 0, .int 2]) (rest := []) ⟨hx, hb, hml, hown, hts⟩ (k_Mo_within l Y hY H.size x2 0 2 S6 _) (va_cwS 3 hts (gG_S gw_922 gw_923 gw_12 gw_924) rfl rfl rfl (by decide +kernel) ⟨Nat.le_of_ble_eq_true rfl, Nat.le_of_ble_eq_true rfl⟩) ⟨gPre_blind, g_pre hK hSt hS hP hw⟩ rfl rfl hl.1 rfl (lv_room (Nat.le_of_ble_eq_true rfl)) d_Mo_append_35 ⟨Nat.zero_le _, Nat.zero_le _⟩) hS (fun r12 S11 H locs hw hP hS => ?_)
    refine lv_if_ne (tgt := 47) hx hb d_Mo_append_38 (by decide) (fun c13 => ?_) (fun c13 => ?_)
    · replace hw := hw.1 c13
      refine lv_aload_n hx hb d_Mo_append_47 rfl (lv_at hl 1 rfl) ?_
      refine g_get hx hb hts (fun w h => List.mem_cons_of_mem _ (in_Mo w h)) hown hK hP hx0 (gce_Mo hx0.1) rfl 27 (by decide) (hts _ (List.mem_cons_of_mem _ gw_834)) rfl d_Mo_append_48 ?_
      refine lv_aload_n hx hb d_Mo_append_51 rfl (lv_at hl 1 rfl) ?_
      refine g_get hx hb hts (fun w h => List.mem_cons_of_mem _ (in_Mo w h)) hown hK hP hx0 (gce_Mo hx0.1) rfl 23 (by decide) (hts _ (List.mem_cons_of_mem _ gw_830)) rfl d_Mo_append_52 ?_
      refine lv_isub hx hb d_Mo_append_55 ?_
      refine lv_sipush (v := 300) hx hb d_Mo_append_56 (by decide) ?_
      refine lv_icmp_ne (tgt := 68) hx hb d_Mo_append_59 (by decide) (fun c14 => ?_) (fun c14 => ?_)
      · replace hw := hw.1 c14
        refine lv_aload_n hx hb d_Mo_append_68 rfl (lv_at hl 1 rfl) ?_
        refine g_get hx hb hts (fun w h => List.mem_cons_of_mem _ (in_Mo w h)) hown hK hP hx0 (gce_Mo hx0.1) rfl 30 (by decide) (hts _ (List.mem_cons_of_mem _ gw_837)) rfl d_Mo_append_69 ?_
        refine lv_if_le (tgt := 101) hx hb d_Mo_append_72 (by decide) (fun c15 => ?_) (fun c15 => ?_)
        · replace hw := hw.1 c15
          exact mw_Mo_append_101 C0 x0 x1 x2 v3_2 S11 H locs ls hx0 hw hP hS (lv_sub hl [1, 2, 3, 0] rfl)
        · replace hw := hw.2 c15
          refine lv_aload_n hx hb d_Mo_append_75 rfl (lv_at hl 1 rfl) ?_
          refine g_get hx hb hts (fun w h => List.mem_cons_of_mem _ (in_Mo w h)) hown hK hP hx0 (gce_Mo hx0.1) rfl 14 (by decide) (hts _ (List.mem_cons_of_mem _ gw_821)) rfl d_Mo_append_76 ?_
          refine lv_aload_n hx hb d_Mo_append_79 rfl (lv_at hl 1 rfl) ?_
          refine g_get hx hb hts (fun w h => List.mem_cons_of_mem _ (in_Mo w h)) hown hK hP hx0 (gce_Mo hx0.1) rfl 31 (by decide) (hts _ (List.mem_cons_of_mem _ gw_838)) rfl d_Mo_append_80 ?_
          refine lv_aload_n hx hb d_Mo_append_83 rfl (lv_at hl 1 rfl) ?_
          refine g_get hx hb hts (fun w h => List.mem_cons_of_mem _ (in_Mo w h)) hown hK hP hx0 (gce_Mo hx0.1) rfl 30 (by decide) (hts _ (List.mem_cons_of_mem _ gw_837)) rfl d_Mo_append_84 ?_
          refine lv_iconst (v := 1) hx hb d_Mo_append_87 (by decide) ?_
          refine lv_isub hx hb d_Mo_append_88 ?_
          obtain ⟨hin, hw⟩ := hw
          refine g_iaload hx hb hK hP (gis_Mo_order hY hx0) hin d_Mo_append_89 ?_
          obtain ⟨hin, hw⟩ := hw
          refine g_iaload hx hb hK hP (gis_Mo_sizes hY hx0) hin d_Mo_append_90 ?_
          refine lv_sipush (v := 8000) hx hb d_Mo_append_91 (by decide) ?_
          refine lv_icmp_gt (tgt := 101) hx hb d_Mo_append_94 (by decide) (fun c41 => ?_) (fun c41 => ?_)
          · replace hw := hw.1 c41
            exact mw_Mo_append_101 C0 x0 x1 x2 v3_2 S11 H locs ls hx0 hw hP hS (lv_sub hl [1, 2, 3, 0] rfl)
          · replace hw := hw.2 c41
            refine lv_iconst (v := 1) hx hb d_Mo_append_97 (by decide) ?_
            refine lv_goto (tgt := 102) hx hb d_Mo_append_98 (by decide) ?_
            exact mw_Mo_append_102 C0 x0 x1 x2 v3_2 1 S11 H locs ls hx0 hw hP hS (lv_sub hl [1, 2, 3, 0] rfl)
      · replace hw := hw.2 c14
        refine lv_aload_n hx hb d_Mo_append_62 rfl (lv_at hl 1 rfl) ?_
        refine lv_iconst (v := 2) hx hb d_Mo_append_63 (by decide) ?_
        refine g_calli (va_runV (As := [.int 2]) (rest := []) ⟨hx, hb, hml, hown, hts⟩ (k_Mo_fail l Y hY H.size x0 2 hx0 S11 _) (cwV 1 hts (gG_V gw_925 gw_927 gs_21 gw_12 gw_928) rfl rfl rfl (by decide +kernel) ⟨Nat.le_of_ble_eq_true rfl, Nat.le_of_ble_eq_true rfl⟩) ⟨gPre_blind, g_recv hK hP hx0 (gce_Mo hx0.1) rfl, g_pre hK hSt hS hP hw⟩ rfl rfl hl.1 rfl (lv_room (Nat.le_of_ble_eq_true rfl)) d_Mo_append_64 ⟨Nat.zero_le _, Nat.zero_le _⟩) hS (fun r43 S42 H locs hw hP hS => ?_)
        exact W.iret (v := r43) hx hb hr (fun t ht hW => ⟨⟨r43, S42, rfl, hw, by rw [ht]; exact hP, va_K.moved hW.alike hK⟩, hS.F ht⟩) hS.2.2 d_Mo_append_67
    · replace hw := hw.2 c13
      exact mw_Mo_append_41 C0 x0 S11 H locs ls hx0 hw hP hS (lv_sub hl [1] rfl)
set_option maxHeartbeats 4000000 in
set_option maxRecDepth 100000 in
theorem k_Mo_append (l : Launch) (Y : gY) (hY : gOK Y) (sz : Nat) (x0 : gI) (x1 : Int32) (x2 : Int32)  (hx0 : gis Y 10 x0) (S : gS) (Q : Int32 → gS → Prop) : Met l y_Mo_append w_Mo_append (gRm 3 65) (gPre Y [.ref (gad Y x0), .int x1, .int x2] S sz (wp_Mo_append (gLn Y) Q x0 x1 x2 S)) (va_Qi Q (gB Y) (gA Y sz)) 0 0 (gA Y sz) := by
  refine Met.ofW (cc := c_Mo_append) (maxL := 7) (ret := (Option.some Jvm.ClassFile.FieldType.int)) (by decide) rfl ?_
  intro p e s m args below meth c s₁ B hml hv
  obtain ⟨rfl, hsz, hP, hK, hSt, hw⟩ := hv
  subst hsz
  have hts := atoms_spec (ws := w_Mo_append) B.pre
  have hl := lv_entry ([.ref (gad Y x0), .int x1, .int x2]) (n := 7) (Nat.le_of_ble_eq_true rfl)
  rw [lg_entry_eq]
  generalize (lg_sl ([.ref (gad Y x0), .int x1, .int x2]) ++ List.replicate (7 - (lg_sl ([.ref (gad Y x0), .int x1, .int x2])).length) Slot.unset).toArray = ls at hl ⊢
  exact mw_Mo_append ⟨B.exec, B.bytes, hml, findClass_of_methodNamed B.named, hts, B.returns, B.notSynchronized, hK, hY, hSt⟩ x0 x1 x2 S s.heap [] ls hx0 hw hP va_S.rf hl

def wp_Mo_firstOf (Ln : gI → Nat) (Q : Int32 → gS → Prop) (x0 : gI) (x1 : Int32)  (S : gS) : Prop :=
  vp_in (330 * x1) (Ln (grf x0 12)) ∧ (vp_in (S.1 (grf x0 12) (330 * x1).toNatClampNeg) (Ln (grf x0 5)) ∧ (Q (S.1 (grf x0 5) (S.1 (grf x0 12) (330 * x1).toNatClampNeg).toNatClampNeg) S))
set_option maxHeartbeats 4000000 in
set_option maxRecDepth 100000 in
theorem mw_Mo_firstOf {p : Program} {l : Launch} {e : Env} {s : State} {m : MethodId} {args : Array Value} {below : List Frame} {meth : Method} {c : Code} {Y : gY} {Q : Int32 → gS → Prop} (C : gCx p s m args meth c Y "LogDiskModel" c_Mo_firstOf 2 (Option.some Jvm.ClassFile.FieldType.int) w_Mo_firstOf) : ∀ (x0 : gI) (x1 : Int32)  (S : gS) (H : Heap) (locs : List Loc) (ls : Array Slot), gis Y 10 x0 → wp_Mo_firstOf (gLn Y) Q x0 x1 S → gWd Y S H → va_S (gA Y s.heap.size) s.heap H locs → lv_has ls 2 [(0, .ref (gad Y x0)), (1, .int x1)] → W p l e (gRm 0 0) s m args below meth c H locs 0 0 (MQ below (va_Qi Q (gB Y) (gA Y s.heap.size)) args s 0 0 (gA Y s.heap.size)) (F0 m 0 ls []) := by
  have C0 := C
  obtain ⟨hx, hb, hml, hown, hts, hr, hlocks, hK, hY, hSt⟩ := C
  intro x0 x1 S H locs ls hx0 hw hP hS hl
  unfold wp_Mo_firstOf at hw
  refine lv_aload_n hx hb d_Mo_firstOf_0 rfl (lv_at hl 0 rfl) ?_
  refine g_get hx hb hts (fun w h => List.mem_cons_of_mem _ (in_Mo w h)) hown hK hP hx0 (gce_Mo hx0.1) rfl 5 (by decide) (hts _ (List.mem_cons_of_mem _ gw_812)) rfl d_Mo_firstOf_1 ?_
  refine lv_aload_n hx hb d_Mo_firstOf_4 rfl (lv_at hl 0 rfl) ?_
  refine g_get hx hb hts (fun w h => List.mem_cons_of_mem _ (in_Mo w h)) hown hK hP hx0 (gce_Mo hx0.1) rfl 12 (by decide) (hts _ (List.mem_cons_of_mem _ gw_819)) rfl d_Mo_firstOf_5 ?_
  refine lv_sipush (v := 330) hx hb d_Mo_firstOf_8 (by decide) ?_
  refine lv_iload_n hx hb d_Mo_firstOf_11 rfl (lv_at hl 1 rfl) ?_
  refine lv_imul hx hb d_Mo_firstOf_12 ?_
  obtain ⟨hin, hw⟩ := hw
  refine g_iaload hx hb hK hP (gis_Mo_rows hY hx0) hin d_Mo_firstOf_13 ?_
  obtain ⟨hin, hw⟩ := hw
  refine g_iaload hx hb hK hP (gis_Mo_as hY hx0) hin d_Mo_firstOf_14 ?_
  exact W.iret (v := (S.1 (grf x0 5) (S.1 (grf x0 12) (330 * x1).toNatClampNeg).toNatClampNeg)) hx hb hr (fun t ht hW => ⟨⟨(S.1 (grf x0 5) (S.1 (grf x0 12) (330 * x1).toNatClampNeg).toNatClampNeg), S, rfl, hw, by rw [ht]; exact hP, va_K.moved hW.alike hK⟩, hS.F ht⟩) hS.2.2 d_Mo_firstOf_15
set_option maxHeartbeats 4000000 in
set_option maxRecDepth 100000 in
theorem k_Mo_firstOf (l : Launch) (Y : gY) (hY : gOK Y) (sz : Nat) (x0 : gI) (x1 : Int32)  (hx0 : gis Y 10 x0) (S : gS) (Q : Int32 → gS → Prop) : Met l y_Mo_firstOf w_Mo_firstOf (gRm 0 0) (gPre Y [.ref (gad Y x0), .int x1] S sz (wp_Mo_firstOf (gLn Y) Q x0 x1 S)) (va_Qi Q (gB Y) (gA Y sz)) 0 0 (gA Y sz) := by
  refine Met.ofW (cc := c_Mo_firstOf) (maxL := 2) (ret := (Option.some Jvm.ClassFile.FieldType.int)) (by decide) rfl ?_
  intro p e s m args below meth c s₁ B hml hv
  obtain ⟨rfl, hsz, hP, hK, hSt, hw⟩ := hv
  subst hsz
  have hts := atoms_spec (ws := w_Mo_firstOf) B.pre
  have hl := lv_entry ([.ref (gad Y x0), .int x1]) (n := 2) (Nat.le_of_ble_eq_true rfl)
  rw [lg_entry_eq]
  generalize (lg_sl ([.ref (gad Y x0), .int x1]) ++ List.replicate (2 - (lg_sl ([.ref (gad Y x0), .int x1])).length) Slot.unset).toArray = ls at hl ⊢
  exact mw_Mo_firstOf ⟨B.exec, B.bytes, hml, findClass_of_methodNamed B.named, hts, B.returns, B.notSynchronized, hK, hY, hSt⟩ x0 x1 S s.heap [] ls hx0 hw hP va_S.rf hl

def wp_Mo_placeIn_5 (Ln : gI → Nat) (Q : Int32 → gS → Prop) : Nat → gI → Int32 → Int32 → Int32 → Int32 → gS → Prop
  | 0, _, _, _, _, _, _ => False
  | n5 + 1, x0, x1, x2, x3, x4, S => vp_in x1 (Ln (grf x0 13)) ∧ ((((S.1 (grf x0 13) x1.toNatClampNeg) ≤ x4) → (Q (-1 : Int32) S)) ∧ ((¬ (S.1 (grf x0 13) x1.toNatClampNeg) ≤ x4) → (vp_in ((330 * x1) + x4) (Ln (grf x0 12)) ∧ (((¬ (S.1 (grf x0 12) ((330 * x1) + x4).toNatClampNeg) = x2) → (vp_in ((330 * x1) + x4) (Ln (grf x0 12)) ∧ (wp_Mo_space Ln (fun r4 S3 => ∀ v3_5 : Int32, v3_5 = x3 + r4 → (∀ v4_6 : Int32, v4_6 = x4 + 1 → (wp_Mo_placeIn_5 Ln Q n5 x0 x1 x2 v3_5 v4_6 S3))) x0 (S.1 (grf x0 12) ((330 * x1) + x4).toNatClampNeg) S))) ∧ (((S.1 (grf x0 12) ((330 * x1) + x4).toNatClampNeg) = x2) → (Q x3 S))))))
def wp_Mo_placeIn (Ln : gI → Nat) (Q : Int32 → gS → Prop) (x0 : gI) (x1 : Int32) (x2 : Int32)  (S : gS) : Prop :=
  ∃ n5 : Nat, wp_Mo_placeIn_5 Ln Q n5 x0 x1 x2 0 0 S
set_option maxHeartbeats 4000000 in
set_option maxRecDepth 100000 in
theorem mw_Mo_placeIn_5 {p : Program} {l : Launch} {e : Env} {s : State} {m : MethodId} {args : Array Value} {below : List Frame} {meth : Method} {c : Code} {Y : gY} {Q : Int32 → gS → Prop} (C : gCx p s m args meth c Y "LogDiskModel" c_Mo_placeIn 5 (Option.some Jvm.ClassFile.FieldType.int) w_Mo_placeIn) : ∀ (n : Nat), ∀ (x0 : gI) (x1 : Int32) (x2 : Int32) (x3 : Int32) (x4 : Int32)  (S : gS) (H : Heap) (locs : List Loc) (ls : Array Slot), gis Y 10 x0 → wp_Mo_placeIn_5 (gLn Y) Q n x0 x1 x2 x3 x4 S → gWd Y S H → va_S (gA Y s.heap.size) s.heap H locs → lv_has ls 5 [(0, .ref (gad Y x0)), (1, .int x1), (2, .int x2), (3, .int x3), (4, .int x4)] → W p l e (gRm 2 42) s m args below meth c H locs 0 0 (MQ below (va_Qi Q (gB Y) (gA Y s.heap.size)) args s 0 0 (gA Y s.heap.size)) (F0 m 5 ls []) := by
  have C0 := C
  obtain ⟨hx, hb, hml, hown, hts, hr, hlocks, hK, hY, hSt⟩ := C
  intro n
  induction n with
  | zero =>
    intro x0 x1 x2 x3 x4 S H locs ls hx0 hw
    exact False.elim hw
  | succ n ih =>
    intro x0 x1 x2 x3 x4 S H locs ls hx0 hw hP hS hl
    unfold wp_Mo_placeIn_5 at hw
    refine lv_iload hx hb d_Mo_placeIn_5 (lv_at hl 4 rfl) ?_
    refine lv_aload_n hx hb d_Mo_placeIn_7 rfl (lv_at hl 0 rfl) ?_
    refine g_get hx hb hts (fun w h => List.mem_cons_of_mem _ (in_Mo w h)) hown hK hP hx0 (gce_Mo hx0.1) rfl 13 (by decide) (hts _ (List.mem_cons_of_mem _ gw_820)) rfl d_Mo_placeIn_8 ?_
    refine lv_iload_n hx hb d_Mo_placeIn_11 rfl (lv_at hl 1 rfl) ?_
    obtain ⟨hin, hw⟩ := hw
    refine g_iaload hx hb hK hP (gis_Mo_counts hY hx0) hin d_Mo_placeIn_12 ?_
    refine lv_icmp_ge (tgt := 61) hx hb d_Mo_placeIn_13 (by decide) (fun c1 => ?_) (fun c1 => ?_)
    · replace hw := hw.1 c1
      refine lv_iconst (v := (-1 : Int32)) hx hb d_Mo_placeIn_61 (by decide) ?_
      exact W.iret (v := (-1 : Int32)) hx hb hr (fun t ht hW => ⟨⟨(-1 : Int32), S, rfl, hw, by rw [ht]; exact hP, va_K.moved hW.alike hK⟩, hS.F ht⟩) hS.2.2 d_Mo_placeIn_62
    · replace hw := hw.2 c1
      refine lv_aload_n hx hb d_Mo_placeIn_16 rfl (lv_at hl 0 rfl) ?_
      refine g_get hx hb hts (fun w h => List.mem_cons_of_mem _ (in_Mo w h)) hown hK hP hx0 (gce_Mo hx0.1) rfl 12 (by decide) (hts _ (List.mem_cons_of_mem _ gw_819)) rfl d_Mo_placeIn_17 ?_
      refine lv_sipush (v := 330) hx hb d_Mo_placeIn_20 (by decide) ?_
      refine lv_iload_n hx hb d_Mo_placeIn_23 rfl (lv_at hl 1 rfl) ?_
      refine lv_imul hx hb d_Mo_placeIn_24 ?_
      refine lv_iload hx hb d_Mo_placeIn_25 (lv_at hl 4 rfl) ?_
      refine lv_iadd hx hb d_Mo_placeIn_27 ?_
      obtain ⟨hin, hw⟩ := hw
      refine g_iaload hx hb hK hP (gis_Mo_rows hY hx0) hin d_Mo_placeIn_28 ?_
      refine lv_iload_n hx hb d_Mo_placeIn_29 rfl (lv_at hl 2 rfl) ?_
      refine lv_icmp_ne (tgt := 35) hx hb d_Mo_placeIn_30 (by decide) (fun c2 => ?_) (fun c2 => ?_)
      · replace hw := hw.1 c2
        refine lv_iload_n hx hb d_Mo_placeIn_35 rfl (lv_at hl 3 rfl) ?_
        refine lv_aload_n hx hb d_Mo_placeIn_36 rfl (lv_at hl 0 rfl) ?_
        refine lv_aload_n hx hb d_Mo_placeIn_37 rfl (lv_at hl 0 rfl) ?_
        refine g_get hx hb hts (fun w h => List.mem_cons_of_mem _ (in_Mo w h)) hown hK hP hx0 (gce_Mo hx0.1) rfl 12 (by decide) (hts _ (List.mem_cons_of_mem _ gw_819)) rfl d_Mo_placeIn_38 ?_
        refine lv_sipush (v := 330) hx hb d_Mo_placeIn_41 (by decide) ?_
        refine lv_iload_n hx hb d_Mo_placeIn_44 rfl (lv_at hl 1 rfl) ?_
        refine lv_imul hx hb d_Mo_placeIn_45 ?_
        refine lv_iload hx hb d_Mo_placeIn_46 (lv_at hl 4 rfl) ?_
        refine lv_iadd hx hb d_Mo_placeIn_48 ?_
        obtain ⟨hin, hw⟩ := hw
        refine g_iaload hx hb hK hP (gis_Mo_rows hY hx0) hin d_Mo_placeIn_49 ?_
        refine g_calli (va_runV (As := [.int (S.1 (grf x0 12) ((330 * x1) + x4).toNatClampNeg)]) (rest := [.int x3]) ⟨hx, hb, hml, hown, hts⟩ (k_Mo_space l Y hY H.size x0 (S.1 (grf x0 12) ((330 * x1) + x4).toNatClampNeg) hx0 S _) (cwV 1 hts (gG_V gw_953 gw_955 gs_25 gw_12 gw_956) rfl rfl rfl (by decide +kernel) ⟨Nat.le_of_ble_eq_true rfl, Nat.le_of_ble_eq_true rfl⟩) ⟨gPre_blind, g_recv hK hP hx0 (gce_Mo hx0.1) rfl, g_pre hK hSt hS hP hw⟩ rfl rfl hl.1 rfl (lv_room (Nat.le_of_ble_eq_true rfl)) d_Mo_placeIn_50 ⟨Nat.zero_le _, Nat.zero_le _⟩) hS (fun r4 S3 H locs hw hP hS => ?_)
        refine lv_iadd hx hb d_Mo_placeIn_53 ?_
        refine lv_topi (fun v3_5 ev3_5 => ?_)
        replace hw := hw v3_5 ev3_5
        refine lv_istore_n (lv' := [(3, .int v3_5), (0, .ref (gad Y x0)), (1, .int x1), (2, .int x2), (4, .int x4)]) hx hb d_Mo_placeIn_54 rfl hl (by decide) rfl (fun ls hl => ?_)
        obtain ⟨v4_6, ev4_6⟩ : ∃ y : Int32, y = x4 + 1 := ⟨_, rfl⟩
        replace hw := hw v4_6 ev4_6
        refine lv_iinc (v := v4_6) (lv' := [(4, .int v4_6), (3, .int v3_5), (0, .ref (gad Y x0)), (1, .int x1), (2, .int x2)]) hx hb d_Mo_placeIn_55 hl (k := 4) rfl (by rw [ev4_6]; rfl) (by decide) rfl (fun ls hl => ?_)
        refine lv_goto (tgt := 5) hx hb d_Mo_placeIn_58 (by decide) ?_
        exact ih x0 x1 x2 v3_5 v4_6 S3 H locs ls hx0 hw hP hS (lv_sub hl [2, 3, 4, 1, 0] rfl)
      · replace hw := hw.2 c2
        refine lv_iload_n hx hb d_Mo_placeIn_33 rfl (lv_at hl 3 rfl) ?_
        exact W.iret (v := x3) hx hb hr (fun t ht hW => ⟨⟨x3, S, rfl, hw, by rw [ht]; exact hP, va_K.moved hW.alike hK⟩, hS.F ht⟩) hS.2.2 d_Mo_placeIn_34
set_option maxHeartbeats 4000000 in
set_option maxRecDepth 100000 in
theorem mw_Mo_placeIn {p : Program} {l : Launch} {e : Env} {s : State} {m : MethodId} {args : Array Value} {below : List Frame} {meth : Method} {c : Code} {Y : gY} {Q : Int32 → gS → Prop} (C : gCx p s m args meth c Y "LogDiskModel" c_Mo_placeIn 5 (Option.some Jvm.ClassFile.FieldType.int) w_Mo_placeIn) : ∀ (x0 : gI) (x1 : Int32) (x2 : Int32)  (S : gS) (H : Heap) (locs : List Loc) (ls : Array Slot), gis Y 10 x0 → wp_Mo_placeIn (gLn Y) Q x0 x1 x2 S → gWd Y S H → va_S (gA Y s.heap.size) s.heap H locs → lv_has ls 5 [(0, .ref (gad Y x0)), (1, .int x1), (2, .int x2)] → W p l e (gRm 2 42) s m args below meth c H locs 0 0 (MQ below (va_Qi Q (gB Y) (gA Y s.heap.size)) args s 0 0 (gA Y s.heap.size)) (F0 m 0 ls []) := by
  have C0 := C
  obtain ⟨hx, hb, hml, hown, hts, hr, hlocks, hK, hY, hSt⟩ := C
  intro x0 x1 x2 S H locs ls hx0 hw hP hS hl
  unfold wp_Mo_placeIn at hw
  refine lv_iconst (v := 0) hx hb d_Mo_placeIn_0 (by decide) ?_
  refine lv_istore_n (lv' := [(3, .int 0), (0, .ref (gad Y x0)), (1, .int x1), (2, .int x2)]) hx hb d_Mo_placeIn_1 rfl hl (by decide) rfl (fun ls hl => ?_)
  refine lv_iconst (v := 0) hx hb d_Mo_placeIn_2 (by decide) ?_
  refine lv_istore (lv' := [(4, .int 0), (3, .int 0), (0, .ref (gad Y x0)), (1, .int x1), (2, .int x2)]) hx hb d_Mo_placeIn_3 hl (by decide) rfl (fun ls hl => ?_)
  obtain ⟨n, hw⟩ := hw
  exact mw_Mo_placeIn_5 C0 n x0 x1 x2 0 0 S H locs ls hx0 hw hP hS (lv_sub hl [2, 3, 4, 1, 0] rfl)
set_option maxHeartbeats 4000000 in
set_option maxRecDepth 100000 in
theorem k_Mo_placeIn (l : Launch) (Y : gY) (hY : gOK Y) (sz : Nat) (x0 : gI) (x1 : Int32) (x2 : Int32)  (hx0 : gis Y 10 x0) (S : gS) (Q : Int32 → gS → Prop) : Met l y_Mo_placeIn w_Mo_placeIn (gRm 2 42) (gPre Y [.ref (gad Y x0), .int x1, .int x2] S sz (wp_Mo_placeIn (gLn Y) Q x0 x1 x2 S)) (va_Qi Q (gB Y) (gA Y sz)) 0 0 (gA Y sz) := by
  refine Met.ofW (cc := c_Mo_placeIn) (maxL := 5) (ret := (Option.some Jvm.ClassFile.FieldType.int)) (by decide) rfl ?_
  intro p e s m args below meth c s₁ B hml hv
  obtain ⟨rfl, hsz, hP, hK, hSt, hw⟩ := hv
  subst hsz
  have hts := atoms_spec (ws := w_Mo_placeIn) B.pre
  have hl := lv_entry ([.ref (gad Y x0), .int x1, .int x2]) (n := 5) (Nat.le_of_ble_eq_true rfl)
  rw [lg_entry_eq]
  generalize (lg_sl ([.ref (gad Y x0), .int x1, .int x2]) ++ List.replicate (5 - (lg_sl ([.ref (gad Y x0), .int x1, .int x2])).length) Slot.unset).toArray = ls at hl ⊢
  exact mw_Mo_placeIn ⟨B.exec, B.bytes, hml, findClass_of_methodNamed B.named, hts, B.returns, B.notSynchronized, hK, hY, hSt⟩ x0 x1 x2 S s.heap [] ls hx0 hw hP va_S.rf hl

def wp_Mo_cutFrom_142 (Ln : gI → Nat) (Q : Int32 → gS → Prop) (x0 : gI) (x1 : Int32) (x2 : Int32)  (S : gS) : Prop :=
  ∀ S8 : gS, S8 = gset S x0 27 (x1 - 1) → (∀ S9 : gS, S9 = gset S8 x0 29 1 → (Q x2 S9))
def wp_Mo_cutFrom_91 (Ln : gI → Nat) (Q : Int32 → gS → Prop) (x0 : gI) (x1 : Int32) (x2 : Int32)  (S : gS) : Prop :=
  (((S.1 x0 30) ≤ 0) → (wp_Mo_cutFrom_142 Ln Q x0 x1 x2 S)) ∧ ((¬ (S.1 x0 30) ≤ 0) → (vp_in ((S.1 x0 30) - 1) (Ln (grf x0 31)) ∧ (∀ v3_10 : Int32, v3_10 = S.1 (grf x0 31) ((S.1 x0 30) - 1).toNatClampNeg → (vp_in ((x1 - (S.1 x0 23)) - 1) (Ln (grf x0 32)) ∧ (wp_Mo_placeIn Ln (fun r12 S11 => ((r12 < 0) → (wp_Mo_cutFrom_142 Ln Q x0 x1 x2 S11)) ∧ ((¬ r12 < 0) → (wp_Mo_cut Ln (fun S14 => wp_Mo_cutFrom_142 Ln Q x0 x1 x2 S14) x0 v3_10 r12 S11))) x0 v3_10 (S.1 (grf x0 32) ((x1 - (S.1 x0 23)) - 1).toNatClampNeg) S)))))
def wp_Mo_cutFrom_37 (Ln : gI → Nat) (Q : Int32 → gS → Prop) : Nat → gI → Int32 → Int32 → gS → Prop
  | 0, _, _, _, _ => False
  | n37 + 1, x0, x1, x2, S => (((S.1 x0 30) ≤ 0) → (wp_Mo_cutFrom_91 Ln Q x0 x1 x2 S)) ∧ ((¬ (S.1 x0 30) ≤ 0) → (vp_in ((S.1 x0 30) - 1) (Ln (grf x0 31)) ∧ (wp_Mo_firstOf Ln (fun r16 S15 => ((r16 < x1) → (wp_Mo_cutFrom_91 Ln Q x0 x1 x2 S15)) ∧ ((¬ r16 < x1) → (vp_in ((S15.1 x0 30) - 1) (Ln (grf x0 31)) ∧ (wp_Mo_remove Ln (fun S18 => ∀ S19 : gS, S19 = gset S18 x0 30 ((S18.1 x0 30) - 1) → (wp_Mo_cutFrom_37 Ln Q n37 x0 x1 x2 S19)) x0 (S15.1 (grf x0 31) ((S15.1 x0 30) - 1).toNatClampNeg) S15)))) x0 (S.1 (grf x0 31) ((S.1 x0 30) - 1).toNatClampNeg) S)))
def wp_Mo_cutFrom (Ln : gI → Nat) (Q : Int32 → gS → Prop) (x0 : gI) (x1 : Int32)  (S : gS) : Prop :=
  ∀ S1 : gS, S1 = gset S x0 0 0 → (wp_Mo_within Ln (fun r3 S2 => ((¬ r3 = 0) → (∀ v2_5 : Int32, v2_5 = ((S2.1 x0 27) - x1) + 1 → (∃ n37 : Nat, wp_Mo_cutFrom_37 Ln Q n37 x0 x1 v2_5 S2))) ∧ ((r3 = 0) → (wp_Mo_fail Ln (fun r21 S20 => Q r21 S20) x0 1 S2))) x1 ((S1.1 x0 23) + 1) (S1.1 x0 27) S1)
set_option maxHeartbeats 4000000 in
set_option maxRecDepth 100000 in
theorem mw_Mo_cutFrom_142 {p : Program} {l : Launch} {e : Env} {s : State} {m : MethodId} {args : Array Value} {below : List Frame} {meth : Method} {c : Code} {Y : gY} {Q : Int32 → gS → Prop} (C : gCx p s m args meth c Y "LogDiskModel" c_Mo_cutFrom 5 (Option.some Jvm.ClassFile.FieldType.int) w_Mo_cutFrom) : ∀ (x0 : gI) (x1 : Int32) (x2 : Int32)  (S : gS) (H : Heap) (locs : List Loc) (ls : Array Slot), gis Y 10 x0 → wp_Mo_cutFrom_142 (gLn Y) Q x0 x1 x2 S → gWd Y S H → va_S (gA Y s.heap.size) s.heap H locs → lv_has ls 5 [(0, .ref (gad Y x0)), (1, .int x1), (2, .int x2)] → W p l e (gRm 4 87) s m args below meth c H locs 0 0 (MQ below (va_Qi Q (gB Y) (gA Y s.heap.size)) args s 0 0 (gA Y s.heap.size)) (F0 m 142 ls []) := by
  have C0 := C
  obtain ⟨hx, hb, hml, hown, hts, hr, hlocks, hK, hY, hSt⟩ := C
  intro x0 x1 x2 S H locs ls hx0 hw hP hS hl
  unfold wp_Mo_cutFrom_142 at hw
  refine lv_aload_n hx hb d_Mo_cutFrom_142 rfl (lv_at hl 0 rfl) ?_
  refine lv_iload_n hx hb d_Mo_cutFrom_143 rfl (lv_at hl 1 rfl) ?_
  refine lv_iconst (v := 1) hx hb d_Mo_cutFrom_144 (by decide) ?_
  refine lv_isub hx hb d_Mo_cutFrom_145 ?_
  refine g_put (ty := .int) (v := .int (x1 - 1)) (S' := gset S x0 27 (x1 - 1)) hx hb hts (fun w h => List.mem_cons_of_mem _ (in_Mo w h)) ty_Mo tyok_Mo nm_Mo hown hK hY.1 hP hS hx0 (gce_Mo hx0.1) rfl 27 (by decide) (hts _ (List.mem_cons_of_mem _ gw_834)) rfl (by decide +kernel) rfl rfl (Nat.le_of_ble_eq_true rfl) (gp_Mo_last hx0.1) gce_gset d_Mo_cutFrom_146 (fun H locs hP hS => ?_)
  obtain ⟨S8, eS8⟩ : ∃ z, z = gset S x0 27 (x1 - 1) := ⟨_, rfl⟩
  rw [← eS8] at hP
  replace hw := hw S8 eS8
  refine lv_aload_n hx hb d_Mo_cutFrom_149 rfl (lv_at hl 0 rfl) ?_
  refine lv_iconst (v := 1) hx hb d_Mo_cutFrom_150 (by decide) ?_
  refine g_put (ty := .boolean) (v := .int 1) (S' := gset S8 x0 29 1) hx hb hts (fun w h => List.mem_cons_of_mem _ (in_Mo w h)) ty_Mo tyok_Mo nm_Mo hown hK hY.1 hP hS hx0 (gce_Mo hx0.1) rfl 29 (by decide) (hts _ (List.mem_cons_of_mem _ gw_836)) rfl (by decide +kernel) rfl rfl (Nat.le_of_ble_eq_true rfl) (gp_Mo_dirty hx0.1) gce_gset d_Mo_cutFrom_151 (fun H locs hP hS => ?_)
  obtain ⟨S9, eS9⟩ : ∃ z, z = gset S8 x0 29 1 := ⟨_, rfl⟩
  rw [← eS9] at hP
  replace hw := hw S9 eS9
  refine lv_iload_n hx hb d_Mo_cutFrom_154 rfl (lv_at hl 2 rfl) ?_
  exact W.iret (v := x2) hx hb hr (fun t ht hW => ⟨⟨x2, S9, rfl, hw, by rw [ht]; exact hP, va_K.moved hW.alike hK⟩, hS.F ht⟩) hS.2.2 d_Mo_cutFrom_155
set_option maxHeartbeats 4000000 in
set_option maxRecDepth 100000 in
theorem mw_Mo_cutFrom_91 {p : Program} {l : Launch} {e : Env} {s : State} {m : MethodId} {args : Array Value} {below : List Frame} {meth : Method} {c : Code} {Y : gY} {Q : Int32 → gS → Prop} (C : gCx p s m args meth c Y "LogDiskModel" c_Mo_cutFrom 5 (Option.some Jvm.ClassFile.FieldType.int) w_Mo_cutFrom) : ∀ (x0 : gI) (x1 : Int32) (x2 : Int32)  (S : gS) (H : Heap) (locs : List Loc) (ls : Array Slot), gis Y 10 x0 → wp_Mo_cutFrom_91 (gLn Y) Q x0 x1 x2 S → gWd Y S H → va_S (gA Y s.heap.size) s.heap H locs → lv_has ls 5 [(0, .ref (gad Y x0)), (1, .int x1), (2, .int x2)] → W p l e (gRm 4 87) s m args below meth c H locs 0 0 (MQ below (va_Qi Q (gB Y) (gA Y s.heap.size)) args s 0 0 (gA Y s.heap.size)) (F0 m 91 ls []) := by
  have C0 := C
  obtain ⟨hx, hb, hml, hown, hts, hr, hlocks, hK, hY, hSt⟩ := C
  intro x0 x1 x2 S H locs ls hx0 hw hP hS hl
  unfold wp_Mo_cutFrom_91 at hw
  refine lv_aload_n hx hb d_Mo_cutFrom_91 rfl (lv_at hl 0 rfl) ?_
  refine g_get hx hb hts (fun w h => List.mem_cons_of_mem _ (in_Mo w h)) hown hK hP hx0 (gce_Mo hx0.1) rfl 30 (by decide) (hts _ (List.mem_cons_of_mem _ gw_837)) rfl d_Mo_cutFrom_92 ?_
  refine lv_if_le (tgt := 142) hx hb d_Mo_cutFrom_95 (by decide) (fun c7 => ?_) (fun c7 => ?_)
  · replace hw := hw.1 c7
    exact mw_Mo_cutFrom_142 C0 x0 x1 x2 S H locs ls hx0 hw hP hS (lv_sub hl [0, 1, 2] rfl)
  · replace hw := hw.2 c7
    refine lv_aload_n hx hb d_Mo_cutFrom_98 rfl (lv_at hl 0 rfl) ?_
    refine g_get hx hb hts (fun w h => List.mem_cons_of_mem _ (in_Mo w h)) hown hK hP hx0 (gce_Mo hx0.1) rfl 31 (by decide) (hts _ (List.mem_cons_of_mem _ gw_838)) rfl d_Mo_cutFrom_99 ?_
    refine lv_aload_n hx hb d_Mo_cutFrom_102 rfl (lv_at hl 0 rfl) ?_
    refine g_get hx hb hts (fun w h => List.mem_cons_of_mem _ (in_Mo w h)) hown hK hP hx0 (gce_Mo hx0.1) rfl 30 (by decide) (hts _ (List.mem_cons_of_mem _ gw_837)) rfl d_Mo_cutFrom_103 ?_
    refine lv_iconst (v := 1) hx hb d_Mo_cutFrom_106 (by decide) ?_
    refine lv_isub hx hb d_Mo_cutFrom_107 ?_
    obtain ⟨hin, hw⟩ := hw
    refine g_iaload hx hb hK hP (gis_Mo_order hY hx0) hin d_Mo_cutFrom_108 ?_
    refine lv_topi (fun v3_10 ev3_10 => ?_)
    replace hw := hw v3_10 ev3_10
    refine lv_istore_n (lv' := [(3, .int v3_10), (0, .ref (gad Y x0)), (1, .int x1), (2, .int x2)]) hx hb d_Mo_cutFrom_109 rfl hl (by decide) rfl (fun ls hl => ?_)
    refine lv_aload_n hx hb d_Mo_cutFrom_110 rfl (lv_at hl 1 rfl) ?_
    refine lv_iload_n hx hb d_Mo_cutFrom_111 rfl (lv_at hl 0 rfl) ?_
    refine lv_aload_n hx hb d_Mo_cutFrom_112 rfl (lv_at hl 1 rfl) ?_
    refine g_get hx hb hts (fun w h => List.mem_cons_of_mem _ (in_Mo w h)) hown hK hP hx0 (gce_Mo hx0.1) rfl 32 (by decide) (hts _ (List.mem_cons_of_mem _ gw_839)) rfl d_Mo_cutFrom_113 ?_
    refine lv_iload_n hx hb d_Mo_cutFrom_116 rfl (lv_at hl 2 rfl) ?_
    refine lv_aload_n hx hb d_Mo_cutFrom_117 rfl (lv_at hl 1 rfl) ?_
    refine g_get hx hb hts (fun w h => List.mem_cons_of_mem _ (in_Mo w h)) hown hK hP hx0 (gce_Mo hx0.1) rfl 23 (by decide) (hts _ (List.mem_cons_of_mem _ gw_830)) rfl d_Mo_cutFrom_118 ?_
    refine lv_isub hx hb d_Mo_cutFrom_121 ?_
    refine lv_iconst (v := 1) hx hb d_Mo_cutFrom_122 (by decide) ?_
    refine lv_isub hx hb d_Mo_cutFrom_123 ?_
    obtain ⟨hin, hw⟩ := hw
    refine g_iaload hx hb hK hP (gis_Mo_entries hY hx0) hin d_Mo_cutFrom_124 ?_
    refine g_calli (va_runV (As := [.int v3_10, .int (S.1 (grf x0 32) ((x1 - (S.1 x0 23)) - 1).toNatClampNeg)]) (rest := []) ⟨hx, hb, hml, hown, hts⟩ (k_Mo_placeIn l Y hY H.size x0 v3_10 (S.1 (grf x0 32) ((x1 - (S.1 x0 23)) - 1).toNatClampNeg) hx0 S _) (cwV 2 hts (gG_V gw_1005 gw_1007 gs_36 gw_12 gw_1008) rfl rfl rfl (by decide +kernel) ⟨Nat.le_of_ble_eq_true rfl, Nat.le_of_ble_eq_true rfl⟩) ⟨gPre_blind, g_recv hK hP hx0 (gce_Mo hx0.1) rfl, g_pre hK hSt hS hP hw⟩ rfl rfl hl.1 rfl (lv_room (Nat.le_of_ble_eq_true rfl)) d_Mo_cutFrom_125 ⟨Nat.zero_le _, Nat.zero_le _⟩) hS (fun r12 S11 H locs hw hP hS => ?_)
    refine lv_istore (lv' := [(4, .int r12), (3, .int v3_10), (0, .ref (gad Y x0)), (1, .int x1), (2, .int x2)]) hx hb d_Mo_cutFrom_128 hl (by decide) rfl (fun ls hl => ?_)
    refine lv_iload hx hb d_Mo_cutFrom_130 (lv_at hl 0 rfl) ?_
    refine lv_if_lt (tgt := 142) hx hb d_Mo_cutFrom_132 (by decide) (fun c13 => ?_) (fun c13 => ?_)
    · replace hw := hw.1 c13
      exact mw_Mo_cutFrom_142 C0 x0 x1 x2 S11 H locs ls hx0 hw hP hS (lv_sub hl [2, 3, 4] rfl)
    · replace hw := hw.2 c13
      refine lv_aload_n hx hb d_Mo_cutFrom_135 rfl (lv_at hl 2 rfl) ?_
      refine lv_iload_n hx hb d_Mo_cutFrom_136 rfl (lv_at hl 1 rfl) ?_
      refine lv_iload hx hb d_Mo_cutFrom_137 (lv_at hl 0 rfl) ?_
      refine g_callv (va_runV (As := [.int v3_10, .int r12]) (rest := []) ⟨hx, hb, hml, hown, hts⟩ (k_Mo_cut l Y hY H.size x0 v3_10 r12 hx0 S11 _) (cwV 2 hts (gG_V gw_949 gw_951 gs_24 gw_12 gw_952) rfl rfl rfl (by decide +kernel) ⟨Nat.le_of_ble_eq_true rfl, Nat.le_of_ble_eq_true rfl⟩) ⟨gPre_blind, g_recv hK hP hx0 (gce_Mo hx0.1) rfl, g_pre hK hSt hS hP hw⟩ rfl rfl hl.1 rfl (lv_room (Nat.le_of_ble_eq_true rfl)) d_Mo_cutFrom_139 ⟨Nat.zero_le _, Nat.zero_le _⟩) hS (fun S14 H locs hw hP hS => ?_)
      exact mw_Mo_cutFrom_142 C0 x0 x1 x2 S14 H locs ls hx0 hw hP hS (lv_sub hl [2, 3, 4] rfl)
set_option maxHeartbeats 4000000 in
set_option maxRecDepth 100000 in
theorem mw_Mo_cutFrom_37 {p : Program} {l : Launch} {e : Env} {s : State} {m : MethodId} {args : Array Value} {below : List Frame} {meth : Method} {c : Code} {Y : gY} {Q : Int32 → gS → Prop} (C : gCx p s m args meth c Y "LogDiskModel" c_Mo_cutFrom 5 (Option.some Jvm.ClassFile.FieldType.int) w_Mo_cutFrom) : ∀ (n : Nat), ∀ (x0 : gI) (x1 : Int32) (x2 : Int32)  (S : gS) (H : Heap) (locs : List Loc) (ls : Array Slot), gis Y 10 x0 → wp_Mo_cutFrom_37 (gLn Y) Q n x0 x1 x2 S → gWd Y S H → va_S (gA Y s.heap.size) s.heap H locs → lv_has ls 5 [(0, .ref (gad Y x0)), (1, .int x1), (2, .int x2)] → W p l e (gRm 4 87) s m args below meth c H locs 0 0 (MQ below (va_Qi Q (gB Y) (gA Y s.heap.size)) args s 0 0 (gA Y s.heap.size)) (F0 m 37 ls []) := by
  have C0 := C
  obtain ⟨hx, hb, hml, hown, hts, hr, hlocks, hK, hY, hSt⟩ := C
  intro n
  induction n with
  | zero =>
    intro x0 x1 x2 S H locs ls hx0 hw
    exact False.elim hw
  | succ n ih =>
    intro x0 x1 x2 S H locs ls hx0 hw hP hS hl
    unfold wp_Mo_cutFrom_37 at hw
    refine lv_aload_n hx hb d_Mo_cutFrom_37 rfl (lv_at hl 0 rfl) ?_
    refine g_get hx hb hts (fun w h => List.mem_cons_of_mem _ (in_Mo w h)) hown hK hP hx0 (gce_Mo hx0.1) rfl 30 (by decide) (hts _ (List.mem_cons_of_mem _ gw_837)) rfl d_Mo_cutFrom_38 ?_
    refine lv_if_le (tgt := 91) hx hb d_Mo_cutFrom_41 (by decide) (fun c6 => ?_) (fun c6 => ?_)
    · replace hw := hw.1 c6
      exact mw_Mo_cutFrom_91 C0 x0 x1 x2 S H locs ls hx0 hw hP hS (lv_sub hl [0, 1, 2] rfl)
    · replace hw := hw.2 c6
      refine lv_aload_n hx hb d_Mo_cutFrom_44 rfl (lv_at hl 0 rfl) ?_
      refine lv_aload_n hx hb d_Mo_cutFrom_45 rfl (lv_at hl 0 rfl) ?_
      refine g_get hx hb hts (fun w h => List.mem_cons_of_mem _ (in_Mo w h)) hown hK hP hx0 (gce_Mo hx0.1) rfl 31 (by decide) (hts _ (List.mem_cons_of_mem _ gw_838)) rfl d_Mo_cutFrom_46 ?_
      refine lv_aload_n hx hb d_Mo_cutFrom_49 rfl (lv_at hl 0 rfl) ?_
      refine g_get hx hb hts (fun w h => List.mem_cons_of_mem _ (in_Mo w h)) hown hK hP hx0 (gce_Mo hx0.1) rfl 30 (by decide) (hts _ (List.mem_cons_of_mem _ gw_837)) rfl d_Mo_cutFrom_50 ?_
      refine lv_iconst (v := 1) hx hb d_Mo_cutFrom_53 (by decide) ?_
      refine lv_isub hx hb d_Mo_cutFrom_54 ?_
      obtain ⟨hin, hw⟩ := hw
      refine g_iaload hx hb hK hP (gis_Mo_order hY hx0) hin d_Mo_cutFrom_55 ?_
      refine g_calli (va_runV (As := [.int (S.1 (grf x0 31) ((S.1 x0 30) - 1).toNatClampNeg)]) (rest := []) ⟨hx, hb, hml, hown, hts⟩ (k_Mo_firstOf l Y hY H.size x0 (S.1 (grf x0 31) ((S.1 x0 30) - 1).toNatClampNeg) hx0 S _) (cwV 1 hts (gG_V gw_997 gw_999 gs_34 gw_12 gw_1000) rfl rfl rfl (by decide +kernel) ⟨Nat.le_of_ble_eq_true rfl, Nat.le_of_ble_eq_true rfl⟩) ⟨gPre_blind, g_recv hK hP hx0 (gce_Mo hx0.1) rfl, g_pre hK hSt hS hP hw⟩ rfl rfl hl.1 rfl (lv_room (Nat.le_of_ble_eq_true rfl)) d_Mo_cutFrom_56 ⟨Nat.zero_le _, Nat.zero_le _⟩) hS (fun r16 S15 H locs hw hP hS => ?_)
      refine lv_iload_n hx hb d_Mo_cutFrom_59 rfl (lv_at hl 1 rfl) ?_
      refine lv_icmp_lt (tgt := 91) hx hb d_Mo_cutFrom_60 (by decide) (fun c17 => ?_) (fun c17 => ?_)
      · replace hw := hw.1 c17
        exact mw_Mo_cutFrom_91 C0 x0 x1 x2 S15 H locs ls hx0 hw hP hS (lv_sub hl [0, 1, 2] rfl)
      · replace hw := hw.2 c17
        refine lv_aload_n hx hb d_Mo_cutFrom_63 rfl (lv_at hl 0 rfl) ?_
        refine lv_aload_n hx hb d_Mo_cutFrom_64 rfl (lv_at hl 0 rfl) ?_
        refine g_get hx hb hts (fun w h => List.mem_cons_of_mem _ (in_Mo w h)) hown hK hP hx0 (gce_Mo hx0.1) rfl 31 (by decide) (hts _ (List.mem_cons_of_mem _ gw_838)) rfl d_Mo_cutFrom_65 ?_
        refine lv_aload_n hx hb d_Mo_cutFrom_68 rfl (lv_at hl 0 rfl) ?_
        refine g_get hx hb hts (fun w h => List.mem_cons_of_mem _ (in_Mo w h)) hown hK hP hx0 (gce_Mo hx0.1) rfl 30 (by decide) (hts _ (List.mem_cons_of_mem _ gw_837)) rfl d_Mo_cutFrom_69 ?_
        refine lv_iconst (v := 1) hx hb d_Mo_cutFrom_72 (by decide) ?_
        refine lv_isub hx hb d_Mo_cutFrom_73 ?_
        obtain ⟨hin, hw⟩ := hw
        refine g_iaload hx hb hK hP (gis_Mo_order hY hx0) hin d_Mo_cutFrom_74 ?_
        refine g_callv (va_runV (As := [.int (S15.1 (grf x0 31) ((S15.1 x0 30) - 1).toNatClampNeg)]) (rest := []) ⟨hx, hb, hml, hown, hts⟩ (k_Mo_remove l Y hY H.size x0 (S15.1 (grf x0 31) ((S15.1 x0 30) - 1).toNatClampNeg) hx0 S15 _) (cwV 1 hts (gG_V gw_1001 gw_1003 gs_35 gw_12 gw_1004) rfl rfl rfl (by decide +kernel) ⟨Nat.le_of_ble_eq_true rfl, Nat.le_of_ble_eq_true rfl⟩) ⟨gPre_blind, g_recv hK hP hx0 (gce_Mo hx0.1) rfl, g_pre hK hSt hS hP hw⟩ rfl rfl hl.1 rfl (lv_room (Nat.le_of_ble_eq_true rfl)) d_Mo_cutFrom_75 ⟨Nat.zero_le _, Nat.zero_le _⟩) hS (fun S18 H locs hw hP hS => ?_)
        refine lv_aload_n hx hb d_Mo_cutFrom_78 rfl (lv_at hl 0 rfl) ?_
        refine lv_dup hx hb d_Mo_cutFrom_79 rfl ?_
        refine g_get hx hb hts (fun w h => List.mem_cons_of_mem _ (in_Mo w h)) hown hK hP hx0 (gce_Mo hx0.1) rfl 30 (by decide) (hts _ (List.mem_cons_of_mem _ gw_837)) rfl d_Mo_cutFrom_80 ?_
        refine lv_iconst (v := 1) hx hb d_Mo_cutFrom_83 (by decide) ?_
        refine lv_isub hx hb d_Mo_cutFrom_84 ?_
        refine g_put (ty := .int) (v := .int ((S18.1 x0 30) - 1)) (S' := gset S18 x0 30 ((S18.1 x0 30) - 1)) hx hb hts (fun w h => List.mem_cons_of_mem _ (in_Mo w h)) ty_Mo tyok_Mo nm_Mo hown hK hY.1 hP hS hx0 (gce_Mo hx0.1) rfl 30 (by decide) (hts _ (List.mem_cons_of_mem _ gw_837)) rfl (by decide +kernel) rfl rfl (Nat.le_of_ble_eq_true rfl) (gp_Mo_segments hx0.1) gce_gset d_Mo_cutFrom_85 (fun H locs hP hS => ?_)
        obtain ⟨S19, eS19⟩ : ∃ z, z = gset S18 x0 30 ((S18.1 x0 30) - 1) := ⟨_, rfl⟩
        rw [← eS19] at hP
        replace hw := hw S19 eS19
        refine lv_goto (tgt := 37) hx hb d_Mo_cutFrom_88 (by decide) ?_
        exact ih x0 x1 x2 S19 H locs ls hx0 hw hP hS (lv_sub hl [0, 1, 2] rfl)
set_option maxHeartbeats 4000000 in
set_option maxRecDepth 100000 in
theorem mw_Mo_cutFrom {p : Program} {l : Launch} {e : Env} {s : State} {m : MethodId} {args : Array Value} {below : List Frame} {meth : Method} {c : Code} {Y : gY} {Q : Int32 → gS → Prop} (C : gCx p s m args meth c Y "LogDiskModel" c_Mo_cutFrom 5 (Option.some Jvm.ClassFile.FieldType.int) w_Mo_cutFrom) : ∀ (x0 : gI) (x1 : Int32)  (S : gS) (H : Heap) (locs : List Loc) (ls : Array Slot), gis Y 10 x0 → wp_Mo_cutFrom (gLn Y) Q x0 x1 S → gWd Y S H → va_S (gA Y s.heap.size) s.heap H locs → lv_has ls 5 [(0, .ref (gad Y x0)), (1, .int x1)] → W p l e (gRm 4 87) s m args below meth c H locs 0 0 (MQ below (va_Qi Q (gB Y) (gA Y s.heap.size)) args s 0 0 (gA Y s.heap.size)) (F0 m 0 ls []) := by
  have C0 := C
  obtain ⟨hx, hb, hml, hown, hts, hr, hlocks, hK, hY, hSt⟩ := C
  intro x0 x1 S H locs ls hx0 hw hP hS hl
  unfold wp_Mo_cutFrom at hw
  refine lv_aload_n hx hb d_Mo_cutFrom_0 rfl (lv_at hl 0 rfl) ?_
  refine lv_iconst (v := 0) hx hb d_Mo_cutFrom_1 (by decide) ?_
  refine g_put (ty := .int) (v := .int 0) (S' := gset S x0 0 0) hx hb hts (fun w h => List.mem_cons_of_mem _ (in_Mo w h)) ty_Mo tyok_Mo nm_Mo hown hK hY.1 hP hS hx0 (gce_Mo hx0.1) rfl 0 (by decide) (hts _ (List.mem_cons_of_mem _ gw_807)) rfl (by decide +kernel) rfl rfl (Nat.le_of_ble_eq_true rfl) (gp_Mo_thrown hx0.1) gce_gset d_Mo_cutFrom_2 (fun H locs hP hS => ?_)
  obtain ⟨S1, eS1⟩ : ∃ z, z = gset S x0 0 0 := ⟨_, rfl⟩
  rw [← eS1] at hP
  replace hw := hw S1 eS1
  refine lv_iload_n hx hb d_Mo_cutFrom_5 rfl (lv_at hl 1 rfl) ?_
  refine lv_aload_n hx hb d_Mo_cutFrom_6 rfl (lv_at hl 0 rfl) ?_
  refine g_get hx hb hts (fun w h => List.mem_cons_of_mem _ (in_Mo w h)) hown hK hP hx0 (gce_Mo hx0.1) rfl 23 (by decide) (hts _ (List.mem_cons_of_mem _ gw_830)) rfl d_Mo_cutFrom_7 ?_
  refine lv_iconst (v := 1) hx hb d_Mo_cutFrom_10 (by decide) ?_
  refine lv_iadd hx hb d_Mo_cutFrom_11 ?_
  refine lv_aload_n hx hb d_Mo_cutFrom_12 rfl (lv_at hl 0 rfl) ?_
  refine g_get hx hb hts (fun w h => List.mem_cons_of_mem _ (in_Mo w h)) hown hK hP hx0 (gce_Mo hx0.1) rfl 27 (by decide) (hts _ (List.mem_cons_of_mem _ gw_834)) rfl d_Mo_cutFrom_13 ?_
  refine g_calli (va_runS (As := [.int x1, .int ((S1.1 x0 23) + 1), .int (S1.1 x0 27)]) (rest := []) ⟨hx, hb, hml, hown, hts⟩ (k_Mo_within l Y hY H.size x1 ((S1.1 x0 23) + 1) (S1.1 x0 27) S1 _) (va_cwS 3 hts (gG_S gw_922 gw_923 gw_12 gw_924) rfl rfl rfl (by decide +kernel) ⟨Nat.le_of_ble_eq_true rfl, Nat.le_of_ble_eq_true rfl⟩) ⟨gPre_blind, g_pre hK hSt hS hP hw⟩ rfl rfl hl.1 rfl (lv_room (Nat.le_of_ble_eq_true rfl)) d_Mo_cutFrom_16 ⟨Nat.zero_le _, Nat.zero_le _⟩) hS (fun r3 S2 H locs hw hP hS => ?_)
  refine lv_if_ne (tgt := 28) hx hb d_Mo_cutFrom_19 (by decide) (fun c4 => ?_) (fun c4 => ?_)
  · replace hw := hw.1 c4
    refine lv_aload_n hx hb d_Mo_cutFrom_28 rfl (lv_at hl 0 rfl) ?_
    refine g_get hx hb hts (fun w h => List.mem_cons_of_mem _ (in_Mo w h)) hown hK hP hx0 (gce_Mo hx0.1) rfl 27 (by decide) (hts _ (List.mem_cons_of_mem _ gw_834)) rfl d_Mo_cutFrom_29 ?_
    refine lv_iload_n hx hb d_Mo_cutFrom_32 rfl (lv_at hl 1 rfl) ?_
    refine lv_isub hx hb d_Mo_cutFrom_33 ?_
    refine lv_iconst (v := 1) hx hb d_Mo_cutFrom_34 (by decide) ?_
    refine lv_iadd hx hb d_Mo_cutFrom_35 ?_
    refine lv_topi (fun v2_5 ev2_5 => ?_)
    replace hw := hw v2_5 ev2_5
    refine lv_istore_n (lv' := [(2, .int v2_5), (0, .ref (gad Y x0)), (1, .int x1)]) hx hb d_Mo_cutFrom_36 rfl hl (by decide) rfl (fun ls hl => ?_)
    obtain ⟨n, hw⟩ := hw
    exact mw_Mo_cutFrom_37 C0 n x0 x1 v2_5 S2 H locs ls hx0 hw hP hS (lv_sub hl [1, 2, 0] rfl)
  · replace hw := hw.2 c4
    refine lv_aload_n hx hb d_Mo_cutFrom_22 rfl (lv_at hl 0 rfl) ?_
    refine lv_iconst (v := 1) hx hb d_Mo_cutFrom_23 (by decide) ?_
    refine g_calli (va_runV (As := [.int 1]) (rest := []) ⟨hx, hb, hml, hown, hts⟩ (k_Mo_fail l Y hY H.size x0 1 hx0 S2 _) (cwV 1 hts (gG_V gw_925 gw_927 gs_21 gw_12 gw_928) rfl rfl rfl (by decide +kernel) ⟨Nat.le_of_ble_eq_true rfl, Nat.le_of_ble_eq_true rfl⟩) ⟨gPre_blind, g_recv hK hP hx0 (gce_Mo hx0.1) rfl, g_pre hK hSt hS hP hw⟩ rfl rfl hl.1 rfl (lv_room (Nat.le_of_ble_eq_true rfl)) d_Mo_cutFrom_24 ⟨Nat.zero_le _, Nat.zero_le _⟩) hS (fun r21 S20 H locs hw hP hS => ?_)
    exact W.iret (v := r21) hx hb hr (fun t ht hW => ⟨⟨r21, S20, rfl, hw, by rw [ht]; exact hP, va_K.moved hW.alike hK⟩, hS.F ht⟩) hS.2.2 d_Mo_cutFrom_27
set_option maxHeartbeats 4000000 in
set_option maxRecDepth 100000 in
theorem k_Mo_cutFrom (l : Launch) (Y : gY) (hY : gOK Y) (sz : Nat) (x0 : gI) (x1 : Int32)  (hx0 : gis Y 10 x0) (S : gS) (Q : Int32 → gS → Prop) : Met l y_Mo_cutFrom w_Mo_cutFrom (gRm 4 87) (gPre Y [.ref (gad Y x0), .int x1] S sz (wp_Mo_cutFrom (gLn Y) Q x0 x1 S)) (va_Qi Q (gB Y) (gA Y sz)) 0 0 (gA Y sz) := by
  refine Met.ofW (cc := c_Mo_cutFrom) (maxL := 5) (ret := (Option.some Jvm.ClassFile.FieldType.int)) (by decide) rfl ?_
  intro p e s m args below meth c s₁ B hml hv
  obtain ⟨rfl, hsz, hP, hK, hSt, hw⟩ := hv
  subst hsz
  have hts := atoms_spec (ws := w_Mo_cutFrom) B.pre
  have hl := lv_entry ([.ref (gad Y x0), .int x1]) (n := 5) (Nat.le_of_ble_eq_true rfl)
  rw [lg_entry_eq]
  generalize (lg_sl ([.ref (gad Y x0), .int x1]) ++ List.replicate (5 - (lg_sl ([.ref (gad Y x0), .int x1])).length) Slot.unset).toArray = ls at hl ⊢
  exact mw_Mo_cutFrom ⟨B.exec, B.bytes, hml, findClass_of_methodNamed B.named, hts, B.returns, B.notSynchronized, hK, hY, hSt⟩ x0 x1 S s.heap [] ls hx0 hw hP va_S.rf hl

def wp_Mo_lastOf (Ln : gI → Nat) (Q : Int32 → gS → Prop) (x0 : gI) (x1 : Int32)  (S : gS) : Prop :=
  wp_Mo_firstOf Ln (fun r2 S1 => vp_in x1 (Ln (grf x0 13)) ∧ (Q ((r2 + (S1.1 (grf x0 13) x1.toNatClampNeg)) - 2) S1)) x0 x1 S
set_option maxHeartbeats 4000000 in
set_option maxRecDepth 100000 in
theorem mw_Mo_lastOf {p : Program} {l : Launch} {e : Env} {s : State} {m : MethodId} {args : Array Value} {below : List Frame} {meth : Method} {c : Code} {Y : gY} {Q : Int32 → gS → Prop} (C : gCx p s m args meth c Y "LogDiskModel" c_Mo_lastOf 2 (Option.some Jvm.ClassFile.FieldType.int) w_Mo_lastOf) : ∀ (x0 : gI) (x1 : Int32)  (S : gS) (H : Heap) (locs : List Loc) (ls : Array Slot), gis Y 10 x0 → wp_Mo_lastOf (gLn Y) Q x0 x1 S → gWd Y S H → va_S (gA Y s.heap.size) s.heap H locs → lv_has ls 2 [(0, .ref (gad Y x0)), (1, .int x1)] → W p l e (gRm 1 21) s m args below meth c H locs 0 0 (MQ below (va_Qi Q (gB Y) (gA Y s.heap.size)) args s 0 0 (gA Y s.heap.size)) (F0 m 0 ls []) := by
  have C0 := C
  obtain ⟨hx, hb, hml, hown, hts, hr, hlocks, hK, hY, hSt⟩ := C
  intro x0 x1 S H locs ls hx0 hw hP hS hl
  unfold wp_Mo_lastOf at hw
  refine lv_aload_n hx hb d_Mo_lastOf_0 rfl (lv_at hl 0 rfl) ?_
  refine lv_iload_n hx hb d_Mo_lastOf_1 rfl (lv_at hl 1 rfl) ?_
  refine g_calli (va_runV (As := [.int x1]) (rest := []) ⟨hx, hb, hml, hown, hts⟩ (k_Mo_firstOf l Y hY H.size x0 x1 hx0 S _) (cwV 1 hts (gG_V gw_997 gw_999 gs_34 gw_12 gw_1000) rfl rfl rfl (by decide +kernel) ⟨Nat.le_of_ble_eq_true rfl, Nat.le_of_ble_eq_true rfl⟩) ⟨gPre_blind, g_recv hK hP hx0 (gce_Mo hx0.1) rfl, g_pre hK hSt hS hP hw⟩ rfl rfl hl.1 rfl (lv_room (Nat.le_of_ble_eq_true rfl)) d_Mo_lastOf_2 ⟨Nat.zero_le _, Nat.zero_le _⟩) hS (fun r2 S1 H locs hw hP hS => ?_)
  refine lv_aload_n hx hb d_Mo_lastOf_5 rfl (lv_at hl 0 rfl) ?_
  refine g_get hx hb hts (fun w h => List.mem_cons_of_mem _ (in_Mo w h)) hown hK hP hx0 (gce_Mo hx0.1) rfl 13 (by decide) (hts _ (List.mem_cons_of_mem _ gw_820)) rfl d_Mo_lastOf_6 ?_
  refine lv_iload_n hx hb d_Mo_lastOf_9 rfl (lv_at hl 1 rfl) ?_
  obtain ⟨hin, hw⟩ := hw
  refine g_iaload hx hb hK hP (gis_Mo_counts hY hx0) hin d_Mo_lastOf_10 ?_
  refine lv_iadd hx hb d_Mo_lastOf_11 ?_
  refine lv_iconst (v := 2) hx hb d_Mo_lastOf_12 (by decide) ?_
  refine lv_isub hx hb d_Mo_lastOf_13 ?_
  exact W.iret (v := ((r2 + (S1.1 (grf x0 13) x1.toNatClampNeg)) - 2)) hx hb hr (fun t ht hW => ⟨⟨((r2 + (S1.1 (grf x0 13) x1.toNatClampNeg)) - 2), S1, rfl, hw, by rw [ht]; exact hP, va_K.moved hW.alike hK⟩, hS.F ht⟩) hS.2.2 d_Mo_lastOf_14
set_option maxHeartbeats 4000000 in
set_option maxRecDepth 100000 in
theorem k_Mo_lastOf (l : Launch) (Y : gY) (hY : gOK Y) (sz : Nat) (x0 : gI) (x1 : Int32)  (hx0 : gis Y 10 x0) (S : gS) (Q : Int32 → gS → Prop) : Met l y_Mo_lastOf w_Mo_lastOf (gRm 1 21) (gPre Y [.ref (gad Y x0), .int x1] S sz (wp_Mo_lastOf (gLn Y) Q x0 x1 S)) (va_Qi Q (gB Y) (gA Y sz)) 0 0 (gA Y sz) := by
  refine Met.ofW (cc := c_Mo_lastOf) (maxL := 2) (ret := (Option.some Jvm.ClassFile.FieldType.int)) (by decide) rfl ?_
  intro p e s m args below meth c s₁ B hml hv
  obtain ⟨rfl, hsz, hP, hK, hSt, hw⟩ := hv
  subst hsz
  have hts := atoms_spec (ws := w_Mo_lastOf) B.pre
  have hl := lv_entry ([.ref (gad Y x0), .int x1]) (n := 2) (Nat.le_of_ble_eq_true rfl)
  rw [lg_entry_eq]
  generalize (lg_sl ([.ref (gad Y x0), .int x1]) ++ List.replicate (2 - (lg_sl ([.ref (gad Y x0), .int x1])).length) Slot.unset).toArray = ls at hl ⊢
  exact mw_Mo_lastOf ⟨B.exec, B.bytes, hml, findClass_of_methodNamed B.named, hts, B.returns, B.notSynchronized, hK, hY, hSt⟩ x0 x1 S s.heap [] ls hx0 hw hP va_S.rf hl

def wp_Mo_rebase_144 (Ln : gI → Nat) (K65 : gI → Int32 → Int32 → gS → Prop) (Q : gS → Prop) (x0 : gI) (x3 : Int32) (x4 : Int32)  (S : gS) : Prop :=
  ∀ v4_9 : Int32, v4_9 = x4 + 1 → (K65 x0 x3 v4_9 S)
def wp_Mo_rebase_133 (Ln : gI → Nat) (K65 : gI → Int32 → Int32 → gS → Prop) (Q : gS → Prop) (x0 : gI) (x3 : Int32) (x4 : Int32)  (S : gS) : Prop :=
  vp_in x4 (Ln (grf x0 31)) ∧ (wp_Mo_remove Ln (fun S8 => wp_Mo_rebase_144 Ln K65 Q x0 x3 x4 S8) x0 (S.1 (grf x0 31) x4.toNatClampNeg) S)
def wp_Mo_rebase_114 (Ln : gI → Nat) (K65 : gI → Int32 → Int32 → gS → Prop) (Q : gS → Prop) (x0 : gI) (x3 : Int32) (x4 : Int32)  (S : gS) : Prop :=
  vp_in x4 (Ln (grf x0 31)) ∧ (vp_in x3 (Ln (grf x0 31)) ∧ (∀ S13 : gS, S13 = gset S (grf x0 31) x3.toNatClampNeg (S.1 (grf x0 31) x4.toNatClampNeg) → (∀ v3_14 : Int32, v3_14 = x3 + 1 → (wp_Mo_rebase_144 Ln K65 Q x0 v3_14 x4 S13))))
def wp_Mo_rebase_65 (Ln : gI → Nat) (Q : gS → Prop) : Nat → gI → Int32 → Int32 → gS → Prop
  | 0, _, _, _, _ => False
  | n65 + 1, x0, x3, x4, S => (((S.1 x0 30) ≤ x4) → (∀ S6 : gS, S6 = gset S x0 30 x3 → (Q S6))) ∧ ((¬ (S.1 x0 30) ≤ x4) → ((((S.1 x0 27) ≤ (S.1 x0 23)) → (wp_Mo_rebase_133 Ln (fun z0 z1 z2 zS => wp_Mo_rebase_65 Ln Q n65 z0 z1 z2 zS) Q x0 x3 x4 S)) ∧ ((¬ (S.1 x0 27) ≤ (S.1 x0 23)) → (vp_in x4 (Ln (grf x0 31)) ∧ (wp_Mo_lastOf Ln (fun r11 S10 => (((S10.1 x0 23) < r11) → (wp_Mo_rebase_114 Ln (fun z0 z1 z2 zS => wp_Mo_rebase_65 Ln Q n65 z0 z1 z2 zS) Q x0 x3 x4 S10)) ∧ ((¬ (S10.1 x0 23) < r11) → (((¬ x4 = ((S10.1 x0 30) - 1)) → (wp_Mo_rebase_133 Ln (fun z0 z1 z2 zS => wp_Mo_rebase_65 Ln Q n65 z0 z1 z2 zS) Q x0 x3 x4 S10)) ∧ ((x4 = ((S10.1 x0 30) - 1)) → (wp_Mo_rebase_114 Ln (fun z0 z1 z2 zS => wp_Mo_rebase_65 Ln Q n65 z0 z1 z2 zS) Q x0 x3 x4 S10))))) x0 (S.1 (grf x0 31) x4.toNatClampNeg) S)))))
def wp_Mo_rebase_57 (Ln : gI → Nat) (Q : gS → Prop) (x0 : gI) (y0 : gI) (y1 : Int32) (S : gS) : Prop :=
  ∀ S4 : gS, S4 = gset S y0 27 y1 → (∃ n65 : Nat, wp_Mo_rebase_65 Ln Q n65 x0 0 0 S4)
def wp_Mo_rebase_2 (Ln : gI → Nat) (Q : gS → Prop) : Nat → gI → Int32 → Int32 → Int32 → gS → Prop
  | 0, _, _, _, _, _ => False
  | n2 + 1, x0, x1, x2, x3, S => ((((S.1 x0 27) - (S.1 x0 23)) ≤ x3) → (∀ S2 : gS, S2 = gset S x0 23 x1 → (((x1 ≤ (S2.1 x0 27)) → (wp_Mo_rebase_57 Ln Q x0 x0 (S2.1 x0 27) S2)) ∧ ((¬ x1 ≤ (S2.1 x0 27)) → (wp_Mo_rebase_57 Ln Q x0 x0 x1 S2))))) ∧ ((¬ ((S.1 x0 27) - (S.1 x0 23)) ≤ x3) → (vp_in x3 (Ln (grf x0 32)) ∧ (vp_in (x3 - x2) (Ln (grf x0 32)) ∧ (∀ S16 : gS, S16 = gset S (grf x0 32) (x3 - x2).toNatClampNeg (S.1 (grf x0 32) x3.toNatClampNeg) → (∀ v3_17 : Int32, v3_17 = x3 + 1 → (wp_Mo_rebase_2 Ln Q n2 x0 x1 x2 v3_17 S16))))))
def wp_Mo_rebase (Ln : gI → Nat) (Q : gS → Prop) (x0 : gI) (x1 : Int32) (x2 : Int32)  (S : gS) : Prop :=
  ∃ n2 : Nat, wp_Mo_rebase_2 Ln Q n2 x0 x1 x2 x2 S
set_option maxHeartbeats 4000000 in
set_option maxRecDepth 100000 in
theorem mw_Mo_rebase_144 {p : Program} {l : Launch} {e : Env} {s : State} {m : MethodId} {args : Array Value} {below : List Frame} {meth : Method} {c : Code} {Y : gY} {Q : gS → Prop} {K65 : gI → Int32 → Int32 → gS → Prop} (C : gCx p s m args meth c Y "LogDiskModel" c_Mo_rebase 5 (Option.none : Option Jvm.ClassFile.FieldType) w_Mo_rebase) (hK65 : ∀ (x0 : gI) (x3 : Int32) (x4 : Int32)  (S : gS) (H : Heap) (locs : List Loc) (ls : Array Slot), gis Y 10 x0 → K65 x0 x3 x4 S → gWd Y S H → va_S (gA Y s.heap.size) s.heap H locs → lv_has ls 5 [(0, .ref (gad Y x0)), (3, .int x3), (4, .int x4)] → W p l e (gRm 4 87) s m args below meth c H locs 0 0 (MQ below (va_Qv Q (gB Y) (gA Y s.heap.size)) args s 0 0 (gA Y s.heap.size)) (F0 m 65 ls [])) : ∀ (x0 : gI) (x3 : Int32) (x4 : Int32)  (S : gS) (H : Heap) (locs : List Loc) (ls : Array Slot), gis Y 10 x0 → wp_Mo_rebase_144 (gLn Y) K65 Q x0 x3 x4 S → gWd Y S H → va_S (gA Y s.heap.size) s.heap H locs → lv_has ls 5 [(0, .ref (gad Y x0)), (3, .int x3), (4, .int x4)] → W p l e (gRm 4 87) s m args below meth c H locs 0 0 (MQ below (va_Qv Q (gB Y) (gA Y s.heap.size)) args s 0 0 (gA Y s.heap.size)) (F0 m 144 ls []) := by
  have C0 := C
  obtain ⟨hx, hb, hml, hown, hts, hr, hlocks, hK, hY, hSt⟩ := C
  intro x0 x3 x4 S H locs ls hx0 hw hP hS hl
  unfold wp_Mo_rebase_144 at hw
  obtain ⟨v4_9, ev4_9⟩ : ∃ y : Int32, y = x4 + 1 := ⟨_, rfl⟩
  replace hw := hw v4_9 ev4_9
  refine lv_iinc (v := v4_9) (lv' := [(4, .int v4_9), (0, .ref (gad Y x0)), (3, .int x3)]) hx hb d_Mo_rebase_144 hl (k := 2) rfl (by rw [ev4_9]; rfl) (by decide) rfl (fun ls hl => ?_)
  refine lv_goto (tgt := 65) hx hb d_Mo_rebase_147 (by decide) ?_
  exact hK65 x0 x3 v4_9 S H locs ls hx0 hw hP hS (lv_sub hl [1, 2, 0] rfl)
set_option maxHeartbeats 4000000 in
set_option maxRecDepth 100000 in
theorem mw_Mo_rebase_133 {p : Program} {l : Launch} {e : Env} {s : State} {m : MethodId} {args : Array Value} {below : List Frame} {meth : Method} {c : Code} {Y : gY} {Q : gS → Prop} {K65 : gI → Int32 → Int32 → gS → Prop} (C : gCx p s m args meth c Y "LogDiskModel" c_Mo_rebase 5 (Option.none : Option Jvm.ClassFile.FieldType) w_Mo_rebase) (hK65 : ∀ (x0 : gI) (x3 : Int32) (x4 : Int32)  (S : gS) (H : Heap) (locs : List Loc) (ls : Array Slot), gis Y 10 x0 → K65 x0 x3 x4 S → gWd Y S H → va_S (gA Y s.heap.size) s.heap H locs → lv_has ls 5 [(0, .ref (gad Y x0)), (3, .int x3), (4, .int x4)] → W p l e (gRm 4 87) s m args below meth c H locs 0 0 (MQ below (va_Qv Q (gB Y) (gA Y s.heap.size)) args s 0 0 (gA Y s.heap.size)) (F0 m 65 ls [])) : ∀ (x0 : gI) (x3 : Int32) (x4 : Int32)  (S : gS) (H : Heap) (locs : List Loc) (ls : Array Slot), gis Y 10 x0 → wp_Mo_rebase_133 (gLn Y) K65 Q x0 x3 x4 S → gWd Y S H → va_S (gA Y s.heap.size) s.heap H locs → lv_has ls 5 [(0, .ref (gad Y x0)), (3, .int x3), (4, .int x4)] → W p l e (gRm 4 87) s m args below meth c H locs 0 0 (MQ below (va_Qv Q (gB Y) (gA Y s.heap.size)) args s 0 0 (gA Y s.heap.size)) (F0 m 133 ls []) := by
  have C0 := C
  obtain ⟨hx, hb, hml, hown, hts, hr, hlocks, hK, hY, hSt⟩ := C
  intro x0 x3 x4 S H locs ls hx0 hw hP hS hl
  unfold wp_Mo_rebase_133 at hw
  refine lv_aload_n hx hb d_Mo_rebase_133 rfl (lv_at hl 0 rfl) ?_
  refine lv_aload_n hx hb d_Mo_rebase_134 rfl (lv_at hl 0 rfl) ?_
  refine g_get hx hb hts (fun w h => List.mem_cons_of_mem _ (in_Mo w h)) hown hK hP hx0 (gce_Mo hx0.1) rfl 31 (by decide) (hts _ (List.mem_cons_of_mem _ gw_838)) rfl d_Mo_rebase_135 ?_
  refine lv_iload hx hb d_Mo_rebase_138 (lv_at hl 2 rfl) ?_
  obtain ⟨hin, hw⟩ := hw
  refine g_iaload hx hb hK hP (gis_Mo_order hY hx0) hin d_Mo_rebase_140 ?_
  refine g_callv (va_runV (As := [.int (S.1 (grf x0 31) x4.toNatClampNeg)]) (rest := []) ⟨hx, hb, hml, hown, hts⟩ (k_Mo_remove l Y hY H.size x0 (S.1 (grf x0 31) x4.toNatClampNeg) hx0 S _) (cwV 1 hts (gG_V gw_1001 gw_1003 gs_35 gw_12 gw_1004) rfl rfl rfl (by decide +kernel) ⟨Nat.le_of_ble_eq_true rfl, Nat.le_of_ble_eq_true rfl⟩) ⟨gPre_blind, g_recv hK hP hx0 (gce_Mo hx0.1) rfl, g_pre hK hSt hS hP hw⟩ rfl rfl hl.1 rfl (lv_room (Nat.le_of_ble_eq_true rfl)) d_Mo_rebase_141 ⟨Nat.zero_le _, Nat.zero_le _⟩) hS (fun S8 H locs hw hP hS => ?_)
  exact mw_Mo_rebase_144 C0 hK65 x0 x3 x4 S8 H locs ls hx0 hw hP hS (lv_sub hl [0, 1, 2] rfl)
set_option maxHeartbeats 4000000 in
set_option maxRecDepth 100000 in
theorem mw_Mo_rebase_114 {p : Program} {l : Launch} {e : Env} {s : State} {m : MethodId} {args : Array Value} {below : List Frame} {meth : Method} {c : Code} {Y : gY} {Q : gS → Prop} {K65 : gI → Int32 → Int32 → gS → Prop} (C : gCx p s m args meth c Y "LogDiskModel" c_Mo_rebase 5 (Option.none : Option Jvm.ClassFile.FieldType) w_Mo_rebase) (hK65 : ∀ (x0 : gI) (x3 : Int32) (x4 : Int32)  (S : gS) (H : Heap) (locs : List Loc) (ls : Array Slot), gis Y 10 x0 → K65 x0 x3 x4 S → gWd Y S H → va_S (gA Y s.heap.size) s.heap H locs → lv_has ls 5 [(0, .ref (gad Y x0)), (3, .int x3), (4, .int x4)] → W p l e (gRm 4 87) s m args below meth c H locs 0 0 (MQ below (va_Qv Q (gB Y) (gA Y s.heap.size)) args s 0 0 (gA Y s.heap.size)) (F0 m 65 ls [])) : ∀ (x0 : gI) (x3 : Int32) (x4 : Int32)  (S : gS) (H : Heap) (locs : List Loc) (ls : Array Slot), gis Y 10 x0 → wp_Mo_rebase_114 (gLn Y) K65 Q x0 x3 x4 S → gWd Y S H → va_S (gA Y s.heap.size) s.heap H locs → lv_has ls 5 [(0, .ref (gad Y x0)), (3, .int x3), (4, .int x4)] → W p l e (gRm 4 87) s m args below meth c H locs 0 0 (MQ below (va_Qv Q (gB Y) (gA Y s.heap.size)) args s 0 0 (gA Y s.heap.size)) (F0 m 114 ls []) := by
  have C0 := C
  obtain ⟨hx, hb, hml, hown, hts, hr, hlocks, hK, hY, hSt⟩ := C
  intro x0 x3 x4 S H locs ls hx0 hw hP hS hl
  unfold wp_Mo_rebase_114 at hw
  refine lv_aload_n hx hb d_Mo_rebase_114 rfl (lv_at hl 0 rfl) ?_
  refine g_get hx hb hts (fun w h => List.mem_cons_of_mem _ (in_Mo w h)) hown hK hP hx0 (gce_Mo hx0.1) rfl 31 (by decide) (hts _ (List.mem_cons_of_mem _ gw_838)) rfl d_Mo_rebase_115 ?_
  refine lv_iload_n hx hb d_Mo_rebase_118 rfl (lv_at hl 1 rfl) ?_
  refine lv_aload_n hx hb d_Mo_rebase_119 rfl (lv_at hl 0 rfl) ?_
  refine g_get hx hb hts (fun w h => List.mem_cons_of_mem _ (in_Mo w h)) hown hK hP hx0 (gce_Mo hx0.1) rfl 31 (by decide) (hts _ (List.mem_cons_of_mem _ gw_838)) rfl d_Mo_rebase_120 ?_
  refine lv_iload hx hb d_Mo_rebase_123 (lv_at hl 2 rfl) ?_
  obtain ⟨hin, hw⟩ := hw
  refine g_iaload hx hb hK hP (gis_Mo_order hY hx0) hin d_Mo_rebase_125 ?_
  obtain ⟨hin, hw⟩ := hw
  refine g_iastore hx hb hK hY.1 hP hS (gis_Mo_order hY hx0) hin d_Mo_rebase_126 (fun S13 eS13 H locs hP hS => ?_)
  replace hw := hw S13 eS13
  obtain ⟨v3_14, ev3_14⟩ : ∃ y : Int32, y = x3 + 1 := ⟨_, rfl⟩
  replace hw := hw v3_14 ev3_14
  refine lv_iinc (v := v3_14) (lv' := [(3, .int v3_14), (0, .ref (gad Y x0)), (4, .int x4)]) hx hb d_Mo_rebase_127 hl (k := 1) rfl (by rw [ev3_14]; rfl) (by decide) rfl (fun ls hl => ?_)
  refine lv_goto (tgt := 144) hx hb d_Mo_rebase_130 (by decide) ?_
  exact mw_Mo_rebase_144 C0 hK65 x0 v3_14 x4 S13 H locs ls hx0 hw hP hS (lv_sub hl [1, 0, 2] rfl)
set_option maxHeartbeats 4000000 in
set_option maxRecDepth 100000 in
theorem mw_Mo_rebase_65 {p : Program} {l : Launch} {e : Env} {s : State} {m : MethodId} {args : Array Value} {below : List Frame} {meth : Method} {c : Code} {Y : gY} {Q : gS → Prop} (C : gCx p s m args meth c Y "LogDiskModel" c_Mo_rebase 5 (Option.none : Option Jvm.ClassFile.FieldType) w_Mo_rebase) : ∀ (n : Nat), ∀ (x0 : gI) (x3 : Int32) (x4 : Int32)  (S : gS) (H : Heap) (locs : List Loc) (ls : Array Slot), gis Y 10 x0 → wp_Mo_rebase_65 (gLn Y) Q n x0 x3 x4 S → gWd Y S H → va_S (gA Y s.heap.size) s.heap H locs → lv_has ls 5 [(0, .ref (gad Y x0)), (3, .int x3), (4, .int x4)] → W p l e (gRm 4 87) s m args below meth c H locs 0 0 (MQ below (va_Qv Q (gB Y) (gA Y s.heap.size)) args s 0 0 (gA Y s.heap.size)) (F0 m 65 ls []) := by
  have C0 := C
  obtain ⟨hx, hb, hml, hown, hts, hr, hlocks, hK, hY, hSt⟩ := C
  intro n
  induction n with
  | zero =>
    intro x0 x3 x4 S H locs ls hx0 hw
    exact False.elim hw
  | succ n ih =>
    intro x0 x3 x4 S H locs ls hx0 hw hP hS hl
    unfold wp_Mo_rebase_65 at hw
    refine lv_iload hx hb d_Mo_rebase_65 (lv_at hl 2 rfl) ?_
    refine lv_aload_n hx hb d_Mo_rebase_67 rfl (lv_at hl 0 rfl) ?_
    refine g_get hx hb hts (fun w h => List.mem_cons_of_mem _ (in_Mo w h)) hown hK hP hx0 (gce_Mo hx0.1) rfl 30 (by decide) (hts _ (List.mem_cons_of_mem _ gw_837)) rfl d_Mo_rebase_68 ?_
    refine lv_icmp_ge (tgt := 150) hx hb d_Mo_rebase_71 (by decide) (fun c5 => ?_) (fun c5 => ?_)
    · replace hw := hw.1 c5
      refine lv_aload_n hx hb d_Mo_rebase_150 rfl (lv_at hl 0 rfl) ?_
      refine lv_iload_n hx hb d_Mo_rebase_151 rfl (lv_at hl 1 rfl) ?_
      refine g_put (ty := .int) (v := .int x3) (S' := gset S x0 30 x3) hx hb hts (fun w h => List.mem_cons_of_mem _ (in_Mo w h)) ty_Mo tyok_Mo nm_Mo hown hK hY.1 hP hS hx0 (gce_Mo hx0.1) rfl 30 (by decide) (hts _ (List.mem_cons_of_mem _ gw_837)) rfl (by decide +kernel) rfl rfl (Nat.le_of_ble_eq_true rfl) (gp_Mo_segments hx0.1) gce_gset d_Mo_rebase_152 (fun H locs hP hS => ?_)
      obtain ⟨S6, eS6⟩ : ∃ z, z = gset S x0 30 x3 := ⟨_, rfl⟩
      rw [← eS6] at hP
      replace hw := hw S6 eS6
      exact W.vret hx hb hr (fun t ht hW => ⟨⟨S6, rfl, hw, by rw [ht]; exact hP, va_K.moved hW.alike hK⟩, hS.F ht⟩) hS.2.2 d_Mo_rebase_155
    · replace hw := hw.2 c5
      refine lv_aload_n hx hb d_Mo_rebase_74 rfl (lv_at hl 0 rfl) ?_
      refine g_get hx hb hts (fun w h => List.mem_cons_of_mem _ (in_Mo w h)) hown hK hP hx0 (gce_Mo hx0.1) rfl 27 (by decide) (hts _ (List.mem_cons_of_mem _ gw_834)) rfl d_Mo_rebase_75 ?_
      refine lv_aload_n hx hb d_Mo_rebase_78 rfl (lv_at hl 0 rfl) ?_
      refine g_get hx hb hts (fun w h => List.mem_cons_of_mem _ (in_Mo w h)) hown hK hP hx0 (gce_Mo hx0.1) rfl 23 (by decide) (hts _ (List.mem_cons_of_mem _ gw_830)) rfl d_Mo_rebase_79 ?_
      refine lv_icmp_le (tgt := 133) hx hb d_Mo_rebase_82 (by decide) (fun c7 => ?_) (fun c7 => ?_)
      · replace hw := hw.1 c7
        exact mw_Mo_rebase_133 C0 ih x0 x3 x4 S H locs ls hx0 hw hP hS (lv_sub hl [0, 1, 2] rfl)
      · replace hw := hw.2 c7
        refine lv_aload_n hx hb d_Mo_rebase_85 rfl (lv_at hl 0 rfl) ?_
        refine lv_aload_n hx hb d_Mo_rebase_86 rfl (lv_at hl 0 rfl) ?_
        refine g_get hx hb hts (fun w h => List.mem_cons_of_mem _ (in_Mo w h)) hown hK hP hx0 (gce_Mo hx0.1) rfl 31 (by decide) (hts _ (List.mem_cons_of_mem _ gw_838)) rfl d_Mo_rebase_87 ?_
        refine lv_iload hx hb d_Mo_rebase_90 (lv_at hl 2 rfl) ?_
        obtain ⟨hin, hw⟩ := hw
        refine g_iaload hx hb hK hP (gis_Mo_order hY hx0) hin d_Mo_rebase_92 ?_
        refine g_calli (va_runV (As := [.int (S.1 (grf x0 31) x4.toNatClampNeg)]) (rest := []) ⟨hx, hb, hml, hown, hts⟩ (k_Mo_lastOf l Y hY H.size x0 (S.1 (grf x0 31) x4.toNatClampNeg) hx0 S _) (cwV 1 hts (gG_V gw_1029 gw_1031 gs_41 gw_12 gw_1032) rfl rfl rfl (by decide +kernel) ⟨Nat.le_of_ble_eq_true rfl, Nat.le_of_ble_eq_true rfl⟩) ⟨gPre_blind, g_recv hK hP hx0 (gce_Mo hx0.1) rfl, g_pre hK hSt hS hP hw⟩ rfl rfl hl.1 rfl (lv_room (Nat.le_of_ble_eq_true rfl)) d_Mo_rebase_93 ⟨Nat.zero_le _, Nat.zero_le _⟩) hS (fun r11 S10 H locs hw hP hS => ?_)
        refine lv_aload_n hx hb d_Mo_rebase_96 rfl (lv_at hl 0 rfl) ?_
        refine g_get hx hb hts (fun w h => List.mem_cons_of_mem _ (in_Mo w h)) hown hK hP hx0 (gce_Mo hx0.1) rfl 23 (by decide) (hts _ (List.mem_cons_of_mem _ gw_830)) rfl d_Mo_rebase_97 ?_
        refine lv_icmp_gt (tgt := 114) hx hb d_Mo_rebase_100 (by decide) (fun c12 => ?_) (fun c12 => ?_)
        · replace hw := hw.1 c12
          exact mw_Mo_rebase_114 C0 ih x0 x3 x4 S10 H locs ls hx0 hw hP hS (lv_sub hl [0, 1, 2] rfl)
        · replace hw := hw.2 c12
          refine lv_iload hx hb d_Mo_rebase_103 (lv_at hl 2 rfl) ?_
          refine lv_aload_n hx hb d_Mo_rebase_105 rfl (lv_at hl 0 rfl) ?_
          refine g_get hx hb hts (fun w h => List.mem_cons_of_mem _ (in_Mo w h)) hown hK hP hx0 (gce_Mo hx0.1) rfl 30 (by decide) (hts _ (List.mem_cons_of_mem _ gw_837)) rfl d_Mo_rebase_106 ?_
          refine lv_iconst (v := 1) hx hb d_Mo_rebase_109 (by decide) ?_
          refine lv_isub hx hb d_Mo_rebase_110 ?_
          refine lv_icmp_ne (tgt := 133) hx hb d_Mo_rebase_111 (by decide) (fun c15 => ?_) (fun c15 => ?_)
          · replace hw := hw.1 c15
            exact mw_Mo_rebase_133 C0 ih x0 x3 x4 S10 H locs ls hx0 hw hP hS (lv_sub hl [0, 1, 2] rfl)
          · replace hw := hw.2 c15
            exact mw_Mo_rebase_114 C0 ih x0 x3 x4 S10 H locs ls hx0 hw hP hS (lv_sub hl [0, 1, 2] rfl)
set_option maxHeartbeats 4000000 in
set_option maxRecDepth 100000 in
theorem mw_Mo_rebase_57 {p : Program} {l : Launch} {e : Env} {s : State} {m : MethodId} {args : Array Value} {below : List Frame} {meth : Method} {c : Code} {Y : gY} {Q : gS → Prop} (C : gCx p s m args meth c Y "LogDiskModel" c_Mo_rebase 5 (Option.none : Option Jvm.ClassFile.FieldType) w_Mo_rebase) : ∀ (x0 : gI) (y0 : gI) (y1 : Int32) (S : gS) (H : Heap) (locs : List Loc) (ls : Array Slot), gis Y 10 x0 → gis Y 10 y0 → wp_Mo_rebase_57 (gLn Y) Q x0 y0 y1 S → gWd Y S H → va_S (gA Y s.heap.size) s.heap H locs → lv_has ls 5 [(0, .ref (gad Y x0))] → W p l e (gRm 4 87) s m args below meth c H locs 0 0 (MQ below (va_Qv Q (gB Y) (gA Y s.heap.size)) args s 0 0 (gA Y s.heap.size)) (F0 m 57 ls [.int y1, .ref (gad Y y0)]) := by
  have C0 := C
  obtain ⟨hx, hb, hml, hown, hts, hr, hlocks, hK, hY, hSt⟩ := C
  intro x0 y0 y1 S H locs ls hx0 hy0 hw hP hS hl
  unfold wp_Mo_rebase_57 at hw
  refine g_put (ty := .int) (v := .int y1) (S' := gset S y0 27 y1) hx hb hts (fun w h => List.mem_cons_of_mem _ (in_Mo w h)) ty_Mo tyok_Mo nm_Mo hown hK hY.1 hP hS hy0 (gce_Mo hy0.1) rfl 27 (by decide) (hts _ (List.mem_cons_of_mem _ gw_834)) rfl (by decide +kernel) rfl rfl (Nat.le_of_ble_eq_true rfl) (gp_Mo_last hy0.1) gce_gset d_Mo_rebase_57 (fun H locs hP hS => ?_)
  obtain ⟨S4, eS4⟩ : ∃ z, z = gset S y0 27 y1 := ⟨_, rfl⟩
  rw [← eS4] at hP
  replace hw := hw S4 eS4
  refine lv_iconst (v := 0) hx hb d_Mo_rebase_60 (by decide) ?_
  refine lv_istore_n (lv' := [(3, .int 0), (0, .ref (gad Y x0))]) hx hb d_Mo_rebase_61 rfl hl (by decide) rfl (fun ls hl => ?_)
  refine lv_iconst (v := 0) hx hb d_Mo_rebase_62 (by decide) ?_
  refine lv_istore (lv' := [(4, .int 0), (3, .int 0), (0, .ref (gad Y x0))]) hx hb d_Mo_rebase_63 hl (by decide) rfl (fun ls hl => ?_)
  obtain ⟨n, hw⟩ := hw
  exact mw_Mo_rebase_65 C0 n x0 0 0 S4 H locs ls hx0 hw hP hS (lv_sub hl [2, 1, 0] rfl)
set_option maxHeartbeats 4000000 in
set_option maxRecDepth 100000 in
theorem mw_Mo_rebase_2 {p : Program} {l : Launch} {e : Env} {s : State} {m : MethodId} {args : Array Value} {below : List Frame} {meth : Method} {c : Code} {Y : gY} {Q : gS → Prop} (C : gCx p s m args meth c Y "LogDiskModel" c_Mo_rebase 5 (Option.none : Option Jvm.ClassFile.FieldType) w_Mo_rebase) : ∀ (n : Nat), ∀ (x0 : gI) (x1 : Int32) (x2 : Int32) (x3 : Int32)  (S : gS) (H : Heap) (locs : List Loc) (ls : Array Slot), gis Y 10 x0 → wp_Mo_rebase_2 (gLn Y) Q n x0 x1 x2 x3 S → gWd Y S H → va_S (gA Y s.heap.size) s.heap H locs → lv_has ls 5 [(0, .ref (gad Y x0)), (1, .int x1), (2, .int x2), (3, .int x3)] → W p l e (gRm 4 87) s m args below meth c H locs 0 0 (MQ below (va_Qv Q (gB Y) (gA Y s.heap.size)) args s 0 0 (gA Y s.heap.size)) (F0 m 2 ls []) := by
  have C0 := C
  obtain ⟨hx, hb, hml, hown, hts, hr, hlocks, hK, hY, hSt⟩ := C
  intro n
  induction n with
  | zero =>
    intro x0 x1 x2 x3 S H locs ls hx0 hw
    exact False.elim hw
  | succ n ih =>
    intro x0 x1 x2 x3 S H locs ls hx0 hw hP hS hl
    unfold wp_Mo_rebase_2 at hw
    refine lv_iload_n hx hb d_Mo_rebase_2 rfl (lv_at hl 3 rfl) ?_
    refine lv_aload_n hx hb d_Mo_rebase_3 rfl (lv_at hl 0 rfl) ?_
    refine g_get hx hb hts (fun w h => List.mem_cons_of_mem _ (in_Mo w h)) hown hK hP hx0 (gce_Mo hx0.1) rfl 27 (by decide) (hts _ (List.mem_cons_of_mem _ gw_834)) rfl d_Mo_rebase_4 ?_
    refine lv_aload_n hx hb d_Mo_rebase_7 rfl (lv_at hl 0 rfl) ?_
    refine g_get hx hb hts (fun w h => List.mem_cons_of_mem _ (in_Mo w h)) hown hK hP hx0 (gce_Mo hx0.1) rfl 23 (by decide) (hts _ (List.mem_cons_of_mem _ gw_830)) rfl d_Mo_rebase_8 ?_
    refine lv_isub hx hb d_Mo_rebase_11 ?_
    refine lv_icmp_ge (tgt := 35) hx hb d_Mo_rebase_12 (by decide) (fun c1 => ?_) (fun c1 => ?_)
    · replace hw := hw.1 c1
      refine lv_aload_n hx hb d_Mo_rebase_35 rfl (lv_at hl 0 rfl) ?_
      refine lv_iload_n hx hb d_Mo_rebase_36 rfl (lv_at hl 1 rfl) ?_
      refine g_put (ty := .int) (v := .int x1) (S' := gset S x0 23 x1) hx hb hts (fun w h => List.mem_cons_of_mem _ (in_Mo w h)) ty_Mo tyok_Mo nm_Mo hown hK hY.1 hP hS hx0 (gce_Mo hx0.1) rfl 23 (by decide) (hts _ (List.mem_cons_of_mem _ gw_830)) rfl (by decide +kernel) rfl rfl (Nat.le_of_ble_eq_true rfl) (gp_Mo_base hx0.1) gce_gset d_Mo_rebase_37 (fun H locs hP hS => ?_)
      obtain ⟨S2, eS2⟩ : ∃ z, z = gset S x0 23 x1 := ⟨_, rfl⟩
      rw [← eS2] at hP
      replace hw := hw S2 eS2
      refine lv_aload_n hx hb d_Mo_rebase_40 rfl (lv_at hl 0 rfl) ?_
      refine lv_aload_n hx hb d_Mo_rebase_41 rfl (lv_at hl 0 rfl) ?_
      refine g_get hx hb hts (fun w h => List.mem_cons_of_mem _ (in_Mo w h)) hown hK hP hx0 (gce_Mo hx0.1) rfl 27 (by decide) (hts _ (List.mem_cons_of_mem _ gw_834)) rfl d_Mo_rebase_42 ?_
      refine lv_iload_n hx hb d_Mo_rebase_45 rfl (lv_at hl 1 rfl) ?_
      refine lv_icmp_ge (tgt := 53) hx hb d_Mo_rebase_46 (by decide) (fun c3 => ?_) (fun c3 => ?_)
      · replace hw := hw.1 c3
        refine lv_aload_n hx hb d_Mo_rebase_53 rfl (lv_at hl 0 rfl) ?_
        refine g_get hx hb hts (fun w h => List.mem_cons_of_mem _ (in_Mo w h)) hown hK hP hx0 (gce_Mo hx0.1) rfl 27 (by decide) (hts _ (List.mem_cons_of_mem _ gw_834)) rfl d_Mo_rebase_54 ?_
        exact mw_Mo_rebase_57 C0 x0 x0 (S2.1 x0 27) S2 H locs ls hx0 hx0 hw hP hS (lv_sub hl [0] rfl)
      · replace hw := hw.2 c3
        refine lv_iload_n hx hb d_Mo_rebase_49 rfl (lv_at hl 1 rfl) ?_
        refine lv_goto (tgt := 57) hx hb d_Mo_rebase_50 (by decide) ?_
        exact mw_Mo_rebase_57 C0 x0 x0 x1 S2 H locs ls hx0 hx0 hw hP hS (lv_sub hl [0] rfl)
    · replace hw := hw.2 c1
      refine lv_aload_n hx hb d_Mo_rebase_15 rfl (lv_at hl 0 rfl) ?_
      refine g_get hx hb hts (fun w h => List.mem_cons_of_mem _ (in_Mo w h)) hown hK hP hx0 (gce_Mo hx0.1) rfl 32 (by decide) (hts _ (List.mem_cons_of_mem _ gw_839)) rfl d_Mo_rebase_16 ?_
      refine lv_iload_n hx hb d_Mo_rebase_19 rfl (lv_at hl 3 rfl) ?_
      refine lv_iload_n hx hb d_Mo_rebase_20 rfl (lv_at hl 2 rfl) ?_
      refine lv_isub hx hb d_Mo_rebase_21 ?_
      refine lv_aload_n hx hb d_Mo_rebase_22 rfl (lv_at hl 0 rfl) ?_
      refine g_get hx hb hts (fun w h => List.mem_cons_of_mem _ (in_Mo w h)) hown hK hP hx0 (gce_Mo hx0.1) rfl 32 (by decide) (hts _ (List.mem_cons_of_mem _ gw_839)) rfl d_Mo_rebase_23 ?_
      refine lv_iload_n hx hb d_Mo_rebase_26 rfl (lv_at hl 3 rfl) ?_
      obtain ⟨hin, hw⟩ := hw
      refine g_iaload hx hb hK hP (gis_Mo_entries hY hx0) hin d_Mo_rebase_27 ?_
      obtain ⟨hin, hw⟩ := hw
      refine g_iastore hx hb hK hY.1 hP hS (gis_Mo_entries hY hx0) hin d_Mo_rebase_28 (fun S16 eS16 H locs hP hS => ?_)
      replace hw := hw S16 eS16
      obtain ⟨v3_17, ev3_17⟩ : ∃ y : Int32, y = x3 + 1 := ⟨_, rfl⟩
      replace hw := hw v3_17 ev3_17
      refine lv_iinc (v := v3_17) (lv' := [(3, .int v3_17), (0, .ref (gad Y x0)), (1, .int x1), (2, .int x2)]) hx hb d_Mo_rebase_29 hl (k := 3) rfl (by rw [ev3_17]; rfl) (by decide) rfl (fun ls hl => ?_)
      refine lv_goto (tgt := 2) hx hb d_Mo_rebase_32 (by decide) ?_
      exact ih x0 x1 x2 v3_17 S16 H locs ls hx0 hw hP hS (lv_sub hl [1, 2, 3, 0] rfl)
set_option maxHeartbeats 4000000 in
set_option maxRecDepth 100000 in
theorem mw_Mo_rebase {p : Program} {l : Launch} {e : Env} {s : State} {m : MethodId} {args : Array Value} {below : List Frame} {meth : Method} {c : Code} {Y : gY} {Q : gS → Prop} (C : gCx p s m args meth c Y "LogDiskModel" c_Mo_rebase 5 (Option.none : Option Jvm.ClassFile.FieldType) w_Mo_rebase) : ∀ (x0 : gI) (x1 : Int32) (x2 : Int32)  (S : gS) (H : Heap) (locs : List Loc) (ls : Array Slot), gis Y 10 x0 → wp_Mo_rebase (gLn Y) Q x0 x1 x2 S → gWd Y S H → va_S (gA Y s.heap.size) s.heap H locs → lv_has ls 5 [(0, .ref (gad Y x0)), (1, .int x1), (2, .int x2)] → W p l e (gRm 4 87) s m args below meth c H locs 0 0 (MQ below (va_Qv Q (gB Y) (gA Y s.heap.size)) args s 0 0 (gA Y s.heap.size)) (F0 m 0 ls []) := by
  have C0 := C
  obtain ⟨hx, hb, hml, hown, hts, hr, hlocks, hK, hY, hSt⟩ := C
  intro x0 x1 x2 S H locs ls hx0 hw hP hS hl
  unfold wp_Mo_rebase at hw
  refine lv_iload_n hx hb d_Mo_rebase_0 rfl (lv_at hl 2 rfl) ?_
  refine lv_istore_n (lv' := [(3, .int x2), (0, .ref (gad Y x0)), (1, .int x1), (2, .int x2)]) hx hb d_Mo_rebase_1 rfl hl (by decide) rfl (fun ls hl => ?_)
  obtain ⟨n, hw⟩ := hw
  exact mw_Mo_rebase_2 C0 n x0 x1 x2 x2 S H locs ls hx0 hw hP hS (lv_sub hl [1, 2, 3, 0] rfl)
set_option maxHeartbeats 4000000 in
set_option maxRecDepth 100000 in
theorem k_Mo_rebase (l : Launch) (Y : gY) (hY : gOK Y) (sz : Nat) (x0 : gI) (x1 : Int32) (x2 : Int32)  (hx0 : gis Y 10 x0) (S : gS) (Q : gS → Prop) : Met l y_Mo_rebase w_Mo_rebase (gRm 4 87) (gPre Y [.ref (gad Y x0), .int x1, .int x2] S sz (wp_Mo_rebase (gLn Y) Q x0 x1 x2 S)) (va_Qv Q (gB Y) (gA Y sz)) 0 0 (gA Y sz) := by
  refine Met.ofW (cc := c_Mo_rebase) (maxL := 5) (ret := (Option.none : Option Jvm.ClassFile.FieldType)) (by decide) rfl ?_
  intro p e s m args below meth c s₁ B hml hv
  obtain ⟨rfl, hsz, hP, hK, hSt, hw⟩ := hv
  subst hsz
  have hts := atoms_spec (ws := w_Mo_rebase) B.pre
  have hl := lv_entry ([.ref (gad Y x0), .int x1, .int x2]) (n := 5) (Nat.le_of_ble_eq_true rfl)
  rw [lg_entry_eq]
  generalize (lg_sl ([.ref (gad Y x0), .int x1, .int x2]) ++ List.replicate (5 - (lg_sl ([.ref (gad Y x0), .int x1, .int x2])).length) Slot.unset).toArray = ls at hl ⊢
  exact mw_Mo_rebase ⟨B.exec, B.bytes, hml, findClass_of_methodNamed B.named, hts, B.returns, B.notSynchronized, hK, hY, hSt⟩ x0 x1 x2 S s.heap [] ls hx0 hw hP va_S.rf hl

def wp_Mo_write_13 (Ln : gI → Nat) (Q : Int32 → gS → Prop) (x0 : gI) (x1 : Int32) (x2 : Int32) (x3 : Int32) (x4 : Int32) (y0 : Int32) (S : gS) : Prop :=
  wp_Mo_hasRoomAnew Ln (fun r3 S2 => ((¬ r3 = 0) → (wp_Mo_cut Ln (fun S5 => wp_Mo_make Ln (fun r7 S6 => wp_Mo_fill Ln (fun S8 => wp_Mo_put Ln (fun S9 => wp_Mo_settle Ln (fun S10 => ∀ S11 : gS, S11 = gset S10 x0 26 y0 → (∀ S12 : gS, S12 = gset S11 x0 24 x2 → (∀ S13 : gS, S13 = gset S12 x0 25 x3 → (∀ S14 : gS, S14 = gset S13 x0 29 1 → (Q 1 S14))))) x0 y0 S9) x0 y0 r7 S8) x0 r7 x4 S6) x0 1 x1 x2 x3 S5) x0 y0 0 S2)) ∧ ((r3 = 0) → (Q 0 S2))) x0 y0 (20 + x4) S
def wp_Mo_write (Ln : gI → Nat) (Q : Int32 → gS → Prop) (x0 : gI) (x1 : Int32) (x2 : Int32) (x3 : Int32) (x4 : Int32)  (S : gS) : Prop :=
  ((¬ (S.1 x0 26) = 2) → (wp_Mo_write_13 Ln Q x0 x1 x2 x3 x4 2 S)) ∧ (((S.1 x0 26) = 2) → (wp_Mo_write_13 Ln Q x0 x1 x2 x3 x4 3 S))
set_option maxHeartbeats 4000000 in
set_option maxRecDepth 100000 in
theorem mw_Mo_write_13 {p : Program} {l : Launch} {e : Env} {s : State} {m : MethodId} {args : Array Value} {below : List Frame} {meth : Method} {c : Code} {Y : gY} {Q : Int32 → gS → Prop} (C : gCx p s m args meth c Y "LogDiskModel" c_Mo_write 7 (Option.some Jvm.ClassFile.FieldType.boolean) w_Mo_write) : ∀ (x0 : gI) (x1 : Int32) (x2 : Int32) (x3 : Int32) (x4 : Int32) (y0 : Int32) (S : gS) (H : Heap) (locs : List Loc) (ls : Array Slot), gis Y 10 x0 → wp_Mo_write_13 (gLn Y) Q x0 x1 x2 x3 x4 y0 S → gWd Y S H → va_S (gA Y s.heap.size) s.heap H locs → lv_has ls 7 [(0, .ref (gad Y x0)), (1, .int x1), (2, .int x2), (3, .int x3), (4, .int x4)] → W p l e (gRm 3 66) s m args below meth c H locs 0 0 (MQ below (va_Qi Q (gB Y) (gA Y s.heap.size)) args s 0 0 (gA Y s.heap.size)) (F0 m 13 ls [.int y0]) := by
  have C0 := C
  obtain ⟨hx, hb, hml, hown, hts, hr, hlocks, hK, hY, hSt⟩ := C
  intro x0 x1 x2 x3 x4 y0 S H locs ls hx0 hw hP hS hl
  unfold wp_Mo_write_13 at hw
  refine lv_istore (lv' := [(5, .int y0), (0, .ref (gad Y x0)), (1, .int x1), (2, .int x2), (3, .int x3), (4, .int x4)]) hx hb d_Mo_write_13 hl (by decide) rfl (fun ls hl => ?_)
  refine lv_aload_n hx hb d_Mo_write_15 rfl (lv_at hl 1 rfl) ?_
  refine lv_iload hx hb d_Mo_write_16 (lv_at hl 0 rfl) ?_
  refine lv_bipush (v := 20) hx hb d_Mo_write_18 (by decide) ?_
  refine lv_iload hx hb d_Mo_write_20 (lv_at hl 5 rfl) ?_
  refine lv_iadd hx hb d_Mo_write_22 ?_
  refine g_calli (va_runV (As := [.int y0, .int (20 + x4)]) (rest := []) ⟨hx, hb, hml, hown, hts⟩ (k_Mo_hasRoomAnew l Y hY H.size x0 y0 (20 + x4) hx0 S _) (cwV 2 hts (gG_V gw_938 gw_940 gs_22 gw_12 gw_941) rfl rfl rfl (by decide +kernel) ⟨Nat.le_of_ble_eq_true rfl, Nat.le_of_ble_eq_true rfl⟩) ⟨gPre_blind, g_recv hK hP hx0 (gce_Mo hx0.1) rfl, g_pre hK hSt hS hP hw⟩ rfl rfl hl.1 rfl (lv_room (Nat.le_of_ble_eq_true rfl)) d_Mo_write_23 ⟨Nat.zero_le _, Nat.zero_le _⟩) hS (fun r3 S2 H locs hw hP hS => ?_)
  refine lv_if_ne (tgt := 31) hx hb d_Mo_write_26 (by decide) (fun c4 => ?_) (fun c4 => ?_)
  · replace hw := hw.1 c4
    refine lv_aload_n hx hb d_Mo_write_31 rfl (lv_at hl 1 rfl) ?_
    refine lv_iload hx hb d_Mo_write_32 (lv_at hl 0 rfl) ?_
    refine lv_iconst (v := 0) hx hb d_Mo_write_34 (by decide) ?_
    refine g_callv (va_runV (As := [.int y0, .int 0]) (rest := []) ⟨hx, hb, hml, hown, hts⟩ (k_Mo_cut l Y hY H.size x0 y0 0 hx0 S2 _) (cwV 2 hts (gG_V gw_949 gw_951 gs_24 gw_12 gw_952) rfl rfl rfl (by decide +kernel) ⟨Nat.le_of_ble_eq_true rfl, Nat.le_of_ble_eq_true rfl⟩) ⟨gPre_blind, g_recv hK hP hx0 (gce_Mo hx0.1) rfl, g_pre hK hSt hS hP hw⟩ rfl rfl hl.1 rfl (lv_room (Nat.le_of_ble_eq_true rfl)) d_Mo_write_35 ⟨Nat.zero_le _, Nat.zero_le _⟩) hS (fun S5 H locs hw hP hS => ?_)
    refine lv_aload_n hx hb d_Mo_write_38 rfl (lv_at hl 1 rfl) ?_
    refine lv_iconst (v := 1) hx hb d_Mo_write_39 (by decide) ?_
    refine lv_iload_n hx hb d_Mo_write_40 rfl (lv_at hl 2 rfl) ?_
    refine lv_iload_n hx hb d_Mo_write_41 rfl (lv_at hl 3 rfl) ?_
    refine lv_iload_n hx hb d_Mo_write_42 rfl (lv_at hl 4 rfl) ?_
    refine g_calli (va_runV (As := [.int 1, .int x1, .int x2, .int x3]) (rest := []) ⟨hx, hb, hml, hown, hts⟩ (k_Mo_make l Y hY H.size x0 1 x1 x2 x3 hx0 S5 _) (cwV 4 hts (gG_V gw_961 gw_963 gs_27 gw_12 gw_964) rfl rfl rfl (by decide +kernel) ⟨Nat.le_of_ble_eq_true rfl, Nat.le_of_ble_eq_true rfl⟩) ⟨gPre_blind, g_recv hK hP hx0 (gce_Mo hx0.1) rfl, g_pre hK hSt hS hP hw⟩ rfl rfl hl.1 rfl (lv_room (Nat.le_of_ble_eq_true rfl)) d_Mo_write_43 ⟨Nat.zero_le _, Nat.zero_le _⟩) hS (fun r7 S6 H locs hw hP hS => ?_)
    refine lv_istore (lv' := [(6, .int r7), (5, .int y0), (0, .ref (gad Y x0)), (1, .int x1), (2, .int x2), (3, .int x3), (4, .int x4)]) hx hb d_Mo_write_46 hl (by decide) rfl (fun ls hl => ?_)
    refine lv_aload_n hx hb d_Mo_write_48 rfl (lv_at hl 2 rfl) ?_
    refine lv_iload hx hb d_Mo_write_49 (lv_at hl 0 rfl) ?_
    refine lv_iload hx hb d_Mo_write_51 (lv_at hl 6 rfl) ?_
    refine g_callv (va_runV (As := [.int r7, .int x4]) (rest := []) ⟨hx, hb, hml, hown, hts⟩ (k_Mo_fill l Y hY H.size x0 r7 x4 hx0 S6 _) (cwV 2 hts (gG_V gw_989 gw_991 gs_33 gw_12 gw_992) rfl rfl rfl (by decide +kernel) ⟨Nat.le_of_ble_eq_true rfl, Nat.le_of_ble_eq_true rfl⟩) ⟨gPre_blind, g_recv hK hP hx0 (gce_Mo hx0.1) rfl, g_pre hK hSt hS hP hw⟩ rfl rfl hl.1 rfl (lv_room (Nat.le_of_ble_eq_true rfl)) d_Mo_write_53 ⟨Nat.zero_le _, Nat.zero_le _⟩) hS (fun S8 H locs hw hP hS => ?_)
    refine lv_aload_n hx hb d_Mo_write_56 rfl (lv_at hl 2 rfl) ?_
    refine lv_iload hx hb d_Mo_write_57 (lv_at hl 1 rfl) ?_
    refine lv_iload hx hb d_Mo_write_59 (lv_at hl 0 rfl) ?_
    refine g_callv (va_runV (As := [.int y0, .int r7]) (rest := []) ⟨hx, hb, hml, hown, hts⟩ (k_Mo_put l Y hY H.size x0 y0 r7 hx0 S8 _) (cwV 2 hts (gG_V gw_965 gw_967 gs_28 gw_12 gw_968) rfl rfl rfl (by decide +kernel) ⟨Nat.le_of_ble_eq_true rfl, Nat.le_of_ble_eq_true rfl⟩) ⟨gPre_blind, g_recv hK hP hx0 (gce_Mo hx0.1) rfl, g_pre hK hSt hS hP hw⟩ rfl rfl hl.1 rfl (lv_room (Nat.le_of_ble_eq_true rfl)) d_Mo_write_61 ⟨Nat.zero_le _, Nat.zero_le _⟩) hS (fun S9 H locs hw hP hS => ?_)
    refine lv_aload_n hx hb d_Mo_write_64 rfl (lv_at hl 2 rfl) ?_
    refine lv_iload hx hb d_Mo_write_65 (lv_at hl 1 rfl) ?_
    refine g_callv (va_runV (As := [.int y0]) (rest := []) ⟨hx, hb, hml, hown, hts⟩ (k_Mo_settle l Y hY H.size x0 y0 hx0 S9 _) (cwV 1 hts (gG_V gw_1017 gw_1019 gs_38 gw_12 gw_1020) rfl rfl rfl (by decide +kernel) ⟨Nat.le_of_ble_eq_true rfl, Nat.le_of_ble_eq_true rfl⟩) ⟨gPre_blind, g_recv hK hP hx0 (gce_Mo hx0.1) rfl, g_pre hK hSt hS hP hw⟩ rfl rfl hl.1 rfl (lv_room (Nat.le_of_ble_eq_true rfl)) d_Mo_write_67 ⟨Nat.zero_le _, Nat.zero_le _⟩) hS (fun S10 H locs hw hP hS => ?_)
    refine lv_aload_n hx hb d_Mo_write_70 rfl (lv_at hl 2 rfl) ?_
    refine lv_iload hx hb d_Mo_write_71 (lv_at hl 1 rfl) ?_
    refine g_put (ty := .int) (v := .int y0) (S' := gset S10 x0 26 y0) hx hb hts (fun w h => List.mem_cons_of_mem _ (in_Mo w h)) ty_Mo tyok_Mo nm_Mo hown hK hY.1 hP hS hx0 (gce_Mo hx0.1) rfl 26 (by decide) (hts _ (List.mem_cons_of_mem _ gw_833)) rfl (by decide +kernel) rfl rfl (Nat.le_of_ble_eq_true rfl) (gp_Mo_snapshot hx0.1) gce_gset d_Mo_write_73 (fun H locs hP hS => ?_)
    obtain ⟨S11, eS11⟩ : ∃ z, z = gset S10 x0 26 y0 := ⟨_, rfl⟩
    rw [← eS11] at hP
    replace hw := hw S11 eS11
    refine lv_aload_n hx hb d_Mo_write_76 rfl (lv_at hl 2 rfl) ?_
    refine lv_iload_n hx hb d_Mo_write_77 rfl (lv_at hl 4 rfl) ?_
    refine g_put (ty := .int) (v := .int x2) (S' := gset S11 x0 24 x2) hx hb hts (fun w h => List.mem_cons_of_mem _ (in_Mo w h)) ty_Mo tyok_Mo nm_Mo hown hK hY.1 hP hS hx0 (gce_Mo hx0.1) rfl 24 (by decide) (hts _ (List.mem_cons_of_mem _ gw_831)) rfl (by decide +kernel) rfl rfl (Nat.le_of_ble_eq_true rfl) (gp_Mo_baseTerm hx0.1) gce_gset d_Mo_write_78 (fun H locs hP hS => ?_)
    obtain ⟨S12, eS12⟩ : ∃ z, z = gset S11 x0 24 x2 := ⟨_, rfl⟩
    rw [← eS12] at hP
    replace hw := hw S12 eS12
    refine lv_aload_n hx hb d_Mo_write_81 rfl (lv_at hl 2 rfl) ?_
    refine lv_iload_n hx hb d_Mo_write_82 rfl (lv_at hl 5 rfl) ?_
    refine g_put (ty := .int) (v := .int x3) (S' := gset S12 x0 25 x3) hx hb hts (fun w h => List.mem_cons_of_mem _ (in_Mo w h)) ty_Mo tyok_Mo nm_Mo hown hK hY.1 hP hS hx0 (gce_Mo hx0.1) rfl 25 (by decide) (hts _ (List.mem_cons_of_mem _ gw_832)) rfl (by decide +kernel) rfl rfl (Nat.le_of_ble_eq_true rfl) (gp_Mo_code hx0.1) gce_gset d_Mo_write_83 (fun H locs hP hS => ?_)
    obtain ⟨S13, eS13⟩ : ∃ z, z = gset S12 x0 25 x3 := ⟨_, rfl⟩
    rw [← eS13] at hP
    replace hw := hw S13 eS13
    refine lv_aload_n hx hb d_Mo_write_86 rfl (lv_at hl 2 rfl) ?_
    refine lv_iconst (v := 1) hx hb d_Mo_write_87 (by decide) ?_
    refine g_put (ty := .boolean) (v := .int 1) (S' := gset S13 x0 29 1) hx hb hts (fun w h => List.mem_cons_of_mem _ (in_Mo w h)) ty_Mo tyok_Mo nm_Mo hown hK hY.1 hP hS hx0 (gce_Mo hx0.1) rfl 29 (by decide) (hts _ (List.mem_cons_of_mem _ gw_836)) rfl (by decide +kernel) rfl rfl (Nat.le_of_ble_eq_true rfl) (gp_Mo_dirty hx0.1) gce_gset d_Mo_write_88 (fun H locs hP hS => ?_)
    obtain ⟨S14, eS14⟩ : ∃ z, z = gset S13 x0 29 1 := ⟨_, rfl⟩
    rw [← eS14] at hP
    replace hw := hw S14 eS14
    refine lv_iconst (v := 1) hx hb d_Mo_write_91 (by decide) ?_
    exact W.zret (v := 1) hx hb hr rfl (fun t ht hW => ⟨⟨1, S14, rfl, hw, by rw [ht]; exact hP, va_K.moved hW.alike hK⟩, hS.F ht⟩) hS.2.2 d_Mo_write_92
  · replace hw := hw.2 c4
    refine lv_iconst (v := 0) hx hb d_Mo_write_29 (by decide) ?_
    exact W.zret (v := 0) hx hb hr rfl (fun t ht hW => ⟨⟨0, S2, rfl, hw, by rw [ht]; exact hP, va_K.moved hW.alike hK⟩, hS.F ht⟩) hS.2.2 d_Mo_write_30
set_option maxHeartbeats 4000000 in
set_option maxRecDepth 100000 in
theorem mw_Mo_write {p : Program} {l : Launch} {e : Env} {s : State} {m : MethodId} {args : Array Value} {below : List Frame} {meth : Method} {c : Code} {Y : gY} {Q : Int32 → gS → Prop} (C : gCx p s m args meth c Y "LogDiskModel" c_Mo_write 7 (Option.some Jvm.ClassFile.FieldType.boolean) w_Mo_write) : ∀ (x0 : gI) (x1 : Int32) (x2 : Int32) (x3 : Int32) (x4 : Int32)  (S : gS) (H : Heap) (locs : List Loc) (ls : Array Slot), gis Y 10 x0 → wp_Mo_write (gLn Y) Q x0 x1 x2 x3 x4 S → gWd Y S H → va_S (gA Y s.heap.size) s.heap H locs → lv_has ls 7 [(0, .ref (gad Y x0)), (1, .int x1), (2, .int x2), (3, .int x3), (4, .int x4)] → W p l e (gRm 3 66) s m args below meth c H locs 0 0 (MQ below (va_Qi Q (gB Y) (gA Y s.heap.size)) args s 0 0 (gA Y s.heap.size)) (F0 m 0 ls []) := by
  have C0 := C
  obtain ⟨hx, hb, hml, hown, hts, hr, hlocks, hK, hY, hSt⟩ := C
  intro x0 x1 x2 x3 x4 S H locs ls hx0 hw hP hS hl
  unfold wp_Mo_write at hw
  refine lv_aload_n hx hb d_Mo_write_0 rfl (lv_at hl 0 rfl) ?_
  refine g_get hx hb hts (fun w h => List.mem_cons_of_mem _ (in_Mo w h)) hown hK hP hx0 (gce_Mo hx0.1) rfl 26 (by decide) (hts _ (List.mem_cons_of_mem _ gw_833)) rfl d_Mo_write_1 ?_
  refine lv_iconst (v := 2) hx hb d_Mo_write_4 (by decide) ?_
  refine lv_icmp_ne (tgt := 12) hx hb d_Mo_write_5 (by decide) (fun c1 => ?_) (fun c1 => ?_)
  · replace hw := hw.1 c1
    refine lv_iconst (v := 2) hx hb d_Mo_write_12 (by decide) ?_
    exact mw_Mo_write_13 C0 x0 x1 x2 x3 x4 2 S H locs ls hx0 hw hP hS (lv_sub hl [0, 1, 2, 3, 4] rfl)
  · replace hw := hw.2 c1
    refine lv_iconst (v := 3) hx hb d_Mo_write_8 (by decide) ?_
    refine lv_goto (tgt := 13) hx hb d_Mo_write_9 (by decide) ?_
    exact mw_Mo_write_13 C0 x0 x1 x2 x3 x4 3 S H locs ls hx0 hw hP hS (lv_sub hl [0, 1, 2, 3, 4] rfl)
set_option maxHeartbeats 4000000 in
set_option maxRecDepth 100000 in
theorem k_Mo_write (l : Launch) (Y : gY) (hY : gOK Y) (sz : Nat) (x0 : gI) (x1 : Int32) (x2 : Int32) (x3 : Int32) (x4 : Int32)  (hx0 : gis Y 10 x0) (S : gS) (Q : Int32 → gS → Prop) : Met l y_Mo_write w_Mo_write (gRm 3 66) (gPre Y [.ref (gad Y x0), .int x1, .int x2, .int x3, .int x4] S sz (wp_Mo_write (gLn Y) Q x0 x1 x2 x3 x4 S)) (va_Qi Q (gB Y) (gA Y sz)) 0 0 (gA Y sz) := by
  refine Met.ofW (cc := c_Mo_write) (maxL := 7) (ret := (Option.some Jvm.ClassFile.FieldType.boolean)) (by decide) rfl ?_
  intro p e s m args below meth c s₁ B hml hv
  obtain ⟨rfl, hsz, hP, hK, hSt, hw⟩ := hv
  subst hsz
  have hts := atoms_spec (ws := w_Mo_write) B.pre
  have hl := lv_entry ([.ref (gad Y x0), .int x1, .int x2, .int x3, .int x4]) (n := 7) (Nat.le_of_ble_eq_true rfl)
  rw [lg_entry_eq]
  generalize (lg_sl ([.ref (gad Y x0), .int x1, .int x2, .int x3, .int x4]) ++ List.replicate (7 - (lg_sl ([.ref (gad Y x0), .int x1, .int x2, .int x3, .int x4])).length) Slot.unset).toArray = ls at hl ⊢
  exact mw_Mo_write ⟨B.exec, B.bytes, hml, findClass_of_methodNamed B.named, hts, B.returns, B.notSynchronized, hK, hY, hSt⟩ x0 x1 x2 x3 x4 S s.heap [] ls hx0 hw hP va_S.rf hl

def wp_Mo_compact (Ln : gI → Nat) (Q : Int32 → gS → Prop) (x0 : gI) (x1 : Int32) (x2 : Int32)  (S : gS) : Prop :=
  ∀ S1 : gS, S1 = gset S x0 0 0 → (∀ v3_2 : Int32, v3_2 = S1.1 x0 33 → (∀ S3 : gS, S3 = gset S1 x0 33 0 → (wp_Mo_within Ln (fun r5 S4 => ((¬ r5 = 0) → (wp_Mo_termOf Ln (fun r8 S7 => wp_Mo_write Ln (fun r10 S9 => ((¬ r10 = 0) → (∀ v5_12 : Int32, v5_12 = x1 - (S9.1 x0 23) → (wp_Mo_rebase Ln (fun S13 => Q v5_12 S13) x0 x1 v5_12 S9))) ∧ ((r10 = 0) → (wp_Mo_fail Ln (fun r15 S14 => Q r15 S14) x0 2 S9))) x0 x1 r8 x2 v3_2 S7) x0 x1 S4)) ∧ ((r5 = 0) → (wp_Mo_fail Ln (fun r17 S16 => Q r17 S16) x0 1 S4))) x1 ((S3.1 x0 23) + 1) (S3.1 x0 27) S3)))
set_option maxHeartbeats 4000000 in
set_option maxRecDepth 100000 in
theorem mw_Mo_compact {p : Program} {l : Launch} {e : Env} {s : State} {m : MethodId} {args : Array Value} {below : List Frame} {meth : Method} {c : Code} {Y : gY} {Q : Int32 → gS → Prop} (C : gCx p s m args meth c Y "LogDiskModel" c_Mo_compact 6 (Option.some Jvm.ClassFile.FieldType.int) w_Mo_compact) : ∀ (x0 : gI) (x1 : Int32) (x2 : Int32)  (S : gS) (H : Heap) (locs : List Loc) (ls : Array Slot), gis Y 10 x0 → wp_Mo_compact (gLn Y) Q x0 x1 x2 S → gWd Y S H → va_S (gA Y s.heap.size) s.heap H locs → lv_has ls 6 [(0, .ref (gad Y x0)), (1, .int x1), (2, .int x2)] → W p l e (gRm 5 111) s m args below meth c H locs 0 0 (MQ below (va_Qi Q (gB Y) (gA Y s.heap.size)) args s 0 0 (gA Y s.heap.size)) (F0 m 0 ls []) := by
  have C0 := C
  obtain ⟨hx, hb, hml, hown, hts, hr, hlocks, hK, hY, hSt⟩ := C
  intro x0 x1 x2 S H locs ls hx0 hw hP hS hl
  unfold wp_Mo_compact at hw
  refine lv_aload_n hx hb d_Mo_compact_0 rfl (lv_at hl 0 rfl) ?_
  refine lv_iconst (v := 0) hx hb d_Mo_compact_1 (by decide) ?_
  refine g_put (ty := .int) (v := .int 0) (S' := gset S x0 0 0) hx hb hts (fun w h => List.mem_cons_of_mem _ (in_Mo w h)) ty_Mo tyok_Mo nm_Mo hown hK hY.1 hP hS hx0 (gce_Mo hx0.1) rfl 0 (by decide) (hts _ (List.mem_cons_of_mem _ gw_807)) rfl (by decide +kernel) rfl rfl (Nat.le_of_ble_eq_true rfl) (gp_Mo_thrown hx0.1) gce_gset d_Mo_compact_2 (fun H locs hP hS => ?_)
  obtain ⟨S1, eS1⟩ : ∃ z, z = gset S x0 0 0 := ⟨_, rfl⟩
  rw [← eS1] at hP
  replace hw := hw S1 eS1
  refine lv_aload_n hx hb d_Mo_compact_5 rfl (lv_at hl 0 rfl) ?_
  refine g_get hx hb hts (fun w h => List.mem_cons_of_mem _ (in_Mo w h)) hown hK hP hx0 (gce_Mo hx0.1) rfl 33 (by decide) (hts _ (List.mem_cons_of_mem _ gw_840)) rfl d_Mo_compact_6 ?_
  refine lv_topi (fun v3_2 ev3_2 => ?_)
  replace hw := hw v3_2 ev3_2
  refine lv_istore_n (lv' := [(3, .int v3_2), (0, .ref (gad Y x0)), (1, .int x1), (2, .int x2)]) hx hb d_Mo_compact_9 rfl hl (by decide) rfl (fun ls hl => ?_)
  refine lv_aload_n hx hb d_Mo_compact_10 rfl (lv_at hl 1 rfl) ?_
  refine lv_iconst (v := 0) hx hb d_Mo_compact_11 (by decide) ?_
  refine g_put (ty := .int) (v := .int 0) (S' := gset S1 x0 33 0) hx hb hts (fun w h => List.mem_cons_of_mem _ (in_Mo w h)) ty_Mo tyok_Mo nm_Mo hown hK hY.1 hP hS hx0 (gce_Mo hx0.1) rfl 33 (by decide) (hts _ (List.mem_cons_of_mem _ gw_840)) rfl (by decide +kernel) rfl rfl (Nat.le_of_ble_eq_true rfl) (gp_Mo_tape hx0.1) gce_gset d_Mo_compact_12 (fun H locs hP hS => ?_)
  obtain ⟨S3, eS3⟩ : ∃ z, z = gset S1 x0 33 0 := ⟨_, rfl⟩
  rw [← eS3] at hP
  replace hw := hw S3 eS3
  refine lv_iload_n hx hb d_Mo_compact_15 rfl (lv_at hl 2 rfl) ?_
  refine lv_aload_n hx hb d_Mo_compact_16 rfl (lv_at hl 1 rfl) ?_
  refine g_get hx hb hts (fun w h => List.mem_cons_of_mem _ (in_Mo w h)) hown hK hP hx0 (gce_Mo hx0.1) rfl 23 (by decide) (hts _ (List.mem_cons_of_mem _ gw_830)) rfl d_Mo_compact_17 ?_
  refine lv_iconst (v := 1) hx hb d_Mo_compact_20 (by decide) ?_
  refine lv_iadd hx hb d_Mo_compact_21 ?_
  refine lv_aload_n hx hb d_Mo_compact_22 rfl (lv_at hl 1 rfl) ?_
  refine g_get hx hb hts (fun w h => List.mem_cons_of_mem _ (in_Mo w h)) hown hK hP hx0 (gce_Mo hx0.1) rfl 27 (by decide) (hts _ (List.mem_cons_of_mem _ gw_834)) rfl d_Mo_compact_23 ?_
  refine g_calli (va_runS (As := [.int x1, .int ((S3.1 x0 23) + 1), .int (S3.1 x0 27)]) (rest := []) ⟨hx, hb, hml, hown, hts⟩ (k_Mo_within l Y hY H.size x1 ((S3.1 x0 23) + 1) (S3.1 x0 27) S3 _) (va_cwS 3 hts (gG_S gw_922 gw_923 gw_12 gw_924) rfl rfl rfl (by decide +kernel) ⟨Nat.le_of_ble_eq_true rfl, Nat.le_of_ble_eq_true rfl⟩) ⟨gPre_blind, g_pre hK hSt hS hP hw⟩ rfl rfl hl.1 rfl (lv_room (Nat.le_of_ble_eq_true rfl)) d_Mo_compact_26 ⟨Nat.zero_le _, Nat.zero_le _⟩) hS (fun r5 S4 H locs hw hP hS => ?_)
  refine lv_if_ne (tgt := 38) hx hb d_Mo_compact_29 (by decide) (fun c6 => ?_) (fun c6 => ?_)
  · replace hw := hw.1 c6
    refine lv_aload_n hx hb d_Mo_compact_38 rfl (lv_at hl 1 rfl) ?_
    refine lv_iload_n hx hb d_Mo_compact_39 rfl (lv_at hl 2 rfl) ?_
    refine g_calli (va_runV (As := [.int x1]) (rest := []) ⟨hx, hb, hml, hown, hts⟩ (k_Mo_termOf l Y hY H.size x0 x1 hx0 S4 _) (cwV 1 hts (gG_V gw_973 gw_975 gs_29 gw_12 gw_976) rfl rfl rfl (by decide +kernel) ⟨Nat.le_of_ble_eq_true rfl, Nat.le_of_ble_eq_true rfl⟩) ⟨gPre_blind, g_recv hK hP hx0 (gce_Mo hx0.1) rfl, g_pre hK hSt hS hP hw⟩ rfl rfl hl.1 rfl (lv_room (Nat.le_of_ble_eq_true rfl)) d_Mo_compact_40 ⟨Nat.zero_le _, Nat.zero_le _⟩) hS (fun r8 S7 H locs hw hP hS => ?_)
    refine lv_istore (lv' := [(4, .int r8), (3, .int v3_2), (0, .ref (gad Y x0)), (1, .int x1), (2, .int x2)]) hx hb d_Mo_compact_43 hl (by decide) rfl (fun ls hl => ?_)
    refine lv_aload_n hx hb d_Mo_compact_45 rfl (lv_at hl 2 rfl) ?_
    refine lv_iload_n hx hb d_Mo_compact_46 rfl (lv_at hl 3 rfl) ?_
    refine lv_iload hx hb d_Mo_compact_47 (lv_at hl 0 rfl) ?_
    refine lv_iload_n hx hb d_Mo_compact_49 rfl (lv_at hl 4 rfl) ?_
    refine lv_iload_n hx hb d_Mo_compact_50 rfl (lv_at hl 1 rfl) ?_
    refine g_calli (va_runV (As := [.int x1, .int r8, .int x2, .int v3_2]) (rest := []) ⟨hx, hb, hml, hown, hts⟩ (k_Mo_write l Y hY H.size x0 x1 r8 x2 v3_2 hx0 S7 _) (cwV 4 hts (gG_V gw_1013 gw_1015 gs_37 gw_12 gw_1016) rfl rfl rfl (by decide +kernel) ⟨Nat.le_of_ble_eq_true rfl, Nat.le_of_ble_eq_true rfl⟩) ⟨gPre_blind, g_recv hK hP hx0 (gce_Mo hx0.1) rfl, g_pre hK hSt hS hP hw⟩ rfl rfl hl.1 rfl (lv_room (Nat.le_of_ble_eq_true rfl)) d_Mo_compact_51 ⟨Nat.zero_le _, Nat.zero_le _⟩) hS (fun r10 S9 H locs hw hP hS => ?_)
    refine lv_if_ne (tgt := 63) hx hb d_Mo_compact_54 (by decide) (fun c11 => ?_) (fun c11 => ?_)
    · replace hw := hw.1 c11
      refine lv_iload_n hx hb d_Mo_compact_63 rfl (lv_at hl 3 rfl) ?_
      refine lv_aload_n hx hb d_Mo_compact_64 rfl (lv_at hl 2 rfl) ?_
      refine g_get hx hb hts (fun w h => List.mem_cons_of_mem _ (in_Mo w h)) hown hK hP hx0 (gce_Mo hx0.1) rfl 23 (by decide) (hts _ (List.mem_cons_of_mem _ gw_830)) rfl d_Mo_compact_65 ?_
      refine lv_isub hx hb d_Mo_compact_68 ?_
      refine lv_topi (fun v5_12 ev5_12 => ?_)
      replace hw := hw v5_12 ev5_12
      refine lv_istore (lv' := [(5, .int v5_12), (4, .int r8), (3, .int v3_2), (0, .ref (gad Y x0)), (1, .int x1), (2, .int x2)]) hx hb d_Mo_compact_69 hl (by decide) rfl (fun ls hl => ?_)
      refine lv_aload_n hx hb d_Mo_compact_71 rfl (lv_at hl 3 rfl) ?_
      refine lv_iload_n hx hb d_Mo_compact_72 rfl (lv_at hl 4 rfl) ?_
      refine lv_iload hx hb d_Mo_compact_73 (lv_at hl 0 rfl) ?_
      refine g_callv (va_runV (As := [.int x1, .int v5_12]) (rest := []) ⟨hx, hb, hml, hown, hts⟩ (k_Mo_rebase l Y hY H.size x0 x1 v5_12 hx0 S9 _) (cwV 2 hts (gG_V gw_1025 gw_1027 gs_40 gw_12 gw_1028) rfl rfl rfl (by decide +kernel) ⟨Nat.le_of_ble_eq_true rfl, Nat.le_of_ble_eq_true rfl⟩) ⟨gPre_blind, g_recv hK hP hx0 (gce_Mo hx0.1) rfl, g_pre hK hSt hS hP hw⟩ rfl rfl hl.1 rfl (lv_room (Nat.le_of_ble_eq_true rfl)) d_Mo_compact_75 ⟨Nat.zero_le _, Nat.zero_le _⟩) hS (fun S13 H locs hw hP hS => ?_)
      refine lv_iload hx hb d_Mo_compact_78 (lv_at hl 0 rfl) ?_
      exact W.iret (v := v5_12) hx hb hr (fun t ht hW => ⟨⟨v5_12, S13, rfl, hw, by rw [ht]; exact hP, va_K.moved hW.alike hK⟩, hS.F ht⟩) hS.2.2 d_Mo_compact_80
    · replace hw := hw.2 c11
      refine lv_aload_n hx hb d_Mo_compact_57 rfl (lv_at hl 2 rfl) ?_
      refine lv_iconst (v := 2) hx hb d_Mo_compact_58 (by decide) ?_
      refine g_calli (va_runV (As := [.int 2]) (rest := []) ⟨hx, hb, hml, hown, hts⟩ (k_Mo_fail l Y hY H.size x0 2 hx0 S9 _) (cwV 1 hts (gG_V gw_925 gw_927 gs_21 gw_12 gw_928) rfl rfl rfl (by decide +kernel) ⟨Nat.le_of_ble_eq_true rfl, Nat.le_of_ble_eq_true rfl⟩) ⟨gPre_blind, g_recv hK hP hx0 (gce_Mo hx0.1) rfl, g_pre hK hSt hS hP hw⟩ rfl rfl hl.1 rfl (lv_room (Nat.le_of_ble_eq_true rfl)) d_Mo_compact_59 ⟨Nat.zero_le _, Nat.zero_le _⟩) hS (fun r15 S14 H locs hw hP hS => ?_)
      exact W.iret (v := r15) hx hb hr (fun t ht hW => ⟨⟨r15, S14, rfl, hw, by rw [ht]; exact hP, va_K.moved hW.alike hK⟩, hS.F ht⟩) hS.2.2 d_Mo_compact_62
  · replace hw := hw.2 c6
    refine lv_aload_n hx hb d_Mo_compact_32 rfl (lv_at hl 1 rfl) ?_
    refine lv_iconst (v := 1) hx hb d_Mo_compact_33 (by decide) ?_
    refine g_calli (va_runV (As := [.int 1]) (rest := []) ⟨hx, hb, hml, hown, hts⟩ (k_Mo_fail l Y hY H.size x0 1 hx0 S4 _) (cwV 1 hts (gG_V gw_925 gw_927 gs_21 gw_12 gw_928) rfl rfl rfl (by decide +kernel) ⟨Nat.le_of_ble_eq_true rfl, Nat.le_of_ble_eq_true rfl⟩) ⟨gPre_blind, g_recv hK hP hx0 (gce_Mo hx0.1) rfl, g_pre hK hSt hS hP hw⟩ rfl rfl hl.1 rfl (lv_room (Nat.le_of_ble_eq_true rfl)) d_Mo_compact_34 ⟨Nat.zero_le _, Nat.zero_le _⟩) hS (fun r17 S16 H locs hw hP hS => ?_)
    exact W.iret (v := r17) hx hb hr (fun t ht hW => ⟨⟨r17, S16, rfl, hw, by rw [ht]; exact hP, va_K.moved hW.alike hK⟩, hS.F ht⟩) hS.2.2 d_Mo_compact_37
set_option maxHeartbeats 4000000 in
set_option maxRecDepth 100000 in
theorem k_Mo_compact (l : Launch) (Y : gY) (hY : gOK Y) (sz : Nat) (x0 : gI) (x1 : Int32) (x2 : Int32)  (hx0 : gis Y 10 x0) (S : gS) (Q : Int32 → gS → Prop) : Met l y_Mo_compact w_Mo_compact (gRm 5 111) (gPre Y [.ref (gad Y x0), .int x1, .int x2] S sz (wp_Mo_compact (gLn Y) Q x0 x1 x2 S)) (va_Qi Q (gB Y) (gA Y sz)) 0 0 (gA Y sz) := by
  refine Met.ofW (cc := c_Mo_compact) (maxL := 6) (ret := (Option.some Jvm.ClassFile.FieldType.int)) (by decide) rfl ?_
  intro p e s m args below meth c s₁ B hml hv
  obtain ⟨rfl, hsz, hP, hK, hSt, hw⟩ := hv
  subst hsz
  have hts := atoms_spec (ws := w_Mo_compact) B.pre
  have hl := lv_entry ([.ref (gad Y x0), .int x1, .int x2]) (n := 6) (Nat.le_of_ble_eq_true rfl)
  rw [lg_entry_eq]
  generalize (lg_sl ([.ref (gad Y x0), .int x1, .int x2]) ++ List.replicate (6 - (lg_sl ([.ref (gad Y x0), .int x1, .int x2])).length) Slot.unset).toArray = ls at hl ⊢
  exact mw_Mo_compact ⟨B.exec, B.bytes, hml, findClass_of_methodNamed B.named, hts, B.returns, B.notSynchronized, hK, hY, hSt⟩ x0 x1 x2 S s.heap [] ls hx0 hw hP va_S.rf hl

def wp_Mo_take_41 (Ln : gI → Nat) (Q : Int32 → gS → Prop) (x0 : gI)  (S : gS) : Prop :=
  wp_Mo_fail Ln (fun r8 S7 => Q r8 S7) x0 1 S
def wp_Mo_take_139 (Ln : gI → Nat) (Q : Int32 → gS → Prop) (x0 : gI) (y0 : gI) (y1 : Int32) (y2 : Int32) (S : gS) : Prop :=
  wp_Mo_rebase Ln (fun S18 => Q (S18.1 x0 27) S18) y0 y1 y2 S
def wp_Mo_take_114 (Ln : gI → Nat) (Q : Int32 → gS → Prop) (x0 : gI) (x1 : Int32) (x5 : Int32)  (S : gS) : Prop :=
  ((x5 = 0) → (wp_Mo_take_139 Ln Q x0 x0 x1 ((S.1 x0 27) - (S.1 x0 23)) S)) ∧ ((¬ x5 = 0) → (wp_Mo_take_139 Ln Q x0 x0 x1 (x1 - (S.1 x0 23)) S))
def wp_Mo_take_111 (Ln : gI → Nat) (Q : Int32 → gS → Prop) (x0 : gI) (x1 : Int32) (x5 : Int32) (y0 : gI) (y1 : Int32) (S : gS) : Prop :=
  ∀ S20 : gS, S20 = gset S y0 27 y1 → (wp_Mo_take_114 Ln Q x0 x1 x5 S20)
def wp_Mo_take_69 (Ln : gI → Nat) (Q : Int32 → gS → Prop) (x0 : gI) (x1 : Int32) (x2 : Int32) (x3 : Int32) (x4 : Int32) (y0 : Int32) (S : gS) : Prop :=
  wp_Mo_write Ln (fun r14 S13 => ((¬ r14 = 0) → (((¬ y0 = 0) → (wp_Mo_take_114 Ln Q x0 x1 y0 S13)) ∧ ((y0 = 0) → (((x1 ≤ (S13.1 x0 27)) → (wp_Mo_take_111 Ln Q x0 x1 y0 x0 x1 S13)) ∧ ((¬ x1 ≤ (S13.1 x0 27)) → (wp_Mo_take_111 Ln Q x0 x1 y0 x0 (S13.1 x0 27) S13)))))) ∧ ((r14 = 0) → (wp_Mo_fail Ln (fun r22 S21 => Q r22 S21) x0 2 S13))) x0 x1 x2 x3 x4 S
def wp_Mo_take_68 (Ln : gI → Nat) (Q : Int32 → gS → Prop) (x0 : gI) (x1 : Int32) (x2 : Int32) (x3 : Int32) (x4 : Int32)  (S : gS) : Prop :=
  wp_Mo_take_69 Ln Q x0 x1 x2 x3 x4 0 S
def wp_Mo_take (Ln : gI → Nat) (Q : Int32 → gS → Prop) (x0 : gI) (x1 : Int32) (x2 : Int32) (x3 : Int32)  (S : gS) : Prop :=
  ∀ S1 : gS, S1 = gset S x0 0 0 → (∀ v4_2 : Int32, v4_2 = S1.1 x0 33 → (∀ S3 : gS, S3 = gset S1 x0 33 0 → (wp_Mo_within Ln (fun r5 S4 => ((r5 = 0) → (wp_Mo_take_41 Ln Q x0 S4)) ∧ ((¬ r5 = 0) → (wp_Mo_within Ln (fun r10 S9 => ((¬ r10 = 0) → ((((S9.1 x0 27) < x1) → (wp_Mo_take_68 Ln Q x0 x1 x2 x3 v4_2 S9)) ∧ ((¬ (S9.1 x0 27) < x1) → (wp_Mo_termOf Ln (fun r24 S23 => ((¬ r24 = x2) → (wp_Mo_take_68 Ln Q x0 x1 x2 x3 v4_2 S23)) ∧ ((r24 = x2) → (wp_Mo_take_69 Ln Q x0 x1 x2 x3 v4_2 1 S23))) x0 x1 S9)))) ∧ ((r10 = 0) → (wp_Mo_take_41 Ln Q x0 S9))) x2 0 1000000 S4))) x1 ((S3.1 x0 23) + 1) 1000000 S3)))
set_option maxHeartbeats 4000000 in
set_option maxRecDepth 100000 in
theorem mw_Mo_take_41 {p : Program} {l : Launch} {e : Env} {s : State} {m : MethodId} {args : Array Value} {below : List Frame} {meth : Method} {c : Code} {Y : gY} {Q : Int32 → gS → Prop} (C : gCx p s m args meth c Y "LogDiskModel" c_Mo_take 6 (Option.some Jvm.ClassFile.FieldType.int) w_Mo_take) : ∀ (x0 : gI)  (S : gS) (H : Heap) (locs : List Loc) (ls : Array Slot), gis Y 10 x0 → wp_Mo_take_41 (gLn Y) Q x0 S → gWd Y S H → va_S (gA Y s.heap.size) s.heap H locs → lv_has ls 6 [(0, .ref (gad Y x0))] → W p l e (gRm 5 111) s m args below meth c H locs 0 0 (MQ below (va_Qi Q (gB Y) (gA Y s.heap.size)) args s 0 0 (gA Y s.heap.size)) (F0 m 41 ls []) := by
  have C0 := C
  obtain ⟨hx, hb, hml, hown, hts, hr, hlocks, hK, hY, hSt⟩ := C
  intro x0 S H locs ls hx0 hw hP hS hl
  unfold wp_Mo_take_41 at hw
  refine lv_aload_n hx hb d_Mo_take_41 rfl (lv_at hl 0 rfl) ?_
  refine lv_iconst (v := 1) hx hb d_Mo_take_42 (by decide) ?_
  refine g_calli (va_runV (As := [.int 1]) (rest := []) ⟨hx, hb, hml, hown, hts⟩ (k_Mo_fail l Y hY H.size x0 1 hx0 S _) (cwV 1 hts (gG_V gw_925 gw_927 gs_21 gw_12 gw_928) rfl rfl rfl (by decide +kernel) ⟨Nat.le_of_ble_eq_true rfl, Nat.le_of_ble_eq_true rfl⟩) ⟨gPre_blind, g_recv hK hP hx0 (gce_Mo hx0.1) rfl, g_pre hK hSt hS hP hw⟩ rfl rfl hl.1 rfl (lv_room (Nat.le_of_ble_eq_true rfl)) d_Mo_take_43 ⟨Nat.zero_le _, Nat.zero_le _⟩) hS (fun r8 S7 H locs hw hP hS => ?_)
  exact W.iret (v := r8) hx hb hr (fun t ht hW => ⟨⟨r8, S7, rfl, hw, by rw [ht]; exact hP, va_K.moved hW.alike hK⟩, hS.F ht⟩) hS.2.2 d_Mo_take_46
set_option maxHeartbeats 4000000 in
set_option maxRecDepth 100000 in
theorem mw_Mo_take_139 {p : Program} {l : Launch} {e : Env} {s : State} {m : MethodId} {args : Array Value} {below : List Frame} {meth : Method} {c : Code} {Y : gY} {Q : Int32 → gS → Prop} (C : gCx p s m args meth c Y "LogDiskModel" c_Mo_take 6 (Option.some Jvm.ClassFile.FieldType.int) w_Mo_take) : ∀ (x0 : gI) (y0 : gI) (y1 : Int32) (y2 : Int32) (S : gS) (H : Heap) (locs : List Loc) (ls : Array Slot), gis Y 10 x0 → gis Y 10 y0 → wp_Mo_take_139 (gLn Y) Q x0 y0 y1 y2 S → gWd Y S H → va_S (gA Y s.heap.size) s.heap H locs → lv_has ls 6 [(0, .ref (gad Y x0))] → W p l e (gRm 5 111) s m args below meth c H locs 0 0 (MQ below (va_Qi Q (gB Y) (gA Y s.heap.size)) args s 0 0 (gA Y s.heap.size)) (F0 m 139 ls [.int y2, .int y1, .ref (gad Y y0)]) := by
  have C0 := C
  obtain ⟨hx, hb, hml, hown, hts, hr, hlocks, hK, hY, hSt⟩ := C
  intro x0 y0 y1 y2 S H locs ls hx0 hy0 hw hP hS hl
  unfold wp_Mo_take_139 at hw
  refine g_callv (va_runV (As := [.int y1, .int y2]) (rest := []) ⟨hx, hb, hml, hown, hts⟩ (k_Mo_rebase l Y hY H.size y0 y1 y2 hy0 S _) (cwV 2 hts (gG_V gw_1025 gw_1027 gs_40 gw_12 gw_1028) rfl rfl rfl (by decide +kernel) ⟨Nat.le_of_ble_eq_true rfl, Nat.le_of_ble_eq_true rfl⟩) ⟨gPre_blind, g_recv hK hP hy0 (gce_Mo hy0.1) rfl, g_pre hK hSt hS hP hw⟩ rfl rfl hl.1 rfl (lv_room (Nat.le_of_ble_eq_true rfl)) d_Mo_take_139 ⟨Nat.zero_le _, Nat.zero_le _⟩) hS (fun S18 H locs hw hP hS => ?_)
  refine lv_aload_n hx hb d_Mo_take_142 rfl (lv_at hl 0 rfl) ?_
  refine g_get hx hb hts (fun w h => List.mem_cons_of_mem _ (in_Mo w h)) hown hK hP hx0 (gce_Mo hx0.1) rfl 27 (by decide) (hts _ (List.mem_cons_of_mem _ gw_834)) rfl d_Mo_take_143 ?_
  exact W.iret (v := (S18.1 x0 27)) hx hb hr (fun t ht hW => ⟨⟨(S18.1 x0 27), S18, rfl, hw, by rw [ht]; exact hP, va_K.moved hW.alike hK⟩, hS.F ht⟩) hS.2.2 d_Mo_take_146
set_option maxHeartbeats 4000000 in
set_option maxRecDepth 100000 in
theorem mw_Mo_take_114 {p : Program} {l : Launch} {e : Env} {s : State} {m : MethodId} {args : Array Value} {below : List Frame} {meth : Method} {c : Code} {Y : gY} {Q : Int32 → gS → Prop} (C : gCx p s m args meth c Y "LogDiskModel" c_Mo_take 6 (Option.some Jvm.ClassFile.FieldType.int) w_Mo_take) : ∀ (x0 : gI) (x1 : Int32) (x5 : Int32)  (S : gS) (H : Heap) (locs : List Loc) (ls : Array Slot), gis Y 10 x0 → wp_Mo_take_114 (gLn Y) Q x0 x1 x5 S → gWd Y S H → va_S (gA Y s.heap.size) s.heap H locs → lv_has ls 6 [(0, .ref (gad Y x0)), (1, .int x1), (5, .int x5)] → W p l e (gRm 5 111) s m args below meth c H locs 0 0 (MQ below (va_Qi Q (gB Y) (gA Y s.heap.size)) args s 0 0 (gA Y s.heap.size)) (F0 m 114 ls []) := by
  have C0 := C
  obtain ⟨hx, hb, hml, hown, hts, hr, hlocks, hK, hY, hSt⟩ := C
  intro x0 x1 x5 S H locs ls hx0 hw hP hS hl
  unfold wp_Mo_take_114 at hw
  refine lv_aload_n hx hb d_Mo_take_114 rfl (lv_at hl 0 rfl) ?_
  refine lv_iload_n hx hb d_Mo_take_115 rfl (lv_at hl 1 rfl) ?_
  refine lv_iload hx hb d_Mo_take_116 (lv_at hl 2 rfl) ?_
  refine lv_if_eq (tgt := 130) hx hb d_Mo_take_118 (by decide) (fun c17 => ?_) (fun c17 => ?_)
  · replace hw := hw.1 c17
    refine lv_aload_n hx hb d_Mo_take_130 rfl (lv_at hl 0 rfl) ?_
    refine g_get hx hb hts (fun w h => List.mem_cons_of_mem _ (in_Mo w h)) hown hK hP hx0 (gce_Mo hx0.1) rfl 27 (by decide) (hts _ (List.mem_cons_of_mem _ gw_834)) rfl d_Mo_take_131 ?_
    refine lv_aload_n hx hb d_Mo_take_134 rfl (lv_at hl 0 rfl) ?_
    refine g_get hx hb hts (fun w h => List.mem_cons_of_mem _ (in_Mo w h)) hown hK hP hx0 (gce_Mo hx0.1) rfl 23 (by decide) (hts _ (List.mem_cons_of_mem _ gw_830)) rfl d_Mo_take_135 ?_
    refine lv_isub hx hb d_Mo_take_138 ?_
    exact mw_Mo_take_139 C0 x0 x0 x1 ((S.1 x0 27) - (S.1 x0 23)) S H locs ls hx0 hx0 hw hP hS (lv_sub hl [0] rfl)
  · replace hw := hw.2 c17
    refine lv_iload_n hx hb d_Mo_take_121 rfl (lv_at hl 1 rfl) ?_
    refine lv_aload_n hx hb d_Mo_take_122 rfl (lv_at hl 0 rfl) ?_
    refine g_get hx hb hts (fun w h => List.mem_cons_of_mem _ (in_Mo w h)) hown hK hP hx0 (gce_Mo hx0.1) rfl 23 (by decide) (hts _ (List.mem_cons_of_mem _ gw_830)) rfl d_Mo_take_123 ?_
    refine lv_isub hx hb d_Mo_take_126 ?_
    refine lv_goto (tgt := 139) hx hb d_Mo_take_127 (by decide) ?_
    exact mw_Mo_take_139 C0 x0 x0 x1 (x1 - (S.1 x0 23)) S H locs ls hx0 hx0 hw hP hS (lv_sub hl [0] rfl)
set_option maxHeartbeats 4000000 in
set_option maxRecDepth 100000 in
theorem mw_Mo_take_111 {p : Program} {l : Launch} {e : Env} {s : State} {m : MethodId} {args : Array Value} {below : List Frame} {meth : Method} {c : Code} {Y : gY} {Q : Int32 → gS → Prop} (C : gCx p s m args meth c Y "LogDiskModel" c_Mo_take 6 (Option.some Jvm.ClassFile.FieldType.int) w_Mo_take) : ∀ (x0 : gI) (x1 : Int32) (x5 : Int32) (y0 : gI) (y1 : Int32) (S : gS) (H : Heap) (locs : List Loc) (ls : Array Slot), gis Y 10 x0 → gis Y 10 y0 → wp_Mo_take_111 (gLn Y) Q x0 x1 x5 y0 y1 S → gWd Y S H → va_S (gA Y s.heap.size) s.heap H locs → lv_has ls 6 [(0, .ref (gad Y x0)), (1, .int x1), (5, .int x5)] → W p l e (gRm 5 111) s m args below meth c H locs 0 0 (MQ below (va_Qi Q (gB Y) (gA Y s.heap.size)) args s 0 0 (gA Y s.heap.size)) (F0 m 111 ls [.int y1, .ref (gad Y y0)]) := by
  have C0 := C
  obtain ⟨hx, hb, hml, hown, hts, hr, hlocks, hK, hY, hSt⟩ := C
  intro x0 x1 x5 y0 y1 S H locs ls hx0 hy0 hw hP hS hl
  unfold wp_Mo_take_111 at hw
  refine g_put (ty := .int) (v := .int y1) (S' := gset S y0 27 y1) hx hb hts (fun w h => List.mem_cons_of_mem _ (in_Mo w h)) ty_Mo tyok_Mo nm_Mo hown hK hY.1 hP hS hy0 (gce_Mo hy0.1) rfl 27 (by decide) (hts _ (List.mem_cons_of_mem _ gw_834)) rfl (by decide +kernel) rfl rfl (Nat.le_of_ble_eq_true rfl) (gp_Mo_last hy0.1) gce_gset d_Mo_take_111 (fun H locs hP hS => ?_)
  obtain ⟨S20, eS20⟩ : ∃ z, z = gset S y0 27 y1 := ⟨_, rfl⟩
  rw [← eS20] at hP
  replace hw := hw S20 eS20
  exact mw_Mo_take_114 C0 x0 x1 x5 S20 H locs ls hx0 hw hP hS (lv_sub hl [0, 1, 2] rfl)
set_option maxHeartbeats 4000000 in
set_option maxRecDepth 100000 in
theorem mw_Mo_take_69 {p : Program} {l : Launch} {e : Env} {s : State} {m : MethodId} {args : Array Value} {below : List Frame} {meth : Method} {c : Code} {Y : gY} {Q : Int32 → gS → Prop} (C : gCx p s m args meth c Y "LogDiskModel" c_Mo_take 6 (Option.some Jvm.ClassFile.FieldType.int) w_Mo_take) : ∀ (x0 : gI) (x1 : Int32) (x2 : Int32) (x3 : Int32) (x4 : Int32) (y0 : Int32) (S : gS) (H : Heap) (locs : List Loc) (ls : Array Slot), gis Y 10 x0 → wp_Mo_take_69 (gLn Y) Q x0 x1 x2 x3 x4 y0 S → gWd Y S H → va_S (gA Y s.heap.size) s.heap H locs → lv_has ls 6 [(0, .ref (gad Y x0)), (1, .int x1), (2, .int x2), (3, .int x3), (4, .int x4)] → W p l e (gRm 5 111) s m args below meth c H locs 0 0 (MQ below (va_Qi Q (gB Y) (gA Y s.heap.size)) args s 0 0 (gA Y s.heap.size)) (F0 m 69 ls [.int y0]) := by
  have C0 := C
  obtain ⟨hx, hb, hml, hown, hts, hr, hlocks, hK, hY, hSt⟩ := C
  intro x0 x1 x2 x3 x4 y0 S H locs ls hx0 hw hP hS hl
  unfold wp_Mo_take_69 at hw
  refine lv_istore (lv' := [(5, .int y0), (0, .ref (gad Y x0)), (1, .int x1), (2, .int x2), (3, .int x3), (4, .int x4)]) hx hb d_Mo_take_69 hl (by decide) rfl (fun ls hl => ?_)
  refine lv_aload_n hx hb d_Mo_take_71 rfl (lv_at hl 1 rfl) ?_
  refine lv_iload_n hx hb d_Mo_take_72 rfl (lv_at hl 2 rfl) ?_
  refine lv_iload_n hx hb d_Mo_take_73 rfl (lv_at hl 3 rfl) ?_
  refine lv_iload_n hx hb d_Mo_take_74 rfl (lv_at hl 4 rfl) ?_
  refine lv_iload hx hb d_Mo_take_75 (lv_at hl 5 rfl) ?_
  refine g_calli (va_runV (As := [.int x1, .int x2, .int x3, .int x4]) (rest := []) ⟨hx, hb, hml, hown, hts⟩ (k_Mo_write l Y hY H.size x0 x1 x2 x3 x4 hx0 S _) (cwV 4 hts (gG_V gw_1013 gw_1015 gs_37 gw_12 gw_1016) rfl rfl rfl (by decide +kernel) ⟨Nat.le_of_ble_eq_true rfl, Nat.le_of_ble_eq_true rfl⟩) ⟨gPre_blind, g_recv hK hP hx0 (gce_Mo hx0.1) rfl, g_pre hK hSt hS hP hw⟩ rfl rfl hl.1 rfl (lv_room (Nat.le_of_ble_eq_true rfl)) d_Mo_take_77 ⟨Nat.zero_le _, Nat.zero_le _⟩) hS (fun r14 S13 H locs hw hP hS => ?_)
  refine lv_if_ne (tgt := 89) hx hb d_Mo_take_80 (by decide) (fun c15 => ?_) (fun c15 => ?_)
  · replace hw := hw.1 c15
    refine lv_iload hx hb d_Mo_take_89 (lv_at hl 0 rfl) ?_
    refine lv_if_ne (tgt := 114) hx hb d_Mo_take_91 (by decide) (fun c16 => ?_) (fun c16 => ?_)
    · replace hw := hw.1 c16
      exact mw_Mo_take_114 C0 x0 x1 y0 S13 H locs ls hx0 hw hP hS (lv_sub hl [1, 2, 0] rfl)
    · replace hw := hw.2 c16
      refine lv_aload_n hx hb d_Mo_take_94 rfl (lv_at hl 1 rfl) ?_
      refine lv_iload_n hx hb d_Mo_take_95 rfl (lv_at hl 2 rfl) ?_
      refine lv_aload_n hx hb d_Mo_take_96 rfl (lv_at hl 1 rfl) ?_
      refine g_get hx hb hts (fun w h => List.mem_cons_of_mem _ (in_Mo w h)) hown hK hP hx0 (gce_Mo hx0.1) rfl 27 (by decide) (hts _ (List.mem_cons_of_mem _ gw_834)) rfl d_Mo_take_97 ?_
      refine lv_icmp_le (tgt := 110) hx hb d_Mo_take_100 (by decide) (fun c19 => ?_) (fun c19 => ?_)
      · replace hw := hw.1 c19
        refine lv_iload_n hx hb d_Mo_take_110 rfl (lv_at hl 2 rfl) ?_
        exact mw_Mo_take_111 C0 x0 x1 y0 x0 x1 S13 H locs ls hx0 hx0 hw hP hS (lv_sub hl [1, 2, 0] rfl)
      · replace hw := hw.2 c19
        refine lv_aload_n hx hb d_Mo_take_103 rfl (lv_at hl 1 rfl) ?_
        refine g_get hx hb hts (fun w h => List.mem_cons_of_mem _ (in_Mo w h)) hown hK hP hx0 (gce_Mo hx0.1) rfl 27 (by decide) (hts _ (List.mem_cons_of_mem _ gw_834)) rfl d_Mo_take_104 ?_
        refine lv_goto (tgt := 111) hx hb d_Mo_take_107 (by decide) ?_
        exact mw_Mo_take_111 C0 x0 x1 y0 x0 (S13.1 x0 27) S13 H locs ls hx0 hx0 hw hP hS (lv_sub hl [1, 2, 0] rfl)
  · replace hw := hw.2 c15
    refine lv_aload_n hx hb d_Mo_take_83 rfl (lv_at hl 1 rfl) ?_
    refine lv_iconst (v := 2) hx hb d_Mo_take_84 (by decide) ?_
    refine g_calli (va_runV (As := [.int 2]) (rest := []) ⟨hx, hb, hml, hown, hts⟩ (k_Mo_fail l Y hY H.size x0 2 hx0 S13 _) (cwV 1 hts (gG_V gw_925 gw_927 gs_21 gw_12 gw_928) rfl rfl rfl (by decide +kernel) ⟨Nat.le_of_ble_eq_true rfl, Nat.le_of_ble_eq_true rfl⟩) ⟨gPre_blind, g_recv hK hP hx0 (gce_Mo hx0.1) rfl, g_pre hK hSt hS hP hw⟩ rfl rfl hl.1 rfl (lv_room (Nat.le_of_ble_eq_true rfl)) d_Mo_take_85 ⟨Nat.zero_le _, Nat.zero_le _⟩) hS (fun r22 S21 H locs hw hP hS => ?_)
    exact W.iret (v := r22) hx hb hr (fun t ht hW => ⟨⟨r22, S21, rfl, hw, by rw [ht]; exact hP, va_K.moved hW.alike hK⟩, hS.F ht⟩) hS.2.2 d_Mo_take_88
set_option maxHeartbeats 4000000 in
set_option maxRecDepth 100000 in
theorem mw_Mo_take_68 {p : Program} {l : Launch} {e : Env} {s : State} {m : MethodId} {args : Array Value} {below : List Frame} {meth : Method} {c : Code} {Y : gY} {Q : Int32 → gS → Prop} (C : gCx p s m args meth c Y "LogDiskModel" c_Mo_take 6 (Option.some Jvm.ClassFile.FieldType.int) w_Mo_take) : ∀ (x0 : gI) (x1 : Int32) (x2 : Int32) (x3 : Int32) (x4 : Int32)  (S : gS) (H : Heap) (locs : List Loc) (ls : Array Slot), gis Y 10 x0 → wp_Mo_take_68 (gLn Y) Q x0 x1 x2 x3 x4 S → gWd Y S H → va_S (gA Y s.heap.size) s.heap H locs → lv_has ls 6 [(0, .ref (gad Y x0)), (1, .int x1), (2, .int x2), (3, .int x3), (4, .int x4)] → W p l e (gRm 5 111) s m args below meth c H locs 0 0 (MQ below (va_Qi Q (gB Y) (gA Y s.heap.size)) args s 0 0 (gA Y s.heap.size)) (F0 m 68 ls []) := by
  have C0 := C
  obtain ⟨hx, hb, hml, hown, hts, hr, hlocks, hK, hY, hSt⟩ := C
  intro x0 x1 x2 x3 x4 S H locs ls hx0 hw hP hS hl
  unfold wp_Mo_take_68 at hw
  refine lv_iconst (v := 0) hx hb d_Mo_take_68 (by decide) ?_
  exact mw_Mo_take_69 C0 x0 x1 x2 x3 x4 0 S H locs ls hx0 hw hP hS (lv_sub hl [0, 1, 2, 3, 4] rfl)
set_option maxHeartbeats 4000000 in
set_option maxRecDepth 100000 in
theorem mw_Mo_take {p : Program} {l : Launch} {e : Env} {s : State} {m : MethodId} {args : Array Value} {below : List Frame} {meth : Method} {c : Code} {Y : gY} {Q : Int32 → gS → Prop} (C : gCx p s m args meth c Y "LogDiskModel" c_Mo_take 6 (Option.some Jvm.ClassFile.FieldType.int) w_Mo_take) : ∀ (x0 : gI) (x1 : Int32) (x2 : Int32) (x3 : Int32)  (S : gS) (H : Heap) (locs : List Loc) (ls : Array Slot), gis Y 10 x0 → wp_Mo_take (gLn Y) Q x0 x1 x2 x3 S → gWd Y S H → va_S (gA Y s.heap.size) s.heap H locs → lv_has ls 6 [(0, .ref (gad Y x0)), (1, .int x1), (2, .int x2), (3, .int x3)] → W p l e (gRm 5 111) s m args below meth c H locs 0 0 (MQ below (va_Qi Q (gB Y) (gA Y s.heap.size)) args s 0 0 (gA Y s.heap.size)) (F0 m 0 ls []) := by
  have C0 := C
  obtain ⟨hx, hb, hml, hown, hts, hr, hlocks, hK, hY, hSt⟩ := C
  intro x0 x1 x2 x3 S H locs ls hx0 hw hP hS hl
  unfold wp_Mo_take at hw
  refine lv_aload_n hx hb d_Mo_take_0 rfl (lv_at hl 0 rfl) ?_
  refine lv_iconst (v := 0) hx hb d_Mo_take_1 (by decide) ?_
  refine g_put (ty := .int) (v := .int 0) (S' := gset S x0 0 0) hx hb hts (fun w h => List.mem_cons_of_mem _ (in_Mo w h)) ty_Mo tyok_Mo nm_Mo hown hK hY.1 hP hS hx0 (gce_Mo hx0.1) rfl 0 (by decide) (hts _ (List.mem_cons_of_mem _ gw_807)) rfl (by decide +kernel) rfl rfl (Nat.le_of_ble_eq_true rfl) (gp_Mo_thrown hx0.1) gce_gset d_Mo_take_2 (fun H locs hP hS => ?_)
  obtain ⟨S1, eS1⟩ : ∃ z, z = gset S x0 0 0 := ⟨_, rfl⟩
  rw [← eS1] at hP
  replace hw := hw S1 eS1
  refine lv_aload_n hx hb d_Mo_take_5 rfl (lv_at hl 0 rfl) ?_
  refine g_get hx hb hts (fun w h => List.mem_cons_of_mem _ (in_Mo w h)) hown hK hP hx0 (gce_Mo hx0.1) rfl 33 (by decide) (hts _ (List.mem_cons_of_mem _ gw_840)) rfl d_Mo_take_6 ?_
  refine lv_topi (fun v4_2 ev4_2 => ?_)
  replace hw := hw v4_2 ev4_2
  refine lv_istore (lv' := [(4, .int v4_2), (0, .ref (gad Y x0)), (1, .int x1), (2, .int x2), (3, .int x3)]) hx hb d_Mo_take_9 hl (by decide) rfl (fun ls hl => ?_)
  refine lv_aload_n hx hb d_Mo_take_11 rfl (lv_at hl 1 rfl) ?_
  refine lv_iconst (v := 0) hx hb d_Mo_take_12 (by decide) ?_
  refine g_put (ty := .int) (v := .int 0) (S' := gset S1 x0 33 0) hx hb hts (fun w h => List.mem_cons_of_mem _ (in_Mo w h)) ty_Mo tyok_Mo nm_Mo hown hK hY.1 hP hS hx0 (gce_Mo hx0.1) rfl 33 (by decide) (hts _ (List.mem_cons_of_mem _ gw_840)) rfl (by decide +kernel) rfl rfl (Nat.le_of_ble_eq_true rfl) (gp_Mo_tape hx0.1) gce_gset d_Mo_take_13 (fun H locs hP hS => ?_)
  obtain ⟨S3, eS3⟩ : ∃ z, z = gset S1 x0 33 0 := ⟨_, rfl⟩
  rw [← eS3] at hP
  replace hw := hw S3 eS3
  refine lv_iload_n hx hb d_Mo_take_16 rfl (lv_at hl 2 rfl) ?_
  refine lv_aload_n hx hb d_Mo_take_17 rfl (lv_at hl 1 rfl) ?_
  refine g_get hx hb hts (fun w h => List.mem_cons_of_mem _ (in_Mo w h)) hown hK hP hx0 (gce_Mo hx0.1) rfl 23 (by decide) (hts _ (List.mem_cons_of_mem _ gw_830)) rfl d_Mo_take_18 ?_
  refine lv_iconst (v := 1) hx hb d_Mo_take_21 (by decide) ?_
  refine lv_iadd hx hb d_Mo_take_22 ?_
  refine lv_ldc (v := 1000000) hx hb hown (hts _ (List.mem_cons_of_mem _ gw_937)) d_Mo_take_23 ?_
  refine g_calli (va_runS (As := [.int x1, .int ((S3.1 x0 23) + 1), .int 1000000]) (rest := []) ⟨hx, hb, hml, hown, hts⟩ (k_Mo_within l Y hY H.size x1 ((S3.1 x0 23) + 1) 1000000 S3 _) (va_cwS 3 hts (gG_S gw_922 gw_923 gw_12 gw_924) rfl rfl rfl (by decide +kernel) ⟨Nat.le_of_ble_eq_true rfl, Nat.le_of_ble_eq_true rfl⟩) ⟨gPre_blind, g_pre hK hSt hS hP hw⟩ rfl rfl hl.1 rfl (lv_room (Nat.le_of_ble_eq_true rfl)) d_Mo_take_25 ⟨Nat.zero_le _, Nat.zero_le _⟩) hS (fun r5 S4 H locs hw hP hS => ?_)
  refine lv_if_eq (tgt := 41) hx hb d_Mo_take_28 (by decide) (fun c6 => ?_) (fun c6 => ?_)
  · replace hw := hw.1 c6
    exact mw_Mo_take_41 C0 x0 S4 H locs ls hx0 hw hP hS (lv_sub hl [1] rfl)
  · replace hw := hw.2 c6
    refine lv_iload_n hx hb d_Mo_take_31 rfl (lv_at hl 3 rfl) ?_
    refine lv_iconst (v := 0) hx hb d_Mo_take_32 (by decide) ?_
    refine lv_ldc (v := 1000000) hx hb hown (hts _ (List.mem_cons_of_mem _ gw_937)) d_Mo_take_33 ?_
    refine g_calli (va_runS (As := [.int x2, .int 0, .int 1000000]) (rest := []) ⟨hx, hb, hml, hown, hts⟩ (k_Mo_within l Y hY H.size x2 0 1000000 S4 _) (va_cwS 3 hts (gG_S gw_922 gw_923 gw_12 gw_924) rfl rfl rfl (by decide +kernel) ⟨Nat.le_of_ble_eq_true rfl, Nat.le_of_ble_eq_true rfl⟩) ⟨gPre_blind, g_pre hK hSt hS hP hw⟩ rfl rfl hl.1 rfl (lv_room (Nat.le_of_ble_eq_true rfl)) d_Mo_take_35 ⟨Nat.zero_le _, Nat.zero_le _⟩) hS (fun r10 S9 H locs hw hP hS => ?_)
    refine lv_if_ne (tgt := 47) hx hb d_Mo_take_38 (by decide) (fun c11 => ?_) (fun c11 => ?_)
    · replace hw := hw.1 c11
      refine lv_iload_n hx hb d_Mo_take_47 rfl (lv_at hl 2 rfl) ?_
      refine lv_aload_n hx hb d_Mo_take_48 rfl (lv_at hl 1 rfl) ?_
      refine g_get hx hb hts (fun w h => List.mem_cons_of_mem _ (in_Mo w h)) hown hK hP hx0 (gce_Mo hx0.1) rfl 27 (by decide) (hts _ (List.mem_cons_of_mem _ gw_834)) rfl d_Mo_take_49 ?_
      refine lv_icmp_gt (tgt := 68) hx hb d_Mo_take_52 (by decide) (fun c12 => ?_) (fun c12 => ?_)
      · replace hw := hw.1 c12
        exact mw_Mo_take_68 C0 x0 x1 x2 x3 v4_2 S9 H locs ls hx0 hw hP hS (lv_sub hl [1, 2, 3, 4, 0] rfl)
      · replace hw := hw.2 c12
        refine lv_aload_n hx hb d_Mo_take_55 rfl (lv_at hl 1 rfl) ?_
        refine lv_iload_n hx hb d_Mo_take_56 rfl (lv_at hl 2 rfl) ?_
        refine g_calli (va_runV (As := [.int x1]) (rest := []) ⟨hx, hb, hml, hown, hts⟩ (k_Mo_termOf l Y hY H.size x0 x1 hx0 S9 _) (cwV 1 hts (gG_V gw_973 gw_975 gs_29 gw_12 gw_976) rfl rfl rfl (by decide +kernel) ⟨Nat.le_of_ble_eq_true rfl, Nat.le_of_ble_eq_true rfl⟩) ⟨gPre_blind, g_recv hK hP hx0 (gce_Mo hx0.1) rfl, g_pre hK hSt hS hP hw⟩ rfl rfl hl.1 rfl (lv_room (Nat.le_of_ble_eq_true rfl)) d_Mo_take_57 ⟨Nat.zero_le _, Nat.zero_le _⟩) hS (fun r24 S23 H locs hw hP hS => ?_)
        refine lv_iload_n hx hb d_Mo_take_60 rfl (lv_at hl 3 rfl) ?_
        refine lv_icmp_ne (tgt := 68) hx hb d_Mo_take_61 (by decide) (fun c25 => ?_) (fun c25 => ?_)
        · replace hw := hw.1 c25
          exact mw_Mo_take_68 C0 x0 x1 x2 x3 v4_2 S23 H locs ls hx0 hw hP hS (lv_sub hl [1, 2, 3, 4, 0] rfl)
        · replace hw := hw.2 c25
          refine lv_iconst (v := 1) hx hb d_Mo_take_64 (by decide) ?_
          refine lv_goto (tgt := 69) hx hb d_Mo_take_65 (by decide) ?_
          exact mw_Mo_take_69 C0 x0 x1 x2 x3 v4_2 1 S23 H locs ls hx0 hw hP hS (lv_sub hl [1, 2, 3, 4, 0] rfl)
    · replace hw := hw.2 c11
      exact mw_Mo_take_41 C0 x0 S9 H locs ls hx0 hw hP hS (lv_sub hl [1] rfl)
set_option maxHeartbeats 4000000 in
set_option maxRecDepth 100000 in
theorem k_Mo_take (l : Launch) (Y : gY) (hY : gOK Y) (sz : Nat) (x0 : gI) (x1 : Int32) (x2 : Int32) (x3 : Int32)  (hx0 : gis Y 10 x0) (S : gS) (Q : Int32 → gS → Prop) : Met l y_Mo_take w_Mo_take (gRm 5 111) (gPre Y [.ref (gad Y x0), .int x1, .int x2, .int x3] S sz (wp_Mo_take (gLn Y) Q x0 x1 x2 x3 S)) (va_Qi Q (gB Y) (gA Y sz)) 0 0 (gA Y sz) := by
  refine Met.ofW (cc := c_Mo_take) (maxL := 6) (ret := (Option.some Jvm.ClassFile.FieldType.int)) (by decide) rfl ?_
  intro p e s m args below meth c s₁ B hml hv
  obtain ⟨rfl, hsz, hP, hK, hSt, hw⟩ := hv
  subst hsz
  have hts := atoms_spec (ws := w_Mo_take) B.pre
  have hl := lv_entry ([.ref (gad Y x0), .int x1, .int x2, .int x3]) (n := 6) (Nat.le_of_ble_eq_true rfl)
  rw [lg_entry_eq]
  generalize (lg_sl ([.ref (gad Y x0), .int x1, .int x2, .int x3]) ++ List.replicate (6 - (lg_sl ([.ref (gad Y x0), .int x1, .int x2, .int x3])).length) Slot.unset).toArray = ls at hl ⊢
  exact mw_Mo_take ⟨B.exec, B.bytes, hml, findClass_of_methodNamed B.named, hts, B.returns, B.notSynchronized, hK, hY, hSt⟩ x0 x1 x2 x3 S s.heap [] ls hx0 hw hP va_S.rf hl

def wp_Mo_sync_12 (Ln : gI → Nat) (Q : Int32 → gS → Prop) : Nat → gI → Int32 → Int32 → gS → Prop
  | 0, _, _, _, _ => False
  | n12 + 1, x0, x1, x2, S => ((16 ≤ x2) → (∀ S4 : gS, S4 = gset S x0 29 0 → (∀ S5 : gS, S5 = gset S4 x0 28 0 → ((x1 = 0 ∨ x1 = 1) ∧ Q x1 S5)))) ∧ ((¬ 16 ≤ x2) → (wp_Mo_settle Ln (fun S6 => ∀ v2_7 : Int32, v2_7 = x2 + 1 → (wp_Mo_sync_12 Ln Q n12 x0 x1 v2_7 S6)) x0 x2 S))
def wp_Mo_sync (Ln : gI → Nat) (Q : Int32 → gS → Prop) (x0 : gI)  (S : gS) : Prop :=
  ∀ S1 : gS, S1 = gset S x0 0 0 → (∀ v1_2 : Int32, v1_2 = S1.1 x0 29 → (∃ n12 : Nat, wp_Mo_sync_12 Ln Q n12 x0 v1_2 0 S1))
set_option maxHeartbeats 4000000 in
set_option maxRecDepth 100000 in
theorem mw_Mo_sync_12 {p : Program} {l : Launch} {e : Env} {s : State} {m : MethodId} {args : Array Value} {below : List Frame} {meth : Method} {c : Code} {Y : gY} {Q : Int32 → gS → Prop} (C : gCx p s m args meth c Y "LogDiskModel" c_Mo_sync 3 (Option.some Jvm.ClassFile.FieldType.boolean) w_Mo_sync) : ∀ (n : Nat), ∀ (x0 : gI) (x1 : Int32) (x2 : Int32)  (S : gS) (H : Heap) (locs : List Loc) (ls : Array Slot), gis Y 10 x0 → wp_Mo_sync_12 (gLn Y) Q n x0 x1 x2 S → gWd Y S H → va_S (gA Y s.heap.size) s.heap H locs → lv_has ls 3 [(0, .ref (gad Y x0)), (1, .int x1), (2, .int x2)] → W p l e (gRm 2 44) s m args below meth c H locs 0 0 (MQ below (va_Qi Q (gB Y) (gA Y s.heap.size)) args s 0 0 (gA Y s.heap.size)) (F0 m 12 ls []) := by
  have C0 := C
  obtain ⟨hx, hb, hml, hown, hts, hr, hlocks, hK, hY, hSt⟩ := C
  intro n
  induction n with
  | zero =>
    intro x0 x1 x2 S H locs ls hx0 hw
    exact False.elim hw
  | succ n ih =>
    intro x0 x1 x2 S H locs ls hx0 hw hP hS hl
    unfold wp_Mo_sync_12 at hw
    refine lv_iload_n hx hb d_Mo_sync_12 rfl (lv_at hl 2 rfl) ?_
    refine lv_bipush (v := 16) hx hb d_Mo_sync_13 (by decide) ?_
    refine lv_icmp_ge (tgt := 29) hx hb d_Mo_sync_15 (by decide) (fun c3 => ?_) (fun c3 => ?_)
    · replace hw := hw.1 c3
      refine lv_aload_n hx hb d_Mo_sync_29 rfl (lv_at hl 0 rfl) ?_
      refine lv_iconst (v := 0) hx hb d_Mo_sync_30 (by decide) ?_
      refine g_put (ty := .boolean) (v := .int 0) (S' := gset S x0 29 0) hx hb hts (fun w h => List.mem_cons_of_mem _ (in_Mo w h)) ty_Mo tyok_Mo nm_Mo hown hK hY.1 hP hS hx0 (gce_Mo hx0.1) rfl 29 (by decide) (hts _ (List.mem_cons_of_mem _ gw_836)) rfl (by decide +kernel) rfl rfl (Nat.le_of_ble_eq_true rfl) (gp_Mo_dirty hx0.1) gce_gset d_Mo_sync_31 (fun H locs hP hS => ?_)
      obtain ⟨S4, eS4⟩ : ∃ z, z = gset S x0 29 0 := ⟨_, rfl⟩
      rw [← eS4] at hP
      replace hw := hw S4 eS4
      refine lv_aload_n hx hb d_Mo_sync_34 rfl (lv_at hl 0 rfl) ?_
      refine lv_iconst (v := 0) hx hb d_Mo_sync_35 (by decide) ?_
      refine g_put (ty := .boolean) (v := .int 0) (S' := gset S4 x0 28 0) hx hb hts (fun w h => List.mem_cons_of_mem _ (in_Mo w h)) ty_Mo tyok_Mo nm_Mo hown hK hY.1 hP hS hx0 (gce_Mo hx0.1) rfl 28 (by decide) (hts _ (List.mem_cons_of_mem _ gw_835)) rfl (by decide +kernel) rfl rfl (Nat.le_of_ble_eq_true rfl) (gp_Mo_slotSince hx0.1) gce_gset d_Mo_sync_36 (fun H locs hP hS => ?_)
      obtain ⟨S5, eS5⟩ : ∃ z, z = gset S4 x0 28 0 := ⟨_, rfl⟩
      rw [← eS5] at hP
      replace hw := hw S5 eS5
      refine lv_iload_n hx hb d_Mo_sync_39 rfl (lv_at hl 1 rfl) ?_
      obtain ⟨hbo, hw⟩ := hw
      exact W.zret (v := x1) hx hb hr (g_nb hbo) (fun t ht hW => ⟨⟨x1, S5, rfl, hw, by rw [ht]; exact hP, va_K.moved hW.alike hK⟩, hS.F ht⟩) hS.2.2 d_Mo_sync_40
    · replace hw := hw.2 c3
      refine lv_aload_n hx hb d_Mo_sync_18 rfl (lv_at hl 0 rfl) ?_
      refine lv_iload_n hx hb d_Mo_sync_19 rfl (lv_at hl 2 rfl) ?_
      refine g_callv (va_runV (As := [.int x2]) (rest := []) ⟨hx, hb, hml, hown, hts⟩ (k_Mo_settle l Y hY H.size x0 x2 hx0 S _) (cwV 1 hts (gG_V gw_1017 gw_1019 gs_38 gw_12 gw_1020) rfl rfl rfl (by decide +kernel) ⟨Nat.le_of_ble_eq_true rfl, Nat.le_of_ble_eq_true rfl⟩) ⟨gPre_blind, g_recv hK hP hx0 (gce_Mo hx0.1) rfl, g_pre hK hSt hS hP hw⟩ rfl rfl hl.1 rfl (lv_room (Nat.le_of_ble_eq_true rfl)) d_Mo_sync_20 ⟨Nat.zero_le _, Nat.zero_le _⟩) hS (fun S6 H locs hw hP hS => ?_)
      obtain ⟨v2_7, ev2_7⟩ : ∃ y : Int32, y = x2 + 1 := ⟨_, rfl⟩
      replace hw := hw v2_7 ev2_7
      refine lv_iinc (v := v2_7) (lv' := [(2, .int v2_7), (0, .ref (gad Y x0)), (1, .int x1)]) hx hb d_Mo_sync_23 hl (k := 2) rfl (by rw [ev2_7]; rfl) (by decide) rfl (fun ls hl => ?_)
      refine lv_goto (tgt := 12) hx hb d_Mo_sync_26 (by decide) ?_
      exact ih x0 x1 v2_7 S6 H locs ls hx0 hw hP hS (lv_sub hl [1, 2, 0] rfl)
set_option maxHeartbeats 4000000 in
set_option maxRecDepth 100000 in
theorem mw_Mo_sync {p : Program} {l : Launch} {e : Env} {s : State} {m : MethodId} {args : Array Value} {below : List Frame} {meth : Method} {c : Code} {Y : gY} {Q : Int32 → gS → Prop} (C : gCx p s m args meth c Y "LogDiskModel" c_Mo_sync 3 (Option.some Jvm.ClassFile.FieldType.boolean) w_Mo_sync) : ∀ (x0 : gI)  (S : gS) (H : Heap) (locs : List Loc) (ls : Array Slot), gis Y 10 x0 → wp_Mo_sync (gLn Y) Q x0 S → gWd Y S H → va_S (gA Y s.heap.size) s.heap H locs → lv_has ls 3 [(0, .ref (gad Y x0))] → W p l e (gRm 2 44) s m args below meth c H locs 0 0 (MQ below (va_Qi Q (gB Y) (gA Y s.heap.size)) args s 0 0 (gA Y s.heap.size)) (F0 m 0 ls []) := by
  have C0 := C
  obtain ⟨hx, hb, hml, hown, hts, hr, hlocks, hK, hY, hSt⟩ := C
  intro x0 S H locs ls hx0 hw hP hS hl
  unfold wp_Mo_sync at hw
  refine lv_aload_n hx hb d_Mo_sync_0 rfl (lv_at hl 0 rfl) ?_
  refine lv_iconst (v := 0) hx hb d_Mo_sync_1 (by decide) ?_
  refine g_put (ty := .int) (v := .int 0) (S' := gset S x0 0 0) hx hb hts (fun w h => List.mem_cons_of_mem _ (in_Mo w h)) ty_Mo tyok_Mo nm_Mo hown hK hY.1 hP hS hx0 (gce_Mo hx0.1) rfl 0 (by decide) (hts _ (List.mem_cons_of_mem _ gw_807)) rfl (by decide +kernel) rfl rfl (Nat.le_of_ble_eq_true rfl) (gp_Mo_thrown hx0.1) gce_gset d_Mo_sync_2 (fun H locs hP hS => ?_)
  obtain ⟨S1, eS1⟩ : ∃ z, z = gset S x0 0 0 := ⟨_, rfl⟩
  rw [← eS1] at hP
  replace hw := hw S1 eS1
  refine lv_aload_n hx hb d_Mo_sync_5 rfl (lv_at hl 0 rfl) ?_
  refine g_get hx hb hts (fun w h => List.mem_cons_of_mem _ (in_Mo w h)) hown hK hP hx0 (gce_Mo hx0.1) rfl 29 (by decide) (hts _ (List.mem_cons_of_mem _ gw_836)) rfl d_Mo_sync_6 ?_
  refine lv_topi (fun v1_2 ev1_2 => ?_)
  replace hw := hw v1_2 ev1_2
  refine lv_istore_n (lv' := [(1, .int v1_2), (0, .ref (gad Y x0))]) hx hb d_Mo_sync_9 rfl hl (by decide) rfl (fun ls hl => ?_)
  refine lv_iconst (v := 0) hx hb d_Mo_sync_10 (by decide) ?_
  refine lv_istore_n (lv' := [(2, .int 0), (1, .int v1_2), (0, .ref (gad Y x0))]) hx hb d_Mo_sync_11 rfl hl (by decide) rfl (fun ls hl => ?_)
  obtain ⟨n, hw⟩ := hw
  exact mw_Mo_sync_12 C0 n x0 v1_2 0 S1 H locs ls hx0 hw hP hS (lv_sub hl [2, 1, 0] rfl)
set_option maxHeartbeats 4000000 in
set_option maxRecDepth 100000 in
theorem k_Mo_sync (l : Launch) (Y : gY) (hY : gOK Y) (sz : Nat) (x0 : gI)  (hx0 : gis Y 10 x0) (S : gS) (Q : Int32 → gS → Prop) : Met l y_Mo_sync w_Mo_sync (gRm 2 44) (gPre Y [.ref (gad Y x0)] S sz (wp_Mo_sync (gLn Y) Q x0 S)) (va_Qi Q (gB Y) (gA Y sz)) 0 0 (gA Y sz) := by
  refine Met.ofW (cc := c_Mo_sync) (maxL := 3) (ret := (Option.some Jvm.ClassFile.FieldType.boolean)) (by decide) rfl ?_
  intro p e s m args below meth c s₁ B hml hv
  obtain ⟨rfl, hsz, hP, hK, hSt, hw⟩ := hv
  subst hsz
  have hts := atoms_spec (ws := w_Mo_sync) B.pre
  have hl := lv_entry ([.ref (gad Y x0)]) (n := 3) (Nat.le_of_ble_eq_true rfl)
  rw [lg_entry_eq]
  generalize (lg_sl ([.ref (gad Y x0)]) ++ List.replicate (3 - (lg_sl ([.ref (gad Y x0)])).length) Slot.unset).toArray = ls at hl ⊢
  exact mw_Mo_sync ⟨B.exec, B.bytes, hml, findClass_of_methodNamed B.named, hts, B.returns, B.notSynchronized, hK, hY, hSt⟩ x0 S s.heap [] ls hx0 hw hP va_S.rf hl
