def wp_Mo_thrown (Ln : gI → Nat) (Q : Int32 → gS → Prop) (x0 : gI)  (S : gS) : Prop :=
  Q (S.1 x0 0) S
set_option maxHeartbeats 4000000 in
set_option maxRecDepth 100000 in
theorem mw_Mo_thrown {p : Program} {l : Launch} {e : Env} {s : State} {m : MethodId} {args : Array Value} {below : List Frame} {meth : Method} {c : Code} {Y : gY} {Q : Int32 → gS → Prop} (C : gCx p s m args meth c Y "LogDiskModel" c_Mo_thrown 1 (Option.some Jvm.ClassFile.FieldType.int) w_Mo_thrown) : ∀ (x0 : gI)  (S : gS) (H : Heap) (locs : List Loc) (ls : Array Slot), gis Y 10 x0 → wp_Mo_thrown (gLn Y) Q x0 S → gWd Y S H → va_S (gA Y s.heap.size) s.heap H locs → lv_has ls 1 [(0, .ref (gad Y x0))] → W p l e (gRm 0 0) s m args below meth c H locs 0 0 (MQ below (va_Qi Q (gB Y) (gA Y s.heap.size)) args s 0 0 (gA Y s.heap.size)) (F0 m 0 ls []) := by
  have C0 := C
  obtain ⟨hx, hb, hml, hown, hts, hr, hlocks, hK, hY, hSt⟩ := C
  intro x0 S H locs ls hx0 hw hP hS hl
  unfold wp_Mo_thrown at hw
  refine lv_aload_n hx hb d_Mo_thrown_0 rfl (lv_at hl 0 rfl) ?_
  refine g_get hx hb hts (fun w h => List.mem_cons_of_mem _ (in_Mo w h)) hown hK hP hx0 (gce_Mo hx0.1) rfl 0 (by decide) (hts _ (List.mem_cons_of_mem _ gw_807)) rfl d_Mo_thrown_1 ?_
  exact W.iret (v := (S.1 x0 0)) hx hb hr (fun t ht hW => ⟨⟨(S.1 x0 0), S, rfl, hw, by rw [ht]; exact hP, va_K.moved hW.alike hK⟩, hS.F ht⟩) hS.2.2 d_Mo_thrown_4
set_option maxHeartbeats 4000000 in
set_option maxRecDepth 100000 in
theorem k_Mo_thrown (l : Launch) (Y : gY) (hY : gOK Y) (sz : Nat) (x0 : gI)  (hx0 : gis Y 10 x0) (S : gS) (Q : Int32 → gS → Prop) : Met l y_Mo_thrown w_Mo_thrown (gRm 0 0) (gPre Y [.ref (gad Y x0)] S sz (wp_Mo_thrown (gLn Y) Q x0 S)) (va_Qi Q (gB Y) (gA Y sz)) 0 0 (gA Y sz) := by
  refine Met.ofW (cc := c_Mo_thrown) (maxL := 1) (ret := (Option.some Jvm.ClassFile.FieldType.int)) (by decide) rfl ?_
  intro p e s m args below meth c s₁ B hml hv
  obtain ⟨rfl, hsz, hP, hK, hSt, hw⟩ := hv
  subst hsz
  have hts := atoms_spec (ws := w_Mo_thrown) B.pre
  have hl := lv_entry ([.ref (gad Y x0)]) (n := 1) (Nat.le_of_ble_eq_true rfl)
  rw [lg_entry_eq]
  generalize (lg_sl ([.ref (gad Y x0)]) ++ List.replicate (1 - (lg_sl ([.ref (gad Y x0)])).length) Slot.unset).toArray = ls at hl ⊢
  exact mw_Mo_thrown ⟨B.exec, B.bytes, hml, findClass_of_methodNamed B.named, hts, B.returns, B.notSynchronized, hK, hY, hSt⟩ x0 S s.heap [] ls hx0 hw hP va_S.rf hl

def wp_Mo_fail (Ln : gI → Nat) (Q : Int32 → gS → Prop) (x0 : gI) (x1 : Int32)  (S : gS) : Prop :=
  ∀ S1 : gS, S1 = gset S x0 0 x1 → (Q 0 S1)
set_option maxHeartbeats 4000000 in
set_option maxRecDepth 100000 in
theorem mw_Mo_fail {p : Program} {l : Launch} {e : Env} {s : State} {m : MethodId} {args : Array Value} {below : List Frame} {meth : Method} {c : Code} {Y : gY} {Q : Int32 → gS → Prop} (C : gCx p s m args meth c Y "LogDiskModel" c_Mo_fail 2 (Option.some Jvm.ClassFile.FieldType.int) w_Mo_fail) : ∀ (x0 : gI) (x1 : Int32)  (S : gS) (H : Heap) (locs : List Loc) (ls : Array Slot), gis Y 10 x0 → wp_Mo_fail (gLn Y) Q x0 x1 S → gWd Y S H → va_S (gA Y s.heap.size) s.heap H locs → lv_has ls 2 [(0, .ref (gad Y x0)), (1, .int x1)] → W p l e (gRm 0 0) s m args below meth c H locs 0 0 (MQ below (va_Qi Q (gB Y) (gA Y s.heap.size)) args s 0 0 (gA Y s.heap.size)) (F0 m 0 ls []) := by
  have C0 := C
  obtain ⟨hx, hb, hml, hown, hts, hr, hlocks, hK, hY, hSt⟩ := C
  intro x0 x1 S H locs ls hx0 hw hP hS hl
  unfold wp_Mo_fail at hw
  refine lv_aload_n hx hb d_Mo_fail_0 rfl (lv_at hl 0 rfl) ?_
  refine lv_iload_n hx hb d_Mo_fail_1 rfl (lv_at hl 1 rfl) ?_
  refine g_put (ty := .int) (v := .int x1) (S' := gset S x0 0 x1) hx hb hts (fun w h => List.mem_cons_of_mem _ (in_Mo w h)) ty_Mo tyok_Mo nm_Mo hown hK hY.1 hP hS hx0 (gce_Mo hx0.1) rfl 0 (by decide) (hts _ (List.mem_cons_of_mem _ gw_807)) rfl (by decide +kernel) rfl rfl (Nat.le_of_ble_eq_true rfl) (gp_Mo_thrown hx0.1) gce_gset d_Mo_fail_2 (fun H locs hP hS => ?_)
  obtain ⟨S1, eS1⟩ : ∃ z, z = gset S x0 0 x1 := ⟨_, rfl⟩
  rw [← eS1] at hP
  replace hw := hw S1 eS1
  refine lv_iconst (v := 0) hx hb d_Mo_fail_5 (by decide) ?_
  exact W.iret (v := 0) hx hb hr (fun t ht hW => ⟨⟨0, S1, rfl, hw, by rw [ht]; exact hP, va_K.moved hW.alike hK⟩, hS.F ht⟩) hS.2.2 d_Mo_fail_6
set_option maxHeartbeats 4000000 in
set_option maxRecDepth 100000 in
theorem k_Mo_fail (l : Launch) (Y : gY) (hY : gOK Y) (sz : Nat) (x0 : gI) (x1 : Int32)  (hx0 : gis Y 10 x0) (S : gS) (Q : Int32 → gS → Prop) : Met l y_Mo_fail w_Mo_fail (gRm 0 0) (gPre Y [.ref (gad Y x0), .int x1] S sz (wp_Mo_fail (gLn Y) Q x0 x1 S)) (va_Qi Q (gB Y) (gA Y sz)) 0 0 (gA Y sz) := by
  refine Met.ofW (cc := c_Mo_fail) (maxL := 2) (ret := (Option.some Jvm.ClassFile.FieldType.int)) (by decide) rfl ?_
  intro p e s m args below meth c s₁ B hml hv
  obtain ⟨rfl, hsz, hP, hK, hSt, hw⟩ := hv
  subst hsz
  have hts := atoms_spec (ws := w_Mo_fail) B.pre
  have hl := lv_entry ([.ref (gad Y x0), .int x1]) (n := 2) (Nat.le_of_ble_eq_true rfl)
  rw [lg_entry_eq]
  generalize (lg_sl ([.ref (gad Y x0), .int x1]) ++ List.replicate (2 - (lg_sl ([.ref (gad Y x0), .int x1])).length) Slot.unset).toArray = ls at hl ⊢
  exact mw_Mo_fail ⟨B.exec, B.bytes, hml, findClass_of_methodNamed B.named, hts, B.returns, B.notSynchronized, hK, hY, hSt⟩ x0 x1 S s.heap [] ls hx0 hw hP va_S.rf hl

def wp_Mo_within (Ln : gI → Nat) (Q : Int32 → gS → Prop) (x0 : Int32) (x1 : Int32) (x2 : Int32)  (S : gS) : Prop :=
  ((x0 < x1) → (Q 0 S)) ∧ ((¬ x0 < x1) → (((x2 < x0) → (Q 0 S)) ∧ ((¬ x2 < x0) → (Q 1 S))))
set_option maxHeartbeats 4000000 in
set_option maxRecDepth 100000 in
theorem mw_Mo_within {p : Program} {l : Launch} {e : Env} {s : State} {m : MethodId} {args : Array Value} {below : List Frame} {meth : Method} {c : Code} {Y : gY} {Q : Int32 → gS → Prop} (C : gCx p s m args meth c Y "LogDiskModel" c_Mo_within 3 (Option.some Jvm.ClassFile.FieldType.boolean) w_Mo_within) : ∀ (x0 : Int32) (x1 : Int32) (x2 : Int32)  (S : gS) (H : Heap) (locs : List Loc) (ls : Array Slot), wp_Mo_within (gLn Y) Q x0 x1 x2 S → gWd Y S H → va_S (gA Y s.heap.size) s.heap H locs → lv_has ls 3 [(0, .int x0), (1, .int x1), (2, .int x2)] → W p l e (gRm 0 0) s m args below meth c H locs 0 0 (MQ below (va_Qi Q (gB Y) (gA Y s.heap.size)) args s 0 0 (gA Y s.heap.size)) (F0 m 0 ls []) := by
  have C0 := C
  obtain ⟨hx, hb, hml, hown, hts, hr, hlocks, hK, hY, hSt⟩ := C
  intro x0 x1 x2 S H locs ls hw hP hS hl
  unfold wp_Mo_within at hw
  refine lv_iload_n hx hb d_Mo_within_0 rfl (lv_at hl 0 rfl) ?_
  refine lv_iload_n hx hb d_Mo_within_1 rfl (lv_at hl 1 rfl) ?_
  refine lv_icmp_lt (tgt := 14) hx hb d_Mo_within_2 (by decide) (fun c1 => ?_) (fun c1 => ?_)
  · replace hw := hw.1 c1
    refine lv_iconst (v := 0) hx hb d_Mo_within_14 (by decide) ?_
    exact W.zret (v := 0) hx hb hr rfl (fun t ht hW => ⟨⟨0, S, rfl, hw, by rw [ht]; exact hP, va_K.moved hW.alike hK⟩, hS.F ht⟩) hS.2.2 d_Mo_within_15
  · replace hw := hw.2 c1
    refine lv_iload_n hx hb d_Mo_within_5 rfl (lv_at hl 0 rfl) ?_
    refine lv_iload_n hx hb d_Mo_within_6 rfl (lv_at hl 2 rfl) ?_
    refine lv_icmp_gt (tgt := 14) hx hb d_Mo_within_7 (by decide) (fun c2 => ?_) (fun c2 => ?_)
    · replace hw := hw.1 c2
      refine lv_iconst (v := 0) hx hb d_Mo_within_14 (by decide) ?_
      exact W.zret (v := 0) hx hb hr rfl (fun t ht hW => ⟨⟨0, S, rfl, hw, by rw [ht]; exact hP, va_K.moved hW.alike hK⟩, hS.F ht⟩) hS.2.2 d_Mo_within_15
    · replace hw := hw.2 c2
      refine lv_iconst (v := 1) hx hb d_Mo_within_10 (by decide) ?_
      refine lv_goto (tgt := 15) hx hb d_Mo_within_11 (by decide) ?_
      exact W.zret (v := 1) hx hb hr rfl (fun t ht hW => ⟨⟨1, S, rfl, hw, by rw [ht]; exact hP, va_K.moved hW.alike hK⟩, hS.F ht⟩) hS.2.2 d_Mo_within_15
set_option maxHeartbeats 4000000 in
set_option maxRecDepth 100000 in
theorem k_Mo_within (l : Launch) (Y : gY) (hY : gOK Y) (sz : Nat) (x0 : Int32) (x1 : Int32) (x2 : Int32)  (S : gS) (Q : Int32 → gS → Prop) : Met l y_Mo_within w_Mo_within (gRm 0 0) (gPre Y [.int x0, .int x1, .int x2] S sz (wp_Mo_within (gLn Y) Q x0 x1 x2 S)) (va_Qi Q (gB Y) (gA Y sz)) 0 0 (gA Y sz) := by
  refine Met.ofW (cc := c_Mo_within) (maxL := 3) (ret := (Option.some Jvm.ClassFile.FieldType.boolean)) (by decide) rfl ?_
  intro p e s m args below meth c s₁ B hml hv
  obtain ⟨rfl, hsz, hP, hK, hSt, hw⟩ := hv
  subst hsz
  have hts := atoms_spec (ws := w_Mo_within) B.pre
  have hl := lv_entry ([.int x0, .int x1, .int x2]) (n := 3) (Nat.le_of_ble_eq_true rfl)
  rw [lg_entry_eq]
  generalize (lg_sl ([.int x0, .int x1, .int x2]) ++ List.replicate (3 - (lg_sl ([.int x0, .int x1, .int x2])).length) Slot.unset).toArray = ls at hl ⊢
  exact mw_Mo_within ⟨B.exec, B.bytes, hml, findClass_of_methodNamed B.named, hts, B.returns, B.notSynchronized, hK, hY, hSt⟩ x0 x1 x2 S s.heap [] ls hw hP va_S.rf hl

def wp_Mo_make (Ln : gI → Nat) (Q : Int32 → gS → Prop) (x0 : gI) (x1 : Int32) (x2 : Int32) (x3 : Int32) (x4 : Int32)  (S : gS) : Prop :=
  ∀ v5_1 : Int32, v5_1 = S.1 x0 3 → (vp_in v5_1 (Ln (grf x0 4)) ∧ (∀ S2 : gS, S2 = gset S (grf x0 4) v5_1.toNatClampNeg x1 → (vp_in v5_1 (Ln (grf x0 5)) ∧ (∀ S3 : gS, S3 = gset S2 (grf x0 5) v5_1.toNatClampNeg x2 → (vp_in v5_1 (Ln (grf x0 6)) ∧ (∀ S4 : gS, S4 = gset S3 (grf x0 6) v5_1.toNatClampNeg x3 → (vp_in v5_1 (Ln (grf x0 7)) ∧ (∀ S5 : gS, S5 = gset S4 (grf x0 7) v5_1.toNatClampNeg x4 → (vp_in v5_1 (Ln (grf x0 8)) ∧ (∀ S6 : gS, S6 = gset S5 (grf x0 8) v5_1.toNatClampNeg (S5.1 x0 11) → (vp_in v5_1 (Ln (grf x0 9)) ∧ (∀ S7 : gS, S7 = gset S6 (grf x0 9) v5_1.toNatClampNeg 0 → (∀ S8 : gS, S8 = gset S7 x0 3 ((S7.1 x0 3) + 1) → (Q v5_1 S8))))))))))))))
set_option maxHeartbeats 4000000 in
set_option maxRecDepth 100000 in
theorem mw_Mo_make {p : Program} {l : Launch} {e : Env} {s : State} {m : MethodId} {args : Array Value} {below : List Frame} {meth : Method} {c : Code} {Y : gY} {Q : Int32 → gS → Prop} (C : gCx p s m args meth c Y "LogDiskModel" c_Mo_make 6 (Option.some Jvm.ClassFile.FieldType.int) w_Mo_make) : ∀ (x0 : gI) (x1 : Int32) (x2 : Int32) (x3 : Int32) (x4 : Int32)  (S : gS) (H : Heap) (locs : List Loc) (ls : Array Slot), gis Y 10 x0 → wp_Mo_make (gLn Y) Q x0 x1 x2 x3 x4 S → gWd Y S H → va_S (gA Y s.heap.size) s.heap H locs → lv_has ls 6 [(0, .ref (gad Y x0)), (1, .int x1), (2, .int x2), (3, .int x3), (4, .int x4)] → W p l e (gRm 0 0) s m args below meth c H locs 0 0 (MQ below (va_Qi Q (gB Y) (gA Y s.heap.size)) args s 0 0 (gA Y s.heap.size)) (F0 m 0 ls []) := by
  have C0 := C
  obtain ⟨hx, hb, hml, hown, hts, hr, hlocks, hK, hY, hSt⟩ := C
  intro x0 x1 x2 x3 x4 S H locs ls hx0 hw hP hS hl
  unfold wp_Mo_make at hw
  refine lv_aload_n hx hb d_Mo_make_0 rfl (lv_at hl 0 rfl) ?_
  refine g_get hx hb hts (fun w h => List.mem_cons_of_mem _ (in_Mo w h)) hown hK hP hx0 (gce_Mo hx0.1) rfl 3 (by decide) (hts _ (List.mem_cons_of_mem _ gw_810)) rfl d_Mo_make_1 ?_
  refine lv_topi (fun v5_1 ev5_1 => ?_)
  replace hw := hw v5_1 ev5_1
  refine lv_istore (lv' := [(5, .int v5_1), (0, .ref (gad Y x0)), (1, .int x1), (2, .int x2), (3, .int x3), (4, .int x4)]) hx hb d_Mo_make_4 hl (by decide) rfl (fun ls hl => ?_)
  refine lv_aload_n hx hb d_Mo_make_6 rfl (lv_at hl 1 rfl) ?_
  refine g_get hx hb hts (fun w h => List.mem_cons_of_mem _ (in_Mo w h)) hown hK hP hx0 (gce_Mo hx0.1) rfl 4 (by decide) (hts _ (List.mem_cons_of_mem _ gw_811)) rfl d_Mo_make_7 ?_
  refine lv_iload hx hb d_Mo_make_10 (lv_at hl 0 rfl) ?_
  refine lv_iload_n hx hb d_Mo_make_12 rfl (lv_at hl 2 rfl) ?_
  obtain ⟨hin, hw⟩ := hw
  refine g_iastore hx hb hK hY.1 hP hS (gis_Mo_sorts hY hx0) hin d_Mo_make_13 (fun S2 eS2 H locs hP hS => ?_)
  replace hw := hw S2 eS2
  refine lv_aload_n hx hb d_Mo_make_14 rfl (lv_at hl 1 rfl) ?_
  refine g_get hx hb hts (fun w h => List.mem_cons_of_mem _ (in_Mo w h)) hown hK hP hx0 (gce_Mo hx0.1) rfl 5 (by decide) (hts _ (List.mem_cons_of_mem _ gw_812)) rfl d_Mo_make_15 ?_
  refine lv_iload hx hb d_Mo_make_18 (lv_at hl 0 rfl) ?_
  refine lv_iload_n hx hb d_Mo_make_20 rfl (lv_at hl 3 rfl) ?_
  obtain ⟨hin, hw⟩ := hw
  refine g_iastore hx hb hK hY.1 hP hS (gis_Mo_as hY hx0) hin d_Mo_make_21 (fun S3 eS3 H locs hP hS => ?_)
  replace hw := hw S3 eS3
  refine lv_aload_n hx hb d_Mo_make_22 rfl (lv_at hl 1 rfl) ?_
  refine g_get hx hb hts (fun w h => List.mem_cons_of_mem _ (in_Mo w h)) hown hK hP hx0 (gce_Mo hx0.1) rfl 6 (by decide) (hts _ (List.mem_cons_of_mem _ gw_813)) rfl d_Mo_make_23 ?_
  refine lv_iload hx hb d_Mo_make_26 (lv_at hl 0 rfl) ?_
  refine lv_iload_n hx hb d_Mo_make_28 rfl (lv_at hl 4 rfl) ?_
  obtain ⟨hin, hw⟩ := hw
  refine g_iastore hx hb hK hY.1 hP hS (gis_Mo_bs hY hx0) hin d_Mo_make_29 (fun S4 eS4 H locs hP hS => ?_)
  replace hw := hw S4 eS4
  refine lv_aload_n hx hb d_Mo_make_30 rfl (lv_at hl 1 rfl) ?_
  refine g_get hx hb hts (fun w h => List.mem_cons_of_mem _ (in_Mo w h)) hown hK hP hx0 (gce_Mo hx0.1) rfl 7 (by decide) (hts _ (List.mem_cons_of_mem _ gw_814)) rfl d_Mo_make_31 ?_
  refine lv_iload hx hb d_Mo_make_34 (lv_at hl 0 rfl) ?_
  refine lv_iload hx hb d_Mo_make_36 (lv_at hl 5 rfl) ?_
  obtain ⟨hin, hw⟩ := hw
  refine g_iastore hx hb hK hY.1 hP hS (gis_Mo_cs hY hx0) hin d_Mo_make_38 (fun S5 eS5 H locs hP hS => ?_)
  replace hw := hw S5 eS5
  refine lv_aload_n hx hb d_Mo_make_39 rfl (lv_at hl 1 rfl) ?_
  refine g_get hx hb hts (fun w h => List.mem_cons_of_mem _ (in_Mo w h)) hown hK hP hx0 (gce_Mo hx0.1) rfl 8 (by decide) (hts _ (List.mem_cons_of_mem _ gw_815)) rfl d_Mo_make_40 ?_
  refine lv_iload hx hb d_Mo_make_43 (lv_at hl 0 rfl) ?_
  refine lv_aload_n hx hb d_Mo_make_45 rfl (lv_at hl 1 rfl) ?_
  refine g_get hx hb hts (fun w h => List.mem_cons_of_mem _ (in_Mo w h)) hown hK hP hx0 (gce_Mo hx0.1) rfl 11 (by decide) (hts _ (List.mem_cons_of_mem _ gw_818)) rfl d_Mo_make_46 ?_
  obtain ⟨hin, hw⟩ := hw
  refine g_iastore hx hb hK hY.1 hP hS (gis_Mo_froms hY hx0) hin d_Mo_make_49 (fun S6 eS6 H locs hP hS => ?_)
  replace hw := hw S6 eS6
  refine lv_aload_n hx hb d_Mo_make_50 rfl (lv_at hl 1 rfl) ?_
  refine g_get hx hb hts (fun w h => List.mem_cons_of_mem _ (in_Mo w h)) hown hK hP hx0 (gce_Mo hx0.1) rfl 9 (by decide) (hts _ (List.mem_cons_of_mem _ gw_816)) rfl d_Mo_make_51 ?_
  refine lv_iload hx hb d_Mo_make_54 (lv_at hl 0 rfl) ?_
  refine lv_iconst (v := 0) hx hb d_Mo_make_56 (by decide) ?_
  obtain ⟨hin, hw⟩ := hw
  refine g_iastore hx hb hK hY.1 hP hS (gis_Mo_lengths hY hx0) hin d_Mo_make_57 (fun S7 eS7 H locs hP hS => ?_)
  replace hw := hw S7 eS7
  refine lv_aload_n hx hb d_Mo_make_58 rfl (lv_at hl 1 rfl) ?_
  refine lv_dup hx hb d_Mo_make_59 rfl ?_
  refine g_get hx hb hts (fun w h => List.mem_cons_of_mem _ (in_Mo w h)) hown hK hP hx0 (gce_Mo hx0.1) rfl 3 (by decide) (hts _ (List.mem_cons_of_mem _ gw_810)) rfl d_Mo_make_60 ?_
  refine lv_iconst (v := 1) hx hb d_Mo_make_63 (by decide) ?_
  refine lv_iadd hx hb d_Mo_make_64 ?_
  refine g_put (ty := .int) (v := .int ((S7.1 x0 3) + 1)) (S' := gset S7 x0 3 ((S7.1 x0 3) + 1)) hx hb hts (fun w h => List.mem_cons_of_mem _ (in_Mo w h)) ty_Mo tyok_Mo nm_Mo hown hK hY.1 hP hS hx0 (gce_Mo hx0.1) rfl 3 (by decide) (hts _ (List.mem_cons_of_mem _ gw_810)) rfl (by decide +kernel) rfl rfl (Nat.le_of_ble_eq_true rfl) (gp_Mo_frames hx0.1) gce_gset d_Mo_make_65 (fun H locs hP hS => ?_)
  obtain ⟨S8, eS8⟩ : ∃ z, z = gset S7 x0 3 ((S7.1 x0 3) + 1) := ⟨_, rfl⟩
  rw [← eS8] at hP
  replace hw := hw S8 eS8
  refine lv_iload hx hb d_Mo_make_68 (lv_at hl 0 rfl) ?_
  exact W.iret (v := v5_1) hx hb hr (fun t ht hW => ⟨⟨v5_1, S8, rfl, hw, by rw [ht]; exact hP, va_K.moved hW.alike hK⟩, hS.F ht⟩) hS.2.2 d_Mo_make_70
set_option maxHeartbeats 4000000 in
set_option maxRecDepth 100000 in
theorem k_Mo_make (l : Launch) (Y : gY) (hY : gOK Y) (sz : Nat) (x0 : gI) (x1 : Int32) (x2 : Int32) (x3 : Int32) (x4 : Int32)  (hx0 : gis Y 10 x0) (S : gS) (Q : Int32 → gS → Prop) : Met l y_Mo_make w_Mo_make (gRm 0 0) (gPre Y [.ref (gad Y x0), .int x1, .int x2, .int x3, .int x4] S sz (wp_Mo_make (gLn Y) Q x0 x1 x2 x3 x4 S)) (va_Qi Q (gB Y) (gA Y sz)) 0 0 (gA Y sz) := by
  refine Met.ofW (cc := c_Mo_make) (maxL := 6) (ret := (Option.some Jvm.ClassFile.FieldType.int)) (by decide) rfl ?_
  intro p e s m args below meth c s₁ B hml hv
  obtain ⟨rfl, hsz, hP, hK, hSt, hw⟩ := hv
  subst hsz
  have hts := atoms_spec (ws := w_Mo_make) B.pre
  have hl := lv_entry ([.ref (gad Y x0), .int x1, .int x2, .int x3, .int x4]) (n := 6) (Nat.le_of_ble_eq_true rfl)
  rw [lg_entry_eq]
  generalize (lg_sl ([.ref (gad Y x0), .int x1, .int x2, .int x3, .int x4]) ++ List.replicate (6 - (lg_sl ([.ref (gad Y x0), .int x1, .int x2, .int x3, .int x4])).length) Slot.unset).toArray = ls at hl ⊢
  exact mw_Mo_make ⟨B.exec, B.bytes, hml, findClass_of_methodNamed B.named, hts, B.returns, B.notSynchronized, hK, hY, hSt⟩ x0 x1 x2 x3 x4 S s.heap [] ls hx0 hw hP va_S.rf hl

def wp_Mo_fill_9 (Ln : gI → Nat) (Q : gS → Prop) : Nat → gI → Int32 → Int32 → gS → Prop
  | 0, _, _, _, _ => False
  | n9 + 1, x0, x2, x3, S => ((x2 ≤ x3) → (∀ S3 : gS, S3 = gset S x0 11 ((S.1 x0 11) + x2) → (Q S3))) ∧ ((¬ x2 ≤ x3) → (vp_in x3 (Ln (grf x0 34)) ∧ (vp_in ((S.1 x0 11) + x3) (Ln (grf x0 10)) ∧ (∀ S4 : gS, S4 = gset S (grf x0 10) ((S.1 x0 11) + x3).toNatClampNeg (S.1 (grf x0 34) x3.toNatClampNeg) → (∀ v3_5 : Int32, v3_5 = x3 + 1 → (wp_Mo_fill_9 Ln Q n9 x0 x2 v3_5 S4))))))
def wp_Mo_fill (Ln : gI → Nat) (Q : gS → Prop) (x0 : gI) (x1 : Int32) (x2 : Int32)  (S : gS) : Prop :=
  vp_in x1 (Ln (grf x0 9)) ∧ (∀ S1 : gS, S1 = gset S (grf x0 9) x1.toNatClampNeg x2 → (∃ n9 : Nat, wp_Mo_fill_9 Ln Q n9 x0 x2 0 S1))
set_option maxHeartbeats 4000000 in
set_option maxRecDepth 100000 in
theorem mw_Mo_fill_9 {p : Program} {l : Launch} {e : Env} {s : State} {m : MethodId} {args : Array Value} {below : List Frame} {meth : Method} {c : Code} {Y : gY} {Q : gS → Prop} (C : gCx p s m args meth c Y "LogDiskModel" c_Mo_fill 4 (Option.none : Option Jvm.ClassFile.FieldType) w_Mo_fill) : ∀ (n : Nat), ∀ (x0 : gI) (x2 : Int32) (x3 : Int32)  (S : gS) (H : Heap) (locs : List Loc) (ls : Array Slot), gis Y 10 x0 → wp_Mo_fill_9 (gLn Y) Q n x0 x2 x3 S → gWd Y S H → va_S (gA Y s.heap.size) s.heap H locs → lv_has ls 4 [(0, .ref (gad Y x0)), (2, .int x2), (3, .int x3)] → W p l e (gRm 0 0) s m args below meth c H locs 0 0 (MQ below (va_Qv Q (gB Y) (gA Y s.heap.size)) args s 0 0 (gA Y s.heap.size)) (F0 m 9 ls []) := by
  have C0 := C
  obtain ⟨hx, hb, hml, hown, hts, hr, hlocks, hK, hY, hSt⟩ := C
  intro n
  induction n with
  | zero =>
    intro x0 x2 x3 S H locs ls hx0 hw
    exact False.elim hw
  | succ n ih =>
    intro x0 x2 x3 S H locs ls hx0 hw hP hS hl
    unfold wp_Mo_fill_9 at hw
    refine lv_iload_n hx hb d_Mo_fill_9 rfl (lv_at hl 2 rfl) ?_
    refine lv_iload_n hx hb d_Mo_fill_10 rfl (lv_at hl 1 rfl) ?_
    refine lv_icmp_ge (tgt := 37) hx hb d_Mo_fill_11 (by decide) (fun c2 => ?_) (fun c2 => ?_)
    · replace hw := hw.1 c2
      refine lv_aload_n hx hb d_Mo_fill_37 rfl (lv_at hl 0 rfl) ?_
      refine lv_dup hx hb d_Mo_fill_38 rfl ?_
      refine g_get hx hb hts (fun w h => List.mem_cons_of_mem _ (in_Mo w h)) hown hK hP hx0 (gce_Mo hx0.1) rfl 11 (by decide) (hts _ (List.mem_cons_of_mem _ gw_818)) rfl d_Mo_fill_39 ?_
      refine lv_iload_n hx hb d_Mo_fill_42 rfl (lv_at hl 1 rfl) ?_
      refine lv_iadd hx hb d_Mo_fill_43 ?_
      refine g_put (ty := .int) (v := .int ((S.1 x0 11) + x2)) (S' := gset S x0 11 ((S.1 x0 11) + x2)) hx hb hts (fun w h => List.mem_cons_of_mem _ (in_Mo w h)) ty_Mo tyok_Mo nm_Mo hown hK hY.1 hP hS hx0 (gce_Mo hx0.1) rfl 11 (by decide) (hts _ (List.mem_cons_of_mem _ gw_818)) rfl (by decide +kernel) rfl rfl (Nat.le_of_ble_eq_true rfl) (gp_Mo_used hx0.1) gce_gset d_Mo_fill_44 (fun H locs hP hS => ?_)
      obtain ⟨S3, eS3⟩ : ∃ z, z = gset S x0 11 ((S.1 x0 11) + x2) := ⟨_, rfl⟩
      rw [← eS3] at hP
      replace hw := hw S3 eS3
      exact W.vret hx hb hr (fun t ht hW => ⟨⟨S3, rfl, hw, by rw [ht]; exact hP, va_K.moved hW.alike hK⟩, hS.F ht⟩) hS.2.2 d_Mo_fill_47
    · replace hw := hw.2 c2
      refine lv_aload_n hx hb d_Mo_fill_14 rfl (lv_at hl 0 rfl) ?_
      refine g_get hx hb hts (fun w h => List.mem_cons_of_mem _ (in_Mo w h)) hown hK hP hx0 (gce_Mo hx0.1) rfl 10 (by decide) (hts _ (List.mem_cons_of_mem _ gw_817)) rfl d_Mo_fill_15 ?_
      refine lv_aload_n hx hb d_Mo_fill_18 rfl (lv_at hl 0 rfl) ?_
      refine g_get hx hb hts (fun w h => List.mem_cons_of_mem _ (in_Mo w h)) hown hK hP hx0 (gce_Mo hx0.1) rfl 11 (by decide) (hts _ (List.mem_cons_of_mem _ gw_818)) rfl d_Mo_fill_19 ?_
      refine lv_iload_n hx hb d_Mo_fill_22 rfl (lv_at hl 2 rfl) ?_
      refine lv_iadd hx hb d_Mo_fill_23 ?_
      refine lv_aload_n hx hb d_Mo_fill_24 rfl (lv_at hl 0 rfl) ?_
      refine g_get hx hb hts (fun w h => List.mem_cons_of_mem _ (in_Mo w h)) hown hK hP hx0 (gce_Mo hx0.1) rfl 34 (by decide) (hts _ (List.mem_cons_of_mem _ gw_841)) rfl d_Mo_fill_25 ?_
      refine lv_iload_n hx hb d_Mo_fill_28 rfl (lv_at hl 2 rfl) ?_
      obtain ⟨hin, hw⟩ := hw
      refine g_iaload hx hb hK hP (gis_Mo_fed hY hx0) hin d_Mo_fill_29 ?_
      obtain ⟨hin, hw⟩ := hw
      refine g_iastore hx hb hK hY.1 hP hS (gis_Mo_bytes hY hx0) hin d_Mo_fill_30 (fun S4 eS4 H locs hP hS => ?_)
      replace hw := hw S4 eS4
      obtain ⟨v3_5, ev3_5⟩ : ∃ y : Int32, y = x3 + 1 := ⟨_, rfl⟩
      replace hw := hw v3_5 ev3_5
      refine lv_iinc (v := v3_5) (lv' := [(3, .int v3_5), (0, .ref (gad Y x0)), (2, .int x2)]) hx hb d_Mo_fill_31 hl (k := 2) rfl (by rw [ev3_5]; rfl) (by decide) rfl (fun ls hl => ?_)
      refine lv_goto (tgt := 9) hx hb d_Mo_fill_34 (by decide) ?_
      exact ih x0 x2 v3_5 S4 H locs ls hx0 hw hP hS (lv_sub hl [1, 2, 0] rfl)
set_option maxHeartbeats 4000000 in
set_option maxRecDepth 100000 in
theorem mw_Mo_fill {p : Program} {l : Launch} {e : Env} {s : State} {m : MethodId} {args : Array Value} {below : List Frame} {meth : Method} {c : Code} {Y : gY} {Q : gS → Prop} (C : gCx p s m args meth c Y "LogDiskModel" c_Mo_fill 4 (Option.none : Option Jvm.ClassFile.FieldType) w_Mo_fill) : ∀ (x0 : gI) (x1 : Int32) (x2 : Int32)  (S : gS) (H : Heap) (locs : List Loc) (ls : Array Slot), gis Y 10 x0 → wp_Mo_fill (gLn Y) Q x0 x1 x2 S → gWd Y S H → va_S (gA Y s.heap.size) s.heap H locs → lv_has ls 4 [(0, .ref (gad Y x0)), (1, .int x1), (2, .int x2)] → W p l e (gRm 0 0) s m args below meth c H locs 0 0 (MQ below (va_Qv Q (gB Y) (gA Y s.heap.size)) args s 0 0 (gA Y s.heap.size)) (F0 m 0 ls []) := by
  have C0 := C
  obtain ⟨hx, hb, hml, hown, hts, hr, hlocks, hK, hY, hSt⟩ := C
  intro x0 x1 x2 S H locs ls hx0 hw hP hS hl
  unfold wp_Mo_fill at hw
  refine lv_aload_n hx hb d_Mo_fill_0 rfl (lv_at hl 0 rfl) ?_
  refine g_get hx hb hts (fun w h => List.mem_cons_of_mem _ (in_Mo w h)) hown hK hP hx0 (gce_Mo hx0.1) rfl 9 (by decide) (hts _ (List.mem_cons_of_mem _ gw_816)) rfl d_Mo_fill_1 ?_
  refine lv_iload_n hx hb d_Mo_fill_4 rfl (lv_at hl 1 rfl) ?_
  refine lv_iload_n hx hb d_Mo_fill_5 rfl (lv_at hl 2 rfl) ?_
  obtain ⟨hin, hw⟩ := hw
  refine g_iastore hx hb hK hY.1 hP hS (gis_Mo_lengths hY hx0) hin d_Mo_fill_6 (fun S1 eS1 H locs hP hS => ?_)
  replace hw := hw S1 eS1
  refine lv_iconst (v := 0) hx hb d_Mo_fill_7 (by decide) ?_
  refine lv_istore_n (lv' := [(3, .int 0), (0, .ref (gad Y x0)), (1, .int x1), (2, .int x2)]) hx hb d_Mo_fill_8 rfl hl (by decide) rfl (fun ls hl => ?_)
  obtain ⟨n, hw⟩ := hw
  exact mw_Mo_fill_9 C0 n x0 x2 0 S1 H locs ls hx0 hw hP hS (lv_sub hl [1, 3, 0] rfl)
set_option maxHeartbeats 4000000 in
set_option maxRecDepth 100000 in
theorem k_Mo_fill (l : Launch) (Y : gY) (hY : gOK Y) (sz : Nat) (x0 : gI) (x1 : Int32) (x2 : Int32)  (hx0 : gis Y 10 x0) (S : gS) (Q : gS → Prop) : Met l y_Mo_fill w_Mo_fill (gRm 0 0) (gPre Y [.ref (gad Y x0), .int x1, .int x2] S sz (wp_Mo_fill (gLn Y) Q x0 x1 x2 S)) (va_Qv Q (gB Y) (gA Y sz)) 0 0 (gA Y sz) := by
  refine Met.ofW (cc := c_Mo_fill) (maxL := 4) (ret := (Option.none : Option Jvm.ClassFile.FieldType)) (by decide) rfl ?_
  intro p e s m args below meth c s₁ B hml hv
  obtain ⟨rfl, hsz, hP, hK, hSt, hw⟩ := hv
  subst hsz
  have hts := atoms_spec (ws := w_Mo_fill) B.pre
  have hl := lv_entry ([.ref (gad Y x0), .int x1, .int x2]) (n := 4) (Nat.le_of_ble_eq_true rfl)
  rw [lg_entry_eq]
  generalize (lg_sl ([.ref (gad Y x0), .int x1, .int x2]) ++ List.replicate (4 - (lg_sl ([.ref (gad Y x0), .int x1, .int x2])).length) Slot.unset).toArray = ls at hl ⊢
  exact mw_Mo_fill ⟨B.exec, B.bytes, hml, findClass_of_methodNamed B.named, hts, B.returns, B.notSynchronized, hK, hY, hSt⟩ x0 x1 x2 S s.heap [] ls hx0 hw hP va_S.rf hl

def wp_Mo_payload (Ln : gI → Nat) (Q : Int32 → gS → Prop) (x0 : gI) (x1 : Int32)  (S : gS) : Prop :=
  vp_in x1 (Ln (grf x0 4)) ∧ (((¬ (S.1 (grf x0 4) x1.toNatClampNeg) = 0) → (vp_in x1 (Ln (grf x0 4)) ∧ (((¬ (S.1 (grf x0 4) x1.toNatClampNeg) = 1) → (vp_in x1 (Ln (grf x0 4)) ∧ (((¬ (S.1 (grf x0 4) x1.toNatClampNeg) = 2) → (vp_in x1 (Ln (grf x0 9)) ∧ (Q (17 + (S.1 (grf x0 9) x1.toNatClampNeg)) S))) ∧ (((S.1 (grf x0 4) x1.toNatClampNeg) = 2) → (Q 16 S))))) ∧ (((S.1 (grf x0 4) x1.toNatClampNeg) = 1) → (Q 12 S))))) ∧ (((S.1 (grf x0 4) x1.toNatClampNeg) = 0) → (Q 24 S)))
set_option maxHeartbeats 4000000 in
set_option maxRecDepth 100000 in
theorem mw_Mo_payload {p : Program} {l : Launch} {e : Env} {s : State} {m : MethodId} {args : Array Value} {below : List Frame} {meth : Method} {c : Code} {Y : gY} {Q : Int32 → gS → Prop} (C : gCx p s m args meth c Y "LogDiskModel" c_Mo_payload 2 (Option.some Jvm.ClassFile.FieldType.int) w_Mo_payload) : ∀ (x0 : gI) (x1 : Int32)  (S : gS) (H : Heap) (locs : List Loc) (ls : Array Slot), gis Y 10 x0 → wp_Mo_payload (gLn Y) Q x0 x1 S → gWd Y S H → va_S (gA Y s.heap.size) s.heap H locs → lv_has ls 2 [(0, .ref (gad Y x0)), (1, .int x1)] → W p l e (gRm 0 0) s m args below meth c H locs 0 0 (MQ below (va_Qi Q (gB Y) (gA Y s.heap.size)) args s 0 0 (gA Y s.heap.size)) (F0 m 0 ls []) := by
  have C0 := C
  obtain ⟨hx, hb, hml, hown, hts, hr, hlocks, hK, hY, hSt⟩ := C
  intro x0 x1 S H locs ls hx0 hw hP hS hl
  unfold wp_Mo_payload at hw
  refine lv_aload_n hx hb d_Mo_payload_0 rfl (lv_at hl 0 rfl) ?_
  refine g_get hx hb hts (fun w h => List.mem_cons_of_mem _ (in_Mo w h)) hown hK hP hx0 (gce_Mo hx0.1) rfl 4 (by decide) (hts _ (List.mem_cons_of_mem _ gw_811)) rfl d_Mo_payload_1 ?_
  refine lv_iload_n hx hb d_Mo_payload_4 rfl (lv_at hl 1 rfl) ?_
  obtain ⟨hin, hw⟩ := hw
  refine g_iaload hx hb hK hP (gis_Mo_sorts hY hx0) hin d_Mo_payload_5 ?_
  refine lv_if_ne (tgt := 14) hx hb d_Mo_payload_6 (by decide) (fun c1 => ?_) (fun c1 => ?_)
  · replace hw := hw.1 c1
    refine lv_aload_n hx hb d_Mo_payload_14 rfl (lv_at hl 0 rfl) ?_
    refine g_get hx hb hts (fun w h => List.mem_cons_of_mem _ (in_Mo w h)) hown hK hP hx0 (gce_Mo hx0.1) rfl 4 (by decide) (hts _ (List.mem_cons_of_mem _ gw_811)) rfl d_Mo_payload_15 ?_
    refine lv_iload_n hx hb d_Mo_payload_18 rfl (lv_at hl 1 rfl) ?_
    obtain ⟨hin, hw⟩ := hw
    refine g_iaload hx hb hK hP (gis_Mo_sorts hY hx0) hin d_Mo_payload_19 ?_
    refine lv_iconst (v := 1) hx hb d_Mo_payload_20 (by decide) ?_
    refine lv_icmp_ne (tgt := 29) hx hb d_Mo_payload_21 (by decide) (fun c2 => ?_) (fun c2 => ?_)
    · replace hw := hw.1 c2
      refine lv_aload_n hx hb d_Mo_payload_29 rfl (lv_at hl 0 rfl) ?_
      refine g_get hx hb hts (fun w h => List.mem_cons_of_mem _ (in_Mo w h)) hown hK hP hx0 (gce_Mo hx0.1) rfl 4 (by decide) (hts _ (List.mem_cons_of_mem _ gw_811)) rfl d_Mo_payload_30 ?_
      refine lv_iload_n hx hb d_Mo_payload_33 rfl (lv_at hl 1 rfl) ?_
      obtain ⟨hin, hw⟩ := hw
      refine g_iaload hx hb hK hP (gis_Mo_sorts hY hx0) hin d_Mo_payload_34 ?_
      refine lv_iconst (v := 2) hx hb d_Mo_payload_35 (by decide) ?_
      refine lv_icmp_ne (tgt := 44) hx hb d_Mo_payload_36 (by decide) (fun c3 => ?_) (fun c3 => ?_)
      · replace hw := hw.1 c3
        refine lv_bipush (v := 17) hx hb d_Mo_payload_44 (by decide) ?_
        refine lv_aload_n hx hb d_Mo_payload_46 rfl (lv_at hl 0 rfl) ?_
        refine g_get hx hb hts (fun w h => List.mem_cons_of_mem _ (in_Mo w h)) hown hK hP hx0 (gce_Mo hx0.1) rfl 9 (by decide) (hts _ (List.mem_cons_of_mem _ gw_816)) rfl d_Mo_payload_47 ?_
        refine lv_iload_n hx hb d_Mo_payload_50 rfl (lv_at hl 1 rfl) ?_
        obtain ⟨hin, hw⟩ := hw
        refine g_iaload hx hb hK hP (gis_Mo_lengths hY hx0) hin d_Mo_payload_51 ?_
        refine lv_iadd hx hb d_Mo_payload_52 ?_
        exact W.iret (v := (17 + (S.1 (grf x0 9) x1.toNatClampNeg))) hx hb hr (fun t ht hW => ⟨⟨(17 + (S.1 (grf x0 9) x1.toNatClampNeg)), S, rfl, hw, by rw [ht]; exact hP, va_K.moved hW.alike hK⟩, hS.F ht⟩) hS.2.2 d_Mo_payload_53
      · replace hw := hw.2 c3
        refine lv_bipush (v := 16) hx hb d_Mo_payload_39 (by decide) ?_
        refine lv_goto (tgt := 53) hx hb d_Mo_payload_41 (by decide) ?_
        exact W.iret (v := 16) hx hb hr (fun t ht hW => ⟨⟨16, S, rfl, hw, by rw [ht]; exact hP, va_K.moved hW.alike hK⟩, hS.F ht⟩) hS.2.2 d_Mo_payload_53
    · replace hw := hw.2 c2
      refine lv_bipush (v := 12) hx hb d_Mo_payload_24 (by decide) ?_
      refine lv_goto (tgt := 53) hx hb d_Mo_payload_26 (by decide) ?_
      exact W.iret (v := 12) hx hb hr (fun t ht hW => ⟨⟨12, S, rfl, hw, by rw [ht]; exact hP, va_K.moved hW.alike hK⟩, hS.F ht⟩) hS.2.2 d_Mo_payload_53
  · replace hw := hw.2 c1
    refine lv_bipush (v := 24) hx hb d_Mo_payload_9 (by decide) ?_
    refine lv_goto (tgt := 53) hx hb d_Mo_payload_11 (by decide) ?_
    exact W.iret (v := 24) hx hb hr (fun t ht hW => ⟨⟨24, S, rfl, hw, by rw [ht]; exact hP, va_K.moved hW.alike hK⟩, hS.F ht⟩) hS.2.2 d_Mo_payload_53
set_option maxHeartbeats 4000000 in
set_option maxRecDepth 100000 in
theorem k_Mo_payload (l : Launch) (Y : gY) (hY : gOK Y) (sz : Nat) (x0 : gI) (x1 : Int32)  (hx0 : gis Y 10 x0) (S : gS) (Q : Int32 → gS → Prop) : Met l y_Mo_payload w_Mo_payload (gRm 0 0) (gPre Y [.ref (gad Y x0), .int x1] S sz (wp_Mo_payload (gLn Y) Q x0 x1 S)) (va_Qi Q (gB Y) (gA Y sz)) 0 0 (gA Y sz) := by
  refine Met.ofW (cc := c_Mo_payload) (maxL := 2) (ret := (Option.some Jvm.ClassFile.FieldType.int)) (by decide) rfl ?_
  intro p e s m args below meth c s₁ B hml hv
  obtain ⟨rfl, hsz, hP, hK, hSt, hw⟩ := hv
  subst hsz
  have hts := atoms_spec (ws := w_Mo_payload) B.pre
  have hl := lv_entry ([.ref (gad Y x0), .int x1]) (n := 2) (Nat.le_of_ble_eq_true rfl)
  rw [lg_entry_eq]
  generalize (lg_sl ([.ref (gad Y x0), .int x1]) ++ List.replicate (2 - (lg_sl ([.ref (gad Y x0), .int x1])).length) Slot.unset).toArray = ls at hl ⊢
  exact mw_Mo_payload ⟨B.exec, B.bytes, hml, findClass_of_methodNamed B.named, hts, B.returns, B.notSynchronized, hK, hY, hSt⟩ x0 x1 S s.heap [] ls hx0 hw hP va_S.rf hl

def wp_Mo_space (Ln : gI → Nat) (Q : Int32 → gS → Prop) (x0 : gI) (x1 : Int32)  (S : gS) : Prop :=
  wp_Mo_payload Ln (fun r2 S1 => vp_in x1 (Ln (grf x0 4)) ∧ (((¬ (S1.1 (grf x0 4) x1.toNatClampNeg) = 1) → (Q ((8 + r2) + 0) S1)) ∧ (((S1.1 (grf x0 4) x1.toNatClampNeg) = 1) → (vp_in x1 (Ln (grf x0 9)) ∧ (Q ((8 + r2) + (S1.1 (grf x0 9) x1.toNatClampNeg)) S1))))) x0 x1 S
set_option maxHeartbeats 4000000 in
set_option maxRecDepth 100000 in
theorem mw_Mo_space {p : Program} {l : Launch} {e : Env} {s : State} {m : MethodId} {args : Array Value} {below : List Frame} {meth : Method} {c : Code} {Y : gY} {Q : Int32 → gS → Prop} (C : gCx p s m args meth c Y "LogDiskModel" c_Mo_space 2 (Option.some Jvm.ClassFile.FieldType.int) w_Mo_space) : ∀ (x0 : gI) (x1 : Int32)  (S : gS) (H : Heap) (locs : List Loc) (ls : Array Slot), gis Y 10 x0 → wp_Mo_space (gLn Y) Q x0 x1 S → gWd Y S H → va_S (gA Y s.heap.size) s.heap H locs → lv_has ls 2 [(0, .ref (gad Y x0)), (1, .int x1)] → W p l e (gRm 1 21) s m args below meth c H locs 0 0 (MQ below (va_Qi Q (gB Y) (gA Y s.heap.size)) args s 0 0 (gA Y s.heap.size)) (F0 m 0 ls []) := by
  have C0 := C
  obtain ⟨hx, hb, hml, hown, hts, hr, hlocks, hK, hY, hSt⟩ := C
  intro x0 x1 S H locs ls hx0 hw hP hS hl
  unfold wp_Mo_space at hw
  refine lv_bipush (v := 8) hx hb d_Mo_space_0 (by decide) ?_
  refine lv_aload_n hx hb d_Mo_space_2 rfl (lv_at hl 0 rfl) ?_
  refine lv_iload_n hx hb d_Mo_space_3 rfl (lv_at hl 1 rfl) ?_
  refine g_calli (va_runV (As := [.int x1]) (rest := [.int 8]) ⟨hx, hb, hml, hown, hts⟩ (k_Mo_payload l Y hY H.size x0 x1 hx0 S _) (cwV 1 hts (gG_V gw_957 gw_959 gs_26 gw_12 gw_960) rfl rfl rfl (by decide +kernel) ⟨Nat.le_of_ble_eq_true rfl, Nat.le_of_ble_eq_true rfl⟩) ⟨gPre_blind, g_recv hK hP hx0 (gce_Mo hx0.1) rfl, g_pre hK hSt hS hP hw⟩ rfl rfl hl.1 rfl (lv_room (Nat.le_of_ble_eq_true rfl)) d_Mo_space_4 ⟨Nat.zero_le _, Nat.zero_le _⟩) hS (fun r2 S1 H locs hw hP hS => ?_)
  refine lv_iadd hx hb d_Mo_space_7 ?_
  refine lv_aload_n hx hb d_Mo_space_8 rfl (lv_at hl 0 rfl) ?_
  refine g_get hx hb hts (fun w h => List.mem_cons_of_mem _ (in_Mo w h)) hown hK hP hx0 (gce_Mo hx0.1) rfl 4 (by decide) (hts _ (List.mem_cons_of_mem _ gw_811)) rfl d_Mo_space_9 ?_
  refine lv_iload_n hx hb d_Mo_space_12 rfl (lv_at hl 1 rfl) ?_
  obtain ⟨hin, hw⟩ := hw
  refine g_iaload hx hb hK hP (gis_Mo_sorts hY hx0) hin d_Mo_space_13 ?_
  refine lv_iconst (v := 1) hx hb d_Mo_space_14 (by decide) ?_
  refine lv_icmp_ne (tgt := 27) hx hb d_Mo_space_15 (by decide) (fun c3 => ?_) (fun c3 => ?_)
  · replace hw := hw.1 c3
    refine lv_iconst (v := 0) hx hb d_Mo_space_27 (by decide) ?_
    refine lv_iadd hx hb d_Mo_space_28 ?_
    exact W.iret (v := ((8 + r2) + 0)) hx hb hr (fun t ht hW => ⟨⟨((8 + r2) + 0), S1, rfl, hw, by rw [ht]; exact hP, va_K.moved hW.alike hK⟩, hS.F ht⟩) hS.2.2 d_Mo_space_29
  · replace hw := hw.2 c3
    refine lv_aload_n hx hb d_Mo_space_18 rfl (lv_at hl 0 rfl) ?_
    refine g_get hx hb hts (fun w h => List.mem_cons_of_mem _ (in_Mo w h)) hown hK hP hx0 (gce_Mo hx0.1) rfl 9 (by decide) (hts _ (List.mem_cons_of_mem _ gw_816)) rfl d_Mo_space_19 ?_
    refine lv_iload_n hx hb d_Mo_space_22 rfl (lv_at hl 1 rfl) ?_
    obtain ⟨hin, hw⟩ := hw
    refine g_iaload hx hb hK hP (gis_Mo_lengths hY hx0) hin d_Mo_space_23 ?_
    refine lv_goto (tgt := 28) hx hb d_Mo_space_24 (by decide) ?_
    refine lv_iadd hx hb d_Mo_space_28 ?_
    exact W.iret (v := ((8 + r2) + (S1.1 (grf x0 9) x1.toNatClampNeg))) hx hb hr (fun t ht hW => ⟨⟨((8 + r2) + (S1.1 (grf x0 9) x1.toNatClampNeg)), S1, rfl, hw, by rw [ht]; exact hP, va_K.moved hW.alike hK⟩, hS.F ht⟩) hS.2.2 d_Mo_space_29
set_option maxHeartbeats 4000000 in
set_option maxRecDepth 100000 in
theorem k_Mo_space (l : Launch) (Y : gY) (hY : gOK Y) (sz : Nat) (x0 : gI) (x1 : Int32)  (hx0 : gis Y 10 x0) (S : gS) (Q : Int32 → gS → Prop) : Met l y_Mo_space w_Mo_space (gRm 1 21) (gPre Y [.ref (gad Y x0), .int x1] S sz (wp_Mo_space (gLn Y) Q x0 x1 S)) (va_Qi Q (gB Y) (gA Y sz)) 0 0 (gA Y sz) := by
  refine Met.ofW (cc := c_Mo_space) (maxL := 2) (ret := (Option.some Jvm.ClassFile.FieldType.int)) (by decide) rfl ?_
  intro p e s m args below meth c s₁ B hml hv
  obtain ⟨rfl, hsz, hP, hK, hSt, hw⟩ := hv
  subst hsz
  have hts := atoms_spec (ws := w_Mo_space) B.pre
  have hl := lv_entry ([.ref (gad Y x0), .int x1]) (n := 2) (Nat.le_of_ble_eq_true rfl)
  rw [lg_entry_eq]
  generalize (lg_sl ([.ref (gad Y x0), .int x1]) ++ List.replicate (2 - (lg_sl ([.ref (gad Y x0), .int x1])).length) Slot.unset).toArray = ls at hl ⊢
  exact mw_Mo_space ⟨B.exec, B.bytes, hml, findClass_of_methodNamed B.named, hts, B.returns, B.notSynchronized, hK, hY, hSt⟩ x0 x1 S s.heap [] ls hx0 hw hP va_S.rf hl

def wp_Mo_byteOf (Ln : gI → Nat) (Q : Int32 → gS → Prop) (x0 : Int64) (x2 : Int32)  (S : gS) : Prop :=
  Q (((ju_lshr x0 (8 * x2)) &&& (255 : Int64)).toInt32) S
set_option maxHeartbeats 4000000 in
set_option maxRecDepth 100000 in
theorem mw_Mo_byteOf {p : Program} {l : Launch} {e : Env} {s : State} {m : MethodId} {args : Array Value} {below : List Frame} {meth : Method} {c : Code} {Y : gY} {Q : Int32 → gS → Prop} (C : gCx p s m args meth c Y "LogDiskModel" c_Mo_byteOf 3 (Option.some Jvm.ClassFile.FieldType.int) w_Mo_byteOf) : ∀ (x0 : Int64) (x2 : Int32)  (S : gS) (H : Heap) (locs : List Loc) (ls : Array Slot), wp_Mo_byteOf (gLn Y) Q x0 x2 S → gWd Y S H → va_S (gA Y s.heap.size) s.heap H locs → lv_has ls 3 [(0, .long x0), (2, .int x2)] → W p l e (gRm 0 0) s m args below meth c H locs 0 0 (MQ below (va_Qi Q (gB Y) (gA Y s.heap.size)) args s 0 0 (gA Y s.heap.size)) (F0 m 0 ls []) := by
  have C0 := C
  obtain ⟨hx, hb, hml, hown, hts, hr, hlocks, hK, hY, hSt⟩ := C
  intro x0 x2 S H locs ls hw hP hS hl
  unfold wp_Mo_byteOf at hw
  refine lv_lload_n hx hb d_Mo_byteOf_0 rfl (lv_at hl 0 rfl) ?_
  refine lv_bipush (v := 8) hx hb d_Mo_byteOf_1 (by decide) ?_
  refine lv_iload_n hx hb d_Mo_byteOf_3 rfl (lv_at hl 1 rfl) ?_
  refine lv_imul hx hb d_Mo_byteOf_4 ?_
  refine lv_lshr hx hb d_Mo_byteOf_5 rfl ?_
  refine lv_ldc2 (v := 255) hx hb hown (hts _ (List.mem_cons_of_mem _ gw_932)) d_Mo_byteOf_6 ?_
  refine lv_land hx hb d_Mo_byteOf_9 ?_
  refine lv_l2i hx hb d_Mo_byteOf_10 rfl ?_
  exact W.iret (v := (((ju_lshr x0 (8 * x2)) &&& (255 : Int64)).toInt32)) hx hb hr (fun t ht hW => ⟨⟨(((ju_lshr x0 (8 * x2)) &&& (255 : Int64)).toInt32), S, rfl, hw, by rw [ht]; exact hP, va_K.moved hW.alike hK⟩, hS.F ht⟩) hS.2.2 d_Mo_byteOf_11
set_option maxHeartbeats 4000000 in
set_option maxRecDepth 100000 in
theorem k_Mo_byteOf (l : Launch) (Y : gY) (hY : gOK Y) (sz : Nat) (x0 : Int64) (x2 : Int32)  (S : gS) (Q : Int32 → gS → Prop) : Met l y_Mo_byteOf w_Mo_byteOf (gRm 0 0) (gPre Y [.long x0, .int x2] S sz (wp_Mo_byteOf (gLn Y) Q x0 x2 S)) (va_Qi Q (gB Y) (gA Y sz)) 0 0 (gA Y sz) := by
  refine Met.ofW (cc := c_Mo_byteOf) (maxL := 3) (ret := (Option.some Jvm.ClassFile.FieldType.int)) (by decide) rfl ?_
  intro p e s m args below meth c s₁ B hml hv
  obtain ⟨rfl, hsz, hP, hK, hSt, hw⟩ := hv
  subst hsz
  have hts := atoms_spec (ws := w_Mo_byteOf) B.pre
  have hl := lv_entry ([.long x0, .int x2]) (n := 3) (Nat.le_of_ble_eq_true rfl)
  rw [lg_entry_eq]
  generalize (lg_sl ([.long x0, .int x2]) ++ List.replicate (3 - (lg_sl ([.long x0, .int x2])).length) Slot.unset).toArray = ls at hl ⊢
  exact mw_Mo_byteOf ⟨B.exec, B.bytes, hml, findClass_of_methodNamed B.named, hts, B.returns, B.notSynchronized, hK, hY, hSt⟩ x0 x2 S s.heap [] ls hw hP va_S.rf hl

def wp_Mo_payloadAt_103 (Ln : gI → Nat) (Q : Int32 → gS → Prop) (x0 : gI) (x1 : Int32) (x2 : Int32)  (S : gS) : Prop :=
  ((8 ≤ x2) → (((16 ≤ x2) → (vp_in x1 (Ln (grf x0 7)) ∧ (wp_Mo_byteOf Ln (fun r6 S5 => Q r6 S5) ((S.1 (grf x0 7) x1.toNatClampNeg).toInt64) (x2 - x2 / 8 * 8) S))) ∧ ((¬ 16 ≤ x2) → (vp_in x1 (Ln (grf x0 6)) ∧ (wp_Mo_byteOf Ln (fun r8 S7 => Q r8 S7) ((S.1 (grf x0 6) x1.toNatClampNeg).toInt64) (x2 - x2 / 8 * 8) S))))) ∧ ((¬ 8 ≤ x2) → (vp_in x1 (Ln (grf x0 5)) ∧ (wp_Mo_byteOf Ln (fun r10 S9 => Q r10 S9) ((S.1 (grf x0 5) x1.toNatClampNeg).toInt64) (x2 - x2 / 8 * 8) S)))
def wp_Mo_payloadAt (Ln : gI → Nat) (Q : Int32 → gS → Prop) (x0 : gI) (x1 : Int32) (x2 : Int32)  (S : gS) : Prop :=
  vp_in x1 (Ln (grf x0 4)) ∧ (((¬ (S.1 (grf x0 4) x1.toNatClampNeg) = 1) → (vp_in x1 (Ln (grf x0 4)) ∧ (((¬ (S.1 (grf x0 4) x1.toNatClampNeg) = 3) → (wp_Mo_payloadAt_103 Ln Q x0 x1 x2 S)) ∧ (((S.1 (grf x0 4) x1.toNatClampNeg) = 3) → (((x2 ≤ 15) → (wp_Mo_payloadAt_103 Ln Q x0 x1 x2 S)) ∧ ((¬ x2 ≤ 15) → (((¬ x2 = 16) → (vp_in x1 (Ln (grf x0 8)) ∧ (vp_in (((S.1 (grf x0 8) x1.toNatClampNeg) + x2) - 17) (Ln (grf x0 10)) ∧ (Q (S.1 (grf x0 10) (((S.1 (grf x0 8) x1.toNatClampNeg) + x2) - 17).toNatClampNeg) S)))) ∧ ((x2 = 16) → (vp_in x1 (Ln (grf x0 7)) ∧ (Q (S.1 (grf x0 7) x1.toNatClampNeg) S)))))))))) ∧ (((S.1 (grf x0 4) x1.toNatClampNeg) = 1) → (((4 ≤ x2) → (((8 ≤ x2) → (vp_in x1 (Ln (grf x0 7)) ∧ (wp_Mo_byteOf Ln (fun r16 S15 => Q r16 S15) ((S.1 (grf x0 7) x1.toNatClampNeg).toInt64) (x2 - x2 / 4 * 4) S))) ∧ ((¬ 8 ≤ x2) → (vp_in x1 (Ln (grf x0 6)) ∧ (wp_Mo_byteOf Ln (fun r18 S17 => Q r18 S17) ((S.1 (grf x0 6) x1.toNatClampNeg).toInt64) (x2 - x2 / 4 * 4) S))))) ∧ ((¬ 4 ≤ x2) → (vp_in x1 (Ln (grf x0 5)) ∧ (wp_Mo_byteOf Ln (fun r20 S19 => Q r20 S19) ((S.1 (grf x0 5) x1.toNatClampNeg).toInt64) (x2 - x2 / 4 * 4) S))))))
set_option maxHeartbeats 4000000 in
set_option maxRecDepth 100000 in
theorem mw_Mo_payloadAt_103 {p : Program} {l : Launch} {e : Env} {s : State} {m : MethodId} {args : Array Value} {below : List Frame} {meth : Method} {c : Code} {Y : gY} {Q : Int32 → gS → Prop} (C : gCx p s m args meth c Y "LogDiskModel" c_Mo_payloadAt 3 (Option.some Jvm.ClassFile.FieldType.int) w_Mo_payloadAt) : ∀ (x0 : gI) (x1 : Int32) (x2 : Int32)  (S : gS) (H : Heap) (locs : List Loc) (ls : Array Slot), gis Y 10 x0 → wp_Mo_payloadAt_103 (gLn Y) Q x0 x1 x2 S → gWd Y S H → va_S (gA Y s.heap.size) s.heap H locs → lv_has ls 3 [(0, .ref (gad Y x0)), (1, .int x1), (2, .int x2)] → W p l e (gRm 1 22) s m args below meth c H locs 0 0 (MQ below (va_Qi Q (gB Y) (gA Y s.heap.size)) args s 0 0 (gA Y s.heap.size)) (F0 m 103 ls []) := by
  have C0 := C
  obtain ⟨hx, hb, hml, hown, hts, hr, hlocks, hK, hY, hSt⟩ := C
  intro x0 x1 x2 S H locs ls hx0 hw hP hS hl
  unfold wp_Mo_payloadAt_103 at hw
  refine lv_iload_n hx hb d_Mo_payloadAt_103 rfl (lv_at hl 2 rfl) ?_
  refine lv_bipush (v := 8) hx hb d_Mo_payloadAt_104 (by decide) ?_
  refine lv_icmp_ge (tgt := 119) hx hb d_Mo_payloadAt_106 (by decide) (fun c3 => ?_) (fun c3 => ?_)
  · replace hw := hw.1 c3
    refine lv_iload_n hx hb d_Mo_payloadAt_119 rfl (lv_at hl 2 rfl) ?_
    refine lv_bipush (v := 16) hx hb d_Mo_payloadAt_120 (by decide) ?_
    refine lv_icmp_ge (tgt := 135) hx hb d_Mo_payloadAt_122 (by decide) (fun c4 => ?_) (fun c4 => ?_)
    · replace hw := hw.1 c4
      refine lv_aload_n hx hb d_Mo_payloadAt_135 rfl (lv_at hl 0 rfl) ?_
      refine g_get hx hb hts (fun w h => List.mem_cons_of_mem _ (in_Mo w h)) hown hK hP hx0 (gce_Mo hx0.1) rfl 7 (by decide) (hts _ (List.mem_cons_of_mem _ gw_814)) rfl d_Mo_payloadAt_136 ?_
      refine lv_iload_n hx hb d_Mo_payloadAt_139 rfl (lv_at hl 1 rfl) ?_
      obtain ⟨hin, hw⟩ := hw
      refine g_iaload hx hb hK hP (gis_Mo_cs hY hx0) hin d_Mo_payloadAt_140 ?_
      refine lv_i2l hx hb d_Mo_payloadAt_141 rfl ?_
      refine lv_iload_n hx hb d_Mo_payloadAt_142 rfl (lv_at hl 2 rfl) ?_
      refine lv_bipush (v := 8) hx hb d_Mo_payloadAt_143 (by decide) ?_
      refine lv_irem hx hb d_Mo_payloadAt_145 (by decide) ?_
      refine g_calli (va_runS (As := [.long ((S.1 (grf x0 7) x1.toNatClampNeg).toInt64), .int (x2 - x2 / 8 * 8)]) (rest := []) ⟨hx, hb, hml, hown, hts⟩ (k_Mo_byteOf l Y hY H.size ((S.1 (grf x0 7) x1.toNatClampNeg).toInt64) (x2 - x2 / 8 * 8) S _) (va_cwS 2 hts (gG_S gw_929 gw_930 gw_12 gw_931) rfl rfl rfl (by decide +kernel) ⟨Nat.le_of_ble_eq_true rfl, Nat.le_of_ble_eq_true rfl⟩) ⟨gPre_blind, g_pre hK hSt hS hP hw⟩ rfl rfl hl.1 rfl (lv_room (Nat.le_of_ble_eq_true rfl)) d_Mo_payloadAt_146 ⟨Nat.zero_le _, Nat.zero_le _⟩) hS (fun r6 S5 H locs hw hP hS => ?_)
      exact W.iret (v := r6) hx hb hr (fun t ht hW => ⟨⟨r6, S5, rfl, hw, by rw [ht]; exact hP, va_K.moved hW.alike hK⟩, hS.F ht⟩) hS.2.2 d_Mo_payloadAt_149
    · replace hw := hw.2 c4
      refine lv_aload_n hx hb d_Mo_payloadAt_125 rfl (lv_at hl 0 rfl) ?_
      refine g_get hx hb hts (fun w h => List.mem_cons_of_mem _ (in_Mo w h)) hown hK hP hx0 (gce_Mo hx0.1) rfl 6 (by decide) (hts _ (List.mem_cons_of_mem _ gw_813)) rfl d_Mo_payloadAt_126 ?_
      refine lv_iload_n hx hb d_Mo_payloadAt_129 rfl (lv_at hl 1 rfl) ?_
      obtain ⟨hin, hw⟩ := hw
      refine g_iaload hx hb hK hP (gis_Mo_bs hY hx0) hin d_Mo_payloadAt_130 ?_
      refine lv_i2l hx hb d_Mo_payloadAt_131 rfl ?_
      refine lv_goto (tgt := 142) hx hb d_Mo_payloadAt_132 (by decide) ?_
      refine lv_iload_n hx hb d_Mo_payloadAt_142 rfl (lv_at hl 2 rfl) ?_
      refine lv_bipush (v := 8) hx hb d_Mo_payloadAt_143 (by decide) ?_
      refine lv_irem hx hb d_Mo_payloadAt_145 (by decide) ?_
      refine g_calli (va_runS (As := [.long ((S.1 (grf x0 6) x1.toNatClampNeg).toInt64), .int (x2 - x2 / 8 * 8)]) (rest := []) ⟨hx, hb, hml, hown, hts⟩ (k_Mo_byteOf l Y hY H.size ((S.1 (grf x0 6) x1.toNatClampNeg).toInt64) (x2 - x2 / 8 * 8) S _) (va_cwS 2 hts (gG_S gw_929 gw_930 gw_12 gw_931) rfl rfl rfl (by decide +kernel) ⟨Nat.le_of_ble_eq_true rfl, Nat.le_of_ble_eq_true rfl⟩) ⟨gPre_blind, g_pre hK hSt hS hP hw⟩ rfl rfl hl.1 rfl (lv_room (Nat.le_of_ble_eq_true rfl)) d_Mo_payloadAt_146 ⟨Nat.zero_le _, Nat.zero_le _⟩) hS (fun r8 S7 H locs hw hP hS => ?_)
      exact W.iret (v := r8) hx hb hr (fun t ht hW => ⟨⟨r8, S7, rfl, hw, by rw [ht]; exact hP, va_K.moved hW.alike hK⟩, hS.F ht⟩) hS.2.2 d_Mo_payloadAt_149
  · replace hw := hw.2 c3
    refine lv_aload_n hx hb d_Mo_payloadAt_109 rfl (lv_at hl 0 rfl) ?_
    refine g_get hx hb hts (fun w h => List.mem_cons_of_mem _ (in_Mo w h)) hown hK hP hx0 (gce_Mo hx0.1) rfl 5 (by decide) (hts _ (List.mem_cons_of_mem _ gw_812)) rfl d_Mo_payloadAt_110 ?_
    refine lv_iload_n hx hb d_Mo_payloadAt_113 rfl (lv_at hl 1 rfl) ?_
    obtain ⟨hin, hw⟩ := hw
    refine g_iaload hx hb hK hP (gis_Mo_as hY hx0) hin d_Mo_payloadAt_114 ?_
    refine lv_i2l hx hb d_Mo_payloadAt_115 rfl ?_
    refine lv_goto (tgt := 142) hx hb d_Mo_payloadAt_116 (by decide) ?_
    refine lv_iload_n hx hb d_Mo_payloadAt_142 rfl (lv_at hl 2 rfl) ?_
    refine lv_bipush (v := 8) hx hb d_Mo_payloadAt_143 (by decide) ?_
    refine lv_irem hx hb d_Mo_payloadAt_145 (by decide) ?_
    refine g_calli (va_runS (As := [.long ((S.1 (grf x0 5) x1.toNatClampNeg).toInt64), .int (x2 - x2 / 8 * 8)]) (rest := []) ⟨hx, hb, hml, hown, hts⟩ (k_Mo_byteOf l Y hY H.size ((S.1 (grf x0 5) x1.toNatClampNeg).toInt64) (x2 - x2 / 8 * 8) S _) (va_cwS 2 hts (gG_S gw_929 gw_930 gw_12 gw_931) rfl rfl rfl (by decide +kernel) ⟨Nat.le_of_ble_eq_true rfl, Nat.le_of_ble_eq_true rfl⟩) ⟨gPre_blind, g_pre hK hSt hS hP hw⟩ rfl rfl hl.1 rfl (lv_room (Nat.le_of_ble_eq_true rfl)) d_Mo_payloadAt_146 ⟨Nat.zero_le _, Nat.zero_le _⟩) hS (fun r10 S9 H locs hw hP hS => ?_)
    exact W.iret (v := r10) hx hb hr (fun t ht hW => ⟨⟨r10, S9, rfl, hw, by rw [ht]; exact hP, va_K.moved hW.alike hK⟩, hS.F ht⟩) hS.2.2 d_Mo_payloadAt_149
set_option maxHeartbeats 4000000 in
set_option maxRecDepth 100000 in
theorem mw_Mo_payloadAt {p : Program} {l : Launch} {e : Env} {s : State} {m : MethodId} {args : Array Value} {below : List Frame} {meth : Method} {c : Code} {Y : gY} {Q : Int32 → gS → Prop} (C : gCx p s m args meth c Y "LogDiskModel" c_Mo_payloadAt 3 (Option.some Jvm.ClassFile.FieldType.int) w_Mo_payloadAt) : ∀ (x0 : gI) (x1 : Int32) (x2 : Int32)  (S : gS) (H : Heap) (locs : List Loc) (ls : Array Slot), gis Y 10 x0 → wp_Mo_payloadAt (gLn Y) Q x0 x1 x2 S → gWd Y S H → va_S (gA Y s.heap.size) s.heap H locs → lv_has ls 3 [(0, .ref (gad Y x0)), (1, .int x1), (2, .int x2)] → W p l e (gRm 1 22) s m args below meth c H locs 0 0 (MQ below (va_Qi Q (gB Y) (gA Y s.heap.size)) args s 0 0 (gA Y s.heap.size)) (F0 m 0 ls []) := by
  have C0 := C
  obtain ⟨hx, hb, hml, hown, hts, hr, hlocks, hK, hY, hSt⟩ := C
  intro x0 x1 x2 S H locs ls hx0 hw hP hS hl
  unfold wp_Mo_payloadAt at hw
  refine lv_aload_n hx hb d_Mo_payloadAt_0 rfl (lv_at hl 0 rfl) ?_
  refine g_get hx hb hts (fun w h => List.mem_cons_of_mem _ (in_Mo w h)) hown hK hP hx0 (gce_Mo hx0.1) rfl 4 (by decide) (hts _ (List.mem_cons_of_mem _ gw_811)) rfl d_Mo_payloadAt_1 ?_
  refine lv_iload_n hx hb d_Mo_payloadAt_4 rfl (lv_at hl 1 rfl) ?_
  obtain ⟨hin, hw⟩ := hw
  refine g_iaload hx hb hK hP (gis_Mo_sorts hY hx0) hin d_Mo_payloadAt_5 ?_
  refine lv_iconst (v := 1) hx hb d_Mo_payloadAt_6 (by decide) ?_
  refine lv_icmp_ne (tgt := 55) hx hb d_Mo_payloadAt_7 (by decide) (fun c1 => ?_) (fun c1 => ?_)
  · replace hw := hw.1 c1
    refine lv_aload_n hx hb d_Mo_payloadAt_55 rfl (lv_at hl 0 rfl) ?_
    refine g_get hx hb hts (fun w h => List.mem_cons_of_mem _ (in_Mo w h)) hown hK hP hx0 (gce_Mo hx0.1) rfl 4 (by decide) (hts _ (List.mem_cons_of_mem _ gw_811)) rfl d_Mo_payloadAt_56 ?_
    refine lv_iload_n hx hb d_Mo_payloadAt_59 rfl (lv_at hl 1 rfl) ?_
    obtain ⟨hin, hw⟩ := hw
    refine g_iaload hx hb hK hP (gis_Mo_sorts hY hx0) hin d_Mo_payloadAt_60 ?_
    refine lv_iconst (v := 3) hx hb d_Mo_payloadAt_61 (by decide) ?_
    refine lv_icmp_ne (tgt := 103) hx hb d_Mo_payloadAt_62 (by decide) (fun c2 => ?_) (fun c2 => ?_)
    · replace hw := hw.1 c2
      exact mw_Mo_payloadAt_103 C0 x0 x1 x2 S H locs ls hx0 hw hP hS (lv_sub hl [0, 1, 2] rfl)
    · replace hw := hw.2 c2
      refine lv_iload_n hx hb d_Mo_payloadAt_65 rfl (lv_at hl 2 rfl) ?_
      refine lv_bipush (v := 15) hx hb d_Mo_payloadAt_66 (by decide) ?_
      refine lv_icmp_le (tgt := 103) hx hb d_Mo_payloadAt_68 (by decide) (fun c11 => ?_) (fun c11 => ?_)
      · replace hw := hw.1 c11
        exact mw_Mo_payloadAt_103 C0 x0 x1 x2 S H locs ls hx0 hw hP hS (lv_sub hl [0, 1, 2] rfl)
      · replace hw := hw.2 c11
        refine lv_iload_n hx hb d_Mo_payloadAt_71 rfl (lv_at hl 2 rfl) ?_
        refine lv_bipush (v := 16) hx hb d_Mo_payloadAt_72 (by decide) ?_
        refine lv_icmp_ne (tgt := 86) hx hb d_Mo_payloadAt_74 (by decide) (fun c12 => ?_) (fun c12 => ?_)
        · replace hw := hw.1 c12
          refine lv_aload_n hx hb d_Mo_payloadAt_86 rfl (lv_at hl 0 rfl) ?_
          refine g_get hx hb hts (fun w h => List.mem_cons_of_mem _ (in_Mo w h)) hown hK hP hx0 (gce_Mo hx0.1) rfl 10 (by decide) (hts _ (List.mem_cons_of_mem _ gw_817)) rfl d_Mo_payloadAt_87 ?_
          refine lv_aload_n hx hb d_Mo_payloadAt_90 rfl (lv_at hl 0 rfl) ?_
          refine g_get hx hb hts (fun w h => List.mem_cons_of_mem _ (in_Mo w h)) hown hK hP hx0 (gce_Mo hx0.1) rfl 8 (by decide) (hts _ (List.mem_cons_of_mem _ gw_815)) rfl d_Mo_payloadAt_91 ?_
          refine lv_iload_n hx hb d_Mo_payloadAt_94 rfl (lv_at hl 1 rfl) ?_
          obtain ⟨hin, hw⟩ := hw
          refine g_iaload hx hb hK hP (gis_Mo_froms hY hx0) hin d_Mo_payloadAt_95 ?_
          refine lv_iload_n hx hb d_Mo_payloadAt_96 rfl (lv_at hl 2 rfl) ?_
          refine lv_iadd hx hb d_Mo_payloadAt_97 ?_
          refine lv_bipush (v := 17) hx hb d_Mo_payloadAt_98 (by decide) ?_
          refine lv_isub hx hb d_Mo_payloadAt_100 ?_
          obtain ⟨hin, hw⟩ := hw
          refine g_iaload hx hb hK hP (gis_Mo_bytes hY hx0) hin d_Mo_payloadAt_101 ?_
          exact W.iret (v := (S.1 (grf x0 10) (((S.1 (grf x0 8) x1.toNatClampNeg) + x2) - 17).toNatClampNeg)) hx hb hr (fun t ht hW => ⟨⟨(S.1 (grf x0 10) (((S.1 (grf x0 8) x1.toNatClampNeg) + x2) - 17).toNatClampNeg), S, rfl, hw, by rw [ht]; exact hP, va_K.moved hW.alike hK⟩, hS.F ht⟩) hS.2.2 d_Mo_payloadAt_102
        · replace hw := hw.2 c12
          refine lv_aload_n hx hb d_Mo_payloadAt_77 rfl (lv_at hl 0 rfl) ?_
          refine g_get hx hb hts (fun w h => List.mem_cons_of_mem _ (in_Mo w h)) hown hK hP hx0 (gce_Mo hx0.1) rfl 7 (by decide) (hts _ (List.mem_cons_of_mem _ gw_814)) rfl d_Mo_payloadAt_78 ?_
          refine lv_iload_n hx hb d_Mo_payloadAt_81 rfl (lv_at hl 1 rfl) ?_
          obtain ⟨hin, hw⟩ := hw
          refine g_iaload hx hb hK hP (gis_Mo_cs hY hx0) hin d_Mo_payloadAt_82 ?_
          refine lv_goto (tgt := 102) hx hb d_Mo_payloadAt_83 (by decide) ?_
          exact W.iret (v := (S.1 (grf x0 7) x1.toNatClampNeg)) hx hb hr (fun t ht hW => ⟨⟨(S.1 (grf x0 7) x1.toNatClampNeg), S, rfl, hw, by rw [ht]; exact hP, va_K.moved hW.alike hK⟩, hS.F ht⟩) hS.2.2 d_Mo_payloadAt_102
  · replace hw := hw.2 c1
    refine lv_iload_n hx hb d_Mo_payloadAt_10 rfl (lv_at hl 2 rfl) ?_
    refine lv_iconst (v := 4) hx hb d_Mo_payloadAt_11 (by decide) ?_
    refine lv_icmp_ge (tgt := 25) hx hb d_Mo_payloadAt_12 (by decide) (fun c13 => ?_) (fun c13 => ?_)
    · replace hw := hw.1 c13
      refine lv_iload_n hx hb d_Mo_payloadAt_25 rfl (lv_at hl 2 rfl) ?_
      refine lv_bipush (v := 8) hx hb d_Mo_payloadAt_26 (by decide) ?_
      refine lv_icmp_ge (tgt := 41) hx hb d_Mo_payloadAt_28 (by decide) (fun c14 => ?_) (fun c14 => ?_)
      · replace hw := hw.1 c14
        refine lv_aload_n hx hb d_Mo_payloadAt_41 rfl (lv_at hl 0 rfl) ?_
        refine g_get hx hb hts (fun w h => List.mem_cons_of_mem _ (in_Mo w h)) hown hK hP hx0 (gce_Mo hx0.1) rfl 7 (by decide) (hts _ (List.mem_cons_of_mem _ gw_814)) rfl d_Mo_payloadAt_42 ?_
        refine lv_iload_n hx hb d_Mo_payloadAt_45 rfl (lv_at hl 1 rfl) ?_
        obtain ⟨hin, hw⟩ := hw
        refine g_iaload hx hb hK hP (gis_Mo_cs hY hx0) hin d_Mo_payloadAt_46 ?_
        refine lv_i2l hx hb d_Mo_payloadAt_47 rfl ?_
        refine lv_iload_n hx hb d_Mo_payloadAt_48 rfl (lv_at hl 2 rfl) ?_
        refine lv_iconst (v := 4) hx hb d_Mo_payloadAt_49 (by decide) ?_
        refine lv_irem hx hb d_Mo_payloadAt_50 (by decide) ?_
        refine g_calli (va_runS (As := [.long ((S.1 (grf x0 7) x1.toNatClampNeg).toInt64), .int (x2 - x2 / 4 * 4)]) (rest := []) ⟨hx, hb, hml, hown, hts⟩ (k_Mo_byteOf l Y hY H.size ((S.1 (grf x0 7) x1.toNatClampNeg).toInt64) (x2 - x2 / 4 * 4) S _) (va_cwS 2 hts (gG_S gw_929 gw_930 gw_12 gw_931) rfl rfl rfl (by decide +kernel) ⟨Nat.le_of_ble_eq_true rfl, Nat.le_of_ble_eq_true rfl⟩) ⟨gPre_blind, g_pre hK hSt hS hP hw⟩ rfl rfl hl.1 rfl (lv_room (Nat.le_of_ble_eq_true rfl)) d_Mo_payloadAt_51 ⟨Nat.zero_le _, Nat.zero_le _⟩) hS (fun r16 S15 H locs hw hP hS => ?_)
        exact W.iret (v := r16) hx hb hr (fun t ht hW => ⟨⟨r16, S15, rfl, hw, by rw [ht]; exact hP, va_K.moved hW.alike hK⟩, hS.F ht⟩) hS.2.2 d_Mo_payloadAt_54
      · replace hw := hw.2 c14
        refine lv_aload_n hx hb d_Mo_payloadAt_31 rfl (lv_at hl 0 rfl) ?_
        refine g_get hx hb hts (fun w h => List.mem_cons_of_mem _ (in_Mo w h)) hown hK hP hx0 (gce_Mo hx0.1) rfl 6 (by decide) (hts _ (List.mem_cons_of_mem _ gw_813)) rfl d_Mo_payloadAt_32 ?_
        refine lv_iload_n hx hb d_Mo_payloadAt_35 rfl (lv_at hl 1 rfl) ?_
        obtain ⟨hin, hw⟩ := hw
        refine g_iaload hx hb hK hP (gis_Mo_bs hY hx0) hin d_Mo_payloadAt_36 ?_
        refine lv_i2l hx hb d_Mo_payloadAt_37 rfl ?_
        refine lv_goto (tgt := 48) hx hb d_Mo_payloadAt_38 (by decide) ?_
        refine lv_iload_n hx hb d_Mo_payloadAt_48 rfl (lv_at hl 2 rfl) ?_
        refine lv_iconst (v := 4) hx hb d_Mo_payloadAt_49 (by decide) ?_
        refine lv_irem hx hb d_Mo_payloadAt_50 (by decide) ?_
        refine g_calli (va_runS (As := [.long ((S.1 (grf x0 6) x1.toNatClampNeg).toInt64), .int (x2 - x2 / 4 * 4)]) (rest := []) ⟨hx, hb, hml, hown, hts⟩ (k_Mo_byteOf l Y hY H.size ((S.1 (grf x0 6) x1.toNatClampNeg).toInt64) (x2 - x2 / 4 * 4) S _) (va_cwS 2 hts (gG_S gw_929 gw_930 gw_12 gw_931) rfl rfl rfl (by decide +kernel) ⟨Nat.le_of_ble_eq_true rfl, Nat.le_of_ble_eq_true rfl⟩) ⟨gPre_blind, g_pre hK hSt hS hP hw⟩ rfl rfl hl.1 rfl (lv_room (Nat.le_of_ble_eq_true rfl)) d_Mo_payloadAt_51 ⟨Nat.zero_le _, Nat.zero_le _⟩) hS (fun r18 S17 H locs hw hP hS => ?_)
        exact W.iret (v := r18) hx hb hr (fun t ht hW => ⟨⟨r18, S17, rfl, hw, by rw [ht]; exact hP, va_K.moved hW.alike hK⟩, hS.F ht⟩) hS.2.2 d_Mo_payloadAt_54
    · replace hw := hw.2 c13
      refine lv_aload_n hx hb d_Mo_payloadAt_15 rfl (lv_at hl 0 rfl) ?_
      refine g_get hx hb hts (fun w h => List.mem_cons_of_mem _ (in_Mo w h)) hown hK hP hx0 (gce_Mo hx0.1) rfl 5 (by decide) (hts _ (List.mem_cons_of_mem _ gw_812)) rfl d_Mo_payloadAt_16 ?_
      refine lv_iload_n hx hb d_Mo_payloadAt_19 rfl (lv_at hl 1 rfl) ?_
      obtain ⟨hin, hw⟩ := hw
      refine g_iaload hx hb hK hP (gis_Mo_as hY hx0) hin d_Mo_payloadAt_20 ?_
      refine lv_i2l hx hb d_Mo_payloadAt_21 rfl ?_
      refine lv_goto (tgt := 48) hx hb d_Mo_payloadAt_22 (by decide) ?_
      refine lv_iload_n hx hb d_Mo_payloadAt_48 rfl (lv_at hl 2 rfl) ?_
      refine lv_iconst (v := 4) hx hb d_Mo_payloadAt_49 (by decide) ?_
      refine lv_irem hx hb d_Mo_payloadAt_50 (by decide) ?_
      refine g_calli (va_runS (As := [.long ((S.1 (grf x0 5) x1.toNatClampNeg).toInt64), .int (x2 - x2 / 4 * 4)]) (rest := []) ⟨hx, hb, hml, hown, hts⟩ (k_Mo_byteOf l Y hY H.size ((S.1 (grf x0 5) x1.toNatClampNeg).toInt64) (x2 - x2 / 4 * 4) S _) (va_cwS 2 hts (gG_S gw_929 gw_930 gw_12 gw_931) rfl rfl rfl (by decide +kernel) ⟨Nat.le_of_ble_eq_true rfl, Nat.le_of_ble_eq_true rfl⟩) ⟨gPre_blind, g_pre hK hSt hS hP hw⟩ rfl rfl hl.1 rfl (lv_room (Nat.le_of_ble_eq_true rfl)) d_Mo_payloadAt_51 ⟨Nat.zero_le _, Nat.zero_le _⟩) hS (fun r20 S19 H locs hw hP hS => ?_)
      exact W.iret (v := r20) hx hb hr (fun t ht hW => ⟨⟨r20, S19, rfl, hw, by rw [ht]; exact hP, va_K.moved hW.alike hK⟩, hS.F ht⟩) hS.2.2 d_Mo_payloadAt_54
set_option maxHeartbeats 4000000 in
set_option maxRecDepth 100000 in
theorem k_Mo_payloadAt (l : Launch) (Y : gY) (hY : gOK Y) (sz : Nat) (x0 : gI) (x1 : Int32) (x2 : Int32)  (hx0 : gis Y 10 x0) (S : gS) (Q : Int32 → gS → Prop) : Met l y_Mo_payloadAt w_Mo_payloadAt (gRm 1 22) (gPre Y [.ref (gad Y x0), .int x1, .int x2] S sz (wp_Mo_payloadAt (gLn Y) Q x0 x1 x2 S)) (va_Qi Q (gB Y) (gA Y sz)) 0 0 (gA Y sz) := by
  refine Met.ofW (cc := c_Mo_payloadAt) (maxL := 3) (ret := (Option.some Jvm.ClassFile.FieldType.int)) (by decide) rfl ?_
  intro p e s m args below meth c s₁ B hml hv
  obtain ⟨rfl, hsz, hP, hK, hSt, hw⟩ := hv
  subst hsz
  have hts := atoms_spec (ws := w_Mo_payloadAt) B.pre
  have hl := lv_entry ([.ref (gad Y x0), .int x1, .int x2]) (n := 3) (Nat.le_of_ble_eq_true rfl)
  rw [lg_entry_eq]
  generalize (lg_sl ([.ref (gad Y x0), .int x1, .int x2]) ++ List.replicate (3 - (lg_sl ([.ref (gad Y x0), .int x1, .int x2])).length) Slot.unset).toArray = ls at hl ⊢
  exact mw_Mo_payloadAt ⟨B.exec, B.bytes, hml, findClass_of_methodNamed B.named, hts, B.returns, B.notSynchronized, hK, hY, hSt⟩ x0 x1 x2 S s.heap [] ls hx0 hw hP va_S.rf hl

def wp_Mo_sumOf_51 (Ln : gI → Nat) (K4 : gI → Int32 → Int32 → Int32 → gS → Prop) (K25 : gI → Int32 → Int32 → Int32 → Int32 → gS → Prop) (Q : Int32 → gS → Prop) (x0 : gI) (x1 : Int32) (x3 : Int32) (x4 : Int32) (y0 : Int32) (S : gS) : Prop :=
  ∀ v4_10 : Int32, v4_10 = x4 + 1 → (K25 x0 x1 y0 x3 v4_10 S)
def wp_Mo_sumOf_25 (Ln : gI → Nat) (K4 : gI → Int32 → Int32 → Int32 → gS → Prop) (Q : Int32 → gS → Prop) : Nat → gI → Int32 → Int32 → Int32 → Int32 → gS → Prop
  | 0, _, _, _, _, _, _ => False
  | n25 + 1, x0, x1, x2, x3, x4, S => ((8 ≤ x4) → (∀ v3_8 : Int32, v3_8 = x3 + 1 → (K4 x0 x1 x2 v3_8 S))) ∧ ((¬ 8 ≤ x4) → (((¬ (x2 &&& 1) = 1) → (wp_Mo_sumOf_51 Ln K4 (fun z0 z1 z2 z3 z4 zS => wp_Mo_sumOf_25 Ln K4 Q n25 z0 z1 z2 z3 z4 zS) Q x0 x1 x3 x4 (ju_ushr x2 1) S)) ∧ (((x2 &&& 1) = 1) → (wp_Mo_sumOf_51 Ln K4 (fun z0 z1 z2 z3 z4 zS => wp_Mo_sumOf_25 Ln K4 Q n25 z0 z1 z2 z3 z4 zS) Q x0 x1 x3 x4 ((ju_ushr x2 1) ^^^ (-306674912 : Int32)) S))))
def wp_Mo_sumOf_4 (Ln : gI → Nat) (Q : Int32 → gS → Prop) : Nat → gI → Int32 → Int32 → Int32 → gS → Prop
  | 0, _, _, _, _, _ => False
  | n4 + 1, x0, x1, x2, x3, S => wp_Mo_payload Ln (fun r2 S1 => ((r2 ≤ x3) → (Q (x2 ^^^ (-1 : Int32)) S1)) ∧ ((¬ r2 ≤ x3) → (wp_Mo_payloadAt Ln (fun r5 S4 => ∀ v2_6 : Int32, v2_6 = x2 ^^^ r5 → (∃ n25 : Nat, wp_Mo_sumOf_25 Ln (fun z0 z1 z2 z3 zS => wp_Mo_sumOf_4 Ln Q n4 z0 z1 z2 z3 zS) Q n25 x0 x1 v2_6 x3 0 S4)) x0 x1 x3 S1))) x0 x1 S
def wp_Mo_sumOf (Ln : gI → Nat) (Q : Int32 → gS → Prop) (x0 : gI) (x1 : Int32)  (S : gS) : Prop :=
  ∃ n4 : Nat, wp_Mo_sumOf_4 Ln Q n4 x0 x1 (-1 : Int32) 0 S
set_option maxHeartbeats 4000000 in
set_option maxRecDepth 100000 in
theorem mw_Mo_sumOf_51 {p : Program} {l : Launch} {e : Env} {s : State} {m : MethodId} {args : Array Value} {below : List Frame} {meth : Method} {c : Code} {Y : gY} {Q : Int32 → gS → Prop} {K4 : gI → Int32 → Int32 → Int32 → gS → Prop} {K25 : gI → Int32 → Int32 → Int32 → Int32 → gS → Prop} (C : gCx p s m args meth c Y "LogDiskModel" c_Mo_sumOf 5 (Option.some Jvm.ClassFile.FieldType.int) w_Mo_sumOf) (hK4 : ∀ (x0 : gI) (x1 : Int32) (x2 : Int32) (x3 : Int32)  (S : gS) (H : Heap) (locs : List Loc) (ls : Array Slot), gis Y 10 x0 → K4 x0 x1 x2 x3 S → gWd Y S H → va_S (gA Y s.heap.size) s.heap H locs → lv_has ls 5 [(0, .ref (gad Y x0)), (1, .int x1), (2, .int x2), (3, .int x3)] → W p l e (gRm 2 44) s m args below meth c H locs 0 0 (MQ below (va_Qi Q (gB Y) (gA Y s.heap.size)) args s 0 0 (gA Y s.heap.size)) (F0 m 4 ls [])) (hK25 : ∀ (x0 : gI) (x1 : Int32) (x2 : Int32) (x3 : Int32) (x4 : Int32)  (S : gS) (H : Heap) (locs : List Loc) (ls : Array Slot), gis Y 10 x0 → K25 x0 x1 x2 x3 x4 S → gWd Y S H → va_S (gA Y s.heap.size) s.heap H locs → lv_has ls 5 [(0, .ref (gad Y x0)), (1, .int x1), (2, .int x2), (3, .int x3), (4, .int x4)] → W p l e (gRm 2 44) s m args below meth c H locs 0 0 (MQ below (va_Qi Q (gB Y) (gA Y s.heap.size)) args s 0 0 (gA Y s.heap.size)) (F0 m 25 ls [])) : ∀ (x0 : gI) (x1 : Int32) (x3 : Int32) (x4 : Int32) (y0 : Int32) (S : gS) (H : Heap) (locs : List Loc) (ls : Array Slot), gis Y 10 x0 → wp_Mo_sumOf_51 (gLn Y) K4 K25 Q x0 x1 x3 x4 y0 S → gWd Y S H → va_S (gA Y s.heap.size) s.heap H locs → lv_has ls 5 [(0, .ref (gad Y x0)), (1, .int x1), (3, .int x3), (4, .int x4)] → W p l e (gRm 2 44) s m args below meth c H locs 0 0 (MQ below (va_Qi Q (gB Y) (gA Y s.heap.size)) args s 0 0 (gA Y s.heap.size)) (F0 m 51 ls [.int y0]) := by
  have C0 := C
  obtain ⟨hx, hb, hml, hown, hts, hr, hlocks, hK, hY, hSt⟩ := C
  intro x0 x1 x3 x4 y0 S H locs ls hx0 hw hP hS hl
  unfold wp_Mo_sumOf_51 at hw
  refine lv_istore_n (lv' := [(2, .int y0), (0, .ref (gad Y x0)), (1, .int x1), (3, .int x3), (4, .int x4)]) hx hb d_Mo_sumOf_51 rfl hl (by decide) rfl (fun ls hl => ?_)
  obtain ⟨v4_10, ev4_10⟩ : ∃ y : Int32, y = x4 + 1 := ⟨_, rfl⟩
  replace hw := hw v4_10 ev4_10
  refine lv_iinc (v := v4_10) (lv' := [(4, .int v4_10), (2, .int y0), (0, .ref (gad Y x0)), (1, .int x1), (3, .int x3)]) hx hb d_Mo_sumOf_52 hl (k := 4) rfl (by rw [ev4_10]; rfl) (by decide) rfl (fun ls hl => ?_)
  refine lv_goto (tgt := 25) hx hb d_Mo_sumOf_55 (by decide) ?_
  exact hK25 x0 x1 y0 x3 v4_10 S H locs ls hx0 hw hP hS (lv_sub hl [2, 3, 1, 4, 0] rfl)
set_option maxHeartbeats 4000000 in
set_option maxRecDepth 100000 in
theorem mw_Mo_sumOf_25 {p : Program} {l : Launch} {e : Env} {s : State} {m : MethodId} {args : Array Value} {below : List Frame} {meth : Method} {c : Code} {Y : gY} {Q : Int32 → gS → Prop} {K4 : gI → Int32 → Int32 → Int32 → gS → Prop} (C : gCx p s m args meth c Y "LogDiskModel" c_Mo_sumOf 5 (Option.some Jvm.ClassFile.FieldType.int) w_Mo_sumOf) (hK4 : ∀ (x0 : gI) (x1 : Int32) (x2 : Int32) (x3 : Int32)  (S : gS) (H : Heap) (locs : List Loc) (ls : Array Slot), gis Y 10 x0 → K4 x0 x1 x2 x3 S → gWd Y S H → va_S (gA Y s.heap.size) s.heap H locs → lv_has ls 5 [(0, .ref (gad Y x0)), (1, .int x1), (2, .int x2), (3, .int x3)] → W p l e (gRm 2 44) s m args below meth c H locs 0 0 (MQ below (va_Qi Q (gB Y) (gA Y s.heap.size)) args s 0 0 (gA Y s.heap.size)) (F0 m 4 ls [])) : ∀ (n : Nat), ∀ (x0 : gI) (x1 : Int32) (x2 : Int32) (x3 : Int32) (x4 : Int32)  (S : gS) (H : Heap) (locs : List Loc) (ls : Array Slot), gis Y 10 x0 → wp_Mo_sumOf_25 (gLn Y) K4 Q n x0 x1 x2 x3 x4 S → gWd Y S H → va_S (gA Y s.heap.size) s.heap H locs → lv_has ls 5 [(0, .ref (gad Y x0)), (1, .int x1), (2, .int x2), (3, .int x3), (4, .int x4)] → W p l e (gRm 2 44) s m args below meth c H locs 0 0 (MQ below (va_Qi Q (gB Y) (gA Y s.heap.size)) args s 0 0 (gA Y s.heap.size)) (F0 m 25 ls []) := by
  have C0 := C
  obtain ⟨hx, hb, hml, hown, hts, hr, hlocks, hK, hY, hSt⟩ := C
  intro n
  induction n with
  | zero =>
    intro x0 x1 x2 x3 x4 S H locs ls hx0 hw
    exact False.elim hw
  | succ n ih =>
    intro x0 x1 x2 x3 x4 S H locs ls hx0 hw hP hS hl
    unfold wp_Mo_sumOf_25 at hw
    refine lv_iload hx hb d_Mo_sumOf_25 (lv_at hl 4 rfl) ?_
    refine lv_bipush (v := 8) hx hb d_Mo_sumOf_27 (by decide) ?_
    refine lv_icmp_ge (tgt := 58) hx hb d_Mo_sumOf_29 (by decide) (fun c7 => ?_) (fun c7 => ?_)
    · replace hw := hw.1 c7
      obtain ⟨v3_8, ev3_8⟩ : ∃ y : Int32, y = x3 + 1 := ⟨_, rfl⟩
      replace hw := hw v3_8 ev3_8
      refine lv_iinc (v := v3_8) (lv' := [(3, .int v3_8), (0, .ref (gad Y x0)), (1, .int x1), (2, .int x2), (4, .int x4)]) hx hb d_Mo_sumOf_58 hl (k := 3) rfl (by rw [ev3_8]; rfl) (by decide) rfl (fun ls hl => ?_)
      refine lv_goto (tgt := 4) hx hb d_Mo_sumOf_61 (by decide) ?_
      exact hK4 x0 x1 x2 v3_8 S H locs ls hx0 hw hP hS (lv_sub hl [1, 2, 3, 0] rfl)
    · replace hw := hw.2 c7
      refine lv_iload_n hx hb d_Mo_sumOf_32 rfl (lv_at hl 2 rfl) ?_
      refine lv_iconst (v := 1) hx hb d_Mo_sumOf_33 (by decide) ?_
      refine lv_iand hx hb d_Mo_sumOf_34 ?_
      refine lv_iconst (v := 1) hx hb d_Mo_sumOf_35 (by decide) ?_
      refine lv_icmp_ne (tgt := 48) hx hb d_Mo_sumOf_36 (by decide) (fun c9 => ?_) (fun c9 => ?_)
      · replace hw := hw.1 c9
        refine lv_iload_n hx hb d_Mo_sumOf_48 rfl (lv_at hl 2 rfl) ?_
        refine lv_iconst (v := 1) hx hb d_Mo_sumOf_49 (by decide) ?_
        refine lv_iushr hx hb d_Mo_sumOf_50 rfl ?_
        exact mw_Mo_sumOf_51 C0 hK4 ih x0 x1 x3 x4 (ju_ushr x2 1) S H locs ls hx0 hw hP hS (lv_sub hl [0, 1, 3, 4] rfl)
      · replace hw := hw.2 c9
        refine lv_iload_n hx hb d_Mo_sumOf_39 rfl (lv_at hl 2 rfl) ?_
        refine lv_iconst (v := 1) hx hb d_Mo_sumOf_40 (by decide) ?_
        refine lv_iushr hx hb d_Mo_sumOf_41 rfl ?_
        refine lv_ldc (v := (-306674912 : Int32)) hx hb hown (hts _ (List.mem_cons_of_mem _ gw_1129)) d_Mo_sumOf_42 ?_
        refine lv_ixor hx hb d_Mo_sumOf_44 ?_
        refine lv_goto (tgt := 51) hx hb d_Mo_sumOf_45 (by decide) ?_
        exact mw_Mo_sumOf_51 C0 hK4 ih x0 x1 x3 x4 ((ju_ushr x2 1) ^^^ (-306674912 : Int32)) S H locs ls hx0 hw hP hS (lv_sub hl [0, 1, 3, 4] rfl)
set_option maxHeartbeats 4000000 in
set_option maxRecDepth 100000 in
theorem mw_Mo_sumOf_4 {p : Program} {l : Launch} {e : Env} {s : State} {m : MethodId} {args : Array Value} {below : List Frame} {meth : Method} {c : Code} {Y : gY} {Q : Int32 → gS → Prop} (C : gCx p s m args meth c Y "LogDiskModel" c_Mo_sumOf 5 (Option.some Jvm.ClassFile.FieldType.int) w_Mo_sumOf) : ∀ (n : Nat), ∀ (x0 : gI) (x1 : Int32) (x2 : Int32) (x3 : Int32)  (S : gS) (H : Heap) (locs : List Loc) (ls : Array Slot), gis Y 10 x0 → wp_Mo_sumOf_4 (gLn Y) Q n x0 x1 x2 x3 S → gWd Y S H → va_S (gA Y s.heap.size) s.heap H locs → lv_has ls 5 [(0, .ref (gad Y x0)), (1, .int x1), (2, .int x2), (3, .int x3)] → W p l e (gRm 2 44) s m args below meth c H locs 0 0 (MQ below (va_Qi Q (gB Y) (gA Y s.heap.size)) args s 0 0 (gA Y s.heap.size)) (F0 m 4 ls []) := by
  have C0 := C
  obtain ⟨hx, hb, hml, hown, hts, hr, hlocks, hK, hY, hSt⟩ := C
  intro n
  induction n with
  | zero =>
    intro x0 x1 x2 x3 S H locs ls hx0 hw
    exact False.elim hw
  | succ n ih =>
    intro x0 x1 x2 x3 S H locs ls hx0 hw hP hS hl
    unfold wp_Mo_sumOf_4 at hw
    refine lv_iload_n hx hb d_Mo_sumOf_4 rfl (lv_at hl 3 rfl) ?_
    refine lv_aload_n hx hb d_Mo_sumOf_5 rfl (lv_at hl 0 rfl) ?_
    refine lv_iload_n hx hb d_Mo_sumOf_6 rfl (lv_at hl 1 rfl) ?_
    refine g_calli (va_runV (As := [.int x1]) (rest := [.int x3]) ⟨hx, hb, hml, hown, hts⟩ (k_Mo_payload l Y hY H.size x0 x1 hx0 S _) (cwV 1 hts (gG_V gw_957 gw_959 gs_26 gw_12 gw_960) rfl rfl rfl (by decide +kernel) ⟨Nat.le_of_ble_eq_true rfl, Nat.le_of_ble_eq_true rfl⟩) ⟨gPre_blind, g_recv hK hP hx0 (gce_Mo hx0.1) rfl, g_pre hK hSt hS hP hw⟩ rfl rfl hl.1 rfl (lv_room (Nat.le_of_ble_eq_true rfl)) d_Mo_sumOf_7 ⟨Nat.zero_le _, Nat.zero_le _⟩) hS (fun r2 S1 H locs hw hP hS => ?_)
    refine lv_icmp_ge (tgt := 64) hx hb d_Mo_sumOf_10 (by decide) (fun c3 => ?_) (fun c3 => ?_)
    · replace hw := hw.1 c3
      refine lv_iload_n hx hb d_Mo_sumOf_64 rfl (lv_at hl 2 rfl) ?_
      refine lv_iconst (v := (-1 : Int32)) hx hb d_Mo_sumOf_65 (by decide) ?_
      refine lv_ixor hx hb d_Mo_sumOf_66 ?_
      exact W.iret (v := (x2 ^^^ (-1 : Int32))) hx hb hr (fun t ht hW => ⟨⟨(x2 ^^^ (-1 : Int32)), S1, rfl, hw, by rw [ht]; exact hP, va_K.moved hW.alike hK⟩, hS.F ht⟩) hS.2.2 d_Mo_sumOf_67
    · replace hw := hw.2 c3
      refine lv_iload_n hx hb d_Mo_sumOf_13 rfl (lv_at hl 2 rfl) ?_
      refine lv_aload_n hx hb d_Mo_sumOf_14 rfl (lv_at hl 0 rfl) ?_
      refine lv_iload_n hx hb d_Mo_sumOf_15 rfl (lv_at hl 1 rfl) ?_
      refine lv_iload_n hx hb d_Mo_sumOf_16 rfl (lv_at hl 3 rfl) ?_
      refine g_calli (va_runV (As := [.int x1, .int x3]) (rest := [.int x2]) ⟨hx, hb, hml, hown, hts⟩ (k_Mo_payloadAt l Y hY H.size x0 x1 x3 hx0 S1 _) (cwV 2 hts (gG_V gw_1125 gw_1127 gs_53 gw_12 gw_1128) rfl rfl rfl (by decide +kernel) ⟨Nat.le_of_ble_eq_true rfl, Nat.le_of_ble_eq_true rfl⟩) ⟨gPre_blind, g_recv hK hP hx0 (gce_Mo hx0.1) rfl, g_pre hK hSt hS hP hw⟩ rfl rfl hl.1 rfl (lv_room (Nat.le_of_ble_eq_true rfl)) d_Mo_sumOf_17 ⟨Nat.zero_le _, Nat.zero_le _⟩) hS (fun r5 S4 H locs hw hP hS => ?_)
      refine lv_ixor hx hb d_Mo_sumOf_20 ?_
      refine lv_topi (fun v2_6 ev2_6 => ?_)
      replace hw := hw v2_6 ev2_6
      refine lv_istore_n (lv' := [(2, .int v2_6), (0, .ref (gad Y x0)), (1, .int x1), (3, .int x3)]) hx hb d_Mo_sumOf_21 rfl hl (by decide) rfl (fun ls hl => ?_)
      refine lv_iconst (v := 0) hx hb d_Mo_sumOf_22 (by decide) ?_
      refine lv_istore (lv' := [(4, .int 0), (2, .int v2_6), (0, .ref (gad Y x0)), (1, .int x1), (3, .int x3)]) hx hb d_Mo_sumOf_23 hl (by decide) rfl (fun ls hl => ?_)
      obtain ⟨n, hw⟩ := hw
      exact mw_Mo_sumOf_25 C0 ih n x0 x1 v2_6 x3 0 S4 H locs ls hx0 hw hP hS (lv_sub hl [2, 3, 1, 4, 0] rfl)
set_option maxHeartbeats 4000000 in
set_option maxRecDepth 100000 in
theorem mw_Mo_sumOf {p : Program} {l : Launch} {e : Env} {s : State} {m : MethodId} {args : Array Value} {below : List Frame} {meth : Method} {c : Code} {Y : gY} {Q : Int32 → gS → Prop} (C : gCx p s m args meth c Y "LogDiskModel" c_Mo_sumOf 5 (Option.some Jvm.ClassFile.FieldType.int) w_Mo_sumOf) : ∀ (x0 : gI) (x1 : Int32)  (S : gS) (H : Heap) (locs : List Loc) (ls : Array Slot), gis Y 10 x0 → wp_Mo_sumOf (gLn Y) Q x0 x1 S → gWd Y S H → va_S (gA Y s.heap.size) s.heap H locs → lv_has ls 5 [(0, .ref (gad Y x0)), (1, .int x1)] → W p l e (gRm 2 44) s m args below meth c H locs 0 0 (MQ below (va_Qi Q (gB Y) (gA Y s.heap.size)) args s 0 0 (gA Y s.heap.size)) (F0 m 0 ls []) := by
  have C0 := C
  obtain ⟨hx, hb, hml, hown, hts, hr, hlocks, hK, hY, hSt⟩ := C
  intro x0 x1 S H locs ls hx0 hw hP hS hl
  unfold wp_Mo_sumOf at hw
  refine lv_iconst (v := (-1 : Int32)) hx hb d_Mo_sumOf_0 (by decide) ?_
  refine lv_istore_n (lv' := [(2, .int (-1 : Int32)), (0, .ref (gad Y x0)), (1, .int x1)]) hx hb d_Mo_sumOf_1 rfl hl (by decide) rfl (fun ls hl => ?_)
  refine lv_iconst (v := 0) hx hb d_Mo_sumOf_2 (by decide) ?_
  refine lv_istore_n (lv' := [(3, .int 0), (2, .int (-1 : Int32)), (0, .ref (gad Y x0)), (1, .int x1)]) hx hb d_Mo_sumOf_3 rfl hl (by decide) rfl (fun ls hl => ?_)
  obtain ⟨n, hw⟩ := hw
  exact mw_Mo_sumOf_4 C0 n x0 x1 (-1 : Int32) 0 S H locs ls hx0 hw hP hS (lv_sub hl [2, 3, 1, 0] rfl)
set_option maxHeartbeats 4000000 in
set_option maxRecDepth 100000 in
theorem k_Mo_sumOf (l : Launch) (Y : gY) (hY : gOK Y) (sz : Nat) (x0 : gI) (x1 : Int32)  (hx0 : gis Y 10 x0) (S : gS) (Q : Int32 → gS → Prop) : Met l y_Mo_sumOf w_Mo_sumOf (gRm 2 44) (gPre Y [.ref (gad Y x0), .int x1] S sz (wp_Mo_sumOf (gLn Y) Q x0 x1 S)) (va_Qi Q (gB Y) (gA Y sz)) 0 0 (gA Y sz) := by
  refine Met.ofW (cc := c_Mo_sumOf) (maxL := 5) (ret := (Option.some Jvm.ClassFile.FieldType.int)) (by decide) rfl ?_
  intro p e s m args below meth c s₁ B hml hv
  obtain ⟨rfl, hsz, hP, hK, hSt, hw⟩ := hv
  subst hsz
  have hts := atoms_spec (ws := w_Mo_sumOf) B.pre
  have hl := lv_entry ([.ref (gad Y x0), .int x1]) (n := 5) (Nat.le_of_ble_eq_true rfl)
  rw [lg_entry_eq]
  generalize (lg_sl ([.ref (gad Y x0), .int x1]) ++ List.replicate (5 - (lg_sl ([.ref (gad Y x0), .int x1])).length) Slot.unset).toArray = ls at hl ⊢
  exact mw_Mo_sumOf ⟨B.exec, B.bytes, hml, findClass_of_methodNamed B.named, hts, B.returns, B.notSynchronized, hK, hY, hSt⟩ x0 x1 S s.heap [] ls hx0 hw hP va_S.rf hl

def wp_Mo_frameAt (Ln : gI → Nat) (Q : Int32 → gS → Prop) (x0 : gI) (x1 : Int32) (x2 : Int32)  (S : gS) : Prop :=
  ((8 ≤ x2) → (wp_Mo_payload Ln (fun r3 S2 => ((r3 ≤ (x2 - 8)) → (vp_in x1 (Ln (grf x0 8)) ∧ (wp_Mo_payload Ln (fun r6 S5 => vp_in ((((S2.1 (grf x0 8) x1.toNatClampNeg) + x2) - 8) - r6) (Ln (grf x0 10)) ∧ (Q (S5.1 (grf x0 10) ((((S2.1 (grf x0 8) x1.toNatClampNeg) + x2) - 8) - r6).toNatClampNeg) S5)) x0 x1 S2))) ∧ ((¬ r3 ≤ (x2 - 8)) → (wp_Mo_payloadAt Ln (fun r8 S7 => Q r8 S7) x0 x1 (x2 - 8) S2))) x0 x1 S)) ∧ ((¬ 8 ≤ x2) → (((4 ≤ x2) → (wp_Mo_sumOf Ln (fun r11 S10 => wp_Mo_byteOf Ln (fun r13 S12 => Q r13 S12) (r11.toInt64) (x2 - 4) S10) x0 x1 S)) ∧ ((¬ 4 ≤ x2) → (wp_Mo_payload Ln (fun r15 S14 => wp_Mo_byteOf Ln (fun r17 S16 => Q r17 S16) (r15.toInt64) x2 S14) x0 x1 S))))
set_option maxHeartbeats 4000000 in
set_option maxRecDepth 100000 in
theorem mw_Mo_frameAt {p : Program} {l : Launch} {e : Env} {s : State} {m : MethodId} {args : Array Value} {below : List Frame} {meth : Method} {c : Code} {Y : gY} {Q : Int32 → gS → Prop} (C : gCx p s m args meth c Y "LogDiskModel" c_Mo_frameAt 3 (Option.some Jvm.ClassFile.FieldType.int) w_Mo_frameAt) : ∀ (x0 : gI) (x1 : Int32) (x2 : Int32)  (S : gS) (H : Heap) (locs : List Loc) (ls : Array Slot), gis Y 10 x0 → wp_Mo_frameAt (gLn Y) Q x0 x1 x2 S → gWd Y S H → va_S (gA Y s.heap.size) s.heap H locs → lv_has ls 3 [(0, .ref (gad Y x0)), (1, .int x1), (2, .int x2)] → W p l e (gRm 3 68) s m args below meth c H locs 0 0 (MQ below (va_Qi Q (gB Y) (gA Y s.heap.size)) args s 0 0 (gA Y s.heap.size)) (F0 m 0 ls []) := by
  have C0 := C
  obtain ⟨hx, hb, hml, hown, hts, hr, hlocks, hK, hY, hSt⟩ := C
  intro x0 x1 x2 S H locs ls hx0 hw hP hS hl
  unfold wp_Mo_frameAt at hw
  refine lv_iload_n hx hb d_Mo_frameAt_0 rfl (lv_at hl 2 rfl) ?_
  refine lv_bipush (v := 8) hx hb d_Mo_frameAt_1 (by decide) ?_
  refine lv_icmp_ge (tgt := 37) hx hb d_Mo_frameAt_3 (by decide) (fun c1 => ?_) (fun c1 => ?_)
  · replace hw := hw.1 c1
    refine lv_iload_n hx hb d_Mo_frameAt_37 rfl (lv_at hl 2 rfl) ?_
    refine lv_bipush (v := 8) hx hb d_Mo_frameAt_38 (by decide) ?_
    refine lv_isub hx hb d_Mo_frameAt_40 ?_
    refine lv_aload_n hx hb d_Mo_frameAt_41 rfl (lv_at hl 0 rfl) ?_
    refine lv_iload_n hx hb d_Mo_frameAt_42 rfl (lv_at hl 1 rfl) ?_
    refine g_calli (va_runV (As := [.int x1]) (rest := [.int (x2 - 8)]) ⟨hx, hb, hml, hown, hts⟩ (k_Mo_payload l Y hY H.size x0 x1 hx0 S _) (cwV 1 hts (gG_V gw_957 gw_959 gs_26 gw_12 gw_960) rfl rfl rfl (by decide +kernel) ⟨Nat.le_of_ble_eq_true rfl, Nat.le_of_ble_eq_true rfl⟩) ⟨gPre_blind, g_recv hK hP hx0 (gce_Mo hx0.1) rfl, g_pre hK hSt hS hP hw⟩ rfl rfl hl.1 rfl (lv_room (Nat.le_of_ble_eq_true rfl)) d_Mo_frameAt_43 ⟨Nat.zero_le _, Nat.zero_le _⟩) hS (fun r3 S2 H locs hw hP hS => ?_)
    refine lv_icmp_ge (tgt := 61) hx hb d_Mo_frameAt_46 (by decide) (fun c4 => ?_) (fun c4 => ?_)
    · replace hw := hw.1 c4
      refine lv_aload_n hx hb d_Mo_frameAt_61 rfl (lv_at hl 0 rfl) ?_
      refine g_get hx hb hts (fun w h => List.mem_cons_of_mem _ (in_Mo w h)) hown hK hP hx0 (gce_Mo hx0.1) rfl 10 (by decide) (hts _ (List.mem_cons_of_mem _ gw_817)) rfl d_Mo_frameAt_62 ?_
      refine lv_aload_n hx hb d_Mo_frameAt_65 rfl (lv_at hl 0 rfl) ?_
      refine g_get hx hb hts (fun w h => List.mem_cons_of_mem _ (in_Mo w h)) hown hK hP hx0 (gce_Mo hx0.1) rfl 8 (by decide) (hts _ (List.mem_cons_of_mem _ gw_815)) rfl d_Mo_frameAt_66 ?_
      refine lv_iload_n hx hb d_Mo_frameAt_69 rfl (lv_at hl 1 rfl) ?_
      obtain ⟨hin, hw⟩ := hw
      refine g_iaload hx hb hK hP (gis_Mo_froms hY hx0) hin d_Mo_frameAt_70 ?_
      refine lv_iload_n hx hb d_Mo_frameAt_71 rfl (lv_at hl 2 rfl) ?_
      refine lv_iadd hx hb d_Mo_frameAt_72 ?_
      refine lv_bipush (v := 8) hx hb d_Mo_frameAt_73 (by decide) ?_
      refine lv_isub hx hb d_Mo_frameAt_75 ?_
      refine lv_aload_n hx hb d_Mo_frameAt_76 rfl (lv_at hl 0 rfl) ?_
      refine lv_iload_n hx hb d_Mo_frameAt_77 rfl (lv_at hl 1 rfl) ?_
      refine g_calli (va_runV (As := [.int x1]) (rest := [.int (((S2.1 (grf x0 8) x1.toNatClampNeg) + x2) - 8), .ref (gad Y (grf x0 10))]) ⟨hx, hb, hml, hown, hts⟩ (k_Mo_payload l Y hY H.size x0 x1 hx0 S2 _) (cwV 1 hts (gG_V gw_957 gw_959 gs_26 gw_12 gw_960) rfl rfl rfl (by decide +kernel) ⟨Nat.le_of_ble_eq_true rfl, Nat.le_of_ble_eq_true rfl⟩) ⟨gPre_blind, g_recv hK hP hx0 (gce_Mo hx0.1) rfl, g_pre hK hSt hS hP hw⟩ rfl rfl hl.1 rfl (lv_room (Nat.le_of_ble_eq_true rfl)) d_Mo_frameAt_78 ⟨Nat.zero_le _, Nat.zero_le _⟩) hS (fun r6 S5 H locs hw hP hS => ?_)
      refine lv_isub hx hb d_Mo_frameAt_81 ?_
      obtain ⟨hin, hw⟩ := hw
      refine g_iaload hx hb hK hP (gis_Mo_bytes hY hx0) hin d_Mo_frameAt_82 ?_
      exact W.iret (v := (S5.1 (grf x0 10) ((((S2.1 (grf x0 8) x1.toNatClampNeg) + x2) - 8) - r6).toNatClampNeg)) hx hb hr (fun t ht hW => ⟨⟨(S5.1 (grf x0 10) ((((S2.1 (grf x0 8) x1.toNatClampNeg) + x2) - 8) - r6).toNatClampNeg), S5, rfl, hw, by rw [ht]; exact hP, va_K.moved hW.alike hK⟩, hS.F ht⟩) hS.2.2 d_Mo_frameAt_83
    · replace hw := hw.2 c4
      refine lv_aload_n hx hb d_Mo_frameAt_49 rfl (lv_at hl 0 rfl) ?_
      refine lv_iload_n hx hb d_Mo_frameAt_50 rfl (lv_at hl 1 rfl) ?_
      refine lv_iload_n hx hb d_Mo_frameAt_51 rfl (lv_at hl 2 rfl) ?_
      refine lv_bipush (v := 8) hx hb d_Mo_frameAt_52 (by decide) ?_
      refine lv_isub hx hb d_Mo_frameAt_54 ?_
      refine g_calli (va_runV (As := [.int x1, .int (x2 - 8)]) (rest := []) ⟨hx, hb, hml, hown, hts⟩ (k_Mo_payloadAt l Y hY H.size x0 x1 (x2 - 8) hx0 S2 _) (cwV 2 hts (gG_V gw_1125 gw_1127 gs_53 gw_12 gw_1128) rfl rfl rfl (by decide +kernel) ⟨Nat.le_of_ble_eq_true rfl, Nat.le_of_ble_eq_true rfl⟩) ⟨gPre_blind, g_recv hK hP hx0 (gce_Mo hx0.1) rfl, g_pre hK hSt hS hP hw⟩ rfl rfl hl.1 rfl (lv_room (Nat.le_of_ble_eq_true rfl)) d_Mo_frameAt_55 ⟨Nat.zero_le _, Nat.zero_le _⟩) hS (fun r8 S7 H locs hw hP hS => ?_)
      refine lv_goto (tgt := 83) hx hb d_Mo_frameAt_58 (by decide) ?_
      exact W.iret (v := r8) hx hb hr (fun t ht hW => ⟨⟨r8, S7, rfl, hw, by rw [ht]; exact hP, va_K.moved hW.alike hK⟩, hS.F ht⟩) hS.2.2 d_Mo_frameAt_83
  · replace hw := hw.2 c1
    refine lv_iload_n hx hb d_Mo_frameAt_6 rfl (lv_at hl 2 rfl) ?_
    refine lv_iconst (v := 4) hx hb d_Mo_frameAt_7 (by decide) ?_
    refine lv_icmp_ge (tgt := 24) hx hb d_Mo_frameAt_8 (by decide) (fun c9 => ?_) (fun c9 => ?_)
    · replace hw := hw.1 c9
      refine lv_aload_n hx hb d_Mo_frameAt_24 rfl (lv_at hl 0 rfl) ?_
      refine lv_iload_n hx hb d_Mo_frameAt_25 rfl (lv_at hl 1 rfl) ?_
      refine g_calli (va_runV (As := [.int x1]) (rest := []) ⟨hx, hb, hml, hown, hts⟩ (k_Mo_sumOf l Y hY H.size x0 x1 hx0 S _) (cwV 1 hts (gG_V gw_1121 gw_1123 gs_52 gw_12 gw_1124) rfl rfl rfl (by decide +kernel) ⟨Nat.le_of_ble_eq_true rfl, Nat.le_of_ble_eq_true rfl⟩) ⟨gPre_blind, g_recv hK hP hx0 (gce_Mo hx0.1) rfl, g_pre hK hSt hS hP hw⟩ rfl rfl hl.1 rfl (lv_room (Nat.le_of_ble_eq_true rfl)) d_Mo_frameAt_26 ⟨Nat.zero_le _, Nat.zero_le _⟩) hS (fun r11 S10 H locs hw hP hS => ?_)
      refine lv_i2l hx hb d_Mo_frameAt_29 rfl ?_
      refine lv_iload_n hx hb d_Mo_frameAt_30 rfl (lv_at hl 2 rfl) ?_
      refine lv_iconst (v := 4) hx hb d_Mo_frameAt_31 (by decide) ?_
      refine lv_isub hx hb d_Mo_frameAt_32 ?_
      refine g_calli (va_runS (As := [.long (r11.toInt64), .int (x2 - 4)]) (rest := []) ⟨hx, hb, hml, hown, hts⟩ (k_Mo_byteOf l Y hY H.size (r11.toInt64) (x2 - 4) S10 _) (va_cwS 2 hts (gG_S gw_929 gw_930 gw_12 gw_931) rfl rfl rfl (by decide +kernel) ⟨Nat.le_of_ble_eq_true rfl, Nat.le_of_ble_eq_true rfl⟩) ⟨gPre_blind, g_pre hK hSt hS hP hw⟩ rfl rfl hl.1 rfl (lv_room (Nat.le_of_ble_eq_true rfl)) d_Mo_frameAt_33 ⟨Nat.zero_le _, Nat.zero_le _⟩) hS (fun r13 S12 H locs hw hP hS => ?_)
      exact W.iret (v := r13) hx hb hr (fun t ht hW => ⟨⟨r13, S12, rfl, hw, by rw [ht]; exact hP, va_K.moved hW.alike hK⟩, hS.F ht⟩) hS.2.2 d_Mo_frameAt_36
    · replace hw := hw.2 c9
      refine lv_aload_n hx hb d_Mo_frameAt_11 rfl (lv_at hl 0 rfl) ?_
      refine lv_iload_n hx hb d_Mo_frameAt_12 rfl (lv_at hl 1 rfl) ?_
      refine g_calli (va_runV (As := [.int x1]) (rest := []) ⟨hx, hb, hml, hown, hts⟩ (k_Mo_payload l Y hY H.size x0 x1 hx0 S _) (cwV 1 hts (gG_V gw_957 gw_959 gs_26 gw_12 gw_960) rfl rfl rfl (by decide +kernel) ⟨Nat.le_of_ble_eq_true rfl, Nat.le_of_ble_eq_true rfl⟩) ⟨gPre_blind, g_recv hK hP hx0 (gce_Mo hx0.1) rfl, g_pre hK hSt hS hP hw⟩ rfl rfl hl.1 rfl (lv_room (Nat.le_of_ble_eq_true rfl)) d_Mo_frameAt_13 ⟨Nat.zero_le _, Nat.zero_le _⟩) hS (fun r15 S14 H locs hw hP hS => ?_)
      refine lv_i2l hx hb d_Mo_frameAt_16 rfl ?_
      refine lv_iload_n hx hb d_Mo_frameAt_17 rfl (lv_at hl 2 rfl) ?_
      refine g_calli (va_runS (As := [.long (r15.toInt64), .int x2]) (rest := []) ⟨hx, hb, hml, hown, hts⟩ (k_Mo_byteOf l Y hY H.size (r15.toInt64) x2 S14 _) (va_cwS 2 hts (gG_S gw_929 gw_930 gw_12 gw_931) rfl rfl rfl (by decide +kernel) ⟨Nat.le_of_ble_eq_true rfl, Nat.le_of_ble_eq_true rfl⟩) ⟨gPre_blind, g_pre hK hSt hS hP hw⟩ rfl rfl hl.1 rfl (lv_room (Nat.le_of_ble_eq_true rfl)) d_Mo_frameAt_18 ⟨Nat.zero_le _, Nat.zero_le _⟩) hS (fun r17 S16 H locs hw hP hS => ?_)
      refine lv_goto (tgt := 36) hx hb d_Mo_frameAt_21 (by decide) ?_
      exact W.iret (v := r17) hx hb hr (fun t ht hW => ⟨⟨r17, S16, rfl, hw, by rw [ht]; exact hP, va_K.moved hW.alike hK⟩, hS.F ht⟩) hS.2.2 d_Mo_frameAt_36
set_option maxHeartbeats 4000000 in
set_option maxRecDepth 100000 in
theorem k_Mo_frameAt (l : Launch) (Y : gY) (hY : gOK Y) (sz : Nat) (x0 : gI) (x1 : Int32) (x2 : Int32)  (hx0 : gis Y 10 x0) (S : gS) (Q : Int32 → gS → Prop) : Met l y_Mo_frameAt w_Mo_frameAt (gRm 3 68) (gPre Y [.ref (gad Y x0), .int x1, .int x2] S sz (wp_Mo_frameAt (gLn Y) Q x0 x1 x2 S)) (va_Qi Q (gB Y) (gA Y sz)) 0 0 (gA Y sz) := by
  refine Met.ofW (cc := c_Mo_frameAt) (maxL := 3) (ret := (Option.some Jvm.ClassFile.FieldType.int)) (by decide) rfl ?_
  intro p e s m args below meth c s₁ B hml hv
  obtain ⟨rfl, hsz, hP, hK, hSt, hw⟩ := hv
  subst hsz
  have hts := atoms_spec (ws := w_Mo_frameAt) B.pre
  have hl := lv_entry ([.ref (gad Y x0), .int x1, .int x2]) (n := 3) (Nat.le_of_ble_eq_true rfl)
  rw [lg_entry_eq]
  generalize (lg_sl ([.ref (gad Y x0), .int x1, .int x2]) ++ List.replicate (3 - (lg_sl ([.ref (gad Y x0), .int x1, .int x2])).length) Slot.unset).toArray = ls at hl ⊢
  exact mw_Mo_frameAt ⟨B.exec, B.bytes, hml, findClass_of_methodNamed B.named, hts, B.returns, B.notSynchronized, hK, hY, hSt⟩ x0 x1 x2 S s.heap [] ls hx0 hw hP va_S.rf hl

def wp_Mo_pages (Ln : gI → Nat) (Q : Int32 → gS → Prop) (x0 : Int32)  (S : gS) : Prop :=
  Q (((x0 + 64) - 1) / 64) S
set_option maxHeartbeats 4000000 in
set_option maxRecDepth 100000 in
theorem mw_Mo_pages {p : Program} {l : Launch} {e : Env} {s : State} {m : MethodId} {args : Array Value} {below : List Frame} {meth : Method} {c : Code} {Y : gY} {Q : Int32 → gS → Prop} (C : gCx p s m args meth c Y "LogDiskModel" c_Mo_pages 1 (Option.some Jvm.ClassFile.FieldType.int) w_Mo_pages) : ∀ (x0 : Int32)  (S : gS) (H : Heap) (locs : List Loc) (ls : Array Slot), wp_Mo_pages (gLn Y) Q x0 S → gWd Y S H → va_S (gA Y s.heap.size) s.heap H locs → lv_has ls 1 [(0, .int x0)] → W p l e (gRm 0 0) s m args below meth c H locs 0 0 (MQ below (va_Qi Q (gB Y) (gA Y s.heap.size)) args s 0 0 (gA Y s.heap.size)) (F0 m 0 ls []) := by
  have C0 := C
  obtain ⟨hx, hb, hml, hown, hts, hr, hlocks, hK, hY, hSt⟩ := C
  intro x0 S H locs ls hw hP hS hl
  unfold wp_Mo_pages at hw
  refine lv_iload_n hx hb d_Mo_pages_0 rfl (lv_at hl 0 rfl) ?_
  refine lv_bipush (v := 64) hx hb d_Mo_pages_1 (by decide) ?_
  refine lv_iadd hx hb d_Mo_pages_3 ?_
  refine lv_iconst (v := 1) hx hb d_Mo_pages_4 (by decide) ?_
  refine lv_isub hx hb d_Mo_pages_5 ?_
  refine lv_bipush (v := 64) hx hb d_Mo_pages_6 (by decide) ?_
  refine lv_idiv hx hb d_Mo_pages_8 (by decide) ?_
  exact W.iret (v := (((x0 + 64) - 1) / 64)) hx hb hr (fun t ht hW => ⟨⟨(((x0 + 64) - 1) / 64), S, rfl, hw, by rw [ht]; exact hP, va_K.moved hW.alike hK⟩, hS.F ht⟩) hS.2.2 d_Mo_pages_9
set_option maxHeartbeats 4000000 in
set_option maxRecDepth 100000 in
theorem k_Mo_pages (l : Launch) (Y : gY) (hY : gOK Y) (sz : Nat) (x0 : Int32)  (S : gS) (Q : Int32 → gS → Prop) : Met l y_Mo_pages w_Mo_pages (gRm 0 0) (gPre Y [.int x0] S sz (wp_Mo_pages (gLn Y) Q x0 S)) (va_Qi Q (gB Y) (gA Y sz)) 0 0 (gA Y sz) := by
  refine Met.ofW (cc := c_Mo_pages) (maxL := 1) (ret := (Option.some Jvm.ClassFile.FieldType.int)) (by decide) rfl ?_
  intro p e s m args below meth c s₁ B hml hv
  obtain ⟨rfl, hsz, hP, hK, hSt, hw⟩ := hv
  subst hsz
  have hts := atoms_spec (ws := w_Mo_pages) B.pre
  have hl := lv_entry ([.int x0]) (n := 1) (Nat.le_of_ble_eq_true rfl)
  rw [lg_entry_eq]
  generalize (lg_sl ([.int x0]) ++ List.replicate (1 - (lg_sl ([.int x0])).length) Slot.unset).toArray = ls at hl ⊢
  exact mw_Mo_pages ⟨B.exec, B.bytes, hml, findClass_of_methodNamed B.named, hts, B.returns, B.notSynchronized, hK, hY, hSt⟩ x0 S s.heap [] ls hw hP va_S.rf hl

def wp_Mo_pagesUsed_4 (Ln : gI → Nat) (Q : Int32 → gS → Prop) : Nat → gI → Int32 → Int32 → gS → Prop
  | 0, _, _, _, _ => False
  | n4 + 1, x0, x1, x2, S => ((16 ≤ x2) → (Q x1 S)) ∧ ((¬ 16 ≤ x2) → (vp_in x2 (Ln (grf x0 14)) ∧ (wp_Mo_pages Ln (fun r3 S2 => vp_in (16 + x2) (Ln (grf x0 14)) ∧ (wp_Mo_pages Ln (fun r5 S4 => vp_in x2 (Ln (grf x0 17)) ∧ (∀ v1_6 : Int32, v1_6 = x1 + ((r3 + r5) - (S4.1 (grf x0 17) x2.toNatClampNeg)) → (∀ v2_7 : Int32, v2_7 = x2 + 1 → (wp_Mo_pagesUsed_4 Ln Q n4 x0 v1_6 v2_7 S4)))) (S2.1 (grf x0 14) (16 + x2).toNatClampNeg) S2)) (S.1 (grf x0 14) x2.toNatClampNeg) S)))
def wp_Mo_pagesUsed (Ln : gI → Nat) (Q : Int32 → gS → Prop) (x0 : gI)  (S : gS) : Prop :=
  ∃ n4 : Nat, wp_Mo_pagesUsed_4 Ln Q n4 x0 0 0 S
set_option maxHeartbeats 4000000 in
set_option maxRecDepth 100000 in
theorem mw_Mo_pagesUsed_4 {p : Program} {l : Launch} {e : Env} {s : State} {m : MethodId} {args : Array Value} {below : List Frame} {meth : Method} {c : Code} {Y : gY} {Q : Int32 → gS → Prop} (C : gCx p s m args meth c Y "LogDiskModel" c_Mo_pagesUsed 3 (Option.some Jvm.ClassFile.FieldType.int) w_Mo_pagesUsed) : ∀ (n : Nat), ∀ (x0 : gI) (x1 : Int32) (x2 : Int32)  (S : gS) (H : Heap) (locs : List Loc) (ls : Array Slot), gis Y 10 x0 → wp_Mo_pagesUsed_4 (gLn Y) Q n x0 x1 x2 S → gWd Y S H → va_S (gA Y s.heap.size) s.heap H locs → lv_has ls 3 [(0, .ref (gad Y x0)), (1, .int x1), (2, .int x2)] → W p l e (gRm 1 20) s m args below meth c H locs 0 0 (MQ below (va_Qi Q (gB Y) (gA Y s.heap.size)) args s 0 0 (gA Y s.heap.size)) (F0 m 4 ls []) := by
  have C0 := C
  obtain ⟨hx, hb, hml, hown, hts, hr, hlocks, hK, hY, hSt⟩ := C
  intro n
  induction n with
  | zero =>
    intro x0 x1 x2 S H locs ls hx0 hw
    exact False.elim hw
  | succ n ih =>
    intro x0 x1 x2 S H locs ls hx0 hw hP hS hl
    unfold wp_Mo_pagesUsed_4 at hw
    refine lv_iload_n hx hb d_Mo_pagesUsed_4 rfl (lv_at hl 2 rfl) ?_
    refine lv_bipush (v := 16) hx hb d_Mo_pagesUsed_5 (by decide) ?_
    refine lv_icmp_ge (tgt := 48) hx hb d_Mo_pagesUsed_7 (by decide) (fun c1 => ?_) (fun c1 => ?_)
    · replace hw := hw.1 c1
      refine lv_iload_n hx hb d_Mo_pagesUsed_48 rfl (lv_at hl 1 rfl) ?_
      exact W.iret (v := x1) hx hb hr (fun t ht hW => ⟨⟨x1, S, rfl, hw, by rw [ht]; exact hP, va_K.moved hW.alike hK⟩, hS.F ht⟩) hS.2.2 d_Mo_pagesUsed_49
    · replace hw := hw.2 c1
      refine lv_iload_n hx hb d_Mo_pagesUsed_10 rfl (lv_at hl 1 rfl) ?_
      refine lv_aload_n hx hb d_Mo_pagesUsed_11 rfl (lv_at hl 0 rfl) ?_
      refine g_get hx hb hts (fun w h => List.mem_cons_of_mem _ (in_Mo w h)) hown hK hP hx0 (gce_Mo hx0.1) rfl 14 (by decide) (hts _ (List.mem_cons_of_mem _ gw_821)) rfl d_Mo_pagesUsed_12 ?_
      refine lv_iload_n hx hb d_Mo_pagesUsed_15 rfl (lv_at hl 2 rfl) ?_
      obtain ⟨hin, hw⟩ := hw
      refine g_iaload hx hb hK hP (gis_Mo_sizes hY hx0) hin d_Mo_pagesUsed_16 ?_
      refine g_calli (va_runS (As := [.int (S.1 (grf x0 14) x2.toNatClampNeg)]) (rest := [.int x1]) ⟨hx, hb, hml, hown, hts⟩ (k_Mo_pages l Y hY H.size (S.1 (grf x0 14) x2.toNatClampNeg) S _) (va_cwS 1 hts (gG_S gw_946 gw_947 gw_12 gw_948) rfl rfl rfl (by decide +kernel) ⟨Nat.le_of_ble_eq_true rfl, Nat.le_of_ble_eq_true rfl⟩) ⟨gPre_blind, g_pre hK hSt hS hP hw⟩ rfl rfl hl.1 rfl (lv_room (Nat.le_of_ble_eq_true rfl)) d_Mo_pagesUsed_17 ⟨Nat.zero_le _, Nat.zero_le _⟩) hS (fun r3 S2 H locs hw hP hS => ?_)
      refine lv_aload_n hx hb d_Mo_pagesUsed_20 rfl (lv_at hl 0 rfl) ?_
      refine g_get hx hb hts (fun w h => List.mem_cons_of_mem _ (in_Mo w h)) hown hK hP hx0 (gce_Mo hx0.1) rfl 14 (by decide) (hts _ (List.mem_cons_of_mem _ gw_821)) rfl d_Mo_pagesUsed_21 ?_
      refine lv_bipush (v := 16) hx hb d_Mo_pagesUsed_24 (by decide) ?_
      refine lv_iload_n hx hb d_Mo_pagesUsed_26 rfl (lv_at hl 2 rfl) ?_
      refine lv_iadd hx hb d_Mo_pagesUsed_27 ?_
      obtain ⟨hin, hw⟩ := hw
      refine g_iaload hx hb hK hP (gis_Mo_sizes hY hx0) hin d_Mo_pagesUsed_28 ?_
      refine g_calli (va_runS (As := [.int (S2.1 (grf x0 14) (16 + x2).toNatClampNeg)]) (rest := [.int r3, .int x1]) ⟨hx, hb, hml, hown, hts⟩ (k_Mo_pages l Y hY H.size (S2.1 (grf x0 14) (16 + x2).toNatClampNeg) S2 _) (va_cwS 1 hts (gG_S gw_946 gw_947 gw_12 gw_948) rfl rfl rfl (by decide +kernel) ⟨Nat.le_of_ble_eq_true rfl, Nat.le_of_ble_eq_true rfl⟩) ⟨gPre_blind, g_pre hK hSt hS hP hw⟩ rfl rfl hl.1 rfl (lv_room (Nat.le_of_ble_eq_true rfl)) d_Mo_pagesUsed_29 ⟨Nat.zero_le _, Nat.zero_le _⟩) hS (fun r5 S4 H locs hw hP hS => ?_)
      refine lv_iadd hx hb d_Mo_pagesUsed_32 ?_
      refine lv_aload_n hx hb d_Mo_pagesUsed_33 rfl (lv_at hl 0 rfl) ?_
      refine g_get hx hb hts (fun w h => List.mem_cons_of_mem _ (in_Mo w h)) hown hK hP hx0 (gce_Mo hx0.1) rfl 17 (by decide) (hts _ (List.mem_cons_of_mem _ gw_824)) rfl d_Mo_pagesUsed_34 ?_
      refine lv_iload_n hx hb d_Mo_pagesUsed_37 rfl (lv_at hl 2 rfl) ?_
      obtain ⟨hin, hw⟩ := hw
      refine g_iaload hx hb hK hP (gis_Mo_shared hY hx0) hin d_Mo_pagesUsed_38 ?_
      refine lv_isub hx hb d_Mo_pagesUsed_39 ?_
      refine lv_iadd hx hb d_Mo_pagesUsed_40 ?_
      refine lv_topi (fun v1_6 ev1_6 => ?_)
      replace hw := hw v1_6 ev1_6
      refine lv_istore_n (lv' := [(1, .int v1_6), (0, .ref (gad Y x0)), (2, .int x2)]) hx hb d_Mo_pagesUsed_41 rfl hl (by decide) rfl (fun ls hl => ?_)
      obtain ⟨v2_7, ev2_7⟩ : ∃ y : Int32, y = x2 + 1 := ⟨_, rfl⟩
      replace hw := hw v2_7 ev2_7
      refine lv_iinc (v := v2_7) (lv' := [(2, .int v2_7), (1, .int v1_6), (0, .ref (gad Y x0))]) hx hb d_Mo_pagesUsed_42 hl (k := 2) rfl (by rw [ev2_7]; rfl) (by decide) rfl (fun ls hl => ?_)
      refine lv_goto (tgt := 4) hx hb d_Mo_pagesUsed_45 (by decide) ?_
      exact ih x0 v1_6 v2_7 S4 H locs ls hx0 hw hP hS (lv_sub hl [2, 1, 0] rfl)
set_option maxHeartbeats 4000000 in
set_option maxRecDepth 100000 in
theorem mw_Mo_pagesUsed {p : Program} {l : Launch} {e : Env} {s : State} {m : MethodId} {args : Array Value} {below : List Frame} {meth : Method} {c : Code} {Y : gY} {Q : Int32 → gS → Prop} (C : gCx p s m args meth c Y "LogDiskModel" c_Mo_pagesUsed 3 (Option.some Jvm.ClassFile.FieldType.int) w_Mo_pagesUsed) : ∀ (x0 : gI)  (S : gS) (H : Heap) (locs : List Loc) (ls : Array Slot), gis Y 10 x0 → wp_Mo_pagesUsed (gLn Y) Q x0 S → gWd Y S H → va_S (gA Y s.heap.size) s.heap H locs → lv_has ls 3 [(0, .ref (gad Y x0))] → W p l e (gRm 1 20) s m args below meth c H locs 0 0 (MQ below (va_Qi Q (gB Y) (gA Y s.heap.size)) args s 0 0 (gA Y s.heap.size)) (F0 m 0 ls []) := by
  have C0 := C
  obtain ⟨hx, hb, hml, hown, hts, hr, hlocks, hK, hY, hSt⟩ := C
  intro x0 S H locs ls hx0 hw hP hS hl
  unfold wp_Mo_pagesUsed at hw
  refine lv_iconst (v := 0) hx hb d_Mo_pagesUsed_0 (by decide) ?_
  refine lv_istore_n (lv' := [(1, .int 0), (0, .ref (gad Y x0))]) hx hb d_Mo_pagesUsed_1 rfl hl (by decide) rfl (fun ls hl => ?_)
  refine lv_iconst (v := 0) hx hb d_Mo_pagesUsed_2 (by decide) ?_
  refine lv_istore_n (lv' := [(2, .int 0), (1, .int 0), (0, .ref (gad Y x0))]) hx hb d_Mo_pagesUsed_3 rfl hl (by decide) rfl (fun ls hl => ?_)
  obtain ⟨n, hw⟩ := hw
  exact mw_Mo_pagesUsed_4 C0 n x0 0 0 S H locs ls hx0 hw hP hS (lv_sub hl [2, 1, 0] rfl)
set_option maxHeartbeats 4000000 in
set_option maxRecDepth 100000 in
theorem k_Mo_pagesUsed (l : Launch) (Y : gY) (hY : gOK Y) (sz : Nat) (x0 : gI)  (hx0 : gis Y 10 x0) (S : gS) (Q : Int32 → gS → Prop) : Met l y_Mo_pagesUsed w_Mo_pagesUsed (gRm 1 20) (gPre Y [.ref (gad Y x0)] S sz (wp_Mo_pagesUsed (gLn Y) Q x0 S)) (va_Qi Q (gB Y) (gA Y sz)) 0 0 (gA Y sz) := by
  refine Met.ofW (cc := c_Mo_pagesUsed) (maxL := 3) (ret := (Option.some Jvm.ClassFile.FieldType.int)) (by decide) rfl ?_
  intro p e s m args below meth c s₁ B hml hv
  obtain ⟨rfl, hsz, hP, hK, hSt, hw⟩ := hv
  subst hsz
  have hts := atoms_spec (ws := w_Mo_pagesUsed) B.pre
  have hl := lv_entry ([.ref (gad Y x0)]) (n := 3) (Nat.le_of_ble_eq_true rfl)
  rw [lg_entry_eq]
  generalize (lg_sl ([.ref (gad Y x0)]) ++ List.replicate (3 - (lg_sl ([.ref (gad Y x0)])).length) Slot.unset).toArray = ls at hl ⊢
  exact mw_Mo_pagesUsed ⟨B.exec, B.bytes, hml, findClass_of_methodNamed B.named, hts, B.returns, B.notSynchronized, hK, hY, hSt⟩ x0 S s.heap [] ls hx0 hw hP va_S.rf hl

def wp_Mo_needed_35 (Ln : gI → Nat) (Q : Int32 → gS → Prop) (x0 : gI) (x1 : Int32) (x2 : Int32) (y0 : Int32) (S : gS) : Prop :=
  vp_in x1 (Ln (grf x0 14)) ∧ (wp_Mo_pages Ln (fun r3 S2 => vp_in x1 (Ln (grf x0 14)) ∧ (wp_Mo_pages Ln (fun r5 S4 => ((y0 = 0) → (Q ((r3 - r5) + 0) S4)) ∧ ((¬ y0 = 0) → (Q ((r3 - r5) + 1) S4))) (S2.1 (grf x0 14) x1.toNatClampNeg) S2)) ((S.1 (grf x0 14) x1.toNatClampNeg) + x2) S)
def wp_Mo_needed_34 (Ln : gI → Nat) (Q : Int32 → gS → Prop) (x0 : gI) (x1 : Int32) (x2 : Int32)  (S : gS) : Prop :=
  wp_Mo_needed_35 Ln Q x0 x1 x2 0 S
def wp_Mo_needed (Ln : gI → Nat) (Q : Int32 → gS → Prop) (x0 : gI) (x1 : Int32) (x2 : Int32)  (S : gS) : Prop :=
  vp_in x1 (Ln (grf x0 14)) ∧ (((((S.1 (grf x0 14) x1.toNatClampNeg) - (S.1 (grf x0 14) x1.toNatClampNeg) / 64 * 64) = 0) → (wp_Mo_needed_34 Ln Q x0 x1 x2 S)) ∧ ((¬ ((S.1 (grf x0 14) x1.toNatClampNeg) - (S.1 (grf x0 14) x1.toNatClampNeg) / 64 * 64) = 0) → (vp_in x1 (Ln (grf x0 14)) ∧ (vp_in x1 (Ln (grf x0 17)) ∧ ((((S.1 (grf x0 17) x1.toNatClampNeg) ≤ ((S.1 (grf x0 14) x1.toNatClampNeg) / 64)) → (wp_Mo_needed_34 Ln Q x0 x1 x2 S)) ∧ ((¬ (S.1 (grf x0 17) x1.toNatClampNeg) ≤ ((S.1 (grf x0 14) x1.toNatClampNeg) / 64)) → (wp_Mo_needed_35 Ln Q x0 x1 x2 1 S)))))))
set_option maxHeartbeats 4000000 in
set_option maxRecDepth 100000 in
theorem mw_Mo_needed_35 {p : Program} {l : Launch} {e : Env} {s : State} {m : MethodId} {args : Array Value} {below : List Frame} {meth : Method} {c : Code} {Y : gY} {Q : Int32 → gS → Prop} (C : gCx p s m args meth c Y "LogDiskModel" c_Mo_needed 4 (Option.some Jvm.ClassFile.FieldType.int) w_Mo_needed) : ∀ (x0 : gI) (x1 : Int32) (x2 : Int32) (y0 : Int32) (S : gS) (H : Heap) (locs : List Loc) (ls : Array Slot), gis Y 10 x0 → wp_Mo_needed_35 (gLn Y) Q x0 x1 x2 y0 S → gWd Y S H → va_S (gA Y s.heap.size) s.heap H locs → lv_has ls 4 [(0, .ref (gad Y x0)), (1, .int x1), (2, .int x2)] → W p l e (gRm 1 20) s m args below meth c H locs 0 0 (MQ below (va_Qi Q (gB Y) (gA Y s.heap.size)) args s 0 0 (gA Y s.heap.size)) (F0 m 35 ls [.int y0]) := by
  have C0 := C
  obtain ⟨hx, hb, hml, hown, hts, hr, hlocks, hK, hY, hSt⟩ := C
  intro x0 x1 x2 y0 S H locs ls hx0 hw hP hS hl
  unfold wp_Mo_needed_35 at hw
  refine lv_istore_n (lv' := [(3, .int y0), (0, .ref (gad Y x0)), (1, .int x1), (2, .int x2)]) hx hb d_Mo_needed_35 rfl hl (by decide) rfl (fun ls hl => ?_)
  refine lv_aload_n hx hb d_Mo_needed_36 rfl (lv_at hl 1 rfl) ?_
  refine g_get hx hb hts (fun w h => List.mem_cons_of_mem _ (in_Mo w h)) hown hK hP hx0 (gce_Mo hx0.1) rfl 14 (by decide) (hts _ (List.mem_cons_of_mem _ gw_821)) rfl d_Mo_needed_37 ?_
  refine lv_iload_n hx hb d_Mo_needed_40 rfl (lv_at hl 2 rfl) ?_
  obtain ⟨hin, hw⟩ := hw
  refine g_iaload hx hb hK hP (gis_Mo_sizes hY hx0) hin d_Mo_needed_41 ?_
  refine lv_iload_n hx hb d_Mo_needed_42 rfl (lv_at hl 3 rfl) ?_
  refine lv_iadd hx hb d_Mo_needed_43 ?_
  refine g_calli (va_runS (As := [.int ((S.1 (grf x0 14) x1.toNatClampNeg) + x2)]) (rest := []) ⟨hx, hb, hml, hown, hts⟩ (k_Mo_pages l Y hY H.size ((S.1 (grf x0 14) x1.toNatClampNeg) + x2) S _) (va_cwS 1 hts (gG_S gw_946 gw_947 gw_12 gw_948) rfl rfl rfl (by decide +kernel) ⟨Nat.le_of_ble_eq_true rfl, Nat.le_of_ble_eq_true rfl⟩) ⟨gPre_blind, g_pre hK hSt hS hP hw⟩ rfl rfl hl.1 rfl (lv_room (Nat.le_of_ble_eq_true rfl)) d_Mo_needed_44 ⟨Nat.zero_le _, Nat.zero_le _⟩) hS (fun r3 S2 H locs hw hP hS => ?_)
  refine lv_aload_n hx hb d_Mo_needed_47 rfl (lv_at hl 1 rfl) ?_
  refine g_get hx hb hts (fun w h => List.mem_cons_of_mem _ (in_Mo w h)) hown hK hP hx0 (gce_Mo hx0.1) rfl 14 (by decide) (hts _ (List.mem_cons_of_mem _ gw_821)) rfl d_Mo_needed_48 ?_
  refine lv_iload_n hx hb d_Mo_needed_51 rfl (lv_at hl 2 rfl) ?_
  obtain ⟨hin, hw⟩ := hw
  refine g_iaload hx hb hK hP (gis_Mo_sizes hY hx0) hin d_Mo_needed_52 ?_
  refine g_calli (va_runS (As := [.int (S2.1 (grf x0 14) x1.toNatClampNeg)]) (rest := [.int r3]) ⟨hx, hb, hml, hown, hts⟩ (k_Mo_pages l Y hY H.size (S2.1 (grf x0 14) x1.toNatClampNeg) S2 _) (va_cwS 1 hts (gG_S gw_946 gw_947 gw_12 gw_948) rfl rfl rfl (by decide +kernel) ⟨Nat.le_of_ble_eq_true rfl, Nat.le_of_ble_eq_true rfl⟩) ⟨gPre_blind, g_pre hK hSt hS hP hw⟩ rfl rfl hl.1 rfl (lv_room (Nat.le_of_ble_eq_true rfl)) d_Mo_needed_53 ⟨Nat.zero_le _, Nat.zero_le _⟩) hS (fun r5 S4 H locs hw hP hS => ?_)
  refine lv_isub hx hb d_Mo_needed_56 ?_
  refine lv_iload_n hx hb d_Mo_needed_57 rfl (lv_at hl 0 rfl) ?_
  refine lv_if_eq (tgt := 65) hx hb d_Mo_needed_58 (by decide) (fun c6 => ?_) (fun c6 => ?_)
  · replace hw := hw.1 c6
    refine lv_iconst (v := 0) hx hb d_Mo_needed_65 (by decide) ?_
    refine lv_iadd hx hb d_Mo_needed_66 ?_
    exact W.iret (v := ((r3 - r5) + 0)) hx hb hr (fun t ht hW => ⟨⟨((r3 - r5) + 0), S4, rfl, hw, by rw [ht]; exact hP, va_K.moved hW.alike hK⟩, hS.F ht⟩) hS.2.2 d_Mo_needed_67
  · replace hw := hw.2 c6
    refine lv_iconst (v := 1) hx hb d_Mo_needed_61 (by decide) ?_
    refine lv_goto (tgt := 66) hx hb d_Mo_needed_62 (by decide) ?_
    refine lv_iadd hx hb d_Mo_needed_66 ?_
    exact W.iret (v := ((r3 - r5) + 1)) hx hb hr (fun t ht hW => ⟨⟨((r3 - r5) + 1), S4, rfl, hw, by rw [ht]; exact hP, va_K.moved hW.alike hK⟩, hS.F ht⟩) hS.2.2 d_Mo_needed_67
set_option maxHeartbeats 4000000 in
set_option maxRecDepth 100000 in
theorem mw_Mo_needed_34 {p : Program} {l : Launch} {e : Env} {s : State} {m : MethodId} {args : Array Value} {below : List Frame} {meth : Method} {c : Code} {Y : gY} {Q : Int32 → gS → Prop} (C : gCx p s m args meth c Y "LogDiskModel" c_Mo_needed 4 (Option.some Jvm.ClassFile.FieldType.int) w_Mo_needed) : ∀ (x0 : gI) (x1 : Int32) (x2 : Int32)  (S : gS) (H : Heap) (locs : List Loc) (ls : Array Slot), gis Y 10 x0 → wp_Mo_needed_34 (gLn Y) Q x0 x1 x2 S → gWd Y S H → va_S (gA Y s.heap.size) s.heap H locs → lv_has ls 4 [(0, .ref (gad Y x0)), (1, .int x1), (2, .int x2)] → W p l e (gRm 1 20) s m args below meth c H locs 0 0 (MQ below (va_Qi Q (gB Y) (gA Y s.heap.size)) args s 0 0 (gA Y s.heap.size)) (F0 m 34 ls []) := by
  have C0 := C
  obtain ⟨hx, hb, hml, hown, hts, hr, hlocks, hK, hY, hSt⟩ := C
  intro x0 x1 x2 S H locs ls hx0 hw hP hS hl
  unfold wp_Mo_needed_34 at hw
  refine lv_iconst (v := 0) hx hb d_Mo_needed_34 (by decide) ?_
  exact mw_Mo_needed_35 C0 x0 x1 x2 0 S H locs ls hx0 hw hP hS (lv_sub hl [0, 1, 2] rfl)
set_option maxHeartbeats 4000000 in
set_option maxRecDepth 100000 in
theorem mw_Mo_needed {p : Program} {l : Launch} {e : Env} {s : State} {m : MethodId} {args : Array Value} {below : List Frame} {meth : Method} {c : Code} {Y : gY} {Q : Int32 → gS → Prop} (C : gCx p s m args meth c Y "LogDiskModel" c_Mo_needed 4 (Option.some Jvm.ClassFile.FieldType.int) w_Mo_needed) : ∀ (x0 : gI) (x1 : Int32) (x2 : Int32)  (S : gS) (H : Heap) (locs : List Loc) (ls : Array Slot), gis Y 10 x0 → wp_Mo_needed (gLn Y) Q x0 x1 x2 S → gWd Y S H → va_S (gA Y s.heap.size) s.heap H locs → lv_has ls 4 [(0, .ref (gad Y x0)), (1, .int x1), (2, .int x2)] → W p l e (gRm 1 20) s m args below meth c H locs 0 0 (MQ below (va_Qi Q (gB Y) (gA Y s.heap.size)) args s 0 0 (gA Y s.heap.size)) (F0 m 0 ls []) := by
  have C0 := C
  obtain ⟨hx, hb, hml, hown, hts, hr, hlocks, hK, hY, hSt⟩ := C
  intro x0 x1 x2 S H locs ls hx0 hw hP hS hl
  unfold wp_Mo_needed at hw
  refine lv_aload_n hx hb d_Mo_needed_0 rfl (lv_at hl 0 rfl) ?_
  refine g_get hx hb hts (fun w h => List.mem_cons_of_mem _ (in_Mo w h)) hown hK hP hx0 (gce_Mo hx0.1) rfl 14 (by decide) (hts _ (List.mem_cons_of_mem _ gw_821)) rfl d_Mo_needed_1 ?_
  refine lv_iload_n hx hb d_Mo_needed_4 rfl (lv_at hl 1 rfl) ?_
  obtain ⟨hin, hw⟩ := hw
  refine g_iaload hx hb hK hP (gis_Mo_sizes hY hx0) hin d_Mo_needed_5 ?_
  refine lv_bipush (v := 64) hx hb d_Mo_needed_6 (by decide) ?_
  refine lv_irem hx hb d_Mo_needed_8 (by decide) ?_
  refine lv_if_eq (tgt := 34) hx hb d_Mo_needed_9 (by decide) (fun c1 => ?_) (fun c1 => ?_)
  · replace hw := hw.1 c1
    exact mw_Mo_needed_34 C0 x0 x1 x2 S H locs ls hx0 hw hP hS (lv_sub hl [0, 1, 2] rfl)
  · replace hw := hw.2 c1
    refine lv_aload_n hx hb d_Mo_needed_12 rfl (lv_at hl 0 rfl) ?_
    refine g_get hx hb hts (fun w h => List.mem_cons_of_mem _ (in_Mo w h)) hown hK hP hx0 (gce_Mo hx0.1) rfl 14 (by decide) (hts _ (List.mem_cons_of_mem _ gw_821)) rfl d_Mo_needed_13 ?_
    refine lv_iload_n hx hb d_Mo_needed_16 rfl (lv_at hl 1 rfl) ?_
    obtain ⟨hin, hw⟩ := hw
    refine g_iaload hx hb hK hP (gis_Mo_sizes hY hx0) hin d_Mo_needed_17 ?_
    refine lv_bipush (v := 64) hx hb d_Mo_needed_18 (by decide) ?_
    refine lv_idiv hx hb d_Mo_needed_20 (by decide) ?_
    refine lv_aload_n hx hb d_Mo_needed_21 rfl (lv_at hl 0 rfl) ?_
    refine g_get hx hb hts (fun w h => List.mem_cons_of_mem _ (in_Mo w h)) hown hK hP hx0 (gce_Mo hx0.1) rfl 17 (by decide) (hts _ (List.mem_cons_of_mem _ gw_824)) rfl d_Mo_needed_22 ?_
    refine lv_iload_n hx hb d_Mo_needed_25 rfl (lv_at hl 1 rfl) ?_
    obtain ⟨hin, hw⟩ := hw
    refine g_iaload hx hb hK hP (gis_Mo_shared hY hx0) hin d_Mo_needed_26 ?_
    refine lv_icmp_ge (tgt := 34) hx hb d_Mo_needed_27 (by decide) (fun c7 => ?_) (fun c7 => ?_)
    · replace hw := hw.1 c7
      exact mw_Mo_needed_34 C0 x0 x1 x2 S H locs ls hx0 hw hP hS (lv_sub hl [0, 1, 2] rfl)
    · replace hw := hw.2 c7
      refine lv_iconst (v := 1) hx hb d_Mo_needed_30 (by decide) ?_
      refine lv_goto (tgt := 35) hx hb d_Mo_needed_31 (by decide) ?_
      exact mw_Mo_needed_35 C0 x0 x1 x2 1 S H locs ls hx0 hw hP hS (lv_sub hl [0, 1, 2] rfl)
set_option maxHeartbeats 4000000 in
set_option maxRecDepth 100000 in
theorem k_Mo_needed (l : Launch) (Y : gY) (hY : gOK Y) (sz : Nat) (x0 : gI) (x1 : Int32) (x2 : Int32)  (hx0 : gis Y 10 x0) (S : gS) (Q : Int32 → gS → Prop) : Met l y_Mo_needed w_Mo_needed (gRm 1 20) (gPre Y [.ref (gad Y x0), .int x1, .int x2] S sz (wp_Mo_needed (gLn Y) Q x0 x1 x2 S)) (va_Qi Q (gB Y) (gA Y sz)) 0 0 (gA Y sz) := by
  refine Met.ofW (cc := c_Mo_needed) (maxL := 4) (ret := (Option.some Jvm.ClassFile.FieldType.int)) (by decide) rfl ?_
  intro p e s m args below meth c s₁ B hml hv
  obtain ⟨rfl, hsz, hP, hK, hSt, hw⟩ := hv
  subst hsz
  have hts := atoms_spec (ws := w_Mo_needed) B.pre
  have hl := lv_entry ([.ref (gad Y x0), .int x1, .int x2]) (n := 4) (Nat.le_of_ble_eq_true rfl)
  rw [lg_entry_eq]
  generalize (lg_sl ([.ref (gad Y x0), .int x1, .int x2]) ++ List.replicate (4 - (lg_sl ([.ref (gad Y x0), .int x1, .int x2])).length) Slot.unset).toArray = ls at hl ⊢
  exact mw_Mo_needed ⟨B.exec, B.bytes, hml, findClass_of_methodNamed B.named, hts, B.returns, B.notSynchronized, hK, hY, hSt⟩ x0 x1 x2 S s.heap [] ls hx0 hw hP va_S.rf hl

def wp_Mo_hasRoom (Ln : gI → Nat) (Q : Int32 → gS → Prop) (x0 : gI) (x1 : Int32) (x2 : Int32)  (S : gS) : Prop :=
  vp_in x1 (Ln (grf x0 14)) ∧ (wp_Mo_pages Ln (fun r2 S1 => ((400 < r2) → (Q 0 S1)) ∧ ((¬ 400 < r2) → (wp_Mo_needed Ln (fun r5 S4 => wp_Mo_pagesUsed Ln (fun r7 S6 => ((((S4.1 x0 1) - r7) < r5) → (Q 0 S6)) ∧ ((¬ ((S4.1 x0 1) - r7) < r5) → (Q 1 S6))) x0 S4) x0 x1 x2 S1))) ((S.1 (grf x0 14) x1.toNatClampNeg) + x2) S)
set_option maxHeartbeats 4000000 in
set_option maxRecDepth 100000 in
theorem mw_Mo_hasRoom {p : Program} {l : Launch} {e : Env} {s : State} {m : MethodId} {args : Array Value} {below : List Frame} {meth : Method} {c : Code} {Y : gY} {Q : Int32 → gS → Prop} (C : gCx p s m args meth c Y "LogDiskModel" c_Mo_hasRoom 3 (Option.some Jvm.ClassFile.FieldType.boolean) w_Mo_hasRoom) : ∀ (x0 : gI) (x1 : Int32) (x2 : Int32)  (S : gS) (H : Heap) (locs : List Loc) (ls : Array Slot), gis Y 10 x0 → wp_Mo_hasRoom (gLn Y) Q x0 x1 x2 S → gWd Y S H → va_S (gA Y s.heap.size) s.heap H locs → lv_has ls 3 [(0, .ref (gad Y x0)), (1, .int x1), (2, .int x2)] → W p l e (gRm 2 43) s m args below meth c H locs 0 0 (MQ below (va_Qi Q (gB Y) (gA Y s.heap.size)) args s 0 0 (gA Y s.heap.size)) (F0 m 0 ls []) := by
  have C0 := C
  obtain ⟨hx, hb, hml, hown, hts, hr, hlocks, hK, hY, hSt⟩ := C
  intro x0 x1 x2 S H locs ls hx0 hw hP hS hl
  unfold wp_Mo_hasRoom at hw
  refine lv_aload_n hx hb d_Mo_hasRoom_0 rfl (lv_at hl 0 rfl) ?_
  refine g_get hx hb hts (fun w h => List.mem_cons_of_mem _ (in_Mo w h)) hown hK hP hx0 (gce_Mo hx0.1) rfl 14 (by decide) (hts _ (List.mem_cons_of_mem _ gw_821)) rfl d_Mo_hasRoom_1 ?_
  refine lv_iload_n hx hb d_Mo_hasRoom_4 rfl (lv_at hl 1 rfl) ?_
  obtain ⟨hin, hw⟩ := hw
  refine g_iaload hx hb hK hP (gis_Mo_sizes hY hx0) hin d_Mo_hasRoom_5 ?_
  refine lv_iload_n hx hb d_Mo_hasRoom_6 rfl (lv_at hl 2 rfl) ?_
  refine lv_iadd hx hb d_Mo_hasRoom_7 ?_
  refine g_calli (va_runS (As := [.int ((S.1 (grf x0 14) x1.toNatClampNeg) + x2)]) (rest := []) ⟨hx, hb, hml, hown, hts⟩ (k_Mo_pages l Y hY H.size ((S.1 (grf x0 14) x1.toNatClampNeg) + x2) S _) (va_cwS 1 hts (gG_S gw_946 gw_947 gw_12 gw_948) rfl rfl rfl (by decide +kernel) ⟨Nat.le_of_ble_eq_true rfl, Nat.le_of_ble_eq_true rfl⟩) ⟨gPre_blind, g_pre hK hSt hS hP hw⟩ rfl rfl hl.1 rfl (lv_room (Nat.le_of_ble_eq_true rfl)) d_Mo_hasRoom_8 ⟨Nat.zero_le _, Nat.zero_le _⟩) hS (fun r2 S1 H locs hw hP hS => ?_)
  refine lv_sipush (v := 400) hx hb d_Mo_hasRoom_11 (by decide) ?_
  refine lv_icmp_gt (tgt := 39) hx hb d_Mo_hasRoom_14 (by decide) (fun c3 => ?_) (fun c3 => ?_)
  · replace hw := hw.1 c3
    refine lv_iconst (v := 0) hx hb d_Mo_hasRoom_39 (by decide) ?_
    exact W.zret (v := 0) hx hb hr rfl (fun t ht hW => ⟨⟨0, S1, rfl, hw, by rw [ht]; exact hP, va_K.moved hW.alike hK⟩, hS.F ht⟩) hS.2.2 d_Mo_hasRoom_40
  · replace hw := hw.2 c3
    refine lv_aload_n hx hb d_Mo_hasRoom_17 rfl (lv_at hl 0 rfl) ?_
    refine lv_iload_n hx hb d_Mo_hasRoom_18 rfl (lv_at hl 1 rfl) ?_
    refine lv_iload_n hx hb d_Mo_hasRoom_19 rfl (lv_at hl 2 rfl) ?_
    refine g_calli (va_runV (As := [.int x1, .int x2]) (rest := []) ⟨hx, hb, hml, hown, hts⟩ (k_Mo_needed l Y hY H.size x0 x1 x2 hx0 S1 _) (cwV 2 hts (gG_V gw_985 gw_987 gs_32 gw_12 gw_988) rfl rfl rfl (by decide +kernel) ⟨Nat.le_of_ble_eq_true rfl, Nat.le_of_ble_eq_true rfl⟩) ⟨gPre_blind, g_recv hK hP hx0 (gce_Mo hx0.1) rfl, g_pre hK hSt hS hP hw⟩ rfl rfl hl.1 rfl (lv_room (Nat.le_of_ble_eq_true rfl)) d_Mo_hasRoom_20 ⟨Nat.zero_le _, Nat.zero_le _⟩) hS (fun r5 S4 H locs hw hP hS => ?_)
    refine lv_aload_n hx hb d_Mo_hasRoom_23 rfl (lv_at hl 0 rfl) ?_
    refine g_get hx hb hts (fun w h => List.mem_cons_of_mem _ (in_Mo w h)) hown hK hP hx0 (gce_Mo hx0.1) rfl 1 (by decide) (hts _ (List.mem_cons_of_mem _ gw_808)) rfl d_Mo_hasRoom_24 ?_
    refine lv_aload_n hx hb d_Mo_hasRoom_27 rfl (lv_at hl 0 rfl) ?_
    refine g_calli (va_runV (As := []) (rest := [.int (S4.1 x0 1), .int r5]) ⟨hx, hb, hml, hown, hts⟩ (k_Mo_pagesUsed l Y hY H.size x0 hx0 S4 _) (cwV 0 hts (gG_V gw_942 gw_944 gs_23 gw_12 gw_945) rfl rfl rfl (by decide +kernel) ⟨Nat.le_of_ble_eq_true rfl, Nat.le_of_ble_eq_true rfl⟩) ⟨gPre_blind, g_recv hK hP hx0 (gce_Mo hx0.1) rfl, g_pre hK hSt hS hP hw⟩ rfl rfl hl.1 rfl (lv_room (Nat.le_of_ble_eq_true rfl)) d_Mo_hasRoom_28 ⟨Nat.zero_le _, Nat.zero_le _⟩) hS (fun r7 S6 H locs hw hP hS => ?_)
    refine lv_isub hx hb d_Mo_hasRoom_31 ?_
    refine lv_icmp_gt (tgt := 39) hx hb d_Mo_hasRoom_32 (by decide) (fun c8 => ?_) (fun c8 => ?_)
    · replace hw := hw.1 c8
      refine lv_iconst (v := 0) hx hb d_Mo_hasRoom_39 (by decide) ?_
      exact W.zret (v := 0) hx hb hr rfl (fun t ht hW => ⟨⟨0, S6, rfl, hw, by rw [ht]; exact hP, va_K.moved hW.alike hK⟩, hS.F ht⟩) hS.2.2 d_Mo_hasRoom_40
    · replace hw := hw.2 c8
      refine lv_iconst (v := 1) hx hb d_Mo_hasRoom_35 (by decide) ?_
      refine lv_goto (tgt := 40) hx hb d_Mo_hasRoom_36 (by decide) ?_
      exact W.zret (v := 1) hx hb hr rfl (fun t ht hW => ⟨⟨1, S6, rfl, hw, by rw [ht]; exact hP, va_K.moved hW.alike hK⟩, hS.F ht⟩) hS.2.2 d_Mo_hasRoom_40
set_option maxHeartbeats 4000000 in
set_option maxRecDepth 100000 in
theorem k_Mo_hasRoom (l : Launch) (Y : gY) (hY : gOK Y) (sz : Nat) (x0 : gI) (x1 : Int32) (x2 : Int32)  (hx0 : gis Y 10 x0) (S : gS) (Q : Int32 → gS → Prop) : Met l y_Mo_hasRoom w_Mo_hasRoom (gRm 2 43) (gPre Y [.ref (gad Y x0), .int x1, .int x2] S sz (wp_Mo_hasRoom (gLn Y) Q x0 x1 x2 S)) (va_Qi Q (gB Y) (gA Y sz)) 0 0 (gA Y sz) := by
  refine Met.ofW (cc := c_Mo_hasRoom) (maxL := 3) (ret := (Option.some Jvm.ClassFile.FieldType.boolean)) (by decide) rfl ?_
  intro p e s m args below meth c s₁ B hml hv
  obtain ⟨rfl, hsz, hP, hK, hSt, hw⟩ := hv
  subst hsz
  have hts := atoms_spec (ws := w_Mo_hasRoom) B.pre
  have hl := lv_entry ([.ref (gad Y x0), .int x1, .int x2]) (n := 3) (Nat.le_of_ble_eq_true rfl)
  rw [lg_entry_eq]
  generalize (lg_sl ([.ref (gad Y x0), .int x1, .int x2]) ++ List.replicate (3 - (lg_sl ([.ref (gad Y x0), .int x1, .int x2])).length) Slot.unset).toArray = ls at hl ⊢
  exact mw_Mo_hasRoom ⟨B.exec, B.bytes, hml, findClass_of_methodNamed B.named, hts, B.returns, B.notSynchronized, hK, hY, hSt⟩ x0 x1 x2 S s.heap [] ls hx0 hw hP va_S.rf hl

def wp_Mo_hasRoomAnew (Ln : gI → Nat) (Q : Int32 → gS → Prop) (x0 : gI) (x1 : Int32) (x2 : Int32)  (S : gS) : Prop :=
  wp_Mo_pagesUsed Ln (fun r2 S1 => vp_in x1 (Ln (grf x0 14)) ∧ (wp_Mo_pages Ln (fun r4 S3 => vp_in x1 (Ln (grf x0 17)) ∧ (∀ v3_5 : Int32, v3_5 = (((S.1 x0 1) - r2) + r4) - (S3.1 (grf x0 17) x1.toNatClampNeg) → (wp_Mo_pages Ln (fun r7 S6 => ((400 < r7) → (Q 0 S6)) ∧ ((¬ 400 < r7) → (wp_Mo_pages Ln (fun r10 S9 => ((v3_5 < r10) → (Q 0 S9)) ∧ ((¬ v3_5 < r10) → (Q 1 S9))) x2 S6))) x2 S3))) (S1.1 (grf x0 14) x1.toNatClampNeg) S1)) x0 S
set_option maxHeartbeats 4000000 in
set_option maxRecDepth 100000 in
theorem mw_Mo_hasRoomAnew {p : Program} {l : Launch} {e : Env} {s : State} {m : MethodId} {args : Array Value} {below : List Frame} {meth : Method} {c : Code} {Y : gY} {Q : Int32 → gS → Prop} (C : gCx p s m args meth c Y "LogDiskModel" c_Mo_hasRoomAnew 4 (Option.some Jvm.ClassFile.FieldType.boolean) w_Mo_hasRoomAnew) : ∀ (x0 : gI) (x1 : Int32) (x2 : Int32)  (S : gS) (H : Heap) (locs : List Loc) (ls : Array Slot), gis Y 10 x0 → wp_Mo_hasRoomAnew (gLn Y) Q x0 x1 x2 S → gWd Y S H → va_S (gA Y s.heap.size) s.heap H locs → lv_has ls 4 [(0, .ref (gad Y x0)), (1, .int x1), (2, .int x2)] → W p l e (gRm 2 42) s m args below meth c H locs 0 0 (MQ below (va_Qi Q (gB Y) (gA Y s.heap.size)) args s 0 0 (gA Y s.heap.size)) (F0 m 0 ls []) := by
  have C0 := C
  obtain ⟨hx, hb, hml, hown, hts, hr, hlocks, hK, hY, hSt⟩ := C
  intro x0 x1 x2 S H locs ls hx0 hw hP hS hl
  unfold wp_Mo_hasRoomAnew at hw
  refine lv_aload_n hx hb d_Mo_hasRoomAnew_0 rfl (lv_at hl 0 rfl) ?_
  refine g_get hx hb hts (fun w h => List.mem_cons_of_mem _ (in_Mo w h)) hown hK hP hx0 (gce_Mo hx0.1) rfl 1 (by decide) (hts _ (List.mem_cons_of_mem _ gw_808)) rfl d_Mo_hasRoomAnew_1 ?_
  refine lv_aload_n hx hb d_Mo_hasRoomAnew_4 rfl (lv_at hl 0 rfl) ?_
  refine g_calli (va_runV (As := []) (rest := [.int (S.1 x0 1)]) ⟨hx, hb, hml, hown, hts⟩ (k_Mo_pagesUsed l Y hY H.size x0 hx0 S _) (cwV 0 hts (gG_V gw_942 gw_944 gs_23 gw_12 gw_945) rfl rfl rfl (by decide +kernel) ⟨Nat.le_of_ble_eq_true rfl, Nat.le_of_ble_eq_true rfl⟩) ⟨gPre_blind, g_recv hK hP hx0 (gce_Mo hx0.1) rfl, g_pre hK hSt hS hP hw⟩ rfl rfl hl.1 rfl (lv_room (Nat.le_of_ble_eq_true rfl)) d_Mo_hasRoomAnew_5 ⟨Nat.zero_le _, Nat.zero_le _⟩) hS (fun r2 S1 H locs hw hP hS => ?_)
  refine lv_isub hx hb d_Mo_hasRoomAnew_8 ?_
  refine lv_aload_n hx hb d_Mo_hasRoomAnew_9 rfl (lv_at hl 0 rfl) ?_
  refine g_get hx hb hts (fun w h => List.mem_cons_of_mem _ (in_Mo w h)) hown hK hP hx0 (gce_Mo hx0.1) rfl 14 (by decide) (hts _ (List.mem_cons_of_mem _ gw_821)) rfl d_Mo_hasRoomAnew_10 ?_
  refine lv_iload_n hx hb d_Mo_hasRoomAnew_13 rfl (lv_at hl 1 rfl) ?_
  obtain ⟨hin, hw⟩ := hw
  refine g_iaload hx hb hK hP (gis_Mo_sizes hY hx0) hin d_Mo_hasRoomAnew_14 ?_
  refine g_calli (va_runS (As := [.int (S1.1 (grf x0 14) x1.toNatClampNeg)]) (rest := [.int ((S.1 x0 1) - r2)]) ⟨hx, hb, hml, hown, hts⟩ (k_Mo_pages l Y hY H.size (S1.1 (grf x0 14) x1.toNatClampNeg) S1 _) (va_cwS 1 hts (gG_S gw_946 gw_947 gw_12 gw_948) rfl rfl rfl (by decide +kernel) ⟨Nat.le_of_ble_eq_true rfl, Nat.le_of_ble_eq_true rfl⟩) ⟨gPre_blind, g_pre hK hSt hS hP hw⟩ rfl rfl hl.1 rfl (lv_room (Nat.le_of_ble_eq_true rfl)) d_Mo_hasRoomAnew_15 ⟨Nat.zero_le _, Nat.zero_le _⟩) hS (fun r4 S3 H locs hw hP hS => ?_)
  refine lv_iadd hx hb d_Mo_hasRoomAnew_18 ?_
  refine lv_aload_n hx hb d_Mo_hasRoomAnew_19 rfl (lv_at hl 0 rfl) ?_
  refine g_get hx hb hts (fun w h => List.mem_cons_of_mem _ (in_Mo w h)) hown hK hP hx0 (gce_Mo hx0.1) rfl 17 (by decide) (hts _ (List.mem_cons_of_mem _ gw_824)) rfl d_Mo_hasRoomAnew_20 ?_
  refine lv_iload_n hx hb d_Mo_hasRoomAnew_23 rfl (lv_at hl 1 rfl) ?_
  obtain ⟨hin, hw⟩ := hw
  refine g_iaload hx hb hK hP (gis_Mo_shared hY hx0) hin d_Mo_hasRoomAnew_24 ?_
  refine lv_isub hx hb d_Mo_hasRoomAnew_25 ?_
  refine lv_topi (fun v3_5 ev3_5 => ?_)
  replace hw := hw v3_5 ev3_5
  refine lv_istore_n (lv' := [(3, .int v3_5), (0, .ref (gad Y x0)), (1, .int x1), (2, .int x2)]) hx hb d_Mo_hasRoomAnew_26 rfl hl (by decide) rfl (fun ls hl => ?_)
  refine lv_iload_n hx hb d_Mo_hasRoomAnew_27 rfl (lv_at hl 3 rfl) ?_
  refine g_calli (va_runS (As := [.int x2]) (rest := []) ⟨hx, hb, hml, hown, hts⟩ (k_Mo_pages l Y hY H.size x2 S3 _) (va_cwS 1 hts (gG_S gw_946 gw_947 gw_12 gw_948) rfl rfl rfl (by decide +kernel) ⟨Nat.le_of_ble_eq_true rfl, Nat.le_of_ble_eq_true rfl⟩) ⟨gPre_blind, g_pre hK hSt hS hP hw⟩ rfl rfl hl.1 rfl (lv_room (Nat.le_of_ble_eq_true rfl)) d_Mo_hasRoomAnew_28 ⟨Nat.zero_le _, Nat.zero_le _⟩) hS (fun r7 S6 H locs hw hP hS => ?_)
  refine lv_sipush (v := 400) hx hb d_Mo_hasRoomAnew_31 (by decide) ?_
  refine lv_icmp_gt (tgt := 49) hx hb d_Mo_hasRoomAnew_34 (by decide) (fun c8 => ?_) (fun c8 => ?_)
  · replace hw := hw.1 c8
    refine lv_iconst (v := 0) hx hb d_Mo_hasRoomAnew_49 (by decide) ?_
    exact W.zret (v := 0) hx hb hr rfl (fun t ht hW => ⟨⟨0, S6, rfl, hw, by rw [ht]; exact hP, va_K.moved hW.alike hK⟩, hS.F ht⟩) hS.2.2 d_Mo_hasRoomAnew_50
  · replace hw := hw.2 c8
    refine lv_iload_n hx hb d_Mo_hasRoomAnew_37 rfl (lv_at hl 3 rfl) ?_
    refine g_calli (va_runS (As := [.int x2]) (rest := []) ⟨hx, hb, hml, hown, hts⟩ (k_Mo_pages l Y hY H.size x2 S6 _) (va_cwS 1 hts (gG_S gw_946 gw_947 gw_12 gw_948) rfl rfl rfl (by decide +kernel) ⟨Nat.le_of_ble_eq_true rfl, Nat.le_of_ble_eq_true rfl⟩) ⟨gPre_blind, g_pre hK hSt hS hP hw⟩ rfl rfl hl.1 rfl (lv_room (Nat.le_of_ble_eq_true rfl)) d_Mo_hasRoomAnew_38 ⟨Nat.zero_le _, Nat.zero_le _⟩) hS (fun r10 S9 H locs hw hP hS => ?_)
    refine lv_iload_n hx hb d_Mo_hasRoomAnew_41 rfl (lv_at hl 0 rfl) ?_
    refine lv_icmp_gt (tgt := 49) hx hb d_Mo_hasRoomAnew_42 (by decide) (fun c11 => ?_) (fun c11 => ?_)
    · replace hw := hw.1 c11
      refine lv_iconst (v := 0) hx hb d_Mo_hasRoomAnew_49 (by decide) ?_
      exact W.zret (v := 0) hx hb hr rfl (fun t ht hW => ⟨⟨0, S9, rfl, hw, by rw [ht]; exact hP, va_K.moved hW.alike hK⟩, hS.F ht⟩) hS.2.2 d_Mo_hasRoomAnew_50
    · replace hw := hw.2 c11
      refine lv_iconst (v := 1) hx hb d_Mo_hasRoomAnew_45 (by decide) ?_
      refine lv_goto (tgt := 50) hx hb d_Mo_hasRoomAnew_46 (by decide) ?_
      exact W.zret (v := 1) hx hb hr rfl (fun t ht hW => ⟨⟨1, S9, rfl, hw, by rw [ht]; exact hP, va_K.moved hW.alike hK⟩, hS.F ht⟩) hS.2.2 d_Mo_hasRoomAnew_50
set_option maxHeartbeats 4000000 in
set_option maxRecDepth 100000 in
theorem k_Mo_hasRoomAnew (l : Launch) (Y : gY) (hY : gOK Y) (sz : Nat) (x0 : gI) (x1 : Int32) (x2 : Int32)  (hx0 : gis Y 10 x0) (S : gS) (Q : Int32 → gS → Prop) : Met l y_Mo_hasRoomAnew w_Mo_hasRoomAnew (gRm 2 42) (gPre Y [.ref (gad Y x0), .int x1, .int x2] S sz (wp_Mo_hasRoomAnew (gLn Y) Q x0 x1 x2 S)) (va_Qi Q (gB Y) (gA Y sz)) 0 0 (gA Y sz) := by
  refine Met.ofW (cc := c_Mo_hasRoomAnew) (maxL := 4) (ret := (Option.some Jvm.ClassFile.FieldType.boolean)) (by decide) rfl ?_
  intro p e s m args below meth c s₁ B hml hv
  obtain ⟨rfl, hsz, hP, hK, hSt, hw⟩ := hv
  subst hsz
  have hts := atoms_spec (ws := w_Mo_hasRoomAnew) B.pre
  have hl := lv_entry ([.ref (gad Y x0), .int x1, .int x2]) (n := 4) (Nat.le_of_ble_eq_true rfl)
  rw [lg_entry_eq]
  generalize (lg_sl ([.ref (gad Y x0), .int x1, .int x2]) ++ List.replicate (4 - (lg_sl ([.ref (gad Y x0), .int x1, .int x2])).length) Slot.unset).toArray = ls at hl ⊢
  exact mw_Mo_hasRoomAnew ⟨B.exec, B.bytes, hml, findClass_of_methodNamed B.named, hts, B.returns, B.notSynchronized, hK, hY, hSt⟩ x0 x1 x2 S s.heap [] ls hx0 hw hP va_S.rf hl

def wp_Mo_cut_119 (Ln : gI → Nat) (Q : gS → Prop) (y0 : gI) (y1 : Int32) (y2 : Int32) (S : gS) : Prop :=
  vp_in y1 (Ln y0) ∧ (∀ S11 : gS, S11 = gset S y0 y1.toNatClampNeg y2 → (Q S11))
def wp_Mo_cut_87 (Ln : gI → Nat) (Q : gS → Prop) (x0 : gI) (x1 : Int32) (x2 : Int32) (y0 : gI) (y1 : Int32) (y2 : Int32) (S : gS) : Prop :=
  vp_in y1 (Ln y0) ∧ (∀ S5 : gS, S5 = gset S y0 y1.toNatClampNeg y2 → (vp_in x1 (Ln (grf x0 17)) ∧ (wp_Mo_pages Ln (fun r7 S6 => ((r7 ≤ (S5.1 (grf x0 17) x1.toNatClampNeg)) → (wp_Mo_pages Ln (fun r10 S9 => wp_Mo_cut_119 Ln Q (grf x0 17) x1 r10 S9) x2 S6)) ∧ ((¬ r7 ≤ (S5.1 (grf x0 17) x1.toNatClampNeg)) → (vp_in x1 (Ln (grf x0 17)) ∧ (wp_Mo_cut_119 Ln Q (grf x0 17) x1 (S6.1 (grf x0 17) x1.toNatClampNeg) S6)))) x2 S5)))
def wp_Mo_cut_54 (Ln : gI → Nat) (Q : gS → Prop) (x0 : gI) (x1 : Int32) (x2 : Int32) (x4 : Int32)  (S : gS) : Prop :=
  vp_in x1 (Ln (grf x0 13)) ∧ (∀ S3 : gS, S3 = gset S (grf x0 13) x1.toNatClampNeg x4 → (vp_in x1 (Ln (grf x0 16)) ∧ (((x2 ≤ (S3.1 (grf x0 16) x1.toNatClampNeg)) → (wp_Mo_cut_87 Ln Q x0 x1 x2 (grf x0 16) x1 x2 S3)) ∧ ((¬ x2 ≤ (S3.1 (grf x0 16) x1.toNatClampNeg)) → (vp_in x1 (Ln (grf x0 16)) ∧ (wp_Mo_cut_87 Ln Q x0 x1 x2 (grf x0 16) x1 (S3.1 (grf x0 16) x1.toNatClampNeg) S3))))))
def wp_Mo_cut_12 (Ln : gI → Nat) (Q : gS → Prop) : Nat → gI → Int32 → Int32 → Int32 → Int32 → gS → Prop
  | 0, _, _, _, _, _, _ => False
  | n12 + 1, x0, x1, x2, x3, x4, S => vp_in x1 (Ln (grf x0 13)) ∧ ((((S.1 (grf x0 13) x1.toNatClampNeg) ≤ x4) → (wp_Mo_cut_54 Ln Q x0 x1 x2 x4 S)) ∧ ((¬ (S.1 (grf x0 13) x1.toNatClampNeg) ≤ x4) → (((x2 ≤ x3) → (wp_Mo_cut_54 Ln Q x0 x1 x2 x4 S)) ∧ ((¬ x2 ≤ x3) → (vp_in ((330 * x1) + x4) (Ln (grf x0 12)) ∧ (wp_Mo_space Ln (fun r14 S13 => ∀ v3_15 : Int32, v3_15 = x3 + r14 → (∀ v4_16 : Int32, v4_16 = x4 + 1 → (wp_Mo_cut_12 Ln Q n12 x0 x1 x2 v3_15 v4_16 S13))) x0 (S.1 (grf x0 12) ((330 * x1) + x4).toNatClampNeg) S))))))
def wp_Mo_cut (Ln : gI → Nat) (Q : gS → Prop) (x0 : gI) (x1 : Int32) (x2 : Int32)  (S : gS) : Prop :=
  vp_in x1 (Ln (grf x0 14)) ∧ (∀ S1 : gS, S1 = gset S (grf x0 14) x1.toNatClampNeg x2 → (∃ n12 : Nat, wp_Mo_cut_12 Ln Q n12 x0 x1 x2 0 0 S1))
set_option maxHeartbeats 4000000 in
set_option maxRecDepth 100000 in
theorem mw_Mo_cut_119 {p : Program} {l : Launch} {e : Env} {s : State} {m : MethodId} {args : Array Value} {below : List Frame} {meth : Method} {c : Code} {Y : gY} {Q : gS → Prop} (C : gCx p s m args meth c Y "LogDiskModel" c_Mo_cut 5 (Option.none : Option Jvm.ClassFile.FieldType) w_Mo_cut) : ∀ (y0 : gI) (y1 : Int32) (y2 : Int32) (S : gS) (H : Heap) (locs : List Loc) (ls : Array Slot), gis Y 20 y0 → wp_Mo_cut_119 (gLn Y) Q y0 y1 y2 S → gWd Y S H → va_S (gA Y s.heap.size) s.heap H locs → lv_has ls 5 [] → W p l e (gRm 2 42) s m args below meth c H locs 0 0 (MQ below (va_Qv Q (gB Y) (gA Y s.heap.size)) args s 0 0 (gA Y s.heap.size)) (F0 m 119 ls [.int y2, .int y1, .ref (gad Y y0)]) := by
  have C0 := C
  obtain ⟨hx, hb, hml, hown, hts, hr, hlocks, hK, hY, hSt⟩ := C
  intro y0 y1 y2 S H locs ls hy0 hw hP hS hl
  unfold wp_Mo_cut_119 at hw
  obtain ⟨hin, hw⟩ := hw
  refine g_iastore hx hb hK hY.1 hP hS hy0 hin d_Mo_cut_119 (fun S11 eS11 H locs hP hS => ?_)
  replace hw := hw S11 eS11
  exact W.vret hx hb hr (fun t ht hW => ⟨⟨S11, rfl, hw, by rw [ht]; exact hP, va_K.moved hW.alike hK⟩, hS.F ht⟩) hS.2.2 d_Mo_cut_120
set_option maxHeartbeats 4000000 in
set_option maxRecDepth 100000 in
theorem mw_Mo_cut_87 {p : Program} {l : Launch} {e : Env} {s : State} {m : MethodId} {args : Array Value} {below : List Frame} {meth : Method} {c : Code} {Y : gY} {Q : gS → Prop} (C : gCx p s m args meth c Y "LogDiskModel" c_Mo_cut 5 (Option.none : Option Jvm.ClassFile.FieldType) w_Mo_cut) : ∀ (x0 : gI) (x1 : Int32) (x2 : Int32) (y0 : gI) (y1 : Int32) (y2 : Int32) (S : gS) (H : Heap) (locs : List Loc) (ls : Array Slot), gis Y 10 x0 → gis Y 20 y0 → wp_Mo_cut_87 (gLn Y) Q x0 x1 x2 y0 y1 y2 S → gWd Y S H → va_S (gA Y s.heap.size) s.heap H locs → lv_has ls 5 [(0, .ref (gad Y x0)), (1, .int x1), (2, .int x2)] → W p l e (gRm 2 42) s m args below meth c H locs 0 0 (MQ below (va_Qv Q (gB Y) (gA Y s.heap.size)) args s 0 0 (gA Y s.heap.size)) (F0 m 87 ls [.int y2, .int y1, .ref (gad Y y0)]) := by
  have C0 := C
  obtain ⟨hx, hb, hml, hown, hts, hr, hlocks, hK, hY, hSt⟩ := C
  intro x0 x1 x2 y0 y1 y2 S H locs ls hx0 hy0 hw hP hS hl
  unfold wp_Mo_cut_87 at hw
  obtain ⟨hin, hw⟩ := hw
  refine g_iastore hx hb hK hY.1 hP hS hy0 hin d_Mo_cut_87 (fun S5 eS5 H locs hP hS => ?_)
  replace hw := hw S5 eS5
  refine lv_aload_n hx hb d_Mo_cut_88 rfl (lv_at hl 0 rfl) ?_
  refine g_get hx hb hts (fun w h => List.mem_cons_of_mem _ (in_Mo w h)) hown hK hP hx0 (gce_Mo hx0.1) rfl 17 (by decide) (hts _ (List.mem_cons_of_mem _ gw_824)) rfl d_Mo_cut_89 ?_
  refine lv_iload_n hx hb d_Mo_cut_92 rfl (lv_at hl 1 rfl) ?_
  refine lv_aload_n hx hb d_Mo_cut_93 rfl (lv_at hl 0 rfl) ?_
  refine g_get hx hb hts (fun w h => List.mem_cons_of_mem _ (in_Mo w h)) hown hK hP hx0 (gce_Mo hx0.1) rfl 17 (by decide) (hts _ (List.mem_cons_of_mem _ gw_824)) rfl d_Mo_cut_94 ?_
  refine lv_iload_n hx hb d_Mo_cut_97 rfl (lv_at hl 1 rfl) ?_
  obtain ⟨hin, hw⟩ := hw
  refine g_iaload hx hb hK hP (gis_Mo_shared hY hx0) hin d_Mo_cut_98 ?_
  refine lv_iload_n hx hb d_Mo_cut_99 rfl (lv_at hl 2 rfl) ?_
  refine g_calli (va_runS (As := [.int x2]) (rest := [.int (S5.1 (grf x0 17) x1.toNatClampNeg), .int x1, .ref (gad Y (grf x0 17))]) ⟨hx, hb, hml, hown, hts⟩ (k_Mo_pages l Y hY H.size x2 S5 _) (va_cwS 1 hts (gG_S gw_946 gw_947 gw_12 gw_948) rfl rfl rfl (by decide +kernel) ⟨Nat.le_of_ble_eq_true rfl, Nat.le_of_ble_eq_true rfl⟩) ⟨gPre_blind, g_pre hK hSt hS hP hw⟩ rfl rfl hl.1 rfl (lv_room (Nat.le_of_ble_eq_true rfl)) d_Mo_cut_100 ⟨Nat.zero_le _, Nat.zero_le _⟩) hS (fun r7 S6 H locs hw hP hS => ?_)
  refine lv_icmp_ge (tgt := 115) hx hb d_Mo_cut_103 (by decide) (fun c8 => ?_) (fun c8 => ?_)
  · replace hw := hw.1 c8
    refine lv_iload_n hx hb d_Mo_cut_115 rfl (lv_at hl 2 rfl) ?_
    refine g_calli (va_runS (As := [.int x2]) (rest := [.int x1, .ref (gad Y (grf x0 17))]) ⟨hx, hb, hml, hown, hts⟩ (k_Mo_pages l Y hY H.size x2 S6 _) (va_cwS 1 hts (gG_S gw_946 gw_947 gw_12 gw_948) rfl rfl rfl (by decide +kernel) ⟨Nat.le_of_ble_eq_true rfl, Nat.le_of_ble_eq_true rfl⟩) ⟨gPre_blind, g_pre hK hSt hS hP hw⟩ rfl rfl hl.1 rfl (lv_room (Nat.le_of_ble_eq_true rfl)) d_Mo_cut_116 ⟨Nat.zero_le _, Nat.zero_le _⟩) hS (fun r10 S9 H locs hw hP hS => ?_)
    exact mw_Mo_cut_119 C0 (grf x0 17) x1 r10 S9 H locs ls (gis_Mo_shared hY hx0) hw hP hS (lv_sub hl [] rfl)
  · replace hw := hw.2 c8
    refine lv_aload_n hx hb d_Mo_cut_106 rfl (lv_at hl 0 rfl) ?_
    refine g_get hx hb hts (fun w h => List.mem_cons_of_mem _ (in_Mo w h)) hown hK hP hx0 (gce_Mo hx0.1) rfl 17 (by decide) (hts _ (List.mem_cons_of_mem _ gw_824)) rfl d_Mo_cut_107 ?_
    refine lv_iload_n hx hb d_Mo_cut_110 rfl (lv_at hl 1 rfl) ?_
    obtain ⟨hin, hw⟩ := hw
    refine g_iaload hx hb hK hP (gis_Mo_shared hY hx0) hin d_Mo_cut_111 ?_
    refine lv_goto (tgt := 119) hx hb d_Mo_cut_112 (by decide) ?_
    exact mw_Mo_cut_119 C0 (grf x0 17) x1 (S6.1 (grf x0 17) x1.toNatClampNeg) S6 H locs ls (gis_Mo_shared hY hx0) hw hP hS (lv_sub hl [] rfl)
set_option maxHeartbeats 4000000 in
set_option maxRecDepth 100000 in
theorem mw_Mo_cut_54 {p : Program} {l : Launch} {e : Env} {s : State} {m : MethodId} {args : Array Value} {below : List Frame} {meth : Method} {c : Code} {Y : gY} {Q : gS → Prop} (C : gCx p s m args meth c Y "LogDiskModel" c_Mo_cut 5 (Option.none : Option Jvm.ClassFile.FieldType) w_Mo_cut) : ∀ (x0 : gI) (x1 : Int32) (x2 : Int32) (x4 : Int32)  (S : gS) (H : Heap) (locs : List Loc) (ls : Array Slot), gis Y 10 x0 → wp_Mo_cut_54 (gLn Y) Q x0 x1 x2 x4 S → gWd Y S H → va_S (gA Y s.heap.size) s.heap H locs → lv_has ls 5 [(0, .ref (gad Y x0)), (1, .int x1), (2, .int x2), (4, .int x4)] → W p l e (gRm 2 42) s m args below meth c H locs 0 0 (MQ below (va_Qv Q (gB Y) (gA Y s.heap.size)) args s 0 0 (gA Y s.heap.size)) (F0 m 54 ls []) := by
  have C0 := C
  obtain ⟨hx, hb, hml, hown, hts, hr, hlocks, hK, hY, hSt⟩ := C
  intro x0 x1 x2 x4 S H locs ls hx0 hw hP hS hl
  unfold wp_Mo_cut_54 at hw
  refine lv_aload_n hx hb d_Mo_cut_54 rfl (lv_at hl 0 rfl) ?_
  refine g_get hx hb hts (fun w h => List.mem_cons_of_mem _ (in_Mo w h)) hown hK hP hx0 (gce_Mo hx0.1) rfl 13 (by decide) (hts _ (List.mem_cons_of_mem _ gw_820)) rfl d_Mo_cut_55 ?_
  refine lv_iload_n hx hb d_Mo_cut_58 rfl (lv_at hl 1 rfl) ?_
  refine lv_iload hx hb d_Mo_cut_59 (lv_at hl 3 rfl) ?_
  obtain ⟨hin, hw⟩ := hw
  refine g_iastore hx hb hK hY.1 hP hS (gis_Mo_counts hY hx0) hin d_Mo_cut_61 (fun S3 eS3 H locs hP hS => ?_)
  replace hw := hw S3 eS3
  refine lv_aload_n hx hb d_Mo_cut_62 rfl (lv_at hl 0 rfl) ?_
  refine g_get hx hb hts (fun w h => List.mem_cons_of_mem _ (in_Mo w h)) hown hK hP hx0 (gce_Mo hx0.1) rfl 16 (by decide) (hts _ (List.mem_cons_of_mem _ gw_823)) rfl d_Mo_cut_63 ?_
  refine lv_iload_n hx hb d_Mo_cut_66 rfl (lv_at hl 1 rfl) ?_
  refine lv_aload_n hx hb d_Mo_cut_67 rfl (lv_at hl 0 rfl) ?_
  refine g_get hx hb hts (fun w h => List.mem_cons_of_mem _ (in_Mo w h)) hown hK hP hx0 (gce_Mo hx0.1) rfl 16 (by decide) (hts _ (List.mem_cons_of_mem _ gw_823)) rfl d_Mo_cut_68 ?_
  refine lv_iload_n hx hb d_Mo_cut_71 rfl (lv_at hl 1 rfl) ?_
  obtain ⟨hin, hw⟩ := hw
  refine g_iaload hx hb hK hP (gis_Mo_lows hY hx0) hin d_Mo_cut_72 ?_
  refine lv_iload_n hx hb d_Mo_cut_73 rfl (lv_at hl 2 rfl) ?_
  refine lv_icmp_ge (tgt := 86) hx hb d_Mo_cut_74 (by decide) (fun c4 => ?_) (fun c4 => ?_)
  · replace hw := hw.1 c4
    refine lv_iload_n hx hb d_Mo_cut_86 rfl (lv_at hl 2 rfl) ?_
    exact mw_Mo_cut_87 C0 x0 x1 x2 (grf x0 16) x1 x2 S3 H locs ls hx0 (gis_Mo_lows hY hx0) hw hP hS (lv_sub hl [0, 1, 2] rfl)
  · replace hw := hw.2 c4
    refine lv_aload_n hx hb d_Mo_cut_77 rfl (lv_at hl 0 rfl) ?_
    refine g_get hx hb hts (fun w h => List.mem_cons_of_mem _ (in_Mo w h)) hown hK hP hx0 (gce_Mo hx0.1) rfl 16 (by decide) (hts _ (List.mem_cons_of_mem _ gw_823)) rfl d_Mo_cut_78 ?_
    refine lv_iload_n hx hb d_Mo_cut_81 rfl (lv_at hl 1 rfl) ?_
    obtain ⟨hin, hw⟩ := hw
    refine g_iaload hx hb hK hP (gis_Mo_lows hY hx0) hin d_Mo_cut_82 ?_
    refine lv_goto (tgt := 87) hx hb d_Mo_cut_83 (by decide) ?_
    exact mw_Mo_cut_87 C0 x0 x1 x2 (grf x0 16) x1 (S3.1 (grf x0 16) x1.toNatClampNeg) S3 H locs ls hx0 (gis_Mo_lows hY hx0) hw hP hS (lv_sub hl [0, 1, 2] rfl)
set_option maxHeartbeats 4000000 in
set_option maxRecDepth 100000 in
theorem mw_Mo_cut_12 {p : Program} {l : Launch} {e : Env} {s : State} {m : MethodId} {args : Array Value} {below : List Frame} {meth : Method} {c : Code} {Y : gY} {Q : gS → Prop} (C : gCx p s m args meth c Y "LogDiskModel" c_Mo_cut 5 (Option.none : Option Jvm.ClassFile.FieldType) w_Mo_cut) : ∀ (n : Nat), ∀ (x0 : gI) (x1 : Int32) (x2 : Int32) (x3 : Int32) (x4 : Int32)  (S : gS) (H : Heap) (locs : List Loc) (ls : Array Slot), gis Y 10 x0 → wp_Mo_cut_12 (gLn Y) Q n x0 x1 x2 x3 x4 S → gWd Y S H → va_S (gA Y s.heap.size) s.heap H locs → lv_has ls 5 [(0, .ref (gad Y x0)), (1, .int x1), (2, .int x2), (3, .int x3), (4, .int x4)] → W p l e (gRm 2 42) s m args below meth c H locs 0 0 (MQ below (va_Qv Q (gB Y) (gA Y s.heap.size)) args s 0 0 (gA Y s.heap.size)) (F0 m 12 ls []) := by
  have C0 := C
  obtain ⟨hx, hb, hml, hown, hts, hr, hlocks, hK, hY, hSt⟩ := C
  intro n
  induction n with
  | zero =>
    intro x0 x1 x2 x3 x4 S H locs ls hx0 hw
    exact False.elim hw
  | succ n ih =>
    intro x0 x1 x2 x3 x4 S H locs ls hx0 hw hP hS hl
    unfold wp_Mo_cut_12 at hw
    refine lv_iload hx hb d_Mo_cut_12 (lv_at hl 4 rfl) ?_
    refine lv_aload_n hx hb d_Mo_cut_14 rfl (lv_at hl 0 rfl) ?_
    refine g_get hx hb hts (fun w h => List.mem_cons_of_mem _ (in_Mo w h)) hown hK hP hx0 (gce_Mo hx0.1) rfl 13 (by decide) (hts _ (List.mem_cons_of_mem _ gw_820)) rfl d_Mo_cut_15 ?_
    refine lv_iload_n hx hb d_Mo_cut_18 rfl (lv_at hl 1 rfl) ?_
    obtain ⟨hin, hw⟩ := hw
    refine g_iaload hx hb hK hP (gis_Mo_counts hY hx0) hin d_Mo_cut_19 ?_
    refine lv_icmp_ge (tgt := 54) hx hb d_Mo_cut_20 (by decide) (fun c2 => ?_) (fun c2 => ?_)
    · replace hw := hw.1 c2
      exact mw_Mo_cut_54 C0 x0 x1 x2 x4 S H locs ls hx0 hw hP hS (lv_sub hl [0, 1, 2, 4] rfl)
    · replace hw := hw.2 c2
      refine lv_iload_n hx hb d_Mo_cut_23 rfl (lv_at hl 3 rfl) ?_
      refine lv_iload_n hx hb d_Mo_cut_24 rfl (lv_at hl 2 rfl) ?_
      refine lv_icmp_ge (tgt := 54) hx hb d_Mo_cut_25 (by decide) (fun c12 => ?_) (fun c12 => ?_)
      · replace hw := hw.1 c12
        exact mw_Mo_cut_54 C0 x0 x1 x2 x4 S H locs ls hx0 hw hP hS (lv_sub hl [0, 1, 2, 4] rfl)
      · replace hw := hw.2 c12
        refine lv_iload_n hx hb d_Mo_cut_28 rfl (lv_at hl 3 rfl) ?_
        refine lv_aload_n hx hb d_Mo_cut_29 rfl (lv_at hl 0 rfl) ?_
        refine lv_aload_n hx hb d_Mo_cut_30 rfl (lv_at hl 0 rfl) ?_
        refine g_get hx hb hts (fun w h => List.mem_cons_of_mem _ (in_Mo w h)) hown hK hP hx0 (gce_Mo hx0.1) rfl 12 (by decide) (hts _ (List.mem_cons_of_mem _ gw_819)) rfl d_Mo_cut_31 ?_
        refine lv_sipush (v := 330) hx hb d_Mo_cut_34 (by decide) ?_
        refine lv_iload_n hx hb d_Mo_cut_37 rfl (lv_at hl 1 rfl) ?_
        refine lv_imul hx hb d_Mo_cut_38 ?_
        refine lv_iload hx hb d_Mo_cut_39 (lv_at hl 4 rfl) ?_
        refine lv_iadd hx hb d_Mo_cut_41 ?_
        obtain ⟨hin, hw⟩ := hw
        refine g_iaload hx hb hK hP (gis_Mo_rows hY hx0) hin d_Mo_cut_42 ?_
        refine g_calli (va_runV (As := [.int (S.1 (grf x0 12) ((330 * x1) + x4).toNatClampNeg)]) (rest := [.int x3]) ⟨hx, hb, hml, hown, hts⟩ (k_Mo_space l Y hY H.size x0 (S.1 (grf x0 12) ((330 * x1) + x4).toNatClampNeg) hx0 S _) (cwV 1 hts (gG_V gw_953 gw_955 gs_25 gw_12 gw_956) rfl rfl rfl (by decide +kernel) ⟨Nat.le_of_ble_eq_true rfl, Nat.le_of_ble_eq_true rfl⟩) ⟨gPre_blind, g_recv hK hP hx0 (gce_Mo hx0.1) rfl, g_pre hK hSt hS hP hw⟩ rfl rfl hl.1 rfl (lv_room (Nat.le_of_ble_eq_true rfl)) d_Mo_cut_43 ⟨Nat.zero_le _, Nat.zero_le _⟩) hS (fun r14 S13 H locs hw hP hS => ?_)
        refine lv_iadd hx hb d_Mo_cut_46 ?_
        refine lv_topi (fun v3_15 ev3_15 => ?_)
        replace hw := hw v3_15 ev3_15
        refine lv_istore_n (lv' := [(3, .int v3_15), (0, .ref (gad Y x0)), (1, .int x1), (2, .int x2), (4, .int x4)]) hx hb d_Mo_cut_47 rfl hl (by decide) rfl (fun ls hl => ?_)
        obtain ⟨v4_16, ev4_16⟩ : ∃ y : Int32, y = x4 + 1 := ⟨_, rfl⟩
        replace hw := hw v4_16 ev4_16
        refine lv_iinc (v := v4_16) (lv' := [(4, .int v4_16), (3, .int v3_15), (0, .ref (gad Y x0)), (1, .int x1), (2, .int x2)]) hx hb d_Mo_cut_48 hl (k := 4) rfl (by rw [ev4_16]; rfl) (by decide) rfl (fun ls hl => ?_)
        refine lv_goto (tgt := 12) hx hb d_Mo_cut_51 (by decide) ?_
        exact ih x0 x1 x2 v3_15 v4_16 S13 H locs ls hx0 hw hP hS (lv_sub hl [2, 3, 4, 1, 0] rfl)
set_option maxHeartbeats 4000000 in
set_option maxRecDepth 100000 in
theorem mw_Mo_cut {p : Program} {l : Launch} {e : Env} {s : State} {m : MethodId} {args : Array Value} {below : List Frame} {meth : Method} {c : Code} {Y : gY} {Q : gS → Prop} (C : gCx p s m args meth c Y "LogDiskModel" c_Mo_cut 5 (Option.none : Option Jvm.ClassFile.FieldType) w_Mo_cut) : ∀ (x0 : gI) (x1 : Int32) (x2 : Int32)  (S : gS) (H : Heap) (locs : List Loc) (ls : Array Slot), gis Y 10 x0 → wp_Mo_cut (gLn Y) Q x0 x1 x2 S → gWd Y S H → va_S (gA Y s.heap.size) s.heap H locs → lv_has ls 5 [(0, .ref (gad Y x0)), (1, .int x1), (2, .int x2)] → W p l e (gRm 2 42) s m args below meth c H locs 0 0 (MQ below (va_Qv Q (gB Y) (gA Y s.heap.size)) args s 0 0 (gA Y s.heap.size)) (F0 m 0 ls []) := by
  have C0 := C
  obtain ⟨hx, hb, hml, hown, hts, hr, hlocks, hK, hY, hSt⟩ := C
  intro x0 x1 x2 S H locs ls hx0 hw hP hS hl
  unfold wp_Mo_cut at hw
  refine lv_aload_n hx hb d_Mo_cut_0 rfl (lv_at hl 0 rfl) ?_
  refine g_get hx hb hts (fun w h => List.mem_cons_of_mem _ (in_Mo w h)) hown hK hP hx0 (gce_Mo hx0.1) rfl 14 (by decide) (hts _ (List.mem_cons_of_mem _ gw_821)) rfl d_Mo_cut_1 ?_
  refine lv_iload_n hx hb d_Mo_cut_4 rfl (lv_at hl 1 rfl) ?_
  refine lv_iload_n hx hb d_Mo_cut_5 rfl (lv_at hl 2 rfl) ?_
  obtain ⟨hin, hw⟩ := hw
  refine g_iastore hx hb hK hY.1 hP hS (gis_Mo_sizes hY hx0) hin d_Mo_cut_6 (fun S1 eS1 H locs hP hS => ?_)
  replace hw := hw S1 eS1
  refine lv_iconst (v := 0) hx hb d_Mo_cut_7 (by decide) ?_
  refine lv_istore_n (lv' := [(3, .int 0), (0, .ref (gad Y x0)), (1, .int x1), (2, .int x2)]) hx hb d_Mo_cut_8 rfl hl (by decide) rfl (fun ls hl => ?_)
  refine lv_iconst (v := 0) hx hb d_Mo_cut_9 (by decide) ?_
  refine lv_istore (lv' := [(4, .int 0), (3, .int 0), (0, .ref (gad Y x0)), (1, .int x1), (2, .int x2)]) hx hb d_Mo_cut_10 hl (by decide) rfl (fun ls hl => ?_)
  obtain ⟨n, hw⟩ := hw
  exact mw_Mo_cut_12 C0 n x0 x1 x2 0 0 S1 H locs ls hx0 hw hP hS (lv_sub hl [2, 3, 4, 1, 0] rfl)
set_option maxHeartbeats 4000000 in
set_option maxRecDepth 100000 in
theorem k_Mo_cut (l : Launch) (Y : gY) (hY : gOK Y) (sz : Nat) (x0 : gI) (x1 : Int32) (x2 : Int32)  (hx0 : gis Y 10 x0) (S : gS) (Q : gS → Prop) : Met l y_Mo_cut w_Mo_cut (gRm 2 42) (gPre Y [.ref (gad Y x0), .int x1, .int x2] S sz (wp_Mo_cut (gLn Y) Q x0 x1 x2 S)) (va_Qv Q (gB Y) (gA Y sz)) 0 0 (gA Y sz) := by
  refine Met.ofW (cc := c_Mo_cut) (maxL := 5) (ret := (Option.none : Option Jvm.ClassFile.FieldType)) (by decide) rfl ?_
  intro p e s m args below meth c s₁ B hml hv
  obtain ⟨rfl, hsz, hP, hK, hSt, hw⟩ := hv
  subst hsz
  have hts := atoms_spec (ws := w_Mo_cut) B.pre
  have hl := lv_entry ([.ref (gad Y x0), .int x1, .int x2]) (n := 5) (Nat.le_of_ble_eq_true rfl)
  rw [lg_entry_eq]
  generalize (lg_sl ([.ref (gad Y x0), .int x1, .int x2]) ++ List.replicate (5 - (lg_sl ([.ref (gad Y x0), .int x1, .int x2])).length) Slot.unset).toArray = ls at hl ⊢
  exact mw_Mo_cut ⟨B.exec, B.bytes, hml, findClass_of_methodNamed B.named, hts, B.returns, B.notSynchronized, hK, hY, hSt⟩ x0 x1 x2 S s.heap [] ls hx0 hw hP va_S.rf hl
