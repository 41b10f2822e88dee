def wp_Pages_used (Ln : gI → Nat) (Q : Int32 → gS → Prop) (x0 : gI)  (S : gS) : Prop :=
  Q ((Int32.ofNat (Ln (grf x0 2))) - (S.1 x0 3)) S
set_option maxHeartbeats 4000000 in
set_option maxRecDepth 100000 in
theorem mw_Pages_used {p : Program} {l : Launch} {e : Env} {s : State} {m : MethodId} {args : Array Value} {below : List Frame} {meth : Method} {c : Code} {Y : gY} {Q : Int32 → gS → Prop} (C : gCx p s m args meth c Y "LogDisk$Pages" c_Pages_used 1 (Option.some Jvm.ClassFile.FieldType.int) w_Pages_used) : ∀ (x0 : gI)  (S : gS) (H : Heap) (locs : List Loc) (ls : Array Slot), gis Y 4 x0 → wp_Pages_used (gLn Y) Q x0 S → gWd Y S H → va_S (gA Y s.heap.size) s.heap H locs → lv_has ls 1 [(0, .ref (gad Y x0))] → W p l e (gRm 0 0) s m args below meth c H locs 0 0 (MQ below (va_Qi Q (gB Y) (gA Y s.heap.size)) args s 0 0 (gA Y s.heap.size)) (F0 m 0 ls []) := by
  have C0 := C
  obtain ⟨hx, hb, hml, hown, hts, hr, hlocks, hK, hY, hSt⟩ := C
  intro x0 S H locs ls hx0 hw hP hS hl
  unfold wp_Pages_used at hw
  refine lv_aload_n hx hb d_Pages_used_0 rfl (lv_at hl 0 rfl) ?_
  refine g_get hx hb hts (fun w h => List.mem_cons_of_mem _ (in_Pages w h)) hown hK hP hx0 (gce_Pages hx0.1) rfl 2 (by decide) (hts _ (List.mem_cons_of_mem _ gw_175)) rfl d_Pages_used_1 ?_
  refine g_alenI hx hb hK hP (gis_Pages_unused hY hx0) d_Pages_used_4 ?_
  refine lv_aload_n hx hb d_Pages_used_5 rfl (lv_at hl 0 rfl) ?_
  refine g_get hx hb hts (fun w h => List.mem_cons_of_mem _ (in_Pages w h)) hown hK hP hx0 (gce_Pages hx0.1) rfl 3 (by decide) (hts _ (List.mem_cons_of_mem _ gw_176)) rfl d_Pages_used_6 ?_
  refine lv_isub hx hb d_Pages_used_9 ?_
  exact W.iret (v := ((Int32.ofNat ((gLn Y) (grf x0 2))) - (S.1 x0 3))) hx hb hr (fun t ht hW => ⟨⟨((Int32.ofNat ((gLn Y) (grf x0 2))) - (S.1 x0 3)), S, rfl, hw, by rw [ht]; exact hP, va_K.moved hW.alike hK⟩, hS.F ht⟩) hS.2.2 d_Pages_used_10
set_option maxHeartbeats 4000000 in
set_option maxRecDepth 100000 in
theorem k_Pages_used (l : Launch) (Y : gY) (hY : gOK Y) (sz : Nat) (x0 : gI)  (hx0 : gis Y 4 x0) (S : gS) (Q : Int32 → gS → Prop) : Met l y_Pages_used w_Pages_used (gRm 0 0) (gPre Y [.ref (gad Y x0)] S sz (wp_Pages_used (gLn Y) Q x0 S)) (va_Qi Q (gB Y) (gA Y sz)) 0 0 (gA Y sz) := by
  refine Met.ofW (cc := c_Pages_used) (maxL := 1) (ret := (Option.some Jvm.ClassFile.FieldType.int)) (by decide) rfl ?_
  intro p e s m args below meth c s₁ B hml hv
  obtain ⟨rfl, hsz, hP, hK, hSt, hw⟩ := hv
  subst hsz
  have hts := atoms_spec (ws := w_Pages_used) B.pre
  have hl := lv_entry ([.ref (gad Y x0)]) (n := 1) (Nat.le_of_ble_eq_true rfl)
  rw [lg_entry_eq]
  generalize (lg_sl ([.ref (gad Y x0)]) ++ List.replicate (1 - (lg_sl ([.ref (gad Y x0)])).length) Slot.unset).toArray = ls at hl ⊢
  exact mw_Pages_used ⟨B.exec, B.bytes, hml, findClass_of_methodNamed B.named, hts, B.returns, B.notSynchronized, hK, hY, hSt⟩ x0 S s.heap [] ls hx0 hw hP va_S.rf hl

def wp_Pages_seize_17 (Ln : gI → Nat) (Q : Int32 → gS → Prop) (x0 : gI)  (S : gS) : Prop :=
  vp_in (S.1 x0 3) (Ln (grf x0 2)) ∧ (∀ v1_2 : Int32, v1_2 = S.1 (grf x0 2) (S.1 x0 3).toNatClampNeg → (vp_in v1_2 (Ln (grf x0 1)) ∧ (∀ S3 : gS, S3 = gset S (grf x0 1) v1_2.toNatClampNeg 1 → (Q v1_2 S3))))
def wp_Pages_seize (Ln : gI → Nat) (Q : Int32 → gS → Prop) (x0 : gI)  (S : gS) : Prop :=
  (((S.1 x0 3) ≤ 0) → (wp_Pages_seize_17 Ln Q x0 S)) ∧ ((¬ (S.1 x0 3) ≤ 0) → (∀ S4 : gS, S4 = gset S x0 3 ((S.1 x0 3) - 1) → (wp_Pages_seize_17 Ln Q x0 S4)))
set_option maxHeartbeats 4000000 in
set_option maxRecDepth 100000 in
theorem mw_Pages_seize_17 {p : Program} {l : Launch} {e : Env} {s : State} {m : MethodId} {args : Array Value} {below : List Frame} {meth : Method} {c : Code} {Y : gY} {Q : Int32 → gS → Prop} (C : gCx p s m args meth c Y "LogDisk$Pages" c_Pages_seize 2 (Option.some Jvm.ClassFile.FieldType.int) w_Pages_seize) : ∀ (x0 : gI)  (S : gS) (H : Heap) (locs : List Loc) (ls : Array Slot), gis Y 4 x0 → wp_Pages_seize_17 (gLn Y) Q x0 S → gWd Y S H → va_S (gA Y s.heap.size) s.heap H locs → lv_has ls 2 [(0, .ref (gad Y x0))] → W p l e (gRm 0 0) s m args below meth c H locs 0 0 (MQ below (va_Qi Q (gB Y) (gA Y s.heap.size)) args s 0 0 (gA Y s.heap.size)) (F0 m 17 ls []) := by
  have C0 := C
  obtain ⟨hx, hb, hml, hown, hts, hr, hlocks, hK, hY, hSt⟩ := C
  intro x0 S H locs ls hx0 hw hP hS hl
  unfold wp_Pages_seize_17 at hw
  refine lv_aload_n hx hb d_Pages_seize_17 rfl (lv_at hl 0 rfl) ?_
  refine g_get hx hb hts (fun w h => List.mem_cons_of_mem _ (in_Pages w h)) hown hK hP hx0 (gce_Pages hx0.1) rfl 2 (by decide) (hts _ (List.mem_cons_of_mem _ gw_175)) rfl d_Pages_seize_18 ?_
  refine lv_aload_n hx hb d_Pages_seize_21 rfl (lv_at hl 0 rfl) ?_
  refine g_get hx hb hts (fun w h => List.mem_cons_of_mem _ (in_Pages w h)) hown hK hP hx0 (gce_Pages hx0.1) rfl 3 (by decide) (hts _ (List.mem_cons_of_mem _ gw_176)) rfl d_Pages_seize_22 ?_
  obtain ⟨hin, hw⟩ := hw
  refine g_iaload hx hb hK hP (gis_Pages_unused hY hx0) hin d_Pages_seize_25 ?_
  refine lv_topi (fun v1_2 ev1_2 => ?_)
  replace hw := hw v1_2 ev1_2
  refine lv_istore_n (lv' := [(1, .int v1_2), (0, .ref (gad Y x0))]) hx hb d_Pages_seize_26 rfl hl (by decide) rfl (fun ls hl => ?_)
  refine lv_aload_n hx hb d_Pages_seize_27 rfl (lv_at hl 1 rfl) ?_
  refine g_get hx hb hts (fun w h => List.mem_cons_of_mem _ (in_Pages w h)) hown hK hP hx0 (gce_Pages hx0.1) rfl 1 (by decide) (hts _ (List.mem_cons_of_mem _ gw_174)) rfl d_Pages_seize_28 ?_
  refine lv_iload_n hx hb d_Pages_seize_31 rfl (lv_at hl 0 rfl) ?_
  refine lv_iconst (v := 1) hx hb d_Pages_seize_32 (by decide) ?_
  obtain ⟨hin, hw⟩ := hw
  refine g_iastore hx hb hK hY.1 hP hS (gis_Pages_owners hY hx0) hin d_Pages_seize_33 (fun S3 eS3 H locs hP hS => ?_)
  replace hw := hw S3 eS3
  refine lv_iload_n hx hb d_Pages_seize_34 rfl (lv_at hl 0 rfl) ?_
  exact W.iret (v := v1_2) hx hb hr (fun t ht hW => ⟨⟨v1_2, S3, rfl, hw, by rw [ht]; exact hP, va_K.moved hW.alike hK⟩, hS.F ht⟩) hS.2.2 d_Pages_seize_35
set_option maxHeartbeats 4000000 in
set_option maxRecDepth 100000 in
theorem mw_Pages_seize {p : Program} {l : Launch} {e : Env} {s : State} {m : MethodId} {args : Array Value} {below : List Frame} {meth : Method} {c : Code} {Y : gY} {Q : Int32 → gS → Prop} (C : gCx p s m args meth c Y "LogDisk$Pages" c_Pages_seize 2 (Option.some Jvm.ClassFile.FieldType.int) w_Pages_seize) : ∀ (x0 : gI)  (S : gS) (H : Heap) (locs : List Loc) (ls : Array Slot), gis Y 4 x0 → wp_Pages_seize (gLn Y) Q x0 S → gWd Y S H → va_S (gA Y s.heap.size) s.heap H locs → lv_has ls 2 [(0, .ref (gad Y x0))] → W p l e (gRm 0 0) s m args below meth c H locs 0 0 (MQ below (va_Qi Q (gB Y) (gA Y s.heap.size)) args s 0 0 (gA Y s.heap.size)) (F0 m 0 ls []) := by
  have C0 := C
  obtain ⟨hx, hb, hml, hown, hts, hr, hlocks, hK, hY, hSt⟩ := C
  intro x0 S H locs ls hx0 hw hP hS hl
  unfold wp_Pages_seize at hw
  refine lv_aload_n hx hb d_Pages_seize_0 rfl (lv_at hl 0 rfl) ?_
  refine g_get hx hb hts (fun w h => List.mem_cons_of_mem _ (in_Pages w h)) hown hK hP hx0 (gce_Pages hx0.1) rfl 3 (by decide) (hts _ (List.mem_cons_of_mem _ gw_176)) rfl d_Pages_seize_1 ?_
  refine lv_if_le (tgt := 17) hx hb d_Pages_seize_4 (by decide) (fun c1 => ?_) (fun c1 => ?_)
  · replace hw := hw.1 c1
    exact mw_Pages_seize_17 C0 x0 S H locs ls hx0 hw hP hS (lv_sub hl [0] rfl)
  · replace hw := hw.2 c1
    refine lv_aload_n hx hb d_Pages_seize_7 rfl (lv_at hl 0 rfl) ?_
    refine lv_dup hx hb d_Pages_seize_8 rfl ?_
    refine g_get hx hb hts (fun w h => List.mem_cons_of_mem _ (in_Pages w h)) hown hK hP hx0 (gce_Pages hx0.1) rfl 3 (by decide) (hts _ (List.mem_cons_of_mem _ gw_176)) rfl d_Pages_seize_9 ?_
    refine lv_iconst (v := 1) hx hb d_Pages_seize_12 (by decide) ?_
    refine lv_isub hx hb d_Pages_seize_13 ?_
    refine g_put (ty := .int) (v := .int ((S.1 x0 3) - 1)) (S' := gset S x0 3 ((S.1 x0 3) - 1)) hx hb hts (fun w h => List.mem_cons_of_mem _ (in_Pages w h)) ty_Pages tyok_Pages nm_Pages hown hK hY.1 hP hS hx0 (gce_Pages hx0.1) rfl 3 (by decide) (hts _ (List.mem_cons_of_mem _ gw_176)) rfl (by decide +kernel) rfl rfl (Nat.le_of_ble_eq_true rfl) (gp_Pages_unusedCount hx0.1) gce_gset d_Pages_seize_14 (fun H locs hP hS => ?_)
    obtain ⟨S4, eS4⟩ : ∃ z, z = gset S x0 3 ((S.1 x0 3) - 1) := ⟨_, rfl⟩
    rw [← eS4] at hP
    replace hw := hw S4 eS4
    exact mw_Pages_seize_17 C0 x0 S4 H locs ls hx0 hw hP hS (lv_sub hl [0] rfl)
set_option maxHeartbeats 4000000 in
set_option maxRecDepth 100000 in
theorem k_Pages_seize (l : Launch) (Y : gY) (hY : gOK Y) (sz : Nat) (x0 : gI)  (hx0 : gis Y 4 x0) (S : gS) (Q : Int32 → gS → Prop) : Met l y_Pages_seize w_Pages_seize (gRm 0 0) (gPre Y [.ref (gad Y x0)] S sz (wp_Pages_seize (gLn Y) Q x0 S)) (va_Qi Q (gB Y) (gA Y sz)) 0 0 (gA Y sz) := by
  refine Met.ofW (cc := c_Pages_seize) (maxL := 2) (ret := (Option.some Jvm.ClassFile.FieldType.int)) (by decide) rfl ?_
  intro p e s m args below meth c s₁ B hml hv
  obtain ⟨rfl, hsz, hP, hK, hSt, hw⟩ := hv
  subst hsz
  have hts := atoms_spec (ws := w_Pages_seize) B.pre
  have hl := lv_entry ([.ref (gad Y x0)]) (n := 2) (Nat.le_of_ble_eq_true rfl)
  rw [lg_entry_eq]
  generalize (lg_sl ([.ref (gad Y x0)]) ++ List.replicate (2 - (lg_sl ([.ref (gad Y x0)])).length) Slot.unset).toArray = ls at hl ⊢
  exact mw_Pages_seize ⟨B.exec, B.bytes, hml, findClass_of_methodNamed B.named, hts, B.returns, B.notSynchronized, hK, hY, hSt⟩ x0 S s.heap [] ls hx0 hw hP va_S.rf hl

def wp_Pages_share (Ln : gI → Nat) (Q : gS → Prop) (x0 : gI) (x1 : Int32)  (S : gS) : Prop :=
  vp_in x1 (Ln (grf x0 1)) ∧ (vp_in x1 (Ln (grf x0 1)) ∧ (∀ S1 : gS, S1 = gset S (grf x0 1) x1.toNatClampNeg ((S.1 (grf x0 1) x1.toNatClampNeg) + 1) → (Q S1)))
set_option maxHeartbeats 4000000 in
set_option maxRecDepth 100000 in
theorem mw_Pages_share {p : Program} {l : Launch} {e : Env} {s : State} {m : MethodId} {args : Array Value} {below : List Frame} {meth : Method} {c : Code} {Y : gY} {Q : gS → Prop} (C : gCx p s m args meth c Y "LogDisk$Pages" c_Pages_share 2 (Option.none : Option Jvm.ClassFile.FieldType) w_Pages_share) : ∀ (x0 : gI) (x1 : Int32)  (S : gS) (H : Heap) (locs : List Loc) (ls : Array Slot), gis Y 4 x0 → wp_Pages_share (gLn Y) Q x0 x1 S → gWd Y S H → va_S (gA Y s.heap.size) s.heap H locs → lv_has ls 2 [(0, .ref (gad Y x0)), (1, .int x1)] → W p l e (gRm 0 0) s m args below meth c H locs 0 0 (MQ below (va_Qv Q (gB Y) (gA Y s.heap.size)) args s 0 0 (gA Y s.heap.size)) (F0 m 0 ls []) := by
  have C0 := C
  obtain ⟨hx, hb, hml, hown, hts, hr, hlocks, hK, hY, hSt⟩ := C
  intro x0 x1 S H locs ls hx0 hw hP hS hl
  unfold wp_Pages_share at hw
  refine lv_aload_n hx hb d_Pages_share_0 rfl (lv_at hl 0 rfl) ?_
  refine g_get hx hb hts (fun w h => List.mem_cons_of_mem _ (in_Pages w h)) hown hK hP hx0 (gce_Pages hx0.1) rfl 1 (by decide) (hts _ (List.mem_cons_of_mem _ gw_174)) rfl d_Pages_share_1 ?_
  refine lv_iload_n hx hb d_Pages_share_4 rfl (lv_at hl 1 rfl) ?_
  refine lv_dup2_11 hx hb d_Pages_share_5 rfl rfl ?_
  obtain ⟨hin, hw⟩ := hw
  refine g_iaload hx hb hK hP (gis_Pages_owners hY hx0) hin d_Pages_share_6 ?_
  refine lv_iconst (v := 1) hx hb d_Pages_share_7 (by decide) ?_
  refine lv_iadd hx hb d_Pages_share_8 ?_
  obtain ⟨hin, hw⟩ := hw
  refine g_iastore hx hb hK hY.1 hP hS (gis_Pages_owners hY hx0) hin d_Pages_share_9 (fun S1 eS1 H locs hP hS => ?_)
  replace hw := hw S1 eS1
  exact W.vret hx hb hr (fun t ht hW => ⟨⟨S1, rfl, hw, by rw [ht]; exact hP, va_K.moved hW.alike hK⟩, hS.F ht⟩) hS.2.2 d_Pages_share_10
set_option maxHeartbeats 4000000 in
set_option maxRecDepth 100000 in
theorem k_Pages_share (l : Launch) (Y : gY) (hY : gOK Y) (sz : Nat) (x0 : gI) (x1 : Int32)  (hx0 : gis Y 4 x0) (S : gS) (Q : gS → Prop) : Met l y_Pages_share w_Pages_share (gRm 0 0) (gPre Y [.ref (gad Y x0), .int x1] S sz (wp_Pages_share (gLn Y) Q x0 x1 S)) (va_Qv Q (gB Y) (gA Y sz)) 0 0 (gA Y sz) := by
  refine Met.ofW (cc := c_Pages_share) (maxL := 2) (ret := (Option.none : Option Jvm.ClassFile.FieldType)) (by decide) rfl ?_
  intro p e s m args below meth c s₁ B hml hv
  obtain ⟨rfl, hsz, hP, hK, hSt, hw⟩ := hv
  subst hsz
  have hts := atoms_spec (ws := w_Pages_share) B.pre
  have hl := lv_entry ([.ref (gad Y x0), .int x1]) (n := 2) (Nat.le_of_ble_eq_true rfl)
  rw [lg_entry_eq]
  generalize (lg_sl ([.ref (gad Y x0), .int x1]) ++ List.replicate (2 - (lg_sl ([.ref (gad Y x0), .int x1])).length) Slot.unset).toArray = ls at hl ⊢
  exact mw_Pages_share ⟨B.exec, B.bytes, hml, findClass_of_methodNamed B.named, hts, B.returns, B.notSynchronized, hK, hY, hSt⟩ x0 x1 S s.heap [] ls hx0 hw hP va_S.rf hl

def wp_Pages_giveUp (Ln : gI → Nat) (Q : gS → Prop) (x0 : gI) (x1 : Int32)  (S : gS) : Prop :=
  vp_in x1 (Ln (grf x0 1)) ∧ (vp_in x1 (Ln (grf x0 1)) ∧ (∀ S1 : gS, S1 = gset S (grf x0 1) x1.toNatClampNeg ((S.1 (grf x0 1) x1.toNatClampNeg) - 1) → (vp_in x1 (Ln (grf x0 1)) ∧ (((¬ (S1.1 (grf x0 1) x1.toNatClampNeg) = 0) → (Q S1)) ∧ (((S1.1 (grf x0 1) x1.toNatClampNeg) = 0) → ((((Int32.ofNat (Ln (grf x0 2))) ≤ (S1.1 x0 3)) → (Q S1)) ∧ ((¬ (Int32.ofNat (Ln (grf x0 2))) ≤ (S1.1 x0 3)) → (vp_in (S1.1 x0 3) (Ln (grf x0 2)) ∧ (∀ S4 : gS, S4 = gset S1 (grf x0 2) (S1.1 x0 3).toNatClampNeg x1 → (∀ S5 : gS, S5 = gset S4 x0 3 ((S4.1 x0 3) + 1) → (Q S5)))))))))))
set_option maxHeartbeats 4000000 in
set_option maxRecDepth 100000 in
theorem mw_Pages_giveUp {p : Program} {l : Launch} {e : Env} {s : State} {m : MethodId} {args : Array Value} {below : List Frame} {meth : Method} {c : Code} {Y : gY} {Q : gS → Prop} (C : gCx p s m args meth c Y "LogDisk$Pages" c_Pages_giveUp 2 (Option.none : Option Jvm.ClassFile.FieldType) w_Pages_giveUp) : ∀ (x0 : gI) (x1 : Int32)  (S : gS) (H : Heap) (locs : List Loc) (ls : Array Slot), gis Y 4 x0 → wp_Pages_giveUp (gLn Y) Q x0 x1 S → gWd Y S H → va_S (gA Y s.heap.size) s.heap H locs → lv_has ls 2 [(0, .ref (gad Y x0)), (1, .int x1)] → W p l e (gRm 0 0) s m args below meth c H locs 0 0 (MQ below (va_Qv Q (gB Y) (gA Y s.heap.size)) args s 0 0 (gA Y s.heap.size)) (F0 m 0 ls []) := by
  have C0 := C
  obtain ⟨hx, hb, hml, hown, hts, hr, hlocks, hK, hY, hSt⟩ := C
  intro x0 x1 S H locs ls hx0 hw hP hS hl
  unfold wp_Pages_giveUp at hw
  refine lv_aload_n hx hb d_Pages_giveUp_0 rfl (lv_at hl 0 rfl) ?_
  refine g_get hx hb hts (fun w h => List.mem_cons_of_mem _ (in_Pages w h)) hown hK hP hx0 (gce_Pages hx0.1) rfl 1 (by decide) (hts _ (List.mem_cons_of_mem _ gw_174)) rfl d_Pages_giveUp_1 ?_
  refine lv_iload_n hx hb d_Pages_giveUp_4 rfl (lv_at hl 1 rfl) ?_
  refine lv_dup2_11 hx hb d_Pages_giveUp_5 rfl rfl ?_
  obtain ⟨hin, hw⟩ := hw
  refine g_iaload hx hb hK hP (gis_Pages_owners hY hx0) hin d_Pages_giveUp_6 ?_
  refine lv_iconst (v := 1) hx hb d_Pages_giveUp_7 (by decide) ?_
  refine lv_isub hx hb d_Pages_giveUp_8 ?_
  obtain ⟨hin, hw⟩ := hw
  refine g_iastore hx hb hK hY.1 hP hS (gis_Pages_owners hY hx0) hin d_Pages_giveUp_9 (fun S1 eS1 H locs hP hS => ?_)
  replace hw := hw S1 eS1
  refine lv_aload_n hx hb d_Pages_giveUp_10 rfl (lv_at hl 0 rfl) ?_
  refine g_get hx hb hts (fun w h => List.mem_cons_of_mem _ (in_Pages w h)) hown hK hP hx0 (gce_Pages hx0.1) rfl 1 (by decide) (hts _ (List.mem_cons_of_mem _ gw_174)) rfl d_Pages_giveUp_11 ?_
  refine lv_iload_n hx hb d_Pages_giveUp_14 rfl (lv_at hl 1 rfl) ?_
  obtain ⟨hin, hw⟩ := hw
  refine g_iaload hx hb hK hP (gis_Pages_owners hY hx0) hin d_Pages_giveUp_15 ?_
  refine lv_if_ne (tgt := 51) hx hb d_Pages_giveUp_16 (by decide) (fun c2 => ?_) (fun c2 => ?_)
  · replace hw := hw.1 c2
    exact W.vret hx hb hr (fun t ht hW => ⟨⟨S1, rfl, hw, by rw [ht]; exact hP, va_K.moved hW.alike hK⟩, hS.F ht⟩) hS.2.2 d_Pages_giveUp_51
  · replace hw := hw.2 c2
    refine lv_aload_n hx hb d_Pages_giveUp_19 rfl (lv_at hl 0 rfl) ?_
    refine g_get hx hb hts (fun w h => List.mem_cons_of_mem _ (in_Pages w h)) hown hK hP hx0 (gce_Pages hx0.1) rfl 3 (by decide) (hts _ (List.mem_cons_of_mem _ gw_176)) rfl d_Pages_giveUp_20 ?_
    refine lv_aload_n hx hb d_Pages_giveUp_23 rfl (lv_at hl 0 rfl) ?_
    refine g_get hx hb hts (fun w h => List.mem_cons_of_mem _ (in_Pages w h)) hown hK hP hx0 (gce_Pages hx0.1) rfl 2 (by decide) (hts _ (List.mem_cons_of_mem _ gw_175)) rfl d_Pages_giveUp_24 ?_
    refine g_alenI hx hb hK hP (gis_Pages_unused hY hx0) d_Pages_giveUp_27 ?_
    refine lv_icmp_ge (tgt := 51) hx hb d_Pages_giveUp_28 (by decide) (fun c3 => ?_) (fun c3 => ?_)
    · replace hw := hw.1 c3
      exact W.vret hx hb hr (fun t ht hW => ⟨⟨S1, rfl, hw, by rw [ht]; exact hP, va_K.moved hW.alike hK⟩, hS.F ht⟩) hS.2.2 d_Pages_giveUp_51
    · replace hw := hw.2 c3
      refine lv_aload_n hx hb d_Pages_giveUp_31 rfl (lv_at hl 0 rfl) ?_
      refine g_get hx hb hts (fun w h => List.mem_cons_of_mem _ (in_Pages w h)) hown hK hP hx0 (gce_Pages hx0.1) rfl 2 (by decide) (hts _ (List.mem_cons_of_mem _ gw_175)) rfl d_Pages_giveUp_32 ?_
      refine lv_aload_n hx hb d_Pages_giveUp_35 rfl (lv_at hl 0 rfl) ?_
      refine g_get hx hb hts (fun w h => List.mem_cons_of_mem _ (in_Pages w h)) hown hK hP hx0 (gce_Pages hx0.1) rfl 3 (by decide) (hts _ (List.mem_cons_of_mem _ gw_176)) rfl d_Pages_giveUp_36 ?_
      refine lv_iload_n hx hb d_Pages_giveUp_39 rfl (lv_at hl 1 rfl) ?_
      obtain ⟨hin, hw⟩ := hw
      refine g_iastore hx hb hK hY.1 hP hS (gis_Pages_unused hY hx0) hin d_Pages_giveUp_40 (fun S4 eS4 H locs hP hS => ?_)
      replace hw := hw S4 eS4
      refine lv_aload_n hx hb d_Pages_giveUp_41 rfl (lv_at hl 0 rfl) ?_
      refine lv_dup hx hb d_Pages_giveUp_42 rfl ?_
      refine g_get hx hb hts (fun w h => List.mem_cons_of_mem _ (in_Pages w h)) hown hK hP hx0 (gce_Pages hx0.1) rfl 3 (by decide) (hts _ (List.mem_cons_of_mem _ gw_176)) rfl d_Pages_giveUp_43 ?_
      refine lv_iconst (v := 1) hx hb d_Pages_giveUp_46 (by decide) ?_
      refine lv_iadd hx hb d_Pages_giveUp_47 ?_
      refine g_put (ty := .int) (v := .int ((S4.1 x0 3) + 1)) (S' := gset S4 x0 3 ((S4.1 x0 3) + 1)) hx hb hts (fun w h => List.mem_cons_of_mem _ (in_Pages w h)) ty_Pages tyok_Pages nm_Pages hown hK hY.1 hP hS hx0 (gce_Pages hx0.1) rfl 3 (by decide) (hts _ (List.mem_cons_of_mem _ gw_176)) rfl (by decide +kernel) rfl rfl (Nat.le_of_ble_eq_true rfl) (gp_Pages_unusedCount hx0.1) gce_gset d_Pages_giveUp_48 (fun H locs hP hS => ?_)
      obtain ⟨S5, eS5⟩ : ∃ z, z = gset S4 x0 3 ((S4.1 x0 3) + 1) := ⟨_, rfl⟩
      rw [← eS5] at hP
      replace hw := hw S5 eS5
      exact W.vret hx hb hr (fun t ht hW => ⟨⟨S5, rfl, hw, by rw [ht]; exact hP, va_K.moved hW.alike hK⟩, hS.F ht⟩) hS.2.2 d_Pages_giveUp_51
set_option maxHeartbeats 4000000 in
set_option maxRecDepth 100000 in
theorem k_Pages_giveUp (l : Launch) (Y : gY) (hY : gOK Y) (sz : Nat) (x0 : gI) (x1 : Int32)  (hx0 : gis Y 4 x0) (S : gS) (Q : gS → Prop) : Met l y_Pages_giveUp w_Pages_giveUp (gRm 0 0) (gPre Y [.ref (gad Y x0), .int x1] S sz (wp_Pages_giveUp (gLn Y) Q x0 x1 S)) (va_Qv Q (gB Y) (gA Y sz)) 0 0 (gA Y sz) := by
  refine Met.ofW (cc := c_Pages_giveUp) (maxL := 2) (ret := (Option.none : Option Jvm.ClassFile.FieldType)) (by decide) rfl ?_
  intro p e s m args below meth c s₁ B hml hv
  obtain ⟨rfl, hsz, hP, hK, hSt, hw⟩ := hv
  subst hsz
  have hts := atoms_spec (ws := w_Pages_giveUp) B.pre
  have hl := lv_entry ([.ref (gad Y x0), .int x1]) (n := 2) (Nat.le_of_ble_eq_true rfl)
  rw [lg_entry_eq]
  generalize (lg_sl ([.ref (gad Y x0), .int x1]) ++ List.replicate (2 - (lg_sl ([.ref (gad Y x0), .int x1])).length) Slot.unset).toArray = ls at hl ⊢
  exact mw_Pages_giveUp ⟨B.exec, B.bytes, hml, findClass_of_methodNamed B.named, hts, B.returns, B.notSynchronized, hK, hY, hSt⟩ x0 x1 S s.heap [] ls hx0 hw hP va_S.rf hl

def wp_LogDisk_pagesFor (Ln : gI → Nat) (Q : Int32 → gS → Prop) (x0 : Int32)  (S : gS) : Prop :=
  Q (((x0 + 64) - 1) / 64) S
set_option maxHeartbeats 4000000 in
set_option maxRecDepth 100000 in
theorem mw_LogDisk_pagesFor {p : Program} {l : Launch} {e : Env} {s : State} {m : MethodId} {args : Array Value} {below : List Frame} {meth : Method} {c : Code} {Y : gY} {Q : Int32 → gS → Prop} (C : gCx p s m args meth c Y "LogDisk" c_LogDisk_pagesFor 1 (Option.some Jvm.ClassFile.FieldType.int) w_LogDisk_pagesFor) : ∀ (x0 : Int32)  (S : gS) (H : Heap) (locs : List Loc) (ls : Array Slot), wp_LogDisk_pagesFor (gLn Y) Q x0 S → gWd Y S H → va_S (gA Y s.heap.size) s.heap H locs → lv_has ls 1 [(0, .int x0)] → W p l e (gRm 0 0) s m args below meth c H locs 0 0 (MQ below (va_Qi Q (gB Y) (gA Y s.heap.size)) args s 0 0 (gA Y s.heap.size)) (F0 m 0 ls []) := by
  have C0 := C
  obtain ⟨hx, hb, hml, hown, hts, hr, hlocks, hK, hY, hSt⟩ := C
  intro x0 S H locs ls hw hP hS hl
  unfold wp_LogDisk_pagesFor at hw
  refine lv_iload_n hx hb d_LogDisk_pagesFor_0 rfl (lv_at hl 0 rfl) ?_
  refine lv_bipush (v := 64) hx hb d_LogDisk_pagesFor_1 (by decide) ?_
  refine lv_iadd hx hb d_LogDisk_pagesFor_3 ?_
  refine lv_iconst (v := 1) hx hb d_LogDisk_pagesFor_4 (by decide) ?_
  refine lv_isub hx hb d_LogDisk_pagesFor_5 ?_
  refine lv_bipush (v := 64) hx hb d_LogDisk_pagesFor_6 (by decide) ?_
  refine lv_idiv hx hb d_LogDisk_pagesFor_8 (by decide) ?_
  exact W.iret (v := (((x0 + 64) - 1) / 64)) hx hb hr (fun t ht hW => ⟨⟨(((x0 + 64) - 1) / 64), S, rfl, hw, by rw [ht]; exact hP, va_K.moved hW.alike hK⟩, hS.F ht⟩) hS.2.2 d_LogDisk_pagesFor_9
set_option maxHeartbeats 4000000 in
set_option maxRecDepth 100000 in
theorem k_LogDisk_pagesFor (l : Launch) (Y : gY) (hY : gOK Y) (sz : Nat) (x0 : Int32)  (S : gS) (Q : Int32 → gS → Prop) : Met l y_LogDisk_pagesFor w_LogDisk_pagesFor (gRm 0 0) (gPre Y [.int x0] S sz (wp_LogDisk_pagesFor (gLn Y) Q x0 S)) (va_Qi Q (gB Y) (gA Y sz)) 0 0 (gA Y sz) := by
  refine Met.ofW (cc := c_LogDisk_pagesFor) (maxL := 1) (ret := (Option.some Jvm.ClassFile.FieldType.int)) (by decide) rfl ?_
  intro p e s m args below meth c s₁ B hml hv
  obtain ⟨rfl, hsz, hP, hK, hSt, hw⟩ := hv
  subst hsz
  have hts := atoms_spec (ws := w_LogDisk_pagesFor) B.pre
  have hl := lv_entry ([.int x0]) (n := 1) (Nat.le_of_ble_eq_true rfl)
  rw [lg_entry_eq]
  generalize (lg_sl ([.int x0]) ++ List.replicate (1 - (lg_sl ([.int x0])).length) Slot.unset).toArray = ls at hl ⊢
  exact mw_LogDisk_pagesFor ⟨B.exec, B.bytes, hml, findClass_of_methodNamed B.named, hts, B.returns, B.notSynchronized, hK, hY, hSt⟩ x0 S s.heap [] ls hw hP va_S.rf hl

def wp_Content_shorten_47 (Ln : gI → Nat) (Q : gS → Prop) (x0 : gI) (x1 : Int32)  (S : gS) : Prop :=
  ∀ S6 : gS, S6 = gset S x0 2 x1 → (Q S6)
def wp_Content_shorten_14 (Ln : gI → Nat) (Q : gS → Prop) : Nat → gI → Int32 → gI → Int32 → Int32 → gS → Prop
  | 0, _, _, _, _, _, _ => False
  | n14 + 1, x0, x1, x2, x3, x4, S => ((x3 ≤ x4) → (wp_Content_shorten_47 Ln Q x0 x1 S)) ∧ ((¬ x3 ≤ x4) → ((((Int32.ofNat (Ln (grf x0 0))) ≤ x4) → (wp_Content_shorten_47 Ln Q x0 x1 S)) ∧ ((¬ (Int32.ofNat (Ln (grf x0 0))) ≤ x4) → (vp_in x4 (Ln (grf x0 0)) ∧ (wp_Pages_giveUp Ln (fun S8 => ∀ v4_9 : Int32, v4_9 = x4 + 1 → (wp_Content_shorten_14 Ln Q n14 x0 x1 x2 x3 v4_9 S8)) x2 (S.1 (grf x0 0) x4.toNatClampNeg) S)))))
def wp_Content_shorten (Ln : gI → Nat) (Q : gS → Prop) (x0 : gI) (x1 : Int32) (x2 : gI)  (S : gS) : Prop :=
  wp_LogDisk_pagesFor Ln (fun r2 S1 => wp_LogDisk_pagesFor Ln (fun r4 S3 => ∃ n14 : Nat, wp_Content_shorten_14 Ln Q n14 x0 x1 x2 r2 r4 S3) x1 S1) (S.1 x0 2) S
set_option maxHeartbeats 4000000 in
set_option maxRecDepth 100000 in
theorem mw_Content_shorten_47 {p : Program} {l : Launch} {e : Env} {s : State} {m : MethodId} {args : Array Value} {below : List Frame} {meth : Method} {c : Code} {Y : gY} {Q : gS → Prop} (C : gCx p s m args meth c Y "LogDisk$Content" c_Content_shorten 5 (Option.none : Option Jvm.ClassFile.FieldType) w_Content_shorten) : ∀ (x0 : gI) (x1 : Int32)  (S : gS) (H : Heap) (locs : List Loc) (ls : Array Slot), gis Y 0 x0 → wp_Content_shorten_47 (gLn Y) Q x0 x1 S → gWd Y S H → va_S (gA Y s.heap.size) s.heap H locs → lv_has ls 5 [(0, .ref (gad Y x0)), (1, .int x1)] → W p l e (gRm 1 21) s m args below meth c H locs 0 0 (MQ below (va_Qv Q (gB Y) (gA Y s.heap.size)) args s 0 0 (gA Y s.heap.size)) (F0 m 47 ls []) := by
  have C0 := C
  obtain ⟨hx, hb, hml, hown, hts, hr, hlocks, hK, hY, hSt⟩ := C
  intro x0 x1 S H locs ls hx0 hw hP hS hl
  unfold wp_Content_shorten_47 at hw
  refine lv_aload_n hx hb d_Content_shorten_47 rfl (lv_at hl 0 rfl) ?_
  refine lv_iload_n hx hb d_Content_shorten_48 rfl (lv_at hl 1 rfl) ?_
  refine g_put (ty := .int) (v := .int x1) (S' := gset S x0 2 x1) hx hb hts (fun w h => List.mem_cons_of_mem _ (in_Content w h)) ty_Content tyok_Content nm_Content hown hK hY.1 hP hS hx0 (gce_Content hx0.1) rfl 2 (by decide) (hts _ (List.mem_cons_of_mem _ gw_203)) rfl (by decide +kernel) rfl rfl (Nat.le_of_ble_eq_true rfl) (gp_Content_size hx0.1) gce_gset d_Content_shorten_49 (fun H locs hP hS => ?_)
  obtain ⟨S6, eS6⟩ : ∃ z, z = gset S x0 2 x1 := ⟨_, rfl⟩
  rw [← eS6] at hP
  replace hw := hw S6 eS6
  exact W.vret hx hb hr (fun t ht hW => ⟨⟨S6, rfl, hw, by rw [ht]; exact hP, va_K.moved hW.alike hK⟩, hS.F ht⟩) hS.2.2 d_Content_shorten_52
set_option maxHeartbeats 4000000 in
set_option maxRecDepth 100000 in
theorem mw_Content_shorten_14 {p : Program} {l : Launch} {e : Env} {s : State} {m : MethodId} {args : Array Value} {below : List Frame} {meth : Method} {c : Code} {Y : gY} {Q : gS → Prop} (C : gCx p s m args meth c Y "LogDisk$Content" c_Content_shorten 5 (Option.none : Option Jvm.ClassFile.FieldType) w_Content_shorten) : ∀ (n : Nat), ∀ (x0 : gI) (x1 : Int32) (x2 : gI) (x3 : Int32) (x4 : Int32)  (S : gS) (H : Heap) (locs : List Loc) (ls : Array Slot), gis Y 0 x0 → gis Y 4 x2 → wp_Content_shorten_14 (gLn Y) Q n x0 x1 x2 x3 x4 S → gWd Y S H → va_S (gA Y s.heap.size) s.heap H locs → lv_has ls 5 [(0, .ref (gad Y x0)), (1, .int x1), (2, .ref (gad Y x2)), (3, .int x3), (4, .int x4)] → W p l e (gRm 1 21) s m args below meth c H locs 0 0 (MQ below (va_Qv Q (gB Y) (gA Y s.heap.size)) args s 0 0 (gA Y s.heap.size)) (F0 m 14 ls []) := by
  have C0 := C
  obtain ⟨hx, hb, hml, hown, hts, hr, hlocks, hK, hY, hSt⟩ := C
  intro n
  induction n with
  | zero =>
    intro x0 x1 x2 x3 x4 S H locs ls hx0 hx2 hw
    exact False.elim hw
  | succ n ih =>
    intro x0 x1 x2 x3 x4 S H locs ls hx0 hx2 hw hP hS hl
    unfold wp_Content_shorten_14 at hw
    refine lv_iload hx hb d_Content_shorten_14 (lv_at hl 4 rfl) ?_
    refine lv_iload_n hx hb d_Content_shorten_16 rfl (lv_at hl 3 rfl) ?_
    refine lv_icmp_ge (tgt := 47) hx hb d_Content_shorten_17 (by decide) (fun c5 => ?_) (fun c5 => ?_)
    · replace hw := hw.1 c5
      exact mw_Content_shorten_47 C0 x0 x1 S H locs ls hx0 hw hP hS (lv_sub hl [0, 1] rfl)
    · replace hw := hw.2 c5
      refine lv_iload hx hb d_Content_shorten_20 (lv_at hl 4 rfl) ?_
      refine lv_aload_n hx hb d_Content_shorten_22 rfl (lv_at hl 0 rfl) ?_
      refine g_get hx hb hts (fun w h => List.mem_cons_of_mem _ (in_Content w h)) hown hK hP hx0 (gce_Content hx0.1) rfl 0 (by decide) (hts _ (List.mem_cons_of_mem _ gw_198)) rfl d_Content_shorten_23 ?_
      refine g_alenI hx hb hK hP (gis_Content_row hY hx0) d_Content_shorten_26 ?_
      refine lv_icmp_ge (tgt := 47) hx hb d_Content_shorten_27 (by decide) (fun c7 => ?_) (fun c7 => ?_)
      · replace hw := hw.1 c7
        exact mw_Content_shorten_47 C0 x0 x1 S H locs ls hx0 hw hP hS (lv_sub hl [0, 1] rfl)
      · replace hw := hw.2 c7
        refine lv_aload_n hx hb d_Content_shorten_30 rfl (lv_at hl 2 rfl) ?_
        refine lv_aload_n hx hb d_Content_shorten_31 rfl (lv_at hl 0 rfl) ?_
        refine g_get hx hb hts (fun w h => List.mem_cons_of_mem _ (in_Content w h)) hown hK hP hx0 (gce_Content hx0.1) rfl 0 (by decide) (hts _ (List.mem_cons_of_mem _ gw_198)) rfl d_Content_shorten_32 ?_
        refine lv_iload hx hb d_Content_shorten_35 (lv_at hl 4 rfl) ?_
        obtain ⟨hin, hw⟩ := hw
        refine g_iaload hx hb hK hP (gis_Content_row hY hx0) hin d_Content_shorten_37 ?_
        refine g_callv (va_runV (As := [.int (S.1 (grf x0 0) x4.toNatClampNeg)]) (rest := []) ⟨hx, hb, hml, hown, hts⟩ (k_Pages_giveUp l Y hY H.size x2 (S.1 (grf x0 0) x4.toNatClampNeg) hx2 S _) (cwV 1 hts (gG_V gw_289 gw_290 gw_291 gw_9 gw_292) rfl rfl rfl (by decide +kernel) ⟨Nat.le_of_ble_eq_true rfl, Nat.le_of_ble_eq_true rfl⟩) ⟨gPre_blind, g_recv hK hP hx2 (gce_Pages hx2.1) rfl, g_pre hK hSt hS hP hw⟩ rfl rfl hl.1 rfl (lv_room (Nat.le_of_ble_eq_true rfl)) d_Content_shorten_38 ⟨Nat.zero_le _, Nat.zero_le _⟩) hS (fun S8 H locs hw hP hS => ?_)
        obtain ⟨v4_9, ev4_9⟩ : ∃ y : Int32, y = x4 + 1 := ⟨_, rfl⟩
        replace hw := hw v4_9 ev4_9
        refine lv_iinc (v := v4_9) (lv' := [(4, .int v4_9), (0, .ref (gad Y x0)), (1, .int x1), (2, .ref (gad Y x2)), (3, .int x3)]) hx hb d_Content_shorten_41 hl (k := 4) rfl (by rw [ev4_9]; rfl) (by decide) rfl (fun ls hl => ?_)
        refine lv_goto (tgt := 14) hx hb d_Content_shorten_44 (by decide) ?_
        exact ih x0 x1 x2 x3 v4_9 S8 H locs ls hx0 hx2 hw hP hS (lv_sub hl [1, 2, 3, 4, 0] rfl)
set_option maxHeartbeats 4000000 in
set_option maxRecDepth 100000 in
theorem mw_Content_shorten {p : Program} {l : Launch} {e : Env} {s : State} {m : MethodId} {args : Array Value} {below : List Frame} {meth : Method} {c : Code} {Y : gY} {Q : gS → Prop} (C : gCx p s m args meth c Y "LogDisk$Content" c_Content_shorten 5 (Option.none : Option Jvm.ClassFile.FieldType) w_Content_shorten) : ∀ (x0 : gI) (x1 : Int32) (x2 : gI)  (S : gS) (H : Heap) (locs : List Loc) (ls : Array Slot), gis Y 0 x0 → gis Y 4 x2 → wp_Content_shorten (gLn Y) Q x0 x1 x2 S → gWd Y S H → va_S (gA Y s.heap.size) s.heap H locs → lv_has ls 5 [(0, .ref (gad Y x0)), (1, .int x1), (2, .ref (gad Y x2))] → W p l e (gRm 1 21) s m args below meth c H locs 0 0 (MQ below (va_Qv Q (gB Y) (gA Y s.heap.size)) args s 0 0 (gA Y s.heap.size)) (F0 m 0 ls []) := by
  have C0 := C
  obtain ⟨hx, hb, hml, hown, hts, hr, hlocks, hK, hY, hSt⟩ := C
  intro x0 x1 x2 S H locs ls hx0 hx2 hw hP hS hl
  unfold wp_Content_shorten at hw
  refine lv_aload_n hx hb d_Content_shorten_0 rfl (lv_at hl 0 rfl) ?_
  refine g_get hx hb hts (fun w h => List.mem_cons_of_mem _ (in_Content w h)) hown hK hP hx0 (gce_Content hx0.1) rfl 2 (by decide) (hts _ (List.mem_cons_of_mem _ gw_203)) rfl d_Content_shorten_1 ?_
  refine g_calli (va_runSN (As := [.int (S.1 x0 2)]) (rest := []) ⟨hx, hb, hml, hown, hts⟩ (k_LogDisk_pagesFor l Y hY H.size (S.1 x0 2) S _) ⟨va_cnB 1 hts (gG_N gw_288) rfl rfl rfl hSt.1.1 (hts _ (List.mem_cons_of_mem _ gw_1)) (by decide +kernel) ⟨Nat.le_of_ble_eq_true rfl, Nat.le_of_ble_eq_true rfl⟩, (hts _ (List.mem_cons_of_mem _ gw_287)), trivial⟩ ⟨gPre_blind, g_pre hK hSt hS hP hw⟩ rfl rfl hl.1 rfl (lv_room (Nat.le_of_ble_eq_true rfl)) d_Content_shorten_4 ⟨Nat.zero_le _, Nat.zero_le _⟩) hS (fun r2 S1 H locs hw hP hS => ?_)
  refine lv_istore_n (lv' := [(3, .int r2), (0, .ref (gad Y x0)), (1, .int x1), (2, .ref (gad Y x2))]) hx hb d_Content_shorten_7 rfl hl (by decide) rfl (fun ls hl => ?_)
  refine lv_iload_n hx hb d_Content_shorten_8 rfl (lv_at hl 2 rfl) ?_
  refine g_calli (va_runSN (As := [.int x1]) (rest := []) ⟨hx, hb, hml, hown, hts⟩ (k_LogDisk_pagesFor l Y hY H.size x1 S1 _) ⟨va_cnB 1 hts (gG_N gw_288) rfl rfl rfl hSt.1.1 (hts _ (List.mem_cons_of_mem _ gw_1)) (by decide +kernel) ⟨Nat.le_of_ble_eq_true rfl, Nat.le_of_ble_eq_true rfl⟩, (hts _ (List.mem_cons_of_mem _ gw_287)), trivial⟩ ⟨gPre_blind, g_pre hK hSt hS hP hw⟩ rfl rfl hl.1 rfl (lv_room (Nat.le_of_ble_eq_true rfl)) d_Content_shorten_9 ⟨Nat.zero_le _, Nat.zero_le _⟩) hS (fun r4 S3 H locs hw hP hS => ?_)
  refine lv_istore (lv' := [(4, .int r4), (3, .int r2), (0, .ref (gad Y x0)), (1, .int x1), (2, .ref (gad Y x2))]) hx hb d_Content_shorten_12 hl (by decide) rfl (fun ls hl => ?_)
  obtain ⟨n, hw⟩ := hw
  exact mw_Content_shorten_14 C0 n x0 x1 x2 r2 r4 S3 H locs ls hx0 hx2 hw hP hS (lv_sub hl [2, 3, 4, 1, 0] rfl)
set_option maxHeartbeats 4000000 in
set_option maxRecDepth 100000 in
theorem k_Content_shorten (l : Launch) (Y : gY) (hY : gOK Y) (sz : Nat) (x0 : gI) (x1 : Int32) (x2 : gI)  (hx0 : gis Y 0 x0) (hx2 : gis Y 4 x2) (S : gS) (Q : gS → Prop) : Met l y_Content_shorten w_Content_shorten (gRm 1 21) (gPre Y [.ref (gad Y x0), .int x1, .ref (gad Y x2)] S sz (wp_Content_shorten (gLn Y) Q x0 x1 x2 S)) (va_Qv Q (gB Y) (gA Y sz)) 0 0 (gA Y sz) := by
  refine Met.ofW (cc := c_Content_shorten) (maxL := 5) (ret := (Option.none : Option Jvm.ClassFile.FieldType)) (by decide) rfl ?_
  intro p e s m args below meth c s₁ B hml hv
  obtain ⟨rfl, hsz, hP, hK, hSt, hw⟩ := hv
  subst hsz
  have hts := atoms_spec (ws := w_Content_shorten) B.pre
  have hl := lv_entry ([.ref (gad Y x0), .int x1, .ref (gad Y x2)]) (n := 5) (Nat.le_of_ble_eq_true rfl)
  rw [lg_entry_eq]
  generalize (lg_sl ([.ref (gad Y x0), .int x1, .ref (gad Y x2)]) ++ List.replicate (5 - (lg_sl ([.ref (gad Y x0), .int x1, .ref (gad Y x2)])).length) Slot.unset).toArray = ls at hl ⊢
  exact mw_Content_shorten ⟨B.exec, B.bytes, hml, findClass_of_methodNamed B.named, hts, B.returns, B.notSynchronized, hK, hY, hSt⟩ x0 x1 x2 S s.heap [] ls hx0 hx2 hw hP va_S.rf hl

def wp_Content_become_64 (Ln : gI → Nat) (Q : gS → Prop) (x0 : gI) (x1 : gI)  (S : gS) : Prop :=
  ∀ S5 : gS, S5 = gset S x0 2 (S.1 x1 2) → (((S5.1 x1 1) = 0 ∨ (S5.1 x1 1) = 1) ∧ (∀ S6 : gS, S6 = gset S5 x0 1 (S5.1 x1 1) → (Q S6)))
def wp_Content_become_17 (Ln : gI → Nat) (Q : gS → Prop) : Nat → gI → gI → gI → Int32 → Int32 → gS → Prop
  | 0, _, _, _, _, _, _ => False
  | n17 + 1, x0, x1, x2, x3, x4, S => ((x3 ≤ x4) → (wp_Content_become_64 Ln Q x0 x1 S)) ∧ ((¬ x3 ≤ x4) → ((((Int32.ofNat (Ln (grf x0 0))) ≤ x4) → (wp_Content_become_64 Ln Q x0 x1 S)) ∧ ((¬ (Int32.ofNat (Ln (grf x0 0))) ≤ x4) → (vp_in x4 (Ln (grf x1 0)) ∧ (vp_in x4 (Ln (grf x0 0)) ∧ (∀ S8 : gS, S8 = gset S (grf x0 0) x4.toNatClampNeg (S.1 (grf x1 0) x4.toNatClampNeg) → (vp_in x4 (Ln (grf x0 0)) ∧ (wp_Pages_share Ln (fun S9 => ∀ v4_10 : Int32, v4_10 = x4 + 1 → (wp_Content_become_17 Ln Q n17 x0 x1 x2 x3 v4_10 S9)) x2 (S8.1 (grf x0 0) x4.toNatClampNeg) S8))))))))
def wp_Content_become (Ln : gI → Nat) (Q : gS → Prop) (x0 : gI) (x1 : gI) (x2 : gI)  (S : gS) : Prop :=
  wp_Content_shorten Ln (fun S1 => wp_LogDisk_pagesFor Ln (fun r3 S2 => ∃ n17 : Nat, wp_Content_become_17 Ln Q n17 x0 x1 x2 r3 0 S2) (S1.1 x1 2) S1) x0 0 x2 S
set_option maxHeartbeats 4000000 in
set_option maxRecDepth 100000 in
theorem mw_Content_become_64 {p : Program} {l : Launch} {e : Env} {s : State} {m : MethodId} {args : Array Value} {below : List Frame} {meth : Method} {c : Code} {Y : gY} {Q : gS → Prop} (C : gCx p s m args meth c Y "LogDisk$Content" c_Content_become 5 (Option.none : Option Jvm.ClassFile.FieldType) w_Content_become) : ∀ (x0 : gI) (x1 : gI)  (S : gS) (H : Heap) (locs : List Loc) (ls : Array Slot), gis Y 0 x0 → gis Y 0 x1 → wp_Content_become_64 (gLn Y) Q x0 x1 S → gWd Y S H → va_S (gA Y s.heap.size) s.heap H locs → lv_has ls 5 [(0, .ref (gad Y x0)), (1, .ref (gad Y x1))] → W p l e (gRm 2 45) s m args below meth c H locs 0 0 (MQ below (va_Qv Q (gB Y) (gA Y s.heap.size)) args s 0 0 (gA Y s.heap.size)) (F0 m 64 ls []) := by
  have C0 := C
  obtain ⟨hx, hb, hml, hown, hts, hr, hlocks, hK, hY, hSt⟩ := C
  intro x0 x1 S H locs ls hx0 hx1 hw hP hS hl
  unfold wp_Content_become_64 at hw
  refine lv_aload_n hx hb d_Content_become_64 rfl (lv_at hl 0 rfl) ?_
  refine lv_aload_n hx hb d_Content_become_65 rfl (lv_at hl 1 rfl) ?_
  refine g_get hx hb hts (fun w h => List.mem_cons_of_mem _ (in_Content w h)) hown hK hP hx1 (gce_Content hx1.1) rfl 2 (by decide) (hts _ (List.mem_cons_of_mem _ gw_203)) rfl d_Content_become_66 ?_
  refine g_put (ty := .int) (v := .int (S.1 x1 2)) (S' := gset S x0 2 (S.1 x1 2)) hx hb hts (fun w h => List.mem_cons_of_mem _ (in_Content w h)) ty_Content tyok_Content nm_Content hown hK hY.1 hP hS hx0 (gce_Content hx0.1) rfl 2 (by decide) (hts _ (List.mem_cons_of_mem _ gw_203)) rfl (by decide +kernel) rfl rfl (Nat.le_of_ble_eq_true rfl) (gp_Content_size hx0.1) gce_gset d_Content_become_69 (fun H locs hP hS => ?_)
  obtain ⟨S5, eS5⟩ : ∃ z, z = gset S x0 2 (S.1 x1 2) := ⟨_, rfl⟩
  rw [← eS5] at hP
  replace hw := hw S5 eS5
  refine lv_aload_n hx hb d_Content_become_72 rfl (lv_at hl 0 rfl) ?_
  refine lv_aload_n hx hb d_Content_become_73 rfl (lv_at hl 1 rfl) ?_
  refine g_get hx hb hts (fun w h => List.mem_cons_of_mem _ (in_Content w h)) hown hK hP hx1 (gce_Content hx1.1) rfl 1 (by decide) (hts _ (List.mem_cons_of_mem _ gw_200)) rfl d_Content_become_74 ?_
  obtain ⟨hbo, hw⟩ := hw
  refine g_put (ty := .boolean) (v := .int (S5.1 x1 1)) (S' := gset S5 x0 1 (S5.1 x1 1)) hx hb hts (fun w h => List.mem_cons_of_mem _ (in_Content w h)) ty_Content tyok_Content nm_Content hown hK hY.1 hP hS hx0 (gce_Content hx0.1) rfl 1 (by decide) (hts _ (List.mem_cons_of_mem _ gw_200)) rfl (by decide +kernel) (g_nb hbo) (g_fb hbo) (Nat.le_of_ble_eq_true rfl) (gp_Content_there hx0.1) gce_gset d_Content_become_77 (fun H locs hP hS => ?_)
  obtain ⟨S6, eS6⟩ : ∃ z, z = gset S5 x0 1 (S5.1 x1 1) := ⟨_, rfl⟩
  rw [← eS6] at hP
  replace hw := hw S6 eS6
  exact W.vret hx hb hr (fun t ht hW => ⟨⟨S6, rfl, hw, by rw [ht]; exact hP, va_K.moved hW.alike hK⟩, hS.F ht⟩) hS.2.2 d_Content_become_80
set_option maxHeartbeats 4000000 in
set_option maxRecDepth 100000 in
theorem mw_Content_become_17 {p : Program} {l : Launch} {e : Env} {s : State} {m : MethodId} {args : Array Value} {below : List Frame} {meth : Method} {c : Code} {Y : gY} {Q : gS → Prop} (C : gCx p s m args meth c Y "LogDisk$Content" c_Content_become 5 (Option.none : Option Jvm.ClassFile.FieldType) w_Content_become) : ∀ (n : Nat), ∀ (x0 : gI) (x1 : gI) (x2 : gI) (x3 : Int32) (x4 : Int32)  (S : gS) (H : Heap) (locs : List Loc) (ls : Array Slot), gis Y 0 x0 → gis Y 0 x1 → gis Y 4 x2 → wp_Content_become_17 (gLn Y) Q n x0 x1 x2 x3 x4 S → gWd Y S H → va_S (gA Y s.heap.size) s.heap H locs → lv_has ls 5 [(0, .ref (gad Y x0)), (1, .ref (gad Y x1)), (2, .ref (gad Y x2)), (3, .int x3), (4, .int x4)] → W p l e (gRm 2 45) s m args below meth c H locs 0 0 (MQ below (va_Qv Q (gB Y) (gA Y s.heap.size)) args s 0 0 (gA Y s.heap.size)) (F0 m 17 ls []) := by
  have C0 := C
  obtain ⟨hx, hb, hml, hown, hts, hr, hlocks, hK, hY, hSt⟩ := C
  intro n
  induction n with
  | zero =>
    intro x0 x1 x2 x3 x4 S H locs ls hx0 hx1 hx2 hw
    exact False.elim hw
  | succ n ih =>
    intro x0 x1 x2 x3 x4 S H locs ls hx0 hx1 hx2 hw hP hS hl
    unfold wp_Content_become_17 at hw
    refine lv_iload hx hb d_Content_become_17 (lv_at hl 4 rfl) ?_
    refine lv_iload_n hx hb d_Content_become_19 rfl (lv_at hl 3 rfl) ?_
    refine lv_icmp_ge (tgt := 64) hx hb d_Content_become_20 (by decide) (fun c4 => ?_) (fun c4 => ?_)
    · replace hw := hw.1 c4
      exact mw_Content_become_64 C0 x0 x1 S H locs ls hx0 hx1 hw hP hS (lv_sub hl [0, 1] rfl)
    · replace hw := hw.2 c4
      refine lv_iload hx hb d_Content_become_23 (lv_at hl 4 rfl) ?_
      refine lv_aload_n hx hb d_Content_become_25 rfl (lv_at hl 0 rfl) ?_
      refine g_get hx hb hts (fun w h => List.mem_cons_of_mem _ (in_Content w h)) hown hK hP hx0 (gce_Content hx0.1) rfl 0 (by decide) (hts _ (List.mem_cons_of_mem _ gw_198)) rfl d_Content_become_26 ?_
      refine g_alenI hx hb hK hP (gis_Content_row hY hx0) d_Content_become_29 ?_
      refine lv_icmp_ge (tgt := 64) hx hb d_Content_become_30 (by decide) (fun c7 => ?_) (fun c7 => ?_)
      · replace hw := hw.1 c7
        exact mw_Content_become_64 C0 x0 x1 S H locs ls hx0 hx1 hw hP hS (lv_sub hl [0, 1] rfl)
      · replace hw := hw.2 c7
        refine lv_aload_n hx hb d_Content_become_33 rfl (lv_at hl 0 rfl) ?_
        refine g_get hx hb hts (fun w h => List.mem_cons_of_mem _ (in_Content w h)) hown hK hP hx0 (gce_Content hx0.1) rfl 0 (by decide) (hts _ (List.mem_cons_of_mem _ gw_198)) rfl d_Content_become_34 ?_
        refine lv_iload hx hb d_Content_become_37 (lv_at hl 4 rfl) ?_
        refine lv_aload_n hx hb d_Content_become_39 rfl (lv_at hl 1 rfl) ?_
        refine g_get hx hb hts (fun w h => List.mem_cons_of_mem _ (in_Content w h)) hown hK hP hx1 (gce_Content hx1.1) rfl 0 (by decide) (hts _ (List.mem_cons_of_mem _ gw_198)) rfl d_Content_become_40 ?_
        refine lv_iload hx hb d_Content_become_43 (lv_at hl 4 rfl) ?_
        obtain ⟨hin, hw⟩ := hw
        refine g_iaload hx hb hK hP (gis_Content_row hY hx1) hin d_Content_become_45 ?_
        obtain ⟨hin, hw⟩ := hw
        refine g_iastore hx hb hK hY.1 hP hS (gis_Content_row hY hx0) hin d_Content_become_46 (fun S8 eS8 H locs hP hS => ?_)
        replace hw := hw S8 eS8
        refine lv_aload_n hx hb d_Content_become_47 rfl (lv_at hl 2 rfl) ?_
        refine lv_aload_n hx hb d_Content_become_48 rfl (lv_at hl 0 rfl) ?_
        refine g_get hx hb hts (fun w h => List.mem_cons_of_mem _ (in_Content w h)) hown hK hP hx0 (gce_Content hx0.1) rfl 0 (by decide) (hts _ (List.mem_cons_of_mem _ gw_198)) rfl d_Content_become_49 ?_
        refine lv_iload hx hb d_Content_become_52 (lv_at hl 4 rfl) ?_
        obtain ⟨hin, hw⟩ := hw
        refine g_iaload hx hb hK hP (gis_Content_row hY hx0) hin d_Content_become_54 ?_
        refine g_callv (va_runV (As := [.int (S8.1 (grf x0 0) x4.toNatClampNeg)]) (rest := []) ⟨hx, hb, hml, hown, hts⟩ (k_Pages_share l Y hY H.size x2 (S8.1 (grf x0 0) x4.toNatClampNeg) hx2 S8 _) (cwV 1 hts (gG_V gw_293 gw_294 gw_295 gw_9 gw_296) rfl rfl rfl (by decide +kernel) ⟨Nat.le_of_ble_eq_true rfl, Nat.le_of_ble_eq_true rfl⟩) ⟨gPre_blind, g_recv hK hP hx2 (gce_Pages hx2.1) rfl, g_pre hK hSt hS hP hw⟩ rfl rfl hl.1 rfl (lv_room (Nat.le_of_ble_eq_true rfl)) d_Content_become_55 ⟨Nat.zero_le _, Nat.zero_le _⟩) hS (fun S9 H locs hw hP hS => ?_)
        obtain ⟨v4_10, ev4_10⟩ : ∃ y : Int32, y = x4 + 1 := ⟨_, rfl⟩
        replace hw := hw v4_10 ev4_10
        refine lv_iinc (v := v4_10) (lv' := [(4, .int v4_10), (0, .ref (gad Y x0)), (1, .ref (gad Y x1)), (2, .ref (gad Y x2)), (3, .int x3)]) hx hb d_Content_become_58 hl (k := 4) rfl (by rw [ev4_10]; rfl) (by decide) rfl (fun ls hl => ?_)
        refine lv_goto (tgt := 17) hx hb d_Content_become_61 (by decide) ?_
        exact ih x0 x1 x2 x3 v4_10 S9 H locs ls hx0 hx1 hx2 hw hP hS (lv_sub hl [1, 2, 3, 4, 0] rfl)
set_option maxHeartbeats 4000000 in
set_option maxRecDepth 100000 in
theorem mw_Content_become {p : Program} {l : Launch} {e : Env} {s : State} {m : MethodId} {args : Array Value} {below : List Frame} {meth : Method} {c : Code} {Y : gY} {Q : gS → Prop} (C : gCx p s m args meth c Y "LogDisk$Content" c_Content_become 5 (Option.none : Option Jvm.ClassFile.FieldType) w_Content_become) : ∀ (x0 : gI) (x1 : gI) (x2 : gI)  (S : gS) (H : Heap) (locs : List Loc) (ls : Array Slot), gis Y 0 x0 → gis Y 0 x1 → gis Y 4 x2 → wp_Content_become (gLn Y) Q x0 x1 x2 S → gWd Y S H → va_S (gA Y s.heap.size) s.heap H locs → lv_has ls 5 [(0, .ref (gad Y x0)), (1, .ref (gad Y x1)), (2, .ref (gad Y x2))] → W p l e (gRm 2 45) s m args below meth c H locs 0 0 (MQ below (va_Qv Q (gB Y) (gA Y s.heap.size)) args s 0 0 (gA Y s.heap.size)) (F0 m 0 ls []) := by
  have C0 := C
  obtain ⟨hx, hb, hml, hown, hts, hr, hlocks, hK, hY, hSt⟩ := C
  intro x0 x1 x2 S H locs ls hx0 hx1 hx2 hw hP hS hl
  unfold wp_Content_become at hw
  refine lv_aload_n hx hb d_Content_become_0 rfl (lv_at hl 0 rfl) ?_
  refine lv_iconst (v := 0) hx hb d_Content_become_1 (by decide) ?_
  refine lv_aload_n hx hb d_Content_become_2 rfl (lv_at hl 2 rfl) ?_
  refine g_callv (va_runV (As := [.int 0, .ref (gad Y x2)]) (rest := []) ⟨hx, hb, hml, hown, hts⟩ (k_Content_shorten l Y hY H.size x0 0 x2 hx0 hx2 S _) (cwV 2 hts (gG_V gw_282 gw_283 gw_284 gw_11 gw_285) rfl rfl rfl (by decide +kernel) ⟨Nat.le_of_ble_eq_true rfl, Nat.le_of_ble_eq_true rfl⟩) ⟨gPre_blind, g_recv hK hP hx0 (gce_Content hx0.1) rfl, g_pre hK hSt hS hP hw⟩ rfl rfl hl.1 rfl (lv_room (Nat.le_of_ble_eq_true rfl)) d_Content_become_3 ⟨Nat.zero_le _, Nat.zero_le _⟩) hS (fun S1 H locs hw hP hS => ?_)
  refine lv_aload_n hx hb d_Content_become_6 rfl (lv_at hl 1 rfl) ?_
  refine g_get hx hb hts (fun w h => List.mem_cons_of_mem _ (in_Content w h)) hown hK hP hx1 (gce_Content hx1.1) rfl 2 (by decide) (hts _ (List.mem_cons_of_mem _ gw_203)) rfl d_Content_become_7 ?_
  refine g_calli (va_runSN (As := [.int (S1.1 x1 2)]) (rest := []) ⟨hx, hb, hml, hown, hts⟩ (k_LogDisk_pagesFor l Y hY H.size (S1.1 x1 2) S1 _) ⟨va_cnB 1 hts (gG_N gw_288) rfl rfl rfl hSt.1.1 (hts _ (List.mem_cons_of_mem _ gw_1)) (by decide +kernel) ⟨Nat.le_of_ble_eq_true rfl, Nat.le_of_ble_eq_true rfl⟩, (hts _ (List.mem_cons_of_mem _ gw_287)), trivial⟩ ⟨gPre_blind, g_pre hK hSt hS hP hw⟩ rfl rfl hl.1 rfl (lv_room (Nat.le_of_ble_eq_true rfl)) d_Content_become_10 ⟨Nat.zero_le _, Nat.zero_le _⟩) hS (fun r3 S2 H locs hw hP hS => ?_)
  refine lv_istore_n (lv' := [(3, .int r3), (0, .ref (gad Y x0)), (1, .ref (gad Y x1)), (2, .ref (gad Y x2))]) hx hb d_Content_become_13 rfl hl (by decide) rfl (fun ls hl => ?_)
  refine lv_iconst (v := 0) hx hb d_Content_become_14 (by decide) ?_
  refine lv_istore (lv' := [(4, .int 0), (3, .int r3), (0, .ref (gad Y x0)), (1, .ref (gad Y x1)), (2, .ref (gad Y x2))]) hx hb d_Content_become_15 hl (by decide) rfl (fun ls hl => ?_)
  obtain ⟨n, hw⟩ := hw
  exact mw_Content_become_17 C0 n x0 x1 x2 r3 0 S2 H locs ls hx0 hx1 hx2 hw hP hS (lv_sub hl [2, 3, 4, 1, 0] rfl)
set_option maxHeartbeats 4000000 in
set_option maxRecDepth 100000 in
theorem k_Content_become (l : Launch) (Y : gY) (hY : gOK Y) (sz : Nat) (x0 : gI) (x1 : gI) (x2 : gI)  (hx0 : gis Y 0 x0) (hx1 : gis Y 0 x1) (hx2 : gis Y 4 x2) (S : gS) (Q : gS → Prop) : Met l y_Content_become w_Content_become (gRm 2 45) (gPre Y [.ref (gad Y x0), .ref (gad Y x1), .ref (gad Y x2)] S sz (wp_Content_become (gLn Y) Q x0 x1 x2 S)) (va_Qv Q (gB Y) (gA Y sz)) 0 0 (gA Y sz) := by
  refine Met.ofW (cc := c_Content_become) (maxL := 5) (ret := (Option.none : Option Jvm.ClassFile.FieldType)) (by decide) rfl ?_
  intro p e s m args below meth c s₁ B hml hv
  obtain ⟨rfl, hsz, hP, hK, hSt, hw⟩ := hv
  subst hsz
  have hts := atoms_spec (ws := w_Content_become) B.pre
  have hl := lv_entry ([.ref (gad Y x0), .ref (gad Y x1), .ref (gad Y x2)]) (n := 5) (Nat.le_of_ble_eq_true rfl)
  rw [lg_entry_eq]
  generalize (lg_sl ([.ref (gad Y x0), .ref (gad Y x1), .ref (gad Y x2)]) ++ List.replicate (5 - (lg_sl ([.ref (gad Y x0), .ref (gad Y x1), .ref (gad Y x2)])).length) Slot.unset).toArray = ls at hl ⊢
  exact mw_Content_become ⟨B.exec, B.bytes, hml, findClass_of_methodNamed B.named, hts, B.returns, B.notSynchronized, hK, hY, hSt⟩ x0 x1 x2 S s.heap [] ls hx0 hx1 hx2 hw hP va_S.rf hl
