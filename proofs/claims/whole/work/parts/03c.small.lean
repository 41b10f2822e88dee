def wp_Frame_begin (Ln : gI → Nat) (Q : gS → Prop) (x0 : gI)  (S : gS) : Prop :=
  ∀ S1 : gS, S1 = gset S x0 1 8 → (Q S1)
set_option maxHeartbeats 4000000 in
set_option maxRecDepth 100000 in
theorem mw_Frame_begin {p : Program} {l : Launch} {e : Env} {s : State} {m : MethodId} {args : Array Value} {below : List Frame} {meth : Method} {c : Code} {Y : gY} {Q : gS → Prop} (C : gCx p s m args meth c Y "LogDisk$Frame" c_Frame_begin 1 (Option.none : Option Jvm.ClassFile.FieldType) w_Frame_begin) : ∀ (x0 : gI)  (S : gS) (H : Heap) (locs : List Loc) (ls : Array Slot), gis Y 3 x0 → wp_Frame_begin (gLn Y) Q x0 S → gWd Y S H → va_S (gA Y s.heap.size) s.heap H locs → lv_has ls 1 [(0, .ref (gad Y x0))] → W p l e (gRm 0 0) s m args below meth c H locs 0 0 (MQ below (va_Qv Q (gB Y) (gA Y s.heap.size)) args s 0 0 (gA Y s.heap.size)) (F0 m 0 ls []) := by
  have C0 := C
  obtain ⟨hx, hb, hml, hown, hts, hr, hlocks, hK, hY, hSt⟩ := C
  intro x0 S H locs ls hx0 hw hP hS hl
  unfold wp_Frame_begin at hw
  refine lv_aload_n hx hb d_Frame_begin_0 rfl (lv_at hl 0 rfl) ?_
  refine lv_bipush (v := 8) hx hb d_Frame_begin_1 (by decide) ?_
  refine g_put (ty := .int) (v := .int 8) (S' := gset S x0 1 8) hx hb hts (fun w h => List.mem_cons_of_mem _ (in_Frame w h)) ty_Frame tyok_Frame nm_Frame hown hK hY.1 hP hS hx0 (gce_Frame hx0.1) rfl 1 (by decide) (hts _ (List.mem_cons_of_mem _ gw_57)) rfl (by decide +kernel) rfl rfl (Nat.le_of_ble_eq_true rfl) (gp_Frame_size hx0.1) gce_gset d_Frame_begin_3 (fun H locs hP hS => ?_)
  obtain ⟨S1, eS1⟩ : ∃ z, z = gset S x0 1 8 := ⟨_, rfl⟩
  rw [← eS1] at hP
  replace hw := hw S1 eS1
  exact W.vret hx hb hr (fun t ht hW => ⟨⟨S1, rfl, hw, by rw [ht]; exact hP, va_K.moved hW.alike hK⟩, hS.F ht⟩) hS.2.2 d_Frame_begin_6
set_option maxHeartbeats 4000000 in
set_option maxRecDepth 100000 in
theorem k_Frame_begin (l : Launch) (Y : gY) (hY : gOK Y) (sz : Nat) (x0 : gI)  (hx0 : gis Y 3 x0) (S : gS) (Q : gS → Prop) : Met l y_Frame_begin w_Frame_begin (gRm 0 0) (gPre Y [.ref (gad Y x0)] S sz (wp_Frame_begin (gLn Y) Q x0 S)) (va_Qv Q (gB Y) (gA Y sz)) 0 0 (gA Y sz) := by
  refine Met.ofW (cc := c_Frame_begin) (maxL := 1) (ret := (Option.none : Option Jvm.ClassFile.FieldType)) (by decide) rfl ?_
  intro p e s m args below meth c s₁ B hml hv
  obtain ⟨rfl, hsz, hP, hK, hSt, hw⟩ := hv
  subst hsz
  have hts := atoms_spec (ws := w_Frame_begin) B.pre
  have hl := lv_entry ([.ref (gad Y x0)]) (n := 1) (Nat.le_of_ble_eq_true rfl)
  rw [lg_entry_eq]
  generalize (lg_sl ([.ref (gad Y x0)]) ++ List.replicate (1 - (lg_sl ([.ref (gad Y x0)])).length) Slot.unset).toArray = ls at hl ⊢
  exact mw_Frame_begin ⟨B.exec, B.bytes, hml, findClass_of_methodNamed B.named, hts, B.returns, B.notSynchronized, hK, hY, hSt⟩ x0 S s.heap [] ls hx0 hw hP va_S.rf hl

def wp_Frame_put_3 (Ln : gI → Nat) (Q : gS → Prop) : Nat → gI → Int32 → Int64 → Int32 → Int32 → gS → Prop
  | 0, _, _, _, _, _, _ => False
  | n3 + 1, x0, x1, x2, x4, x5, S => ((x4 ≤ x5) → (Q S)) ∧ ((¬ x4 ≤ x5) → (vp_in (x1 + x5) (Ln (grf x0 0)) ∧ (∀ S2 : gS, S2 = gset S (grf x0 0) (x1 + x5).toNatClampNeg (vp_nar .byte (((ju_lushr x2 (8 * x5)).toInt32).toInt8.toInt32)) → (∀ v5_3 : Int32, v5_3 = x5 + 1 → (wp_Frame_put_3 Ln Q n3 x0 x1 x2 x4 v5_3 S2)))))
def wp_Frame_put (Ln : gI → Nat) (Q : gS → Prop) (x0 : gI) (x1 : Int32) (x2 : Int64) (x4 : Int32)  (S : gS) : Prop :=
  ∃ n3 : Nat, wp_Frame_put_3 Ln Q n3 x0 x1 x2 x4 0 S
set_option maxHeartbeats 4000000 in
set_option maxRecDepth 100000 in
theorem mw_Frame_put_3 {p : Program} {l : Launch} {e : Env} {s : State} {m : MethodId} {args : Array Value} {below : List Frame} {meth : Method} {c : Code} {Y : gY} {Q : gS → Prop} (C : gCx p s m args meth c Y "LogDisk$Frame" c_Frame_put 6 (Option.none : Option Jvm.ClassFile.FieldType) w_Frame_put) : ∀ (n : Nat), ∀ (x0 : gI) (x1 : Int32) (x2 : Int64) (x4 : Int32) (x5 : Int32)  (S : gS) (H : Heap) (locs : List Loc) (ls : Array Slot), gis Y 3 x0 → wp_Frame_put_3 (gLn Y) Q n x0 x1 x2 x4 x5 S → gWd Y S H → va_S (gA Y s.heap.size) s.heap H locs → lv_has ls 6 [(0, .ref (gad Y x0)), (1, .int x1), (2, .long x2), (4, .int x4), (5, .int x5)] → W p l e (gRm 0 0) s m args below meth c H locs 0 0 (MQ below (va_Qv Q (gB Y) (gA Y s.heap.size)) args s 0 0 (gA Y s.heap.size)) (F0 m 3 ls []) := by
  have C0 := C
  obtain ⟨hx, hb, hml, hown, hts, hr, hlocks, hK, hY, hSt⟩ := C
  intro n
  induction n with
  | zero =>
    intro x0 x1 x2 x4 x5 S H locs ls hx0 hw
    exact False.elim hw
  | succ n ih =>
    intro x0 x1 x2 x4 x5 S H locs ls hx0 hw hP hS hl
    unfold wp_Frame_put_3 at hw
    refine lv_iload hx hb d_Frame_put_3 (lv_at hl 4 rfl) ?_
    refine lv_iload hx hb d_Frame_put_5 (lv_at hl 3 rfl) ?_
    refine lv_icmp_ge (tgt := 34) hx hb d_Frame_put_7 (by decide) (fun c1 => ?_) (fun c1 => ?_)
    · replace hw := hw.1 c1
      exact W.vret hx hb hr (fun t ht hW => ⟨⟨S, rfl, hw, by rw [ht]; exact hP, va_K.moved hW.alike hK⟩, hS.F ht⟩) hS.2.2 d_Frame_put_34
    · replace hw := hw.2 c1
      refine lv_aload_n hx hb d_Frame_put_10 rfl (lv_at hl 0 rfl) ?_
      refine g_get hx hb hts (fun w h => List.mem_cons_of_mem _ (in_Frame w h)) hown hK hP hx0 (gce_Frame hx0.1) rfl 0 (by decide) (hts _ (List.mem_cons_of_mem _ gw_55)) rfl d_Frame_put_11 ?_
      refine lv_iload_n hx hb d_Frame_put_14 rfl (lv_at hl 1 rfl) ?_
      refine lv_iload hx hb d_Frame_put_15 (lv_at hl 4 rfl) ?_
      refine lv_iadd hx hb d_Frame_put_17 ?_
      refine lv_lload_n hx hb d_Frame_put_18 rfl (lv_at hl 2 rfl) ?_
      refine lv_bipush (v := 8) hx hb d_Frame_put_19 (by decide) ?_
      refine lv_iload hx hb d_Frame_put_21 (lv_at hl 4 rfl) ?_
      refine lv_imul hx hb d_Frame_put_23 ?_
      refine lv_lushr hx hb d_Frame_put_24 rfl ?_
      refine lv_l2i hx hb d_Frame_put_25 rfl ?_
      refine lv_i2b hx hb d_Frame_put_26 rfl ?_
      obtain ⟨hin, hw⟩ := hw
      refine g_bastore hx hb hK hY.1 hP hS (gis_Frame_bytes hY hx0) hin d_Frame_put_27 (fun S2 eS2 H locs hP hS => ?_)
      replace hw := hw S2 eS2
      obtain ⟨v5_3, ev5_3⟩ : ∃ y : Int32, y = x5 + 1 := ⟨_, rfl⟩
      replace hw := hw v5_3 ev5_3
      refine lv_iinc (v := v5_3) (lv' := [(5, .int v5_3), (0, .ref (gad Y x0)), (1, .int x1), (2, .long x2), (4, .int x4)]) hx hb d_Frame_put_28 hl (k := 4) rfl (by rw [ev5_3]; rfl) (by decide) rfl (fun ls hl => ?_)
      refine lv_goto (tgt := 3) hx hb d_Frame_put_31 (by decide) ?_
      exact ih x0 x1 x2 x4 v5_3 S2 H locs ls hx0 hw hP hS (lv_sub hl [1, 2, 3, 4, 0] rfl)
set_option maxHeartbeats 4000000 in
set_option maxRecDepth 100000 in
theorem mw_Frame_put {p : Program} {l : Launch} {e : Env} {s : State} {m : MethodId} {args : Array Value} {below : List Frame} {meth : Method} {c : Code} {Y : gY} {Q : gS → Prop} (C : gCx p s m args meth c Y "LogDisk$Frame" c_Frame_put 6 (Option.none : Option Jvm.ClassFile.FieldType) w_Frame_put) : ∀ (x0 : gI) (x1 : Int32) (x2 : Int64) (x4 : Int32)  (S : gS) (H : Heap) (locs : List Loc) (ls : Array Slot), gis Y 3 x0 → wp_Frame_put (gLn Y) Q x0 x1 x2 x4 S → gWd Y S H → va_S (gA Y s.heap.size) s.heap H locs → lv_has ls 6 [(0, .ref (gad Y x0)), (1, .int x1), (2, .long x2), (4, .int x4)] → W p l e (gRm 0 0) s m args below meth c H locs 0 0 (MQ below (va_Qv Q (gB Y) (gA Y s.heap.size)) args s 0 0 (gA Y s.heap.size)) (F0 m 0 ls []) := by
  have C0 := C
  obtain ⟨hx, hb, hml, hown, hts, hr, hlocks, hK, hY, hSt⟩ := C
  intro x0 x1 x2 x4 S H locs ls hx0 hw hP hS hl
  unfold wp_Frame_put at hw
  refine lv_iconst (v := 0) hx hb d_Frame_put_0 (by decide) ?_
  refine lv_istore (lv' := [(5, .int 0), (0, .ref (gad Y x0)), (1, .int x1), (2, .long x2), (4, .int x4)]) hx hb d_Frame_put_1 hl (by decide) rfl (fun ls hl => ?_)
  obtain ⟨n, hw⟩ := hw
  exact mw_Frame_put_3 C0 n x0 x1 x2 x4 0 S H locs ls hx0 hw hP hS (lv_sub hl [1, 2, 3, 4, 0] rfl)
set_option maxHeartbeats 4000000 in
set_option maxRecDepth 100000 in
theorem k_Frame_put (l : Launch) (Y : gY) (hY : gOK Y) (sz : Nat) (x0 : gI) (x1 : Int32) (x2 : Int64) (x4 : Int32)  (hx0 : gis Y 3 x0) (S : gS) (Q : gS → Prop) : Met l y_Frame_put w_Frame_put (gRm 0 0) (gPre Y [.ref (gad Y x0), .int x1, .long x2, .int x4] S sz (wp_Frame_put (gLn Y) Q x0 x1 x2 x4 S)) (va_Qv Q (gB Y) (gA Y sz)) 0 0 (gA Y sz) := by
  refine Met.ofW (cc := c_Frame_put) (maxL := 6) (ret := (Option.none : Option Jvm.ClassFile.FieldType)) (by decide) rfl ?_
  intro p e s m args below meth c s₁ B hml hv
  obtain ⟨rfl, hsz, hP, hK, hSt, hw⟩ := hv
  subst hsz
  have hts := atoms_spec (ws := w_Frame_put) B.pre
  have hl := lv_entry ([.ref (gad Y x0), .int x1, .long x2, .int x4]) (n := 6) (Nat.le_of_ble_eq_true rfl)
  rw [lg_entry_eq]
  generalize (lg_sl ([.ref (gad Y x0), .int x1, .long x2, .int x4]) ++ List.replicate (6 - (lg_sl ([.ref (gad Y x0), .int x1, .long x2, .int x4])).length) Slot.unset).toArray = ls at hl ⊢
  exact mw_Frame_put ⟨B.exec, B.bytes, hml, findClass_of_methodNamed B.named, hts, B.returns, B.notSynchronized, hK, hY, hSt⟩ x0 x1 x2 x4 S s.heap [] ls hx0 hw hP va_S.rf hl

def wp_Frame_add (Ln : gI → Nat) (Q : gS → Prop) (x0 : gI) (x1 : Int64) (x3 : Int32)  (S : gS) : Prop :=
  ((((Int32.ofNat (Ln (grf x0 0))) - (S.1 x0 1)) < x3) → (Q S)) ∧ ((¬ ((Int32.ofNat (Ln (grf x0 0))) - (S.1 x0 1)) < x3) → (wp_Frame_put Ln (fun S2 => ∀ S3 : gS, S3 = gset S2 x0 1 ((S2.1 x0 1) + x3) → (Q S3)) x0 (S.1 x0 1) x1 x3 S))
set_option maxHeartbeats 4000000 in
set_option maxRecDepth 100000 in
theorem mw_Frame_add {p : Program} {l : Launch} {e : Env} {s : State} {m : MethodId} {args : Array Value} {below : List Frame} {meth : Method} {c : Code} {Y : gY} {Q : gS → Prop} (C : gCx p s m args meth c Y "LogDisk$Frame" c_Frame_add 4 (Option.none : Option Jvm.ClassFile.FieldType) w_Frame_add) : ∀ (x0 : gI) (x1 : Int64) (x3 : Int32)  (S : gS) (H : Heap) (locs : List Loc) (ls : Array Slot), gis Y 3 x0 → wp_Frame_add (gLn Y) Q x0 x1 x3 S → gWd Y S H → va_S (gA Y s.heap.size) s.heap H locs → lv_has ls 4 [(0, .ref (gad Y x0)), (1, .long x1), (3, .int x3)] → W p l e (gRm 1 25) s m args below meth c H locs 0 0 (MQ below (va_Qv Q (gB Y) (gA Y s.heap.size)) args s 0 0 (gA Y s.heap.size)) (F0 m 0 ls []) := by
  have C0 := C
  obtain ⟨hx, hb, hml, hown, hts, hr, hlocks, hK, hY, hSt⟩ := C
  intro x0 x1 x3 S H locs ls hx0 hw hP hS hl
  unfold wp_Frame_add at hw
  refine lv_iload_n hx hb d_Frame_add_0 rfl (lv_at hl 2 rfl) ?_
  refine lv_aload_n hx hb d_Frame_add_1 rfl (lv_at hl 0 rfl) ?_
  refine g_get hx hb hts (fun w h => List.mem_cons_of_mem _ (in_Frame w h)) hown hK hP hx0 (gce_Frame hx0.1) rfl 0 (by decide) (hts _ (List.mem_cons_of_mem _ gw_55)) rfl d_Frame_add_2 ?_
  refine g_alenB hx hb hK hP (gis_Frame_bytes hY hx0) d_Frame_add_5 ?_
  refine lv_aload_n hx hb d_Frame_add_6 rfl (lv_at hl 0 rfl) ?_
  refine g_get hx hb hts (fun w h => List.mem_cons_of_mem _ (in_Frame w h)) hown hK hP hx0 (gce_Frame hx0.1) rfl 1 (by decide) (hts _ (List.mem_cons_of_mem _ gw_57)) rfl d_Frame_add_7 ?_
  refine lv_isub hx hb d_Frame_add_10 ?_
  refine lv_icmp_gt (tgt := 34) hx hb d_Frame_add_11 (by decide) (fun c1 => ?_) (fun c1 => ?_)
  · replace hw := hw.1 c1
    exact W.vret hx hb hr (fun t ht hW => ⟨⟨S, rfl, hw, by rw [ht]; exact hP, va_K.moved hW.alike hK⟩, hS.F ht⟩) hS.2.2 d_Frame_add_34
  · replace hw := hw.2 c1
    refine lv_aload_n hx hb d_Frame_add_14 rfl (lv_at hl 0 rfl) ?_
    refine lv_aload_n hx hb d_Frame_add_15 rfl (lv_at hl 0 rfl) ?_
    refine g_get hx hb hts (fun w h => List.mem_cons_of_mem _ (in_Frame w h)) hown hK hP hx0 (gce_Frame hx0.1) rfl 1 (by decide) (hts _ (List.mem_cons_of_mem _ gw_57)) rfl d_Frame_add_16 ?_
    refine lv_lload_n hx hb d_Frame_add_19 rfl (lv_at hl 1 rfl) ?_
    refine lv_iload_n hx hb d_Frame_add_20 rfl (lv_at hl 2 rfl) ?_
    refine g_callv (va_runV (As := [.int (S.1 x0 1), .long x1, .int x3]) (rest := []) ⟨hx, hb, hml, hown, hts⟩ (k_Frame_put l Y hY H.size x0 (S.1 x0 1) x1 x3 hx0 S _) (cwV 3 hts (gG_V gw_571 gw_572 gw_573 gw_3 gw_574) rfl rfl rfl (by decide +kernel) ⟨Nat.le_of_ble_eq_true rfl, Nat.le_of_ble_eq_true rfl⟩) ⟨gPre_blind, g_recv hK hP hx0 (gce_Frame hx0.1) rfl, g_pre hK hSt hS hP hw⟩ rfl rfl hl.1 rfl (lv_room (Nat.le_of_ble_eq_true rfl)) d_Frame_add_21 ⟨Nat.zero_le _, Nat.zero_le _⟩) hS (fun S2 H locs hw hP hS => ?_)
    refine lv_aload_n hx hb d_Frame_add_24 rfl (lv_at hl 0 rfl) ?_
    refine lv_dup hx hb d_Frame_add_25 rfl ?_
    refine g_get hx hb hts (fun w h => List.mem_cons_of_mem _ (in_Frame w h)) hown hK hP hx0 (gce_Frame hx0.1) rfl 1 (by decide) (hts _ (List.mem_cons_of_mem _ gw_57)) rfl d_Frame_add_26 ?_
    refine lv_iload_n hx hb d_Frame_add_29 rfl (lv_at hl 2 rfl) ?_
    refine lv_iadd hx hb d_Frame_add_30 ?_
    refine g_put (ty := .int) (v := .int ((S2.1 x0 1) + x3)) (S' := gset S2 x0 1 ((S2.1 x0 1) + x3)) hx hb hts (fun w h => List.mem_cons_of_mem _ (in_Frame w h)) ty_Frame tyok_Frame nm_Frame hown hK hY.1 hP hS hx0 (gce_Frame hx0.1) rfl 1 (by decide) (hts _ (List.mem_cons_of_mem _ gw_57)) rfl (by decide +kernel) rfl rfl (Nat.le_of_ble_eq_true rfl) (gp_Frame_size hx0.1) gce_gset d_Frame_add_31 (fun H locs hP hS => ?_)
    obtain ⟨S3, eS3⟩ : ∃ z, z = gset S2 x0 1 ((S2.1 x0 1) + x3) := ⟨_, rfl⟩
    rw [← eS3] at hP
    replace hw := hw S3 eS3
    exact W.vret hx hb hr (fun t ht hW => ⟨⟨S3, rfl, hw, by rw [ht]; exact hP, va_K.moved hW.alike hK⟩, hS.F ht⟩) hS.2.2 d_Frame_add_34
set_option maxHeartbeats 4000000 in
set_option maxRecDepth 100000 in
theorem k_Frame_add (l : Launch) (Y : gY) (hY : gOK Y) (sz : Nat) (x0 : gI) (x1 : Int64) (x3 : Int32)  (hx0 : gis Y 3 x0) (S : gS) (Q : gS → Prop) : Met l y_Frame_add w_Frame_add (gRm 1 25) (gPre Y [.ref (gad Y x0), .long x1, .int x3] S sz (wp_Frame_add (gLn Y) Q x0 x1 x3 S)) (va_Qv Q (gB Y) (gA Y sz)) 0 0 (gA Y sz) := by
  refine Met.ofW (cc := c_Frame_add) (maxL := 4) (ret := (Option.none : Option Jvm.ClassFile.FieldType)) (by decide) rfl ?_
  intro p e s m args below meth c s₁ B hml hv
  obtain ⟨rfl, hsz, hP, hK, hSt, hw⟩ := hv
  subst hsz
  have hts := atoms_spec (ws := w_Frame_add) B.pre
  have hl := lv_entry ([.ref (gad Y x0), .long x1, .int x3]) (n := 4) (Nat.le_of_ble_eq_true rfl)
  rw [lg_entry_eq]
  generalize (lg_sl ([.ref (gad Y x0), .long x1, .int x3]) ++ List.replicate (4 - (lg_sl ([.ref (gad Y x0), .long x1, .int x3])).length) Slot.unset).toArray = ls at hl ⊢
  exact mw_Frame_add ⟨B.exec, B.bytes, hml, findClass_of_methodNamed B.named, hts, B.returns, B.notSynchronized, hK, hY, hSt⟩ x0 x1 x3 S s.heap [] ls hx0 hw hP va_S.rf hl

def wp_Frame_addBytes (Ln : gI → Nat) (Q : gS → Prop) (x0 : gI) (x1 : gI) (x2 : Int32)  (S : gS) : Prop :=
  (((Int32.ofNat (Ln x1)) < x2) → (Q S)) ∧ ((¬ (Int32.ofNat (Ln x1)) < x2) → (((((Int32.ofNat (Ln (grf x0 0))) - (S.1 x0 1)) < x2) → (Q S)) ∧ ((¬ ((Int32.ofNat (Ln (grf x0 0))) - (S.1 x0 1)) < x2) → ((¬ (0 : Int32) < 0 ∧ ¬ (S.1 x0 1) < 0 ∧ ¬ x2 < 0 ∧ (0 : Int32).toNatClampNeg + x2.toNatClampNeg ≤ Ln x1 ∧ (S.1 x0 1).toNatClampNeg + x2.toNatClampNeg ≤ Ln (grf x0 0) ∧ ∀ a, a < x2.toNatClampNeg → fits .byte (.int (S.1 x1 ((0 : Int32).toNatClampNeg + a))) = true) ∧ (∀ S3 : gS, S3 = gcpy S x1 (0 : Int32).toNatClampNeg (grf x0 0) (S.1 x0 1).toNatClampNeg x2.toNatClampNeg → (∀ S4 : gS, S4 = gset S3 x0 1 ((S3.1 x0 1) + x2) → (Q S4)))))))
set_option maxHeartbeats 4000000 in
set_option maxRecDepth 100000 in
theorem mw_Frame_addBytes {p : Program} {l : Launch} {e : Env} {s : State} {m : MethodId} {args : Array Value} {below : List Frame} {meth : Method} {c : Code} {Y : gY} {Q : gS → Prop} (C : gCx p s m args meth c Y "LogDisk$Frame" c_Frame_addBytes 3 (Option.none : Option Jvm.ClassFile.FieldType) w_Frame_addBytes) : ∀ (x0 : gI) (x1 : gI) (x2 : Int32)  (S : gS) (H : Heap) (locs : List Loc) (ls : Array Slot), gis Y 3 x0 → gis Y 21 x1 → wp_Frame_addBytes (gLn Y) Q x0 x1 x2 S → gWd Y S H → va_S (gA Y s.heap.size) s.heap H locs → lv_has ls 3 [(0, .ref (gad Y x0)), (1, .ref (gad Y x1)), (2, .int x2)] → W p l e (gRm 1 60) s m args below meth c H locs 0 0 (MQ below (va_Qv Q (gB Y) (gA Y s.heap.size)) args s 0 0 (gA Y s.heap.size)) (F0 m 0 ls []) := by
  have C0 := C
  obtain ⟨hx, hb, hml, hown, hts, hr, hlocks, hK, hY, hSt⟩ := C
  intro x0 x1 x2 S H locs ls hx0 hx1 hw hP hS hl
  unfold wp_Frame_addBytes at hw
  refine lv_iload_n hx hb d_Frame_addBytes_0 rfl (lv_at hl 2 rfl) ?_
  refine lv_aload_n hx hb d_Frame_addBytes_1 rfl (lv_at hl 1 rfl) ?_
  refine g_alenB hx hb hK hP hx1 d_Frame_addBytes_2 ?_
  refine lv_icmp_gt (tgt := 44) hx hb d_Frame_addBytes_3 (by decide) (fun c1 => ?_) (fun c1 => ?_)
  · replace hw := hw.1 c1
    exact W.vret hx hb hr (fun t ht hW => ⟨⟨S, rfl, hw, by rw [ht]; exact hP, va_K.moved hW.alike hK⟩, hS.F ht⟩) hS.2.2 d_Frame_addBytes_44
  · replace hw := hw.2 c1
    refine lv_iload_n hx hb d_Frame_addBytes_6 rfl (lv_at hl 2 rfl) ?_
    refine lv_aload_n hx hb d_Frame_addBytes_7 rfl (lv_at hl 0 rfl) ?_
    refine g_get hx hb hts (fun w h => List.mem_cons_of_mem _ (in_Frame w h)) hown hK hP hx0 (gce_Frame hx0.1) rfl 0 (by decide) (hts _ (List.mem_cons_of_mem _ gw_55)) rfl d_Frame_addBytes_8 ?_
    refine g_alenB hx hb hK hP (gis_Frame_bytes hY hx0) d_Frame_addBytes_11 ?_
    refine lv_aload_n hx hb d_Frame_addBytes_12 rfl (lv_at hl 0 rfl) ?_
    refine g_get hx hb hts (fun w h => List.mem_cons_of_mem _ (in_Frame w h)) hown hK hP hx0 (gce_Frame hx0.1) rfl 1 (by decide) (hts _ (List.mem_cons_of_mem _ gw_57)) rfl d_Frame_addBytes_13 ?_
    refine lv_isub hx hb d_Frame_addBytes_16 ?_
    refine lv_icmp_gt (tgt := 44) hx hb d_Frame_addBytes_17 (by decide) (fun c2 => ?_) (fun c2 => ?_)
    · replace hw := hw.1 c2
      exact W.vret hx hb hr (fun t ht hW => ⟨⟨S, rfl, hw, by rw [ht]; exact hP, va_K.moved hW.alike hK⟩, hS.F ht⟩) hS.2.2 d_Frame_addBytes_44
    · replace hw := hw.2 c2
      refine lv_aload_n hx hb d_Frame_addBytes_20 rfl (lv_at hl 1 rfl) ?_
      refine lv_iconst (v := 0) hx hb d_Frame_addBytes_21 (by decide) ?_
      refine lv_aload_n hx hb d_Frame_addBytes_22 rfl (lv_at hl 0 rfl) ?_
      refine g_get hx hb hts (fun w h => List.mem_cons_of_mem _ (in_Frame w h)) hown hK hP hx0 (gce_Frame hx0.1) rfl 0 (by decide) (hts _ (List.mem_cons_of_mem _ gw_55)) rfl d_Frame_addBytes_23 ?_
      refine lv_aload_n hx hb d_Frame_addBytes_26 rfl (lv_at hl 0 rfl) ?_
      refine g_get hx hb hts (fun w h => List.mem_cons_of_mem _ (in_Frame w h)) hown hK hP hx0 (gce_Frame hx0.1) rfl 1 (by decide) (hts _ (List.mem_cons_of_mem _ gw_57)) rfl d_Frame_addBytes_27 ?_
      refine lv_iload_n hx hb d_Frame_addBytes_30 rfl (lv_at hl 2 rfl) ?_
      obtain ⟨⟨a1, a2, a3, a4, a5, a6⟩, hw⟩ := hw
      refine g_copyB hx hb (by rw [hml]; exact hl.1.symm) hown (hts _ (List.mem_cons_of_mem _ gw_650)) (hts _ (List.mem_cons_of_mem _ gw_598)) (hts _ (List.mem_cons_of_mem _ gw_597)) (hts _ (List.mem_cons_of_mem _ gw_19)) hK hY.1 hP hS hx1 (gis_Frame_bytes hY hx0) a1 a2 a3 a4 a5 a6 (Nat.le_of_ble_eq_true rfl) (by decide +kernel) d_Frame_addBytes_31 (fun S3 eS3 H locs hP hS => ?_)
      replace hw := hw S3 eS3
      refine lv_aload_n hx hb d_Frame_addBytes_34 rfl (lv_at hl 0 rfl) ?_
      refine lv_dup hx hb d_Frame_addBytes_35 rfl ?_
      refine g_get hx hb hts (fun w h => List.mem_cons_of_mem _ (in_Frame w h)) hown hK hP hx0 (gce_Frame hx0.1) rfl 1 (by decide) (hts _ (List.mem_cons_of_mem _ gw_57)) rfl d_Frame_addBytes_36 ?_
      refine lv_iload_n hx hb d_Frame_addBytes_39 rfl (lv_at hl 2 rfl) ?_
      refine lv_iadd hx hb d_Frame_addBytes_40 ?_
      refine g_put (ty := .int) (v := .int ((S3.1 x0 1) + x2)) (S' := gset S3 x0 1 ((S3.1 x0 1) + x2)) hx hb hts (fun w h => List.mem_cons_of_mem _ (in_Frame w h)) ty_Frame tyok_Frame nm_Frame hown hK hY.1 hP hS hx0 (gce_Frame hx0.1) rfl 1 (by decide) (hts _ (List.mem_cons_of_mem _ gw_57)) rfl (by decide +kernel) rfl rfl (Nat.le_of_ble_eq_true rfl) (gp_Frame_size hx0.1) gce_gset d_Frame_addBytes_41 (fun H locs hP hS => ?_)
      obtain ⟨S4, eS4⟩ : ∃ z, z = gset S3 x0 1 ((S3.1 x0 1) + x2) := ⟨_, rfl⟩
      rw [← eS4] at hP
      replace hw := hw S4 eS4
      exact W.vret hx hb hr (fun t ht hW => ⟨⟨S4, rfl, hw, by rw [ht]; exact hP, va_K.moved hW.alike hK⟩, hS.F ht⟩) hS.2.2 d_Frame_addBytes_44
set_option maxHeartbeats 4000000 in
set_option maxRecDepth 100000 in
theorem k_Frame_addBytes (l : Launch) (Y : gY) (hY : gOK Y) (sz : Nat) (x0 : gI) (x1 : gI) (x2 : Int32)  (hx0 : gis Y 3 x0) (hx1 : gis Y 21 x1) (S : gS) (Q : gS → Prop) : Met l y_Frame_addBytes w_Frame_addBytes (gRm 1 60) (gPre Y [.ref (gad Y x0), .ref (gad Y x1), .int x2] S sz (wp_Frame_addBytes (gLn Y) Q x0 x1 x2 S)) (va_Qv Q (gB Y) (gA Y sz)) 0 0 (gA Y sz) := by
  refine Met.ofW (cc := c_Frame_addBytes) (maxL := 3) (ret := (Option.none : Option Jvm.ClassFile.FieldType)) (by decide) rfl ?_
  intro p e s m args below meth c s₁ B hml hv
  obtain ⟨rfl, hsz, hP, hK, hSt, hw⟩ := hv
  subst hsz
  have hts := atoms_spec (ws := w_Frame_addBytes) B.pre
  have hl := lv_entry ([.ref (gad Y x0), .ref (gad Y x1), .int x2]) (n := 3) (Nat.le_of_ble_eq_true rfl)
  rw [lg_entry_eq]
  generalize (lg_sl ([.ref (gad Y x0), .ref (gad Y x1), .int x2]) ++ List.replicate (3 - (lg_sl ([.ref (gad Y x0), .ref (gad Y x1), .int x2])).length) Slot.unset).toArray = ls at hl ⊢
  exact mw_Frame_addBytes ⟨B.exec, B.bytes, hml, findClass_of_methodNamed B.named, hts, B.returns, B.notSynchronized, hK, hY, hSt⟩ x0 x1 x2 S s.heap [] ls hx0 hx1 hw hP va_S.rf hl

def wp_Frame_close_5 (Ln : gI → Nat) (Q : gS → Prop) : Nat → gI → Int32 → Int32 → gS → Prop
  | 0, _, _, _, _ => False
  | n5 + 1, x0, x1, x2, S => (((S.1 x0 1) ≤ x2) → (wp_Frame_put Ln (fun S2 => wp_Frame_put Ln (fun S3 => Q S3) x0 4 ((x1 ^^^ (-1 : Int32)).toInt64) 4 S2) x0 0 (((S.1 x0 1) - 8).toInt64) 4 S)) ∧ ((¬ (S.1 x0 1) ≤ x2) → (vp_in x2 (Ln (grf x0 0)) ∧ (wp_LogDisk_sumStep Ln (fun r5 S4 => ∀ v2_6 : Int32, v2_6 = x2 + 1 → (wp_Frame_close_5 Ln Q n5 x0 r5 v2_6 S4)) x1 ((S.1 (grf x0 0) x2.toNatClampNeg) &&& 255) S)))
def wp_Frame_close (Ln : gI → Nat) (Q : gS → Prop) (x0 : gI)  (S : gS) : Prop :=
  ∃ n5 : Nat, wp_Frame_close_5 Ln Q n5 x0 (-1 : Int32) 8 S
set_option maxHeartbeats 4000000 in
set_option maxRecDepth 100000 in
theorem mw_Frame_close_5 {p : Program} {l : Launch} {e : Env} {s : State} {m : MethodId} {args : Array Value} {below : List Frame} {meth : Method} {c : Code} {Y : gY} {Q : gS → Prop} (C : gCx p s m args meth c Y "LogDisk$Frame" c_Frame_close 3 (Option.none : Option Jvm.ClassFile.FieldType) w_Frame_close) : ∀ (n : Nat), ∀ (x0 : gI) (x1 : Int32) (x2 : Int32)  (S : gS) (H : Heap) (locs : List Loc) (ls : Array Slot), gis Y 3 x0 → wp_Frame_close_5 (gLn Y) Q n x0 x1 x2 S → gWd Y S H → va_S (gA Y s.heap.size) s.heap H locs → lv_has ls 3 [(0, .ref (gad Y x0)), (1, .int x1), (2, .int x2)] → W p l e (gRm 1 25) s m args below meth c H locs 0 0 (MQ below (va_Qv Q (gB Y) (gA Y s.heap.size)) args s 0 0 (gA Y s.heap.size)) (F0 m 5 ls []) := by
  have C0 := C
  obtain ⟨hx, hb, hml, hown, hts, hr, hlocks, hK, hY, hSt⟩ := C
  intro n
  induction n with
  | zero =>
    intro x0 x1 x2 S H locs ls hx0 hw
    exact False.elim hw
  | succ n ih =>
    intro x0 x1 x2 S H locs ls hx0 hw hP hS hl
    unfold wp_Frame_close_5 at hw
    refine lv_iload_n hx hb d_Frame_close_5 rfl (lv_at hl 2 rfl) ?_
    refine lv_aload_n hx hb d_Frame_close_6 rfl (lv_at hl 0 rfl) ?_
    refine g_get hx hb hts (fun w h => List.mem_cons_of_mem _ (in_Frame w h)) hown hK hP hx0 (gce_Frame hx0.1) rfl 1 (by decide) (hts _ (List.mem_cons_of_mem _ gw_57)) rfl d_Frame_close_7 ?_
    refine lv_icmp_ge (tgt := 34) hx hb d_Frame_close_10 (by decide) (fun c1 => ?_) (fun c1 => ?_)
    · replace hw := hw.1 c1
      refine lv_aload_n hx hb d_Frame_close_34 rfl (lv_at hl 0 rfl) ?_
      refine lv_iconst (v := 0) hx hb d_Frame_close_35 (by decide) ?_
      refine lv_aload_n hx hb d_Frame_close_36 rfl (lv_at hl 0 rfl) ?_
      refine g_get hx hb hts (fun w h => List.mem_cons_of_mem _ (in_Frame w h)) hown hK hP hx0 (gce_Frame hx0.1) rfl 1 (by decide) (hts _ (List.mem_cons_of_mem _ gw_57)) rfl d_Frame_close_37 ?_
      refine lv_bipush (v := 8) hx hb d_Frame_close_40 (by decide) ?_
      refine lv_isub hx hb d_Frame_close_42 ?_
      refine lv_i2l hx hb d_Frame_close_43 rfl ?_
      refine lv_iconst (v := 4) hx hb d_Frame_close_44 (by decide) ?_
      refine g_callv (va_runV (As := [.int 0, .long (((S.1 x0 1) - 8).toInt64), .int 4]) (rest := []) ⟨hx, hb, hml, hown, hts⟩ (k_Frame_put l Y hY H.size x0 0 (((S.1 x0 1) - 8).toInt64) 4 hx0 S _) (cwV 3 hts (gG_V gw_571 gw_572 gw_573 gw_3 gw_574) rfl rfl rfl (by decide +kernel) ⟨Nat.le_of_ble_eq_true rfl, Nat.le_of_ble_eq_true rfl⟩) ⟨gPre_blind, g_recv hK hP hx0 (gce_Frame hx0.1) rfl, g_pre hK hSt hS hP hw⟩ rfl rfl hl.1 rfl (lv_room (Nat.le_of_ble_eq_true rfl)) d_Frame_close_45 ⟨Nat.zero_le _, Nat.zero_le _⟩) hS (fun S2 H locs hw hP hS => ?_)
      refine lv_aload_n hx hb d_Frame_close_48 rfl (lv_at hl 0 rfl) ?_
      refine lv_iconst (v := 4) hx hb d_Frame_close_49 (by decide) ?_
      refine lv_iload_n hx hb d_Frame_close_50 rfl (lv_at hl 1 rfl) ?_
      refine lv_iconst (v := (-1 : Int32)) hx hb d_Frame_close_51 (by decide) ?_
      refine lv_ixor hx hb d_Frame_close_52 ?_
      refine lv_i2l hx hb d_Frame_close_53 rfl ?_
      refine lv_iconst (v := 4) hx hb d_Frame_close_54 (by decide) ?_
      refine g_callv (va_runV (As := [.int 4, .long ((x1 ^^^ (-1 : Int32)).toInt64), .int 4]) (rest := []) ⟨hx, hb, hml, hown, hts⟩ (k_Frame_put l Y hY H.size x0 4 ((x1 ^^^ (-1 : Int32)).toInt64) 4 hx0 S2 _) (cwV 3 hts (gG_V gw_571 gw_572 gw_573 gw_3 gw_574) rfl rfl rfl (by decide +kernel) ⟨Nat.le_of_ble_eq_true rfl, Nat.le_of_ble_eq_true rfl⟩) ⟨gPre_blind, g_recv hK hP hx0 (gce_Frame hx0.1) rfl, g_pre hK hSt hS hP hw⟩ rfl rfl hl.1 rfl (lv_room (Nat.le_of_ble_eq_true rfl)) d_Frame_close_55 ⟨Nat.zero_le _, Nat.zero_le _⟩) hS (fun S3 H locs hw hP hS => ?_)
      exact W.vret hx hb hr (fun t ht hW => ⟨⟨S3, rfl, hw, by rw [ht]; exact hP, va_K.moved hW.alike hK⟩, hS.F ht⟩) hS.2.2 d_Frame_close_58
    · replace hw := hw.2 c1
      refine lv_iload_n hx hb d_Frame_close_13 rfl (lv_at hl 1 rfl) ?_
      refine lv_aload_n hx hb d_Frame_close_14 rfl (lv_at hl 0 rfl) ?_
      refine g_get hx hb hts (fun w h => List.mem_cons_of_mem _ (in_Frame w h)) hown hK hP hx0 (gce_Frame hx0.1) rfl 0 (by decide) (hts _ (List.mem_cons_of_mem _ gw_55)) rfl d_Frame_close_15 ?_
      refine lv_iload_n hx hb d_Frame_close_18 rfl (lv_at hl 2 rfl) ?_
      obtain ⟨hin, hw⟩ := hw
      refine g_baload hx hb hK hP (gis_Frame_bytes hY hx0) hin d_Frame_close_19 ?_
      refine lv_sipush (v := 255) hx hb d_Frame_close_20 (by decide) ?_
      refine lv_iand hx hb d_Frame_close_23 ?_
      refine g_calli (va_runSN (As := [.int x1, .int ((S.1 (grf x0 0) x2.toNatClampNeg) &&& 255)]) (rest := []) ⟨hx, hb, hml, hown, hts⟩ (k_LogDisk_sumStep l Y hY H.size x1 ((S.1 (grf x0 0) x2.toNatClampNeg) &&& 255) S _) ⟨va_cnB 2 hts (gG_N gw_350) rfl rfl rfl hSt.1.2.2.2 (hts _ (List.mem_cons_of_mem _ gw_1)) (by decide +kernel) ⟨Nat.le_of_ble_eq_true rfl, Nat.le_of_ble_eq_true rfl⟩, (hts _ (List.mem_cons_of_mem _ gw_349)), trivial⟩ ⟨gPre_blind, g_pre hK hSt hS hP hw⟩ rfl rfl hl.1 rfl (lv_room (Nat.le_of_ble_eq_true rfl)) d_Frame_close_24 ⟨Nat.zero_le _, Nat.zero_le _⟩) hS (fun r5 S4 H locs hw hP hS => ?_)
      refine lv_istore_n (lv' := [(1, .int r5), (0, .ref (gad Y x0)), (2, .int x2)]) hx hb d_Frame_close_27 rfl hl (by decide) rfl (fun ls hl => ?_)
      obtain ⟨v2_6, ev2_6⟩ : ∃ y : Int32, y = x2 + 1 := ⟨_, rfl⟩
      replace hw := hw v2_6 ev2_6
      refine lv_iinc (v := v2_6) (lv' := [(2, .int v2_6), (1, .int r5), (0, .ref (gad Y x0))]) hx hb d_Frame_close_28 hl (k := 2) rfl (by rw [ev2_6]; rfl) (by decide) rfl (fun ls hl => ?_)
      refine lv_goto (tgt := 5) hx hb d_Frame_close_31 (by decide) ?_
      exact ih x0 r5 v2_6 S4 H locs ls hx0 hw hP hS (lv_sub hl [2, 1, 0] rfl)
set_option maxHeartbeats 4000000 in
set_option maxRecDepth 100000 in
theorem mw_Frame_close {p : Program} {l : Launch} {e : Env} {s : State} {m : MethodId} {args : Array Value} {below : List Frame} {meth : Method} {c : Code} {Y : gY} {Q : gS → Prop} (C : gCx p s m args meth c Y "LogDisk$Frame" c_Frame_close 3 (Option.none : Option Jvm.ClassFile.FieldType) w_Frame_close) : ∀ (x0 : gI)  (S : gS) (H : Heap) (locs : List Loc) (ls : Array Slot), gis Y 3 x0 → wp_Frame_close (gLn Y) Q x0 S → gWd Y S H → va_S (gA Y s.heap.size) s.heap H locs → lv_has ls 3 [(0, .ref (gad Y x0))] → W p l e (gRm 1 25) s m args below meth c H locs 0 0 (MQ below (va_Qv Q (gB Y) (gA Y s.heap.size)) args s 0 0 (gA Y s.heap.size)) (F0 m 0 ls []) := by
  have C0 := C
  obtain ⟨hx, hb, hml, hown, hts, hr, hlocks, hK, hY, hSt⟩ := C
  intro x0 S H locs ls hx0 hw hP hS hl
  unfold wp_Frame_close at hw
  refine lv_iconst (v := (-1 : Int32)) hx hb d_Frame_close_0 (by decide) ?_
  refine lv_istore_n (lv' := [(1, .int (-1 : Int32)), (0, .ref (gad Y x0))]) hx hb d_Frame_close_1 rfl hl (by decide) rfl (fun ls hl => ?_)
  refine lv_bipush (v := 8) hx hb d_Frame_close_2 (by decide) ?_
  refine lv_istore_n (lv' := [(2, .int 8), (1, .int (-1 : Int32)), (0, .ref (gad Y x0))]) hx hb d_Frame_close_4 rfl hl (by decide) rfl (fun ls hl => ?_)
  obtain ⟨n, hw⟩ := hw
  exact mw_Frame_close_5 C0 n x0 (-1 : Int32) 8 S H locs ls hx0 hw hP hS (lv_sub hl [2, 1, 0] rfl)
set_option maxHeartbeats 4000000 in
set_option maxRecDepth 100000 in
theorem k_Frame_close (l : Launch) (Y : gY) (hY : gOK Y) (sz : Nat) (x0 : gI)  (hx0 : gis Y 3 x0) (S : gS) (Q : gS → Prop) : Met l y_Frame_close w_Frame_close (gRm 1 25) (gPre Y [.ref (gad Y x0)] S sz (wp_Frame_close (gLn Y) Q x0 S)) (va_Qv Q (gB Y) (gA Y sz)) 0 0 (gA Y sz) := by
  refine Met.ofW (cc := c_Frame_close) (maxL := 3) (ret := (Option.none : Option Jvm.ClassFile.FieldType)) (by decide) rfl ?_
  intro p e s m args below meth c s₁ B hml hv
  obtain ⟨rfl, hsz, hP, hK, hSt, hw⟩ := hv
  subst hsz
  have hts := atoms_spec (ws := w_Frame_close) B.pre
  have hl := lv_entry ([.ref (gad Y x0)]) (n := 3) (Nat.le_of_ble_eq_true rfl)
  rw [lg_entry_eq]
  generalize (lg_sl ([.ref (gad Y x0)]) ++ List.replicate (3 - (lg_sl ([.ref (gad Y x0)])).length) Slot.unset).toArray = ls at hl ⊢
  exact mw_Frame_close ⟨B.exec, B.bytes, hml, findClass_of_methodNamed B.named, hts, B.returns, B.notSynchronized, hK, hY, hSt⟩ x0 S s.heap [] ls hx0 hw hP va_S.rf hl

def wp_Segments_add (Ln : gI → Nat) (Q : gS → Prop) (x0 : gI) (x1 : Int32) (x2 : Int32)  (S : gS) : Prop :=
  ((12 ≤ (S.1 x0 2)) → (Q S)) ∧ ((¬ 12 ≤ (S.1 x0 2)) → (vp_in (S.1 x0 2) (Ln (grf x0 0)) ∧ (∀ S2 : gS, S2 = gset S (grf x0 0) (S.1 x0 2).toNatClampNeg x1 → (vp_in (S2.1 x0 2) (Ln (grf x0 1)) ∧ (∀ S3 : gS, S3 = gset S2 (grf x0 1) (S2.1 x0 2).toNatClampNeg x2 → (∀ S4 : gS, S4 = gset S3 x0 2 ((S3.1 x0 2) + 1) → (Q S4)))))))
set_option maxHeartbeats 4000000 in
set_option maxRecDepth 100000 in
theorem mw_Segments_add {p : Program} {l : Launch} {e : Env} {s : State} {m : MethodId} {args : Array Value} {below : List Frame} {meth : Method} {c : Code} {Y : gY} {Q : gS → Prop} (C : gCx p s m args meth c Y "LogDisk$Segments" c_Segments_add 3 (Option.none : Option Jvm.ClassFile.FieldType) w_Segments_add) : ∀ (x0 : gI) (x1 : Int32) (x2 : Int32)  (S : gS) (H : Heap) (locs : List Loc) (ls : Array Slot), gis Y 5 x0 → wp_Segments_add (gLn Y) Q x0 x1 x2 S → gWd Y S H → va_S (gA Y s.heap.size) s.heap H locs → lv_has ls 3 [(0, .ref (gad Y x0)), (1, .int x1), (2, .int x2)] → W p l e (gRm 0 0) s m args below meth c H locs 0 0 (MQ below (va_Qv Q (gB Y) (gA Y s.heap.size)) args s 0 0 (gA Y s.heap.size)) (F0 m 0 ls []) := by
  have C0 := C
  obtain ⟨hx, hb, hml, hown, hts, hr, hlocks, hK, hY, hSt⟩ := C
  intro x0 x1 x2 S H locs ls hx0 hw hP hS hl
  unfold wp_Segments_add at hw
  refine lv_aload_n hx hb d_Segments_add_0 rfl (lv_at hl 0 rfl) ?_
  refine g_get hx hb hts (fun w h => List.mem_cons_of_mem _ (in_Segments w h)) hown hK hP hx0 (gce_Segments hx0.1) rfl 2 (by decide) (hts _ (List.mem_cons_of_mem _ gw_124)) rfl d_Segments_add_1 ?_
  refine lv_bipush (v := 12) hx hb d_Segments_add_4 (by decide) ?_
  refine lv_icmp_ge (tgt := 39) hx hb d_Segments_add_6 (by decide) (fun c1 => ?_) (fun c1 => ?_)
  · replace hw := hw.1 c1
    exact W.vret hx hb hr (fun t ht hW => ⟨⟨S, rfl, hw, by rw [ht]; exact hP, va_K.moved hW.alike hK⟩, hS.F ht⟩) hS.2.2 d_Segments_add_39
  · replace hw := hw.2 c1
    refine lv_aload_n hx hb d_Segments_add_9 rfl (lv_at hl 0 rfl) ?_
    refine g_get hx hb hts (fun w h => List.mem_cons_of_mem _ (in_Segments w h)) hown hK hP hx0 (gce_Segments hx0.1) rfl 0 (by decide) (hts _ (List.mem_cons_of_mem _ gw_120)) rfl d_Segments_add_10 ?_
    refine lv_aload_n hx hb d_Segments_add_13 rfl (lv_at hl 0 rfl) ?_
    refine g_get hx hb hts (fun w h => List.mem_cons_of_mem _ (in_Segments w h)) hown hK hP hx0 (gce_Segments hx0.1) rfl 2 (by decide) (hts _ (List.mem_cons_of_mem _ gw_124)) rfl d_Segments_add_14 ?_
    refine lv_iload_n hx hb d_Segments_add_17 rfl (lv_at hl 1 rfl) ?_
    obtain ⟨hin, hw⟩ := hw
    refine g_iastore hx hb hK hY.1 hP hS (gis_Segments_file hY hx0) hin d_Segments_add_18 (fun S2 eS2 H locs hP hS => ?_)
    replace hw := hw S2 eS2
    refine lv_aload_n hx hb d_Segments_add_19 rfl (lv_at hl 0 rfl) ?_
    refine g_get hx hb hts (fun w h => List.mem_cons_of_mem _ (in_Segments w h)) hown hK hP hx0 (gce_Segments hx0.1) rfl 1 (by decide) (hts _ (List.mem_cons_of_mem _ gw_122)) rfl d_Segments_add_20 ?_
    refine lv_aload_n hx hb d_Segments_add_23 rfl (lv_at hl 0 rfl) ?_
    refine g_get hx hb hts (fun w h => List.mem_cons_of_mem _ (in_Segments w h)) hown hK hP hx0 (gce_Segments hx0.1) rfl 2 (by decide) (hts _ (List.mem_cons_of_mem _ gw_124)) rfl d_Segments_add_24 ?_
    refine lv_iload_n hx hb d_Segments_add_27 rfl (lv_at hl 2 rfl) ?_
    obtain ⟨hin, hw⟩ := hw
    refine g_iastore hx hb hK hY.1 hP hS (gis_Segments_first hY hx0) hin d_Segments_add_28 (fun S3 eS3 H locs hP hS => ?_)
    replace hw := hw S3 eS3
    refine lv_aload_n hx hb d_Segments_add_29 rfl (lv_at hl 0 rfl) ?_
    refine lv_dup hx hb d_Segments_add_30 rfl ?_
    refine g_get hx hb hts (fun w h => List.mem_cons_of_mem _ (in_Segments w h)) hown hK hP hx0 (gce_Segments hx0.1) rfl 2 (by decide) (hts _ (List.mem_cons_of_mem _ gw_124)) rfl d_Segments_add_31 ?_
    refine lv_iconst (v := 1) hx hb d_Segments_add_34 (by decide) ?_
    refine lv_iadd hx hb d_Segments_add_35 ?_
    refine g_put (ty := .int) (v := .int ((S3.1 x0 2) + 1)) (S' := gset S3 x0 2 ((S3.1 x0 2) + 1)) hx hb hts (fun w h => List.mem_cons_of_mem _ (in_Segments w h)) ty_Segments tyok_Segments nm_Segments hown hK hY.1 hP hS hx0 (gce_Segments hx0.1) rfl 2 (by decide) (hts _ (List.mem_cons_of_mem _ gw_124)) rfl (by decide +kernel) rfl rfl (Nat.le_of_ble_eq_true rfl) (gp_Segments_count hx0.1) gce_gset d_Segments_add_36 (fun H locs hP hS => ?_)
    obtain ⟨S4, eS4⟩ : ∃ z, z = gset S3 x0 2 ((S3.1 x0 2) + 1) := ⟨_, rfl⟩
    rw [← eS4] at hP
    replace hw := hw S4 eS4
    exact W.vret hx hb hr (fun t ht hW => ⟨⟨S4, rfl, hw, by rw [ht]; exact hP, va_K.moved hW.alike hK⟩, hS.F ht⟩) hS.2.2 d_Segments_add_39
set_option maxHeartbeats 4000000 in
set_option maxRecDepth 100000 in
theorem k_Segments_add (l : Launch) (Y : gY) (hY : gOK Y) (sz : Nat) (x0 : gI) (x1 : Int32) (x2 : Int32)  (hx0 : gis Y 5 x0) (S : gS) (Q : gS → Prop) : Met l y_Segments_add w_Segments_add (gRm 0 0) (gPre Y [.ref (gad Y x0), .int x1, .int x2] S sz (wp_Segments_add (gLn Y) Q x0 x1 x2 S)) (va_Qv Q (gB Y) (gA Y sz)) 0 0 (gA Y sz) := by
  refine Met.ofW (cc := c_Segments_add) (maxL := 3) (ret := (Option.none : Option Jvm.ClassFile.FieldType)) (by decide) rfl ?_
  intro p e s m args below meth c s₁ B hml hv
  obtain ⟨rfl, hsz, hP, hK, hSt, hw⟩ := hv
  subst hsz
  have hts := atoms_spec (ws := w_Segments_add) B.pre
  have hl := lv_entry ([.ref (gad Y x0), .int x1, .int x2]) (n := 3) (Nat.le_of_ble_eq_true rfl)
  rw [lg_entry_eq]
  generalize (lg_sl ([.ref (gad Y x0), .int x1, .int x2]) ++ List.replicate (3 - (lg_sl ([.ref (gad Y x0), .int x1, .int x2])).length) Slot.unset).toArray = ls at hl ⊢
  exact mw_Segments_add ⟨B.exec, B.bytes, hml, findClass_of_methodNamed B.named, hts, B.returns, B.notSynchronized, hK, hY, hSt⟩ x0 x1 x2 S s.heap [] ls hx0 hw hP va_S.rf hl

def wp_Segments_lastFile (Ln : gI → Nat) (Q : Int32 → gS → Prop) (x0 : gI)  (S : gS) : Prop :=
  ((¬ (S.1 x0 2) = 0) → (vp_in ((S.1 x0 2) - 1) (Ln (grf x0 0)) ∧ (Q (S.1 (grf x0 0) ((S.1 x0 2) - 1).toNatClampNeg) S))) ∧ (((S.1 x0 2) = 0) → (Q (-1 : Int32) S))
set_option maxHeartbeats 4000000 in
set_option maxRecDepth 100000 in
theorem mw_Segments_lastFile {p : Program} {l : Launch} {e : Env} {s : State} {m : MethodId} {args : Array Value} {below : List Frame} {meth : Method} {c : Code} {Y : gY} {Q : Int32 → gS → Prop} (C : gCx p s m args meth c Y "LogDisk$Segments" c_Segments_lastFile 1 (Option.some Jvm.ClassFile.FieldType.int) w_Segments_lastFile) : ∀ (x0 : gI)  (S : gS) (H : Heap) (locs : List Loc) (ls : Array Slot), gis Y 5 x0 → wp_Segments_lastFile (gLn Y) Q x0 S → gWd Y S H → va_S (gA Y s.heap.size) s.heap H locs → lv_has ls 1 [(0, .ref (gad Y x0))] → W p l e (gRm 0 0) s m args below meth c H locs 0 0 (MQ below (va_Qi Q (gB Y) (gA Y s.heap.size)) args s 0 0 (gA Y s.heap.size)) (F0 m 0 ls []) := by
  have C0 := C
  obtain ⟨hx, hb, hml, hown, hts, hr, hlocks, hK, hY, hSt⟩ := C
  intro x0 S H locs ls hx0 hw hP hS hl
  unfold wp_Segments_lastFile at hw
  refine lv_aload_n hx hb d_Segments_lastFile_0 rfl (lv_at hl 0 rfl) ?_
  refine g_get hx hb hts (fun w h => List.mem_cons_of_mem _ (in_Segments w h)) hown hK hP hx0 (gce_Segments hx0.1) rfl 2 (by decide) (hts _ (List.mem_cons_of_mem _ gw_124)) rfl d_Segments_lastFile_1 ?_
  refine lv_if_ne (tgt := 11) hx hb d_Segments_lastFile_4 (by decide) (fun c1 => ?_) (fun c1 => ?_)
  · replace hw := hw.1 c1
    refine lv_aload_n hx hb d_Segments_lastFile_11 rfl (lv_at hl 0 rfl) ?_
    refine g_get hx hb hts (fun w h => List.mem_cons_of_mem _ (in_Segments w h)) hown hK hP hx0 (gce_Segments hx0.1) rfl 0 (by decide) (hts _ (List.mem_cons_of_mem _ gw_120)) rfl d_Segments_lastFile_12 ?_
    refine lv_aload_n hx hb d_Segments_lastFile_15 rfl (lv_at hl 0 rfl) ?_
    refine g_get hx hb hts (fun w h => List.mem_cons_of_mem _ (in_Segments w h)) hown hK hP hx0 (gce_Segments hx0.1) rfl 2 (by decide) (hts _ (List.mem_cons_of_mem _ gw_124)) rfl d_Segments_lastFile_16 ?_
    refine lv_iconst (v := 1) hx hb d_Segments_lastFile_19 (by decide) ?_
    refine lv_isub hx hb d_Segments_lastFile_20 ?_
    obtain ⟨hin, hw⟩ := hw
    refine g_iaload hx hb hK hP (gis_Segments_file hY hx0) hin d_Segments_lastFile_21 ?_
    exact W.iret (v := (S.1 (grf x0 0) ((S.1 x0 2) - 1).toNatClampNeg)) hx hb hr (fun t ht hW => ⟨⟨(S.1 (grf x0 0) ((S.1 x0 2) - 1).toNatClampNeg), S, rfl, hw, by rw [ht]; exact hP, va_K.moved hW.alike hK⟩, hS.F ht⟩) hS.2.2 d_Segments_lastFile_22
  · replace hw := hw.2 c1
    refine lv_iconst (v := (-1 : Int32)) hx hb d_Segments_lastFile_7 (by decide) ?_
    refine lv_goto (tgt := 22) hx hb d_Segments_lastFile_8 (by decide) ?_
    exact W.iret (v := (-1 : Int32)) hx hb hr (fun t ht hW => ⟨⟨(-1 : Int32), S, rfl, hw, by rw [ht]; exact hP, va_K.moved hW.alike hK⟩, hS.F ht⟩) hS.2.2 d_Segments_lastFile_22
set_option maxHeartbeats 4000000 in
set_option maxRecDepth 100000 in
theorem k_Segments_lastFile (l : Launch) (Y : gY) (hY : gOK Y) (sz : Nat) (x0 : gI)  (hx0 : gis Y 5 x0) (S : gS) (Q : Int32 → gS → Prop) : Met l y_Segments_lastFile w_Segments_lastFile (gRm 0 0) (gPre Y [.ref (gad Y x0)] S sz (wp_Segments_lastFile (gLn Y) Q x0 S)) (va_Qi Q (gB Y) (gA Y sz)) 0 0 (gA Y sz) := by
  refine Met.ofW (cc := c_Segments_lastFile) (maxL := 1) (ret := (Option.some Jvm.ClassFile.FieldType.int)) (by decide) rfl ?_
  intro p e s m args below meth c s₁ B hml hv
  obtain ⟨rfl, hsz, hP, hK, hSt, hw⟩ := hv
  subst hsz
  have hts := atoms_spec (ws := w_Segments_lastFile) B.pre
  have hl := lv_entry ([.ref (gad Y x0)]) (n := 1) (Nat.le_of_ble_eq_true rfl)
  rw [lg_entry_eq]
  generalize (lg_sl ([.ref (gad Y x0)]) ++ List.replicate (1 - (lg_sl ([.ref (gad Y x0)])).length) Slot.unset).toArray = ls at hl ⊢
  exact mw_Segments_lastFile ⟨B.exec, B.bytes, hml, findClass_of_methodNamed B.named, hts, B.returns, B.notSynchronized, hK, hY, hSt⟩ x0 S s.heap [] ls hx0 hw hP va_S.rf hl

def wp_Segments_has_2 (Ln : gI → Nat) (Q : Int32 → gS → Prop) : Nat → gI → Int32 → Int32 → gS → Prop
  | 0, _, _, _, _ => False
  | n2 + 1, x0, x1, x2, S => (((S.1 x0 2) ≤ x2) → (Q 0 S)) ∧ ((¬ (S.1 x0 2) ≤ x2) → (vp_in x2 (Ln (grf x0 0)) ∧ (((¬ (S.1 (grf x0 0) x2.toNatClampNeg) = x1) → (∀ v2_3 : Int32, v2_3 = x2 + 1 → (wp_Segments_has_2 Ln Q n2 x0 x1 v2_3 S))) ∧ (((S.1 (grf x0 0) x2.toNatClampNeg) = x1) → (Q 1 S)))))
def wp_Segments_has (Ln : gI → Nat) (Q : Int32 → gS → Prop) (x0 : gI) (x1 : Int32)  (S : gS) : Prop :=
  ∃ n2 : Nat, wp_Segments_has_2 Ln Q n2 x0 x1 0 S
set_option maxHeartbeats 4000000 in
set_option maxRecDepth 100000 in
theorem mw_Segments_has_2 {p : Program} {l : Launch} {e : Env} {s : State} {m : MethodId} {args : Array Value} {below : List Frame} {meth : Method} {c : Code} {Y : gY} {Q : Int32 → gS → Prop} (C : gCx p s m args meth c Y "LogDisk$Segments" c_Segments_has 3 (Option.some Jvm.ClassFile.FieldType.boolean) w_Segments_has) : ∀ (n : Nat), ∀ (x0 : gI) (x1 : Int32) (x2 : Int32)  (S : gS) (H : Heap) (locs : List Loc) (ls : Array Slot), gis Y 5 x0 → wp_Segments_has_2 (gLn Y) Q n x0 x1 x2 S → gWd Y S H → va_S (gA Y s.heap.size) s.heap H locs → lv_has ls 3 [(0, .ref (gad Y x0)), (1, .int x1), (2, .int x2)] → W p l e (gRm 0 0) s m args below meth c H locs 0 0 (MQ below (va_Qi Q (gB Y) (gA Y s.heap.size)) args s 0 0 (gA Y s.heap.size)) (F0 m 2 ls []) := by
  have C0 := C
  obtain ⟨hx, hb, hml, hown, hts, hr, hlocks, hK, hY, hSt⟩ := C
  intro n
  induction n with
  | zero =>
    intro x0 x1 x2 S H locs ls hx0 hw
    exact False.elim hw
  | succ n ih =>
    intro x0 x1 x2 S H locs ls hx0 hw hP hS hl
    unfold wp_Segments_has_2 at hw
    refine lv_iload_n hx hb d_Segments_has_2 rfl (lv_at hl 2 rfl) ?_
    refine lv_aload_n hx hb d_Segments_has_3 rfl (lv_at hl 0 rfl) ?_
    refine g_get hx hb hts (fun w h => List.mem_cons_of_mem _ (in_Segments w h)) hown hK hP hx0 (gce_Segments hx0.1) rfl 2 (by decide) (hts _ (List.mem_cons_of_mem _ gw_124)) rfl d_Segments_has_4 ?_
    refine lv_icmp_ge (tgt := 28) hx hb d_Segments_has_7 (by decide) (fun c1 => ?_) (fun c1 => ?_)
    · replace hw := hw.1 c1
      refine lv_iconst (v := 0) hx hb d_Segments_has_28 (by decide) ?_
      exact W.zret (v := 0) hx hb hr rfl (fun t ht hW => ⟨⟨0, S, rfl, hw, by rw [ht]; exact hP, va_K.moved hW.alike hK⟩, hS.F ht⟩) hS.2.2 d_Segments_has_29
    · replace hw := hw.2 c1
      refine lv_aload_n hx hb d_Segments_has_10 rfl (lv_at hl 0 rfl) ?_
      refine g_get hx hb hts (fun w h => List.mem_cons_of_mem _ (in_Segments w h)) hown hK hP hx0 (gce_Segments hx0.1) rfl 0 (by decide) (hts _ (List.mem_cons_of_mem _ gw_120)) rfl d_Segments_has_11 ?_
      refine lv_iload_n hx hb d_Segments_has_14 rfl (lv_at hl 2 rfl) ?_
      obtain ⟨hin, hw⟩ := hw
      refine g_iaload hx hb hK hP (gis_Segments_file hY hx0) hin d_Segments_has_15 ?_
      refine lv_iload_n hx hb d_Segments_has_16 rfl (lv_at hl 1 rfl) ?_
      refine lv_icmp_ne (tgt := 22) hx hb d_Segments_has_17 (by decide) (fun c2 => ?_) (fun c2 => ?_)
      · replace hw := hw.1 c2
        obtain ⟨v2_3, ev2_3⟩ : ∃ y : Int32, y = x2 + 1 := ⟨_, rfl⟩
        replace hw := hw v2_3 ev2_3
        refine lv_iinc (v := v2_3) (lv' := [(2, .int v2_3), (0, .ref (gad Y x0)), (1, .int x1)]) hx hb d_Segments_has_22 hl (k := 2) rfl (by rw [ev2_3]; rfl) (by decide) rfl (fun ls hl => ?_)
        refine lv_goto (tgt := 2) hx hb d_Segments_has_25 (by decide) ?_
        exact ih x0 x1 v2_3 S H locs ls hx0 hw hP hS (lv_sub hl [1, 2, 0] rfl)
      · replace hw := hw.2 c2
        refine lv_iconst (v := 1) hx hb d_Segments_has_20 (by decide) ?_
        exact W.zret (v := 1) hx hb hr rfl (fun t ht hW => ⟨⟨1, S, rfl, hw, by rw [ht]; exact hP, va_K.moved hW.alike hK⟩, hS.F ht⟩) hS.2.2 d_Segments_has_21
set_option maxHeartbeats 4000000 in
set_option maxRecDepth 100000 in
theorem mw_Segments_has {p : Program} {l : Launch} {e : Env} {s : State} {m : MethodId} {args : Array Value} {below : List Frame} {meth : Method} {c : Code} {Y : gY} {Q : Int32 → gS → Prop} (C : gCx p s m args meth c Y "LogDisk$Segments" c_Segments_has 3 (Option.some Jvm.ClassFile.FieldType.boolean) w_Segments_has) : ∀ (x0 : gI) (x1 : Int32)  (S : gS) (H : Heap) (locs : List Loc) (ls : Array Slot), gis Y 5 x0 → wp_Segments_has (gLn Y) Q x0 x1 S → gWd Y S H → va_S (gA Y s.heap.size) s.heap H locs → lv_has ls 3 [(0, .ref (gad Y x0)), (1, .int x1)] → W p l e (gRm 0 0) s m args below meth c H locs 0 0 (MQ below (va_Qi Q (gB Y) (gA Y s.heap.size)) args s 0 0 (gA Y s.heap.size)) (F0 m 0 ls []) := by
  have C0 := C
  obtain ⟨hx, hb, hml, hown, hts, hr, hlocks, hK, hY, hSt⟩ := C
  intro x0 x1 S H locs ls hx0 hw hP hS hl
  unfold wp_Segments_has at hw
  refine lv_iconst (v := 0) hx hb d_Segments_has_0 (by decide) ?_
  refine lv_istore_n (lv' := [(2, .int 0), (0, .ref (gad Y x0)), (1, .int x1)]) hx hb d_Segments_has_1 rfl hl (by decide) rfl (fun ls hl => ?_)
  obtain ⟨n, hw⟩ := hw
  exact mw_Segments_has_2 C0 n x0 x1 0 S H locs ls hx0 hw hP hS (lv_sub hl [1, 2, 0] rfl)
set_option maxHeartbeats 4000000 in
set_option maxRecDepth 100000 in
theorem k_Segments_has (l : Launch) (Y : gY) (hY : gOK Y) (sz : Nat) (x0 : gI) (x1 : Int32)  (hx0 : gis Y 5 x0) (S : gS) (Q : Int32 → gS → Prop) : Met l y_Segments_has w_Segments_has (gRm 0 0) (gPre Y [.ref (gad Y x0), .int x1] S sz (wp_Segments_has (gLn Y) Q x0 x1 S)) (va_Qi Q (gB Y) (gA Y sz)) 0 0 (gA Y sz) := by
  refine Met.ofW (cc := c_Segments_has) (maxL := 3) (ret := (Option.some Jvm.ClassFile.FieldType.boolean)) (by decide) rfl ?_
  intro p e s m args below meth c s₁ B hml hv
  obtain ⟨rfl, hsz, hP, hK, hSt, hw⟩ := hv
  subst hsz
  have hts := atoms_spec (ws := w_Segments_has) B.pre
  have hl := lv_entry ([.ref (gad Y x0), .int x1]) (n := 3) (Nat.le_of_ble_eq_true rfl)
  rw [lg_entry_eq]
  generalize (lg_sl ([.ref (gad Y x0), .int x1]) ++ List.replicate (3 - (lg_sl ([.ref (gad Y x0), .int x1])).length) Slot.unset).toArray = ls at hl ⊢
  exact mw_Segments_has ⟨B.exec, B.bytes, hml, findClass_of_methodNamed B.named, hts, B.returns, B.notSynchronized, hK, hY, hSt⟩ x0 x1 S s.heap [] ls hx0 hw hP va_S.rf hl

def wp_Segments_endedBy_4 (Ln : gI → Nat) (Q : Int32 → gS → Prop) : Nat → gI → Int32 → Int32 → Int32 → gS → Prop
  | 0, _, _, _, _, _ => False
  | n4 + 1, x0, x1, x2, x3, S => (((S.1 x0 2) ≤ x3) → (Q x2 S)) ∧ ((¬ (S.1 x0 2) ≤ x3) → (vp_in x3 (Ln (grf x0 1)) ∧ ((((x1 + 1) < (S.1 (grf x0 1) x3.toNatClampNeg)) → (Q x2 S)) ∧ ((¬ (x1 + 1) < (S.1 (grf x0 1) x3.toNatClampNeg)) → (∀ v2_3 : Int32, v2_3 = x2 + 1 → (∀ v3_4 : Int32, v3_4 = x3 + 1 → (wp_Segments_endedBy_4 Ln Q n4 x0 x1 v2_3 v3_4 S)))))))
def wp_Segments_endedBy (Ln : gI → Nat) (Q : Int32 → gS → Prop) (x0 : gI) (x1 : Int32)  (S : gS) : Prop :=
  ∃ n4 : Nat, wp_Segments_endedBy_4 Ln Q n4 x0 x1 0 1 S
set_option maxHeartbeats 4000000 in
set_option maxRecDepth 100000 in
theorem mw_Segments_endedBy_4 {p : Program} {l : Launch} {e : Env} {s : State} {m : MethodId} {args : Array Value} {below : List Frame} {meth : Method} {c : Code} {Y : gY} {Q : Int32 → gS → Prop} (C : gCx p s m args meth c Y "LogDisk$Segments" c_Segments_endedBy 4 (Option.some Jvm.ClassFile.FieldType.int) w_Segments_endedBy) : ∀ (n : Nat), ∀ (x0 : gI) (x1 : Int32) (x2 : Int32) (x3 : Int32)  (S : gS) (H : Heap) (locs : List Loc) (ls : Array Slot), gis Y 5 x0 → wp_Segments_endedBy_4 (gLn Y) Q n x0 x1 x2 x3 S → gWd Y S H → va_S (gA Y s.heap.size) s.heap H locs → lv_has ls 4 [(0, .ref (gad Y x0)), (1, .int x1), (2, .int x2), (3, .int x3)] → W p l e (gRm 0 0) s m args below meth c H locs 0 0 (MQ below (va_Qi Q (gB Y) (gA Y s.heap.size)) args s 0 0 (gA Y s.heap.size)) (F0 m 4 ls []) := by
  have C0 := C
  obtain ⟨hx, hb, hml, hown, hts, hr, hlocks, hK, hY, hSt⟩ := C
  intro n
  induction n with
  | zero =>
    intro x0 x1 x2 x3 S H locs ls hx0 hw
    exact False.elim hw
  | succ n ih =>
    intro x0 x1 x2 x3 S H locs ls hx0 hw hP hS hl
    unfold wp_Segments_endedBy_4 at hw
    refine lv_iload_n hx hb d_Segments_endedBy_4 rfl (lv_at hl 3 rfl) ?_
    refine lv_aload_n hx hb d_Segments_endedBy_5 rfl (lv_at hl 0 rfl) ?_
    refine g_get hx hb hts (fun w h => List.mem_cons_of_mem _ (in_Segments w h)) hown hK hP hx0 (gce_Segments hx0.1) rfl 2 (by decide) (hts _ (List.mem_cons_of_mem _ gw_124)) rfl d_Segments_endedBy_6 ?_
    refine lv_icmp_ge (tgt := 33) hx hb d_Segments_endedBy_9 (by decide) (fun c1 => ?_) (fun c1 => ?_)
    · replace hw := hw.1 c1
      refine lv_iload_n hx hb d_Segments_endedBy_33 rfl (lv_at hl 2 rfl) ?_
      exact W.iret (v := x2) hx hb hr (fun t ht hW => ⟨⟨x2, S, rfl, hw, by rw [ht]; exact hP, va_K.moved hW.alike hK⟩, hS.F ht⟩) hS.2.2 d_Segments_endedBy_34
    · replace hw := hw.2 c1
      refine lv_aload_n hx hb d_Segments_endedBy_12 rfl (lv_at hl 0 rfl) ?_
      refine g_get hx hb hts (fun w h => List.mem_cons_of_mem _ (in_Segments w h)) hown hK hP hx0 (gce_Segments hx0.1) rfl 1 (by decide) (hts _ (List.mem_cons_of_mem _ gw_122)) rfl d_Segments_endedBy_13 ?_
      refine lv_iload_n hx hb d_Segments_endedBy_16 rfl (lv_at hl 3 rfl) ?_
      obtain ⟨hin, hw⟩ := hw
      refine g_iaload hx hb hK hP (gis_Segments_first hY hx0) hin d_Segments_endedBy_17 ?_
      refine lv_iload_n hx hb d_Segments_endedBy_18 rfl (lv_at hl 1 rfl) ?_
      refine lv_iconst (v := 1) hx hb d_Segments_endedBy_19 (by decide) ?_
      refine lv_iadd hx hb d_Segments_endedBy_20 ?_
      refine lv_icmp_gt (tgt := 33) hx hb d_Segments_endedBy_21 (by decide) (fun c2 => ?_) (fun c2 => ?_)
      · replace hw := hw.1 c2
        refine lv_iload_n hx hb d_Segments_endedBy_33 rfl (lv_at hl 2 rfl) ?_
        exact W.iret (v := x2) hx hb hr (fun t ht hW => ⟨⟨x2, S, rfl, hw, by rw [ht]; exact hP, va_K.moved hW.alike hK⟩, hS.F ht⟩) hS.2.2 d_Segments_endedBy_34
      · replace hw := hw.2 c2
        obtain ⟨v2_3, ev2_3⟩ : ∃ y : Int32, y = x2 + 1 := ⟨_, rfl⟩
        replace hw := hw v2_3 ev2_3
        refine lv_iinc (v := v2_3) (lv' := [(2, .int v2_3), (0, .ref (gad Y x0)), (1, .int x1), (3, .int x3)]) hx hb d_Segments_endedBy_24 hl (k := 2) rfl (by rw [ev2_3]; rfl) (by decide) rfl (fun ls hl => ?_)
        obtain ⟨v3_4, ev3_4⟩ : ∃ y : Int32, y = x3 + 1 := ⟨_, rfl⟩
        replace hw := hw v3_4 ev3_4
        refine lv_iinc (v := v3_4) (lv' := [(3, .int v3_4), (2, .int v2_3), (0, .ref (gad Y x0)), (1, .int x1)]) hx hb d_Segments_endedBy_27 hl (k := 3) rfl (by rw [ev3_4]; rfl) (by decide) rfl (fun ls hl => ?_)
        refine lv_goto (tgt := 4) hx hb d_Segments_endedBy_30 (by decide) ?_
        exact ih x0 x1 v2_3 v3_4 S H locs ls hx0 hw hP hS (lv_sub hl [2, 3, 1, 0] rfl)
set_option maxHeartbeats 4000000 in
set_option maxRecDepth 100000 in
theorem mw_Segments_endedBy {p : Program} {l : Launch} {e : Env} {s : State} {m : MethodId} {args : Array Value} {below : List Frame} {meth : Method} {c : Code} {Y : gY} {Q : Int32 → gS → Prop} (C : gCx p s m args meth c Y "LogDisk$Segments" c_Segments_endedBy 4 (Option.some Jvm.ClassFile.FieldType.int) w_Segments_endedBy) : ∀ (x0 : gI) (x1 : Int32)  (S : gS) (H : Heap) (locs : List Loc) (ls : Array Slot), gis Y 5 x0 → wp_Segments_endedBy (gLn Y) Q x0 x1 S → gWd Y S H → va_S (gA Y s.heap.size) s.heap H locs → lv_has ls 4 [(0, .ref (gad Y x0)), (1, .int x1)] → W p l e (gRm 0 0) s m args below meth c H locs 0 0 (MQ below (va_Qi Q (gB Y) (gA Y s.heap.size)) args s 0 0 (gA Y s.heap.size)) (F0 m 0 ls []) := by
  have C0 := C
  obtain ⟨hx, hb, hml, hown, hts, hr, hlocks, hK, hY, hSt⟩ := C
  intro x0 x1 S H locs ls hx0 hw hP hS hl
  unfold wp_Segments_endedBy at hw
  refine lv_iconst (v := 0) hx hb d_Segments_endedBy_0 (by decide) ?_
  refine lv_istore_n (lv' := [(2, .int 0), (0, .ref (gad Y x0)), (1, .int x1)]) hx hb d_Segments_endedBy_1 rfl hl (by decide) rfl (fun ls hl => ?_)
  refine lv_iconst (v := 1) hx hb d_Segments_endedBy_2 (by decide) ?_
  refine lv_istore_n (lv' := [(3, .int 1), (2, .int 0), (0, .ref (gad Y x0)), (1, .int x1)]) hx hb d_Segments_endedBy_3 rfl hl (by decide) rfl (fun ls hl => ?_)
  obtain ⟨n, hw⟩ := hw
  exact mw_Segments_endedBy_4 C0 n x0 x1 0 1 S H locs ls hx0 hw hP hS (lv_sub hl [2, 3, 1, 0] rfl)
set_option maxHeartbeats 4000000 in
set_option maxRecDepth 100000 in
theorem k_Segments_endedBy (l : Launch) (Y : gY) (hY : gOK Y) (sz : Nat) (x0 : gI) (x1 : Int32)  (hx0 : gis Y 5 x0) (S : gS) (Q : Int32 → gS → Prop) : Met l y_Segments_endedBy w_Segments_endedBy (gRm 0 0) (gPre Y [.ref (gad Y x0), .int x1] S sz (wp_Segments_endedBy (gLn Y) Q x0 x1 S)) (va_Qi Q (gB Y) (gA Y sz)) 0 0 (gA Y sz) := by
  refine Met.ofW (cc := c_Segments_endedBy) (maxL := 4) (ret := (Option.some Jvm.ClassFile.FieldType.int)) (by decide) rfl ?_
  intro p e s m args below meth c s₁ B hml hv
  obtain ⟨rfl, hsz, hP, hK, hSt, hw⟩ := hv
  subst hsz
  have hts := atoms_spec (ws := w_Segments_endedBy) B.pre
  have hl := lv_entry ([.ref (gad Y x0), .int x1]) (n := 4) (Nat.le_of_ble_eq_true rfl)
  rw [lg_entry_eq]
  generalize (lg_sl ([.ref (gad Y x0), .int x1]) ++ List.replicate (4 - (lg_sl ([.ref (gad Y x0), .int x1])).length) Slot.unset).toArray = ls at hl ⊢
  exact mw_Segments_endedBy ⟨B.exec, B.bytes, hml, findClass_of_methodNamed B.named, hts, B.returns, B.notSynchronized, hK, hY, hSt⟩ x0 x1 S s.heap [] ls hx0 hw hP va_S.rf hl

def wp_Segments_dropFront_2 (Ln : gI → Nat) (Q : gS → Prop) : Nat → gI → Int32 → Int32 → gS → Prop
  | 0, _, _, _, _ => False
  | n2 + 1, x0, x1, x2, S => (((S.1 x0 2) ≤ x2) → (∀ S2 : gS, S2 = gset S x0 2 ((S.1 x0 2) - x1) → (Q S2))) ∧ ((¬ (S.1 x0 2) ≤ x2) → (vp_in x2 (Ln (grf x0 0)) ∧ (vp_in (x2 - x1) (Ln (grf x0 0)) ∧ (∀ S3 : gS, S3 = gset S (grf x0 0) (x2 - x1).toNatClampNeg (S.1 (grf x0 0) x2.toNatClampNeg) → (vp_in x2 (Ln (grf x0 1)) ∧ (vp_in (x2 - x1) (Ln (grf x0 1)) ∧ (∀ S4 : gS, S4 = gset S3 (grf x0 1) (x2 - x1).toNatClampNeg (S3.1 (grf x0 1) x2.toNatClampNeg) → (∀ v2_5 : Int32, v2_5 = x2 + 1 → (wp_Segments_dropFront_2 Ln Q n2 x0 x1 v2_5 S4)))))))))
def wp_Segments_dropFront (Ln : gI → Nat) (Q : gS → Prop) (x0 : gI) (x1 : Int32)  (S : gS) : Prop :=
  ∃ n2 : Nat, wp_Segments_dropFront_2 Ln Q n2 x0 x1 x1 S
set_option maxHeartbeats 4000000 in
set_option maxRecDepth 100000 in
theorem mw_Segments_dropFront_2 {p : Program} {l : Launch} {e : Env} {s : State} {m : MethodId} {args : Array Value} {below : List Frame} {meth : Method} {c : Code} {Y : gY} {Q : gS → Prop} (C : gCx p s m args meth c Y "LogDisk$Segments" c_Segments_dropFront 3 (Option.none : Option Jvm.ClassFile.FieldType) w_Segments_dropFront) : ∀ (n : Nat), ∀ (x0 : gI) (x1 : Int32) (x2 : Int32)  (S : gS) (H : Heap) (locs : List Loc) (ls : Array Slot), gis Y 5 x0 → wp_Segments_dropFront_2 (gLn Y) Q n x0 x1 x2 S → gWd Y S H → va_S (gA Y s.heap.size) s.heap H locs → lv_has ls 3 [(0, .ref (gad Y x0)), (1, .int x1), (2, .int x2)] → W p l e (gRm 0 0) s m args below meth c H locs 0 0 (MQ below (va_Qv Q (gB Y) (gA Y s.heap.size)) args s 0 0 (gA Y s.heap.size)) (F0 m 2 ls []) := by
  have C0 := C
  obtain ⟨hx, hb, hml, hown, hts, hr, hlocks, hK, hY, hSt⟩ := C
  intro n
  induction n with
  | zero =>
    intro x0 x1 x2 S H locs ls hx0 hw
    exact False.elim hw
  | succ n ih =>
    intro x0 x1 x2 S H locs ls hx0 hw hP hS hl
    unfold wp_Segments_dropFront_2 at hw
    refine lv_iload_n hx hb d_Segments_dropFront_2 rfl (lv_at hl 2 rfl) ?_
    refine lv_aload_n hx hb d_Segments_dropFront_3 rfl (lv_at hl 0 rfl) ?_
    refine g_get hx hb hts (fun w h => List.mem_cons_of_mem _ (in_Segments w h)) hown hK hP hx0 (gce_Segments hx0.1) rfl 2 (by decide) (hts _ (List.mem_cons_of_mem _ gw_124)) rfl d_Segments_dropFront_4 ?_
    refine lv_icmp_ge (tgt := 44) hx hb d_Segments_dropFront_7 (by decide) (fun c1 => ?_) (fun c1 => ?_)
    · replace hw := hw.1 c1
      refine lv_aload_n hx hb d_Segments_dropFront_44 rfl (lv_at hl 0 rfl) ?_
      refine lv_dup hx hb d_Segments_dropFront_45 rfl ?_
      refine g_get hx hb hts (fun w h => List.mem_cons_of_mem _ (in_Segments w h)) hown hK hP hx0 (gce_Segments hx0.1) rfl 2 (by decide) (hts _ (List.mem_cons_of_mem _ gw_124)) rfl d_Segments_dropFront_46 ?_
      refine lv_iload_n hx hb d_Segments_dropFront_49 rfl (lv_at hl 1 rfl) ?_
      refine lv_isub hx hb d_Segments_dropFront_50 ?_
      refine g_put (ty := .int) (v := .int ((S.1 x0 2) - x1)) (S' := gset S x0 2 ((S.1 x0 2) - x1)) hx hb hts (fun w h => List.mem_cons_of_mem _ (in_Segments w h)) ty_Segments tyok_Segments nm_Segments hown hK hY.1 hP hS hx0 (gce_Segments hx0.1) rfl 2 (by decide) (hts _ (List.mem_cons_of_mem _ gw_124)) rfl (by decide +kernel) rfl rfl (Nat.le_of_ble_eq_true rfl) (gp_Segments_count hx0.1) gce_gset d_Segments_dropFront_51 (fun H locs hP hS => ?_)
      obtain ⟨S2, eS2⟩ : ∃ z, z = gset S x0 2 ((S.1 x0 2) - x1) := ⟨_, rfl⟩
      rw [← eS2] at hP
      replace hw := hw S2 eS2
      exact W.vret hx hb hr (fun t ht hW => ⟨⟨S2, rfl, hw, by rw [ht]; exact hP, va_K.moved hW.alike hK⟩, hS.F ht⟩) hS.2.2 d_Segments_dropFront_54
    · replace hw := hw.2 c1
      refine lv_aload_n hx hb d_Segments_dropFront_10 rfl (lv_at hl 0 rfl) ?_
      refine g_get hx hb hts (fun w h => List.mem_cons_of_mem _ (in_Segments w h)) hown hK hP hx0 (gce_Segments hx0.1) rfl 0 (by decide) (hts _ (List.mem_cons_of_mem _ gw_120)) rfl d_Segments_dropFront_11 ?_
      refine lv_iload_n hx hb d_Segments_dropFront_14 rfl (lv_at hl 2 rfl) ?_
      refine lv_iload_n hx hb d_Segments_dropFront_15 rfl (lv_at hl 1 rfl) ?_
      refine lv_isub hx hb d_Segments_dropFront_16 ?_
      refine lv_aload_n hx hb d_Segments_dropFront_17 rfl (lv_at hl 0 rfl) ?_
      refine g_get hx hb hts (fun w h => List.mem_cons_of_mem _ (in_Segments w h)) hown hK hP hx0 (gce_Segments hx0.1) rfl 0 (by decide) (hts _ (List.mem_cons_of_mem _ gw_120)) rfl d_Segments_dropFront_18 ?_
      refine lv_iload_n hx hb d_Segments_dropFront_21 rfl (lv_at hl 2 rfl) ?_
      obtain ⟨hin, hw⟩ := hw
      refine g_iaload hx hb hK hP (gis_Segments_file hY hx0) hin d_Segments_dropFront_22 ?_
      obtain ⟨hin, hw⟩ := hw
      refine g_iastore hx hb hK hY.1 hP hS (gis_Segments_file hY hx0) hin d_Segments_dropFront_23 (fun S3 eS3 H locs hP hS => ?_)
      replace hw := hw S3 eS3
      refine lv_aload_n hx hb d_Segments_dropFront_24 rfl (lv_at hl 0 rfl) ?_
      refine g_get hx hb hts (fun w h => List.mem_cons_of_mem _ (in_Segments w h)) hown hK hP hx0 (gce_Segments hx0.1) rfl 1 (by decide) (hts _ (List.mem_cons_of_mem _ gw_122)) rfl d_Segments_dropFront_25 ?_
      refine lv_iload_n hx hb d_Segments_dropFront_28 rfl (lv_at hl 2 rfl) ?_
      refine lv_iload_n hx hb d_Segments_dropFront_29 rfl (lv_at hl 1 rfl) ?_
      refine lv_isub hx hb d_Segments_dropFront_30 ?_
      refine lv_aload_n hx hb d_Segments_dropFront_31 rfl (lv_at hl 0 rfl) ?_
      refine g_get hx hb hts (fun w h => List.mem_cons_of_mem _ (in_Segments w h)) hown hK hP hx0 (gce_Segments hx0.1) rfl 1 (by decide) (hts _ (List.mem_cons_of_mem _ gw_122)) rfl d_Segments_dropFront_32 ?_
      refine lv_iload_n hx hb d_Segments_dropFront_35 rfl (lv_at hl 2 rfl) ?_
      obtain ⟨hin, hw⟩ := hw
      refine g_iaload hx hb hK hP (gis_Segments_first hY hx0) hin d_Segments_dropFront_36 ?_
      obtain ⟨hin, hw⟩ := hw
      refine g_iastore hx hb hK hY.1 hP hS (gis_Segments_first hY hx0) hin d_Segments_dropFront_37 (fun S4 eS4 H locs hP hS => ?_)
      replace hw := hw S4 eS4
      obtain ⟨v2_5, ev2_5⟩ : ∃ y : Int32, y = x2 + 1 := ⟨_, rfl⟩
      replace hw := hw v2_5 ev2_5
      refine lv_iinc (v := v2_5) (lv' := [(2, .int v2_5), (0, .ref (gad Y x0)), (1, .int x1)]) hx hb d_Segments_dropFront_38 hl (k := 2) rfl (by rw [ev2_5]; rfl) (by decide) rfl (fun ls hl => ?_)
      refine lv_goto (tgt := 2) hx hb d_Segments_dropFront_41 (by decide) ?_
      exact ih x0 x1 v2_5 S4 H locs ls hx0 hw hP hS (lv_sub hl [1, 2, 0] rfl)
set_option maxHeartbeats 4000000 in
set_option maxRecDepth 100000 in
theorem mw_Segments_dropFront {p : Program} {l : Launch} {e : Env} {s : State} {m : MethodId} {args : Array Value} {below : List Frame} {meth : Method} {c : Code} {Y : gY} {Q : gS → Prop} (C : gCx p s m args meth c Y "LogDisk$Segments" c_Segments_dropFront 3 (Option.none : Option Jvm.ClassFile.FieldType) w_Segments_dropFront) : ∀ (x0 : gI) (x1 : Int32)  (S : gS) (H : Heap) (locs : List Loc) (ls : Array Slot), gis Y 5 x0 → wp_Segments_dropFront (gLn Y) Q x0 x1 S → gWd Y S H → va_S (gA Y s.heap.size) s.heap H locs → lv_has ls 3 [(0, .ref (gad Y x0)), (1, .int x1)] → W p l e (gRm 0 0) s m args below meth c H locs 0 0 (MQ below (va_Qv Q (gB Y) (gA Y s.heap.size)) args s 0 0 (gA Y s.heap.size)) (F0 m 0 ls []) := by
  have C0 := C
  obtain ⟨hx, hb, hml, hown, hts, hr, hlocks, hK, hY, hSt⟩ := C
  intro x0 x1 S H locs ls hx0 hw hP hS hl
  unfold wp_Segments_dropFront at hw
  refine lv_iload_n hx hb d_Segments_dropFront_0 rfl (lv_at hl 1 rfl) ?_
  refine lv_istore_n (lv' := [(2, .int x1), (0, .ref (gad Y x0)), (1, .int x1)]) hx hb d_Segments_dropFront_1 rfl hl (by decide) rfl (fun ls hl => ?_)
  obtain ⟨n, hw⟩ := hw
  exact mw_Segments_dropFront_2 C0 n x0 x1 x1 S H locs ls hx0 hw hP hS (lv_sub hl [1, 2, 0] rfl)
set_option maxHeartbeats 4000000 in
set_option maxRecDepth 100000 in
theorem k_Segments_dropFront (l : Launch) (Y : gY) (hY : gOK Y) (sz : Nat) (x0 : gI) (x1 : Int32)  (hx0 : gis Y 5 x0) (S : gS) (Q : gS → Prop) : Met l y_Segments_dropFront w_Segments_dropFront (gRm 0 0) (gPre Y [.ref (gad Y x0), .int x1] S sz (wp_Segments_dropFront (gLn Y) Q x0 x1 S)) (va_Qv Q (gB Y) (gA Y sz)) 0 0 (gA Y sz) := by
  refine Met.ofW (cc := c_Segments_dropFront) (maxL := 3) (ret := (Option.none : Option Jvm.ClassFile.FieldType)) (by decide) rfl ?_
  intro p e s m args below meth c s₁ B hml hv
  obtain ⟨rfl, hsz, hP, hK, hSt, hw⟩ := hv
  subst hsz
  have hts := atoms_spec (ws := w_Segments_dropFront) B.pre
  have hl := lv_entry ([.ref (gad Y x0), .int x1]) (n := 3) (Nat.le_of_ble_eq_true rfl)
  rw [lg_entry_eq]
  generalize (lg_sl ([.ref (gad Y x0), .int x1]) ++ List.replicate (3 - (lg_sl ([.ref (gad Y x0), .int x1])).length) Slot.unset).toArray = ls at hl ⊢
  exact mw_Segments_dropFront ⟨B.exec, B.bytes, hml, findClass_of_methodNamed B.named, hts, B.returns, B.notSynchronized, hK, hY, hSt⟩ x0 x1 S s.heap [] ls hx0 hw hP va_S.rf hl

def wp_Math_floorMod (Ln : gI → Nat) (Q : Int32 → gS → Prop) (x0 : Int32) (x1 : Int32)  (S : gS) : Prop :=
  (¬ x1 = 0) ∧ (∀ v2_1 : Int32, v2_1 = x0 - x0 / x1 * x1 → (((0 ≤ (x0 ^^^ x1)) → (Q v2_1 S)) ∧ ((¬ 0 ≤ (x0 ^^^ x1)) → (((v2_1 = 0) → (Q v2_1 S)) ∧ ((¬ v2_1 = 0) → (Q (v2_1 + x1) S))))))
set_option maxHeartbeats 4000000 in
set_option maxRecDepth 100000 in
theorem mw_Math_floorMod {p : Program} {l : Launch} {e : Env} {s : State} {m : MethodId} {args : Array Value} {below : List Frame} {meth : Method} {c : Code} {Y : gY} {Q : Int32 → gS → Prop} (C : gCx p s m args meth c Y "java/lang/Math" c_Math_floorMod 3 (Option.some Jvm.ClassFile.FieldType.int) w_Math_floorMod) : ∀ (x0 : Int32) (x1 : Int32)  (S : gS) (H : Heap) (locs : List Loc) (ls : Array Slot), wp_Math_floorMod (gLn Y) Q x0 x1 S → gWd Y S H → va_S (gA Y s.heap.size) s.heap H locs → lv_has ls 3 [(0, .int x0), (1, .int x1)] → W p l e (gRm 0 0) s m args below meth c H locs 0 0 (MQ below (va_Qi Q (gB Y) (gA Y s.heap.size)) args s 0 0 (gA Y s.heap.size)) (F0 m 0 ls []) := by
  have C0 := C
  obtain ⟨hx, hb, hml, hown, hts, hr, hlocks, hK, hY, hSt⟩ := C
  intro x0 x1 S H locs ls hw hP hS hl
  unfold wp_Math_floorMod at hw
  refine lv_iload_n hx hb d_Math_floorMod_0 rfl (lv_at hl 0 rfl) ?_
  refine lv_iload_n hx hb d_Math_floorMod_1 rfl (lv_at hl 1 rfl) ?_
  obtain ⟨hne, hw⟩ := hw
  refine lv_irem hx hb d_Math_floorMod_2 hne ?_
  refine lv_topi (fun v2_1 ev2_1 => ?_)
  replace hw := hw v2_1 ev2_1
  refine lv_istore_n (lv' := [(2, .int v2_1), (0, .int x0), (1, .int x1)]) hx hb d_Math_floorMod_3 rfl hl (by decide) rfl (fun ls hl => ?_)
  refine lv_iload_n hx hb d_Math_floorMod_4 rfl (lv_at hl 1 rfl) ?_
  refine lv_iload_n hx hb d_Math_floorMod_5 rfl (lv_at hl 2 rfl) ?_
  refine lv_ixor hx hb d_Math_floorMod_6 ?_
  refine lv_if_ge (tgt := 18) hx hb d_Math_floorMod_7 (by decide) (fun c2 => ?_) (fun c2 => ?_)
  · replace hw := hw.1 c2
    refine lv_iload_n hx hb d_Math_floorMod_18 rfl (lv_at hl 0 rfl) ?_
    exact W.iret (v := v2_1) hx hb hr (fun t ht hW => ⟨⟨v2_1, S, rfl, hw, by rw [ht]; exact hP, va_K.moved hW.alike hK⟩, hS.F ht⟩) hS.2.2 d_Math_floorMod_19
  · replace hw := hw.2 c2
    refine lv_iload_n hx hb d_Math_floorMod_10 rfl (lv_at hl 0 rfl) ?_
    refine lv_if_eq (tgt := 18) hx hb d_Math_floorMod_11 (by decide) (fun c3 => ?_) (fun c3 => ?_)
    · replace hw := hw.1 c3
      refine lv_iload_n hx hb d_Math_floorMod_18 rfl (lv_at hl 0 rfl) ?_
      exact W.iret (v := v2_1) hx hb hr (fun t ht hW => ⟨⟨v2_1, S, rfl, hw, by rw [ht]; exact hP, va_K.moved hW.alike hK⟩, hS.F ht⟩) hS.2.2 d_Math_floorMod_19
    · replace hw := hw.2 c3
      refine lv_iload_n hx hb d_Math_floorMod_14 rfl (lv_at hl 0 rfl) ?_
      refine lv_iload_n hx hb d_Math_floorMod_15 rfl (lv_at hl 2 rfl) ?_
      refine lv_iadd hx hb d_Math_floorMod_16 ?_
      exact W.iret (v := (v2_1 + x1)) hx hb hr (fun t ht hW => ⟨⟨(v2_1 + x1), S, rfl, hw, by rw [ht]; exact hP, va_K.moved hW.alike hK⟩, hS.F ht⟩) hS.2.2 d_Math_floorMod_17
set_option maxHeartbeats 4000000 in
set_option maxRecDepth 100000 in
theorem k_Math_floorMod (l : Launch) (Y : gY) (hY : gOK Y) (sz : Nat) (x0 : Int32) (x1 : Int32)  (S : gS) (Q : Int32 → gS → Prop) : Met l y_Math_floorMod w_Math_floorMod (gRm 0 0) (gPre Y [.int x0, .int x1] S sz (wp_Math_floorMod (gLn Y) Q x0 x1 S)) (va_Qi Q (gB Y) (gA Y sz)) 0 0 (gA Y sz) := by
  refine va_MetF (cc := c_Math_floorMod) (maxL := 3) (ret := (Option.some Jvm.ClassFile.FieldType.int)) (by decide +kernel) rfl ?_
  intro p e s m args below meth c s₁ B hml hv
  obtain ⟨rfl, hsz, hP, hK, hSt, hw⟩ := hv
  subst hsz
  have hts := atoms_spec (ws := w_Math_floorMod) B.pre
  have hl := lv_entry ([.int x0, .int x1]) (n := 3) (Nat.le_of_ble_eq_true rfl)
  rw [lg_entry_eq]
  generalize (lg_sl ([.int x0, .int x1]) ++ List.replicate (3 - (lg_sl ([.int x0, .int x1])).length) Slot.unset).toArray = ls at hl ⊢
  exact mw_Math_floorMod ⟨B.exec, B.bytes, hml, findClass_of_methodNamed B.named, hts, B.returns, B.notSynchronized, hK, hY, hSt⟩ x0 x1 S s.heap [] ls hw hP va_S.rf hl

def wp_Entries_slot (Ln : gI → Nat) (Q : Int32 → gS → Prop) (x0 : gI) (x1 : Int32)  (S : gS) : Prop :=
  wp_Math_floorMod Ln (fun r2 S1 => Q r2 S1) x1 301 S
set_option maxHeartbeats 4000000 in
set_option maxRecDepth 100000 in
theorem mw_Entries_slot {p : Program} {l : Launch} {e : Env} {s : State} {m : MethodId} {args : Array Value} {below : List Frame} {meth : Method} {c : Code} {Y : gY} {Q : Int32 → gS → Prop} (C : gCx p s m args meth c Y "LogDisk$Entries" c_Entries_slot 2 (Option.some Jvm.ClassFile.FieldType.int) w_Entries_slot) : ∀ (x0 : gI) (x1 : Int32)  (S : gS) (H : Heap) (locs : List Loc) (ls : Array Slot), gis Y 2 x0 → wp_Entries_slot (gLn Y) Q x0 x1 S → gWd Y S H → va_S (gA Y s.heap.size) s.heap H locs → lv_has ls 2 [(0, .ref (gad Y x0)), (1, .int x1)] → W p l e (gRm 1 22) s m args below meth c H locs 0 0 (MQ below (va_Qi Q (gB Y) (gA Y s.heap.size)) args s 0 0 (gA Y s.heap.size)) (F0 m 0 ls []) := by
  have C0 := C
  obtain ⟨hx, hb, hml, hown, hts, hr, hlocks, hK, hY, hSt⟩ := C
  intro x0 x1 S H locs ls hx0 hw hP hS hl
  unfold wp_Entries_slot at hw
  refine lv_iload_n hx hb d_Entries_slot_0 rfl (lv_at hl 1 rfl) ?_
  refine lv_sipush (v := 301) hx hb d_Entries_slot_1 (by decide) ?_
  refine g_calli (va_runS (As := [.int x1, .int 301]) (rest := []) ⟨hx, hb, hml, hown, hts⟩ (k_Math_floorMod l Y hY H.size x1 301 S _) (va_cwS 2 hts (gG_S gw_389 gw_390 gw_8 gw_391) rfl rfl rfl (by decide +kernel) ⟨Nat.le_of_ble_eq_true rfl, Nat.le_of_ble_eq_true rfl⟩) ⟨gPre_blind, g_pre hK hSt hS hP hw⟩ rfl rfl hl.1 rfl (lv_room (Nat.le_of_ble_eq_true rfl)) d_Entries_slot_4 ⟨Nat.zero_le _, Nat.zero_le _⟩) hS (fun r2 S1 H locs hw hP hS => ?_)
  exact W.iret (v := r2) hx hb hr (fun t ht hW => ⟨⟨r2, S1, rfl, hw, by rw [ht]; exact hP, va_K.moved hW.alike hK⟩, hS.F ht⟩) hS.2.2 d_Entries_slot_7
set_option maxHeartbeats 4000000 in
set_option maxRecDepth 100000 in
theorem k_Entries_slot (l : Launch) (Y : gY) (hY : gOK Y) (sz : Nat) (x0 : gI) (x1 : Int32)  (hx0 : gis Y 2 x0) (S : gS) (Q : Int32 → gS → Prop) : Met l y_Entries_slot w_Entries_slot (gRm 1 22) (gPre Y [.ref (gad Y x0), .int x1] S sz (wp_Entries_slot (gLn Y) Q x0 x1 S)) (va_Qi Q (gB Y) (gA Y sz)) 0 0 (gA Y sz) := by
  refine Met.ofW (cc := c_Entries_slot) (maxL := 2) (ret := (Option.some Jvm.ClassFile.FieldType.int)) (by decide) rfl ?_
  intro p e s m args below meth c s₁ B hml hv
  obtain ⟨rfl, hsz, hP, hK, hSt, hw⟩ := hv
  subst hsz
  have hts := atoms_spec (ws := w_Entries_slot) B.pre
  have hl := lv_entry ([.ref (gad Y x0), .int x1]) (n := 2) (Nat.le_of_ble_eq_true rfl)
  rw [lg_entry_eq]
  generalize (lg_sl ([.ref (gad Y x0), .int x1]) ++ List.replicate (2 - (lg_sl ([.ref (gad Y x0), .int x1])).length) Slot.unset).toArray = ls at hl ⊢
  exact mw_Entries_slot ⟨B.exec, B.bytes, hml, findClass_of_methodNamed B.named, hts, B.returns, B.notSynchronized, hK, hY, hSt⟩ x0 x1 S s.heap [] ls hx0 hw hP va_S.rf hl

def wp_Entries_set (Ln : gI → Nat) (Q : gS → Prop) (x0 : gI) (x1 : Int32) (x2 : Int32) (x3 : Int32) (x4 : Int32) (x5 : Int32) (x6 : Int32)  (S : gS) : Prop :=
  wp_Entries_slot Ln (fun r2 S1 => vp_in r2 (Ln (grf x0 0)) ∧ (∀ S3 : gS, S3 = gset S1 (grf x0 0) r2.toNatClampNeg x2 → (vp_in r2 (Ln (grf x0 1)) ∧ (∀ S4 : gS, S4 = gset S3 (grf x0 1) r2.toNatClampNeg x3 → (vp_in r2 (Ln (grf x0 2)) ∧ (∀ S5 : gS, S5 = gset S4 (grf x0 2) r2.toNatClampNeg x4 → (vp_in r2 (Ln (grf x0 3)) ∧ (∀ S6 : gS, S6 = gset S5 (grf x0 3) r2.toNatClampNeg x5 → (vp_in r2 (Ln (grf x0 4)) ∧ (∀ S7 : gS, S7 = gset S6 (grf x0 4) r2.toNatClampNeg x6 → (Q S7))))))))))) x0 x1 S
set_option maxHeartbeats 4000000 in
set_option maxRecDepth 100000 in
theorem mw_Entries_set {p : Program} {l : Launch} {e : Env} {s : State} {m : MethodId} {args : Array Value} {below : List Frame} {meth : Method} {c : Code} {Y : gY} {Q : gS → Prop} (C : gCx p s m args meth c Y "LogDisk$Entries" c_Entries_set 8 (Option.none : Option Jvm.ClassFile.FieldType) w_Entries_set) : ∀ (x0 : gI) (x1 : Int32) (x2 : Int32) (x3 : Int32) (x4 : Int32) (x5 : Int32) (x6 : Int32)  (S : gS) (H : Heap) (locs : List Loc) (ls : Array Slot), gis Y 2 x0 → wp_Entries_set (gLn Y) Q x0 x1 x2 x3 x4 x5 x6 S → gWd Y S H → va_S (gA Y s.heap.size) s.heap H locs → lv_has ls 8 [(0, .ref (gad Y x0)), (1, .int x1), (2, .int x2), (3, .int x3), (4, .int x4), (5, .int x5), (6, .int x6)] → W p l e (gRm 2 43) s m args below meth c H locs 0 0 (MQ below (va_Qv Q (gB Y) (gA Y s.heap.size)) args s 0 0 (gA Y s.heap.size)) (F0 m 0 ls []) := by
  have C0 := C
  obtain ⟨hx, hb, hml, hown, hts, hr, hlocks, hK, hY, hSt⟩ := C
  intro x0 x1 x2 x3 x4 x5 x6 S H locs ls hx0 hw hP hS hl
  unfold wp_Entries_set at hw
  refine lv_aload_n hx hb d_Entries_set_0 rfl (lv_at hl 0 rfl) ?_
  refine lv_iload_n hx hb d_Entries_set_1 rfl (lv_at hl 1 rfl) ?_
  refine g_calli (va_runV (As := [.int x1]) (rest := []) ⟨hx, hb, hml, hown, hts⟩ (k_Entries_slot l Y hY H.size x0 x1 hx0 S _) (cwV 1 hts (gG_V gw_385 gw_386 gw_387 gw_7 gw_388) rfl rfl rfl (by decide +kernel) ⟨Nat.le_of_ble_eq_true rfl, Nat.le_of_ble_eq_true rfl⟩) ⟨gPre_blind, g_recv hK hP hx0 (gce_Entries hx0.1) rfl, g_pre hK hSt hS hP hw⟩ rfl rfl hl.1 rfl (lv_room (Nat.le_of_ble_eq_true rfl)) d_Entries_set_2 ⟨Nat.zero_le _, Nat.zero_le _⟩) hS (fun r2 S1 H locs hw hP hS => ?_)
  refine lv_istore (lv' := [(7, .int r2), (0, .ref (gad Y x0)), (1, .int x1), (2, .int x2), (3, .int x3), (4, .int x4), (5, .int x5), (6, .int x6)]) hx hb d_Entries_set_5 hl (by decide) rfl (fun ls hl => ?_)
  refine lv_aload_n hx hb d_Entries_set_7 rfl (lv_at hl 1 rfl) ?_
  refine g_get hx hb hts (fun w h => List.mem_cons_of_mem _ (in_Entries w h)) hown hK hP hx0 (gce_Entries hx0.1) rfl 0 (by decide) (hts _ (List.mem_cons_of_mem _ gw_139)) rfl d_Entries_set_8 ?_
  refine lv_iload hx hb d_Entries_set_11 (lv_at hl 0 rfl) ?_
  refine lv_iload_n hx hb d_Entries_set_13 rfl (lv_at hl 3 rfl) ?_
  obtain ⟨hin, hw⟩ := hw
  refine g_iastore hx hb hK hY.1 hP hS (gis_Entries_file hY hx0) hin d_Entries_set_14 (fun S3 eS3 H locs hP hS => ?_)
  replace hw := hw S3 eS3
  refine lv_aload_n hx hb d_Entries_set_15 rfl (lv_at hl 1 rfl) ?_
  refine g_get hx hb hts (fun w h => List.mem_cons_of_mem _ (in_Entries w h)) hown hK hP hx0 (gce_Entries hx0.1) rfl 1 (by decide) (hts _ (List.mem_cons_of_mem _ gw_141)) rfl d_Entries_set_16 ?_
  refine lv_iload hx hb d_Entries_set_19 (lv_at hl 0 rfl) ?_
  refine lv_iload_n hx hb d_Entries_set_21 rfl (lv_at hl 4 rfl) ?_
  obtain ⟨hin, hw⟩ := hw
  refine g_iastore hx hb hK hY.1 hP hS (gis_Entries_start hY hx0) hin d_Entries_set_22 (fun S4 eS4 H locs hP hS => ?_)
  replace hw := hw S4 eS4
  refine lv_aload_n hx hb d_Entries_set_23 rfl (lv_at hl 1 rfl) ?_
  refine g_get hx hb hts (fun w h => List.mem_cons_of_mem _ (in_Entries w h)) hown hK hP hx0 (gce_Entries hx0.1) rfl 2 (by decide) (hts _ (List.mem_cons_of_mem _ gw_143)) rfl d_Entries_set_24 ?_
  refine lv_iload hx hb d_Entries_set_27 (lv_at hl 0 rfl) ?_
  refine lv_iload hx hb d_Entries_set_29 (lv_at hl 5 rfl) ?_
  obtain ⟨hin, hw⟩ := hw
  refine g_iastore hx hb hK hY.1 hP hS (gis_Entries_term hY hx0) hin d_Entries_set_31 (fun S5 eS5 H locs hP hS => ?_)
  replace hw := hw S5 eS5
  refine lv_aload_n hx hb d_Entries_set_32 rfl (lv_at hl 1 rfl) ?_
  refine g_get hx hb hts (fun w h => List.mem_cons_of_mem _ (in_Entries w h)) hown hK hP hx0 (gce_Entries hx0.1) rfl 3 (by decide) (hts _ (List.mem_cons_of_mem _ gw_145)) rfl d_Entries_set_33 ?_
  refine lv_iload hx hb d_Entries_set_36 (lv_at hl 0 rfl) ?_
  refine lv_iload hx hb d_Entries_set_38 (lv_at hl 6 rfl) ?_
  obtain ⟨hin, hw⟩ := hw
  refine g_iastore hx hb hK hY.1 hP hS (gis_Entries_kind hY hx0) hin d_Entries_set_40 (fun S6 eS6 H locs hP hS => ?_)
  replace hw := hw S6 eS6
  refine lv_aload_n hx hb d_Entries_set_41 rfl (lv_at hl 1 rfl) ?_
  refine g_get hx hb hts (fun w h => List.mem_cons_of_mem _ (in_Entries w h)) hown hK hP hx0 (gce_Entries hx0.1) rfl 4 (by decide) (hts _ (List.mem_cons_of_mem _ gw_147)) rfl d_Entries_set_42 ?_
  refine lv_iload hx hb d_Entries_set_45 (lv_at hl 0 rfl) ?_
  refine lv_iload hx hb d_Entries_set_47 (lv_at hl 7 rfl) ?_
  obtain ⟨hin, hw⟩ := hw
  refine g_iastore hx hb hK hY.1 hP hS (gis_Entries_bytes hY hx0) hin d_Entries_set_49 (fun S7 eS7 H locs hP hS => ?_)
  replace hw := hw S7 eS7
  exact W.vret hx hb hr (fun t ht hW => ⟨⟨S7, rfl, hw, by rw [ht]; exact hP, va_K.moved hW.alike hK⟩, hS.F ht⟩) hS.2.2 d_Entries_set_50
set_option maxHeartbeats 4000000 in
set_option maxRecDepth 100000 in
theorem k_Entries_set (l : Launch) (Y : gY) (hY : gOK Y) (sz : Nat) (x0 : gI) (x1 : Int32) (x2 : Int32) (x3 : Int32) (x4 : Int32) (x5 : Int32) (x6 : Int32)  (hx0 : gis Y 2 x0) (S : gS) (Q : gS → Prop) : Met l y_Entries_set w_Entries_set (gRm 2 43) (gPre Y [.ref (gad Y x0), .int x1, .int x2, .int x3, .int x4, .int x5, .int x6] S sz (wp_Entries_set (gLn Y) Q x0 x1 x2 x3 x4 x5 x6 S)) (va_Qv Q (gB Y) (gA Y sz)) 0 0 (gA Y sz) := by
  refine Met.ofW (cc := c_Entries_set) (maxL := 8) (ret := (Option.none : Option Jvm.ClassFile.FieldType)) (by decide) rfl ?_
  intro p e s m args below meth c s₁ B hml hv
  obtain ⟨rfl, hsz, hP, hK, hSt, hw⟩ := hv
  subst hsz
  have hts := atoms_spec (ws := w_Entries_set) B.pre
  have hl := lv_entry ([.ref (gad Y x0), .int x1, .int x2, .int x3, .int x4, .int x5, .int x6]) (n := 8) (Nat.le_of_ble_eq_true rfl)
  rw [lg_entry_eq]
  generalize (lg_sl ([.ref (gad Y x0), .int x1, .int x2, .int x3, .int x4, .int x5, .int x6]) ++ List.replicate (8 - (lg_sl ([.ref (gad Y x0), .int x1, .int x2, .int x3, .int x4, .int x5, .int x6])).length) Slot.unset).toArray = ls at hl ⊢
  exact mw_Entries_set ⟨B.exec, B.bytes, hml, findClass_of_methodNamed B.named, hts, B.returns, B.notSynchronized, hK, hY, hSt⟩ x0 x1 x2 x3 x4 x5 x6 S s.heap [] ls hx0 hw hP va_S.rf hl

def wp_Snapshot_set (Ln : gI → Nat) (Q : gS → Prop) (x0 : gI) (x1 : Int32) (x2 : Int32) (x3 : Int32) (x4 : Int32)  (S : gS) : Prop :=
  ∀ S1 : gS, S1 = gset S x0 0 x1 → (∀ S2 : gS, S2 = gset S1 x0 1 x2 → (∀ S3 : gS, S3 = gset S2 x0 2 x3 → (∀ S4 : gS, S4 = gset S3 x0 3 x4 → (Q S4))))
set_option maxHeartbeats 4000000 in
set_option maxRecDepth 100000 in
theorem mw_Snapshot_set {p : Program} {l : Launch} {e : Env} {s : State} {m : MethodId} {args : Array Value} {below : List Frame} {meth : Method} {c : Code} {Y : gY} {Q : gS → Prop} (C : gCx p s m args meth c Y "LogDisk$Snapshot" c_Snapshot_set 5 (Option.none : Option Jvm.ClassFile.FieldType) w_Snapshot_set) : ∀ (x0 : gI) (x1 : Int32) (x2 : Int32) (x3 : Int32) (x4 : Int32)  (S : gS) (H : Heap) (locs : List Loc) (ls : Array Slot), gis Y 6 x0 → wp_Snapshot_set (gLn Y) Q x0 x1 x2 x3 x4 S → gWd Y S H → va_S (gA Y s.heap.size) s.heap H locs → lv_has ls 5 [(0, .ref (gad Y x0)), (1, .int x1), (2, .int x2), (3, .int x3), (4, .int x4)] → W p l e (gRm 0 0) s m args below meth c H locs 0 0 (MQ below (va_Qv Q (gB Y) (gA Y s.heap.size)) args s 0 0 (gA Y s.heap.size)) (F0 m 0 ls []) := by
  have C0 := C
  obtain ⟨hx, hb, hml, hown, hts, hr, hlocks, hK, hY, hSt⟩ := C
  intro x0 x1 x2 x3 x4 S H locs ls hx0 hw hP hS hl
  unfold wp_Snapshot_set at hw
  refine lv_aload_n hx hb d_Snapshot_set_0 rfl (lv_at hl 0 rfl) ?_
  refine lv_iload_n hx hb d_Snapshot_set_1 rfl (lv_at hl 1 rfl) ?_
  refine g_put (ty := .int) (v := .int x1) (S' := gset S x0 0 x1) hx hb hts (fun w h => List.mem_cons_of_mem _ (in_Snapshot w h)) ty_Snapshot tyok_Snapshot nm_Snapshot hown hK hY.1 hP hS hx0 (gce_Snapshot hx0.1) rfl 0 (by decide) (hts _ (List.mem_cons_of_mem _ gw_97)) rfl (by decide +kernel) rfl rfl (Nat.le_of_ble_eq_true rfl) (gp_Snapshot_file hx0.1) gce_gset d_Snapshot_set_2 (fun H locs hP hS => ?_)
  obtain ⟨S1, eS1⟩ : ∃ z, z = gset S x0 0 x1 := ⟨_, rfl⟩
  rw [← eS1] at hP
  replace hw := hw S1 eS1
  refine lv_aload_n hx hb d_Snapshot_set_5 rfl (lv_at hl 0 rfl) ?_
  refine lv_iload_n hx hb d_Snapshot_set_6 rfl (lv_at hl 2 rfl) ?_
  refine g_put (ty := .int) (v := .int x2) (S' := gset S1 x0 1 x2) hx hb hts (fun w h => List.mem_cons_of_mem _ (in_Snapshot w h)) ty_Snapshot tyok_Snapshot nm_Snapshot hown hK hY.1 hP hS hx0 (gce_Snapshot hx0.1) rfl 1 (by decide) (hts _ (List.mem_cons_of_mem _ gw_99)) rfl (by decide +kernel) rfl rfl (Nat.le_of_ble_eq_true rfl) (gp_Snapshot_base hx0.1) gce_gset d_Snapshot_set_7 (fun H locs hP hS => ?_)
  obtain ⟨S2, eS2⟩ : ∃ z, z = gset S1 x0 1 x2 := ⟨_, rfl⟩
  rw [← eS2] at hP
  replace hw := hw S2 eS2
  refine lv_aload_n hx hb d_Snapshot_set_10 rfl (lv_at hl 0 rfl) ?_
  refine lv_iload_n hx hb d_Snapshot_set_11 rfl (lv_at hl 3 rfl) ?_
  refine g_put (ty := .int) (v := .int x3) (S' := gset S2 x0 2 x3) hx hb hts (fun w h => List.mem_cons_of_mem _ (in_Snapshot w h)) ty_Snapshot tyok_Snapshot nm_Snapshot hown hK hY.1 hP hS hx0 (gce_Snapshot hx0.1) rfl 2 (by decide) (hts _ (List.mem_cons_of_mem _ gw_101)) rfl (by decide +kernel) rfl rfl (Nat.le_of_ble_eq_true rfl) (gp_Snapshot_term hx0.1) gce_gset d_Snapshot_set_12 (fun H locs hP hS => ?_)
  obtain ⟨S3, eS3⟩ : ∃ z, z = gset S2 x0 2 x3 := ⟨_, rfl⟩
  rw [← eS3] at hP
  replace hw := hw S3 eS3
  refine lv_aload_n hx hb d_Snapshot_set_15 rfl (lv_at hl 0 rfl) ?_
  refine lv_iload hx hb d_Snapshot_set_16 (lv_at hl 4 rfl) ?_
  refine g_put (ty := .int) (v := .int x4) (S' := gset S3 x0 3 x4) hx hb hts (fun w h => List.mem_cons_of_mem _ (in_Snapshot w h)) ty_Snapshot tyok_Snapshot nm_Snapshot hown hK hY.1 hP hS hx0 (gce_Snapshot hx0.1) rfl 3 (by decide) (hts _ (List.mem_cons_of_mem _ gw_104)) rfl (by decide +kernel) rfl rfl (Nat.le_of_ble_eq_true rfl) (gp_Snapshot_code hx0.1) gce_gset d_Snapshot_set_18 (fun H locs hP hS => ?_)
  obtain ⟨S4, eS4⟩ : ∃ z, z = gset S3 x0 3 x4 := ⟨_, rfl⟩
  rw [← eS4] at hP
  replace hw := hw S4 eS4
  exact W.vret hx hb hr (fun t ht hW => ⟨⟨S4, rfl, hw, by rw [ht]; exact hP, va_K.moved hW.alike hK⟩, hS.F ht⟩) hS.2.2 d_Snapshot_set_21
set_option maxHeartbeats 4000000 in
set_option maxRecDepth 100000 in
theorem k_Snapshot_set (l : Launch) (Y : gY) (hY : gOK Y) (sz : Nat) (x0 : gI) (x1 : Int32) (x2 : Int32) (x3 : Int32) (x4 : Int32)  (hx0 : gis Y 6 x0) (S : gS) (Q : gS → Prop) : Met l y_Snapshot_set w_Snapshot_set (gRm 0 0) (gPre Y [.ref (gad Y x0), .int x1, .int x2, .int x3, .int x4] S sz (wp_Snapshot_set (gLn Y) Q x0 x1 x2 x3 x4 S)) (va_Qv Q (gB Y) (gA Y sz)) 0 0 (gA Y sz) := by
  refine Met.ofW (cc := c_Snapshot_set) (maxL := 5) (ret := (Option.none : Option Jvm.ClassFile.FieldType)) (by decide) rfl ?_
  intro p e s m args below meth c s₁ B hml hv
  obtain ⟨rfl, hsz, hP, hK, hSt, hw⟩ := hv
  subst hsz
  have hts := atoms_spec (ws := w_Snapshot_set) B.pre
  have hl := lv_entry ([.ref (gad Y x0), .int x1, .int x2, .int x3, .int x4]) (n := 5) (Nat.le_of_ble_eq_true rfl)
  rw [lg_entry_eq]
  generalize (lg_sl ([.ref (gad Y x0), .int x1, .int x2, .int x3, .int x4]) ++ List.replicate (5 - (lg_sl ([.ref (gad Y x0), .int x1, .int x2, .int x3, .int x4])).length) Slot.unset).toArray = ls at hl ⊢
  exact mw_Snapshot_set ⟨B.exec, B.bytes, hml, findClass_of_methodNamed B.named, hts, B.returns, B.notSynchronized, hK, hY, hSt⟩ x0 x1 x2 x3 x4 S s.heap [] ls hx0 hw hP va_S.rf hl

def wp_Snapshot_nextFile (Ln : gI → Nat) (Q : Int32 → gS → Prop) (x0 : gI)  (S : gS) : Prop :=
  ((¬ (S.1 x0 0) = 2) → (Q 2 S)) ∧ (((S.1 x0 0) = 2) → (Q 3 S))
set_option maxHeartbeats 4000000 in
set_option maxRecDepth 100000 in
theorem mw_Snapshot_nextFile {p : Program} {l : Launch} {e : Env} {s : State} {m : MethodId} {args : Array Value} {below : List Frame} {meth : Method} {c : Code} {Y : gY} {Q : Int32 → gS → Prop} (C : gCx p s m args meth c Y "LogDisk$Snapshot" c_Snapshot_nextFile 1 (Option.some Jvm.ClassFile.FieldType.int) w_Snapshot_nextFile) : ∀ (x0 : gI)  (S : gS) (H : Heap) (locs : List Loc) (ls : Array Slot), gis Y 6 x0 → wp_Snapshot_nextFile (gLn Y) Q x0 S → gWd Y S H → va_S (gA Y s.heap.size) s.heap H locs → lv_has ls 1 [(0, .ref (gad Y x0))] → W p l e (gRm 0 0) s m args below meth c H locs 0 0 (MQ below (va_Qi Q (gB Y) (gA Y s.heap.size)) args s 0 0 (gA Y s.heap.size)) (F0 m 0 ls []) := by
  have C0 := C
  obtain ⟨hx, hb, hml, hown, hts, hr, hlocks, hK, hY, hSt⟩ := C
  intro x0 S H locs ls hx0 hw hP hS hl
  unfold wp_Snapshot_nextFile at hw
  refine lv_aload_n hx hb d_Snapshot_nextFile_0 rfl (lv_at hl 0 rfl) ?_
  refine g_get hx hb hts (fun w h => List.mem_cons_of_mem _ (in_Snapshot w h)) hown hK hP hx0 (gce_Snapshot hx0.1) rfl 0 (by decide) (hts _ (List.mem_cons_of_mem _ gw_97)) rfl d_Snapshot_nextFile_1 ?_
  refine lv_iconst (v := 2) hx hb d_Snapshot_nextFile_4 (by decide) ?_
  refine lv_icmp_ne (tgt := 12) hx hb d_Snapshot_nextFile_5 (by decide) (fun c1 => ?_) (fun c1 => ?_)
  · replace hw := hw.1 c1
    refine lv_iconst (v := 2) hx hb d_Snapshot_nextFile_12 (by decide) ?_
    exact W.iret (v := 2) hx hb hr (fun t ht hW => ⟨⟨2, S, rfl, hw, by rw [ht]; exact hP, va_K.moved hW.alike hK⟩, hS.F ht⟩) hS.2.2 d_Snapshot_nextFile_13
  · replace hw := hw.2 c1
    refine lv_iconst (v := 3) hx hb d_Snapshot_nextFile_8 (by decide) ?_
    refine lv_goto (tgt := 13) hx hb d_Snapshot_nextFile_9 (by decide) ?_
    exact W.iret (v := 3) hx hb hr (fun t ht hW => ⟨⟨3, S, rfl, hw, by rw [ht]; exact hP, va_K.moved hW.alike hK⟩, hS.F ht⟩) hS.2.2 d_Snapshot_nextFile_13
set_option maxHeartbeats 4000000 in
set_option maxRecDepth 100000 in
theorem k_Snapshot_nextFile (l : Launch) (Y : gY) (hY : gOK Y) (sz : Nat) (x0 : gI)  (hx0 : gis Y 6 x0) (S : gS) (Q : Int32 → gS → Prop) : Met l y_Snapshot_nextFile w_Snapshot_nextFile (gRm 0 0) (gPre Y [.ref (gad Y x0)] S sz (wp_Snapshot_nextFile (gLn Y) Q x0 S)) (va_Qi Q (gB Y) (gA Y sz)) 0 0 (gA Y sz) := by
  refine Met.ofW (cc := c_Snapshot_nextFile) (maxL := 1) (ret := (Option.some Jvm.ClassFile.FieldType.int)) (by decide) rfl ?_
  intro p e s m args below meth c s₁ B hml hv
  obtain ⟨rfl, hsz, hP, hK, hSt, hw⟩ := hv
  subst hsz
  have hts := atoms_spec (ws := w_Snapshot_nextFile) B.pre
  have hl := lv_entry ([.ref (gad Y x0)]) (n := 1) (Nat.le_of_ble_eq_true rfl)
  rw [lg_entry_eq]
  generalize (lg_sl ([.ref (gad Y x0)]) ++ List.replicate (1 - (lg_sl ([.ref (gad Y x0)])).length) Slot.unset).toArray = ls at hl ⊢
  exact mw_Snapshot_nextFile ⟨B.exec, B.bytes, hml, findClass_of_methodNamed B.named, hts, B.returns, B.notSynchronized, hK, hY, hSt⟩ x0 S s.heap [] ls hx0 hw hP va_S.rf hl

def wp_Tape_handOver (Ln : gI → Nat) (Q : Int32 → gS → Prop) (x0 : gI)  (S : gS) : Prop :=
  ∀ v1_1 : Int32, v1_1 = S.1 x0 1 → (∀ S2 : gS, S2 = gset S x0 1 0 → (Q v1_1 S2))
set_option maxHeartbeats 4000000 in
set_option maxRecDepth 100000 in
theorem mw_Tape_handOver {p : Program} {l : Launch} {e : Env} {s : State} {m : MethodId} {args : Array Value} {below : List Frame} {meth : Method} {c : Code} {Y : gY} {Q : Int32 → gS → Prop} (C : gCx p s m args meth c Y "LogDisk$Tape" c_Tape_handOver 2 (Option.some Jvm.ClassFile.FieldType.int) w_Tape_handOver) : ∀ (x0 : gI)  (S : gS) (H : Heap) (locs : List Loc) (ls : Array Slot), gis Y 7 x0 → wp_Tape_handOver (gLn Y) Q x0 S → gWd Y S H → va_S (gA Y s.heap.size) s.heap H locs → lv_has ls 2 [(0, .ref (gad Y x0))] → W p l e (gRm 0 0) s m args below meth c H locs 0 0 (MQ below (va_Qi Q (gB Y) (gA Y s.heap.size)) args s 0 0 (gA Y s.heap.size)) (F0 m 0 ls []) := by
  have C0 := C
  obtain ⟨hx, hb, hml, hown, hts, hr, hlocks, hK, hY, hSt⟩ := C
  intro x0 S H locs ls hx0 hw hP hS hl
  unfold wp_Tape_handOver at hw
  refine lv_aload_n hx hb d_Tape_handOver_0 rfl (lv_at hl 0 rfl) ?_
  refine g_get hx hb hts (fun w h => List.mem_cons_of_mem _ (in_Tape w h)) hown hK hP hx0 (gce_Tape hx0.1) rfl 1 (by decide) (hts _ (List.mem_cons_of_mem _ gw_40)) rfl d_Tape_handOver_1 ?_
  refine lv_topi (fun v1_1 ev1_1 => ?_)
  replace hw := hw v1_1 ev1_1
  refine lv_istore_n (lv' := [(1, .int v1_1), (0, .ref (gad Y x0))]) hx hb d_Tape_handOver_4 rfl hl (by decide) rfl (fun ls hl => ?_)
  refine lv_aload_n hx hb d_Tape_handOver_5 rfl (lv_at hl 1 rfl) ?_
  refine lv_iconst (v := 0) hx hb d_Tape_handOver_6 (by decide) ?_
  refine g_put (ty := .int) (v := .int 0) (S' := gset S x0 1 0) hx hb hts (fun w h => List.mem_cons_of_mem _ (in_Tape w h)) ty_Tape tyok_Tape nm_Tape hown hK hY.1 hP hS hx0 (gce_Tape hx0.1) rfl 1 (by decide) (hts _ (List.mem_cons_of_mem _ gw_40)) rfl (by decide +kernel) rfl rfl (Nat.le_of_ble_eq_true rfl) (gp_Tape_size hx0.1) gce_gset d_Tape_handOver_7 (fun H locs hP hS => ?_)
  obtain ⟨S2, eS2⟩ : ∃ z, z = gset S x0 1 0 := ⟨_, rfl⟩
  rw [← eS2] at hP
  replace hw := hw S2 eS2
  refine lv_iload_n hx hb d_Tape_handOver_10 rfl (lv_at hl 0 rfl) ?_
  exact W.iret (v := v1_1) hx hb hr (fun t ht hW => ⟨⟨v1_1, S2, rfl, hw, by rw [ht]; exact hP, va_K.moved hW.alike hK⟩, hS.F ht⟩) hS.2.2 d_Tape_handOver_11
set_option maxHeartbeats 4000000 in
set_option maxRecDepth 100000 in
theorem k_Tape_handOver (l : Launch) (Y : gY) (hY : gOK Y) (sz : Nat) (x0 : gI)  (hx0 : gis Y 7 x0) (S : gS) (Q : Int32 → gS → Prop) : Met l y_Tape_handOver w_Tape_handOver (gRm 0 0) (gPre Y [.ref (gad Y x0)] S sz (wp_Tape_handOver (gLn Y) Q x0 S)) (va_Qi Q (gB Y) (gA Y sz)) 0 0 (gA Y sz) := by
  refine Met.ofW (cc := c_Tape_handOver) (maxL := 2) (ret := (Option.some Jvm.ClassFile.FieldType.int)) (by decide) rfl ?_
  intro p e s m args below meth c s₁ B hml hv
  obtain ⟨rfl, hsz, hP, hK, hSt, hw⟩ := hv
  subst hsz
  have hts := atoms_spec (ws := w_Tape_handOver) B.pre
  have hl := lv_entry ([.ref (gad Y x0)]) (n := 2) (Nat.le_of_ble_eq_true rfl)
  rw [lg_entry_eq]
  generalize (lg_sl ([.ref (gad Y x0)]) ++ List.replicate (2 - (lg_sl ([.ref (gad Y x0)])).length) Slot.unset).toArray = ls at hl ⊢
  exact mw_Tape_handOver ⟨B.exec, B.bytes, hml, findClass_of_methodNamed B.named, hts, B.returns, B.notSynchronized, hK, hY, hSt⟩ x0 S s.heap [] ls hx0 hw hP va_S.rf hl

def wp_Vote_set (Ln : gI → Nat) (Q : gS → Prop) (x0 : gI) (x1 : Int32) (x2 : Int64) (x4 : Int32) (x5 : Int32)  (S : gS) : Prop :=
  ∀ S1 : gS, S1 = gset S x0 3 x1 → (∀ S2 : gS, S2 = gsetL S1 x0 2 x2 → (∀ S3 : gS, S3 = gset S2 x0 0 x4 → (∀ S4 : gS, S4 = gset S3 x0 1 x5 → (Q S4))))
set_option maxHeartbeats 4000000 in
set_option maxRecDepth 100000 in
theorem mw_Vote_set {p : Program} {l : Launch} {e : Env} {s : State} {m : MethodId} {args : Array Value} {below : List Frame} {meth : Method} {c : Code} {Y : gY} {Q : gS → Prop} (C : gCx p s m args meth c Y "LogDisk$Vote" c_Vote_set 6 (Option.none : Option Jvm.ClassFile.FieldType) w_Vote_set) : ∀ (x0 : gI) (x1 : Int32) (x2 : Int64) (x4 : Int32) (x5 : Int32)  (S : gS) (H : Heap) (locs : List Loc) (ls : Array Slot), gis Y 8 x0 → wp_Vote_set (gLn Y) Q x0 x1 x2 x4 x5 S → gWd Y S H → va_S (gA Y s.heap.size) s.heap H locs → lv_has ls 6 [(0, .ref (gad Y x0)), (1, .int x1), (2, .long x2), (4, .int x4), (5, .int x5)] → W p l e (gRm 0 0) s m args below meth c H locs 0 0 (MQ below (va_Qv Q (gB Y) (gA Y s.heap.size)) args s 0 0 (gA Y s.heap.size)) (F0 m 0 ls []) := by
  have C0 := C
  obtain ⟨hx, hb, hml, hown, hts, hr, hlocks, hK, hY, hSt⟩ := C
  intro x0 x1 x2 x4 x5 S H locs ls hx0 hw hP hS hl
  unfold wp_Vote_set at hw
  refine lv_aload_n hx hb d_Vote_set_0 rfl (lv_at hl 0 rfl) ?_
  refine lv_iload_n hx hb d_Vote_set_1 rfl (lv_at hl 1 rfl) ?_
  refine g_put (ty := .int) (v := .int x1) (S' := gset S x0 3 x1) hx hb hts (fun w h => List.mem_cons_of_mem _ (in_Vote w h)) ty_Vote tyok_Vote nm_Vote hown hK hY.1 hP hS hx0 (gce_Vote hx0.1) rfl 3 (by decide) (hts _ (List.mem_cons_of_mem _ gw_76)) rfl (by decide +kernel) rfl rfl (Nat.le_of_ble_eq_true rfl) (gp_Vote_file hx0.1) gce_gset d_Vote_set_2 (fun H locs hP hS => ?_)
  obtain ⟨S1, eS1⟩ : ∃ z, z = gset S x0 3 x1 := ⟨_, rfl⟩
  rw [← eS1] at hP
  replace hw := hw S1 eS1
  refine lv_aload_n hx hb d_Vote_set_5 rfl (lv_at hl 0 rfl) ?_
  refine lv_lload_n hx hb d_Vote_set_6 rfl (lv_at hl 2 rfl) ?_
  refine g_put (ty := .long) (v := .long x2) (S' := gsetL S1 x0 2 x2) hx hb hts (fun w h => List.mem_cons_of_mem _ (in_Vote w h)) ty_Vote tyok_Vote nm_Vote hown hK hY.1 hP hS hx0 (gce_Vote hx0.1) rfl 2 (by decide) (hts _ (List.mem_cons_of_mem _ gw_74)) rfl (by decide +kernel) rfl rfl (Nat.le_of_ble_eq_true rfl) (gp_Vote_times hx0.1) gce_gsetL d_Vote_set_7 (fun H locs hP hS => ?_)
  obtain ⟨S2, eS2⟩ : ∃ z, z = gsetL S1 x0 2 x2 := ⟨_, rfl⟩
  rw [← eS2] at hP
  replace hw := hw S2 eS2
  refine lv_aload_n hx hb d_Vote_set_10 rfl (lv_at hl 0 rfl) ?_
  refine lv_iload hx hb d_Vote_set_11 (lv_at hl 3 rfl) ?_
  refine g_put (ty := .int) (v := .int x4) (S' := gset S2 x0 0 x4) hx hb hts (fun w h => List.mem_cons_of_mem _ (in_Vote w h)) ty_Vote tyok_Vote nm_Vote hown hK hY.1 hP hS hx0 (gce_Vote hx0.1) rfl 0 (by decide) (hts _ (List.mem_cons_of_mem _ gw_70)) rfl (by decide +kernel) rfl rfl (Nat.le_of_ble_eq_true rfl) (gp_Vote_term hx0.1) gce_gset d_Vote_set_13 (fun H locs hP hS => ?_)
  obtain ⟨S3, eS3⟩ : ∃ z, z = gset S2 x0 0 x4 := ⟨_, rfl⟩
  rw [← eS3] at hP
  replace hw := hw S3 eS3
  refine lv_aload_n hx hb d_Vote_set_16 rfl (lv_at hl 0 rfl) ?_
  refine lv_iload hx hb d_Vote_set_17 (lv_at hl 4 rfl) ?_
  refine g_put (ty := .int) (v := .int x5) (S' := gset S3 x0 1 x5) hx hb hts (fun w h => List.mem_cons_of_mem _ (in_Vote w h)) ty_Vote tyok_Vote nm_Vote hown hK hY.1 hP hS hx0 (gce_Vote hx0.1) rfl 1 (by decide) (hts _ (List.mem_cons_of_mem _ gw_72)) rfl (by decide +kernel) rfl rfl (Nat.le_of_ble_eq_true rfl) (gp_Vote_voted hx0.1) gce_gset d_Vote_set_19 (fun H locs hP hS => ?_)
  obtain ⟨S4, eS4⟩ : ∃ z, z = gset S3 x0 1 x5 := ⟨_, rfl⟩
  rw [← eS4] at hP
  replace hw := hw S4 eS4
  exact W.vret hx hb hr (fun t ht hW => ⟨⟨S4, rfl, hw, by rw [ht]; exact hP, va_K.moved hW.alike hK⟩, hS.F ht⟩) hS.2.2 d_Vote_set_22
set_option maxHeartbeats 4000000 in
set_option maxRecDepth 100000 in
theorem k_Vote_set (l : Launch) (Y : gY) (hY : gOK Y) (sz : Nat) (x0 : gI) (x1 : Int32) (x2 : Int64) (x4 : Int32) (x5 : Int32)  (hx0 : gis Y 8 x0) (S : gS) (Q : gS → Prop) : Met l y_Vote_set w_Vote_set (gRm 0 0) (gPre Y [.ref (gad Y x0), .int x1, .long x2, .int x4, .int x5] S sz (wp_Vote_set (gLn Y) Q x0 x1 x2 x4 x5 S)) (va_Qv Q (gB Y) (gA Y sz)) 0 0 (gA Y sz) := by
  refine Met.ofW (cc := c_Vote_set) (maxL := 6) (ret := (Option.none : Option Jvm.ClassFile.FieldType)) (by decide) rfl ?_
  intro p e s m args below meth c s₁ B hml hv
  obtain ⟨rfl, hsz, hP, hK, hSt, hw⟩ := hv
  subst hsz
  have hts := atoms_spec (ws := w_Vote_set) B.pre
  have hl := lv_entry ([.ref (gad Y x0), .int x1, .long x2, .int x4, .int x5]) (n := 6) (Nat.le_of_ble_eq_true rfl)
  rw [lg_entry_eq]
  generalize (lg_sl ([.ref (gad Y x0), .int x1, .long x2, .int x4, .int x5]) ++ List.replicate (6 - (lg_sl ([.ref (gad Y x0), .int x1, .long x2, .int x4, .int x5])).length) Slot.unset).toArray = ls at hl ⊢
  exact mw_Vote_set ⟨B.exec, B.bytes, hml, findClass_of_methodNamed B.named, hts, B.returns, B.notSynchronized, hK, hY, hSt⟩ x0 x1 x2 x4 x5 S s.heap [] ls hx0 hw hP va_S.rf hl

def wp_Vote_forget (Ln : gI → Nat) (Q : gS → Prop) (x0 : gI)  (S : gS) : Prop :=
  wp_Vote_set Ln (fun S1 => ∀ S2 : gS, S2 = gset S1 x0 4 0 → (Q S2)) x0 (-1 : Int32) (0 : Int64) 0 (-1 : Int32) S
set_option maxHeartbeats 4000000 in
set_option maxRecDepth 100000 in
theorem mw_Vote_forget {p : Program} {l : Launch} {e : Env} {s : State} {m : MethodId} {args : Array Value} {below : List Frame} {meth : Method} {c : Code} {Y : gY} {Q : gS → Prop} (C : gCx p s m args meth c Y "LogDisk$Vote" c_Vote_forget 1 (Option.none : Option Jvm.ClassFile.FieldType) w_Vote_forget) : ∀ (x0 : gI)  (S : gS) (H : Heap) (locs : List Loc) (ls : Array Slot), gis Y 8 x0 → wp_Vote_forget (gLn Y) Q x0 S → gWd Y S H → va_S (gA Y s.heap.size) s.heap H locs → lv_has ls 1 [(0, .ref (gad Y x0))] → W p l e (gRm 1 25) s m args below meth c H locs 0 0 (MQ below (va_Qv Q (gB Y) (gA Y s.heap.size)) args s 0 0 (gA Y s.heap.size)) (F0 m 0 ls []) := by
  have C0 := C
  obtain ⟨hx, hb, hml, hown, hts, hr, hlocks, hK, hY, hSt⟩ := C
  intro x0 S H locs ls hx0 hw hP hS hl
  unfold wp_Vote_forget at hw
  refine lv_aload_n hx hb d_Vote_forget_0 rfl (lv_at hl 0 rfl) ?_
  refine lv_iconst (v := (-1 : Int32)) hx hb d_Vote_forget_1 (by decide) ?_
  refine lv_lconst (v := 0) hx hb d_Vote_forget_2 (by decide) ?_
  refine lv_iconst (v := 0) hx hb d_Vote_forget_3 (by decide) ?_
  refine lv_iconst (v := (-1 : Int32)) hx hb d_Vote_forget_4 (by decide) ?_
  refine g_callv (va_runV (As := [.int (-1 : Int32), .long (0 : Int64), .int 0, .int (-1 : Int32)]) (rest := []) ⟨hx, hb, hml, hown, hts⟩ (k_Vote_set l Y hY H.size x0 (-1 : Int32) (0 : Int64) 0 (-1 : Int32) hx0 S _) (cwV 4 hts (gG_V gw_332 gw_333 gw_334 gw_4 gw_335) rfl rfl rfl (by decide +kernel) ⟨Nat.le_of_ble_eq_true rfl, Nat.le_of_ble_eq_true rfl⟩) ⟨gPre_blind, g_recv hK hP hx0 (gce_Vote hx0.1) rfl, g_pre hK hSt hS hP hw⟩ rfl rfl hl.1 rfl (lv_room (Nat.le_of_ble_eq_true rfl)) d_Vote_forget_5 ⟨Nat.zero_le _, Nat.zero_le _⟩) hS (fun S1 H locs hw hP hS => ?_)
  refine lv_aload_n hx hb d_Vote_forget_8 rfl (lv_at hl 0 rfl) ?_
  refine lv_iconst (v := 0) hx hb d_Vote_forget_9 (by decide) ?_
  refine g_put (ty := .boolean) (v := .int 0) (S' := gset S1 x0 4 0) hx hb hts (fun w h => List.mem_cons_of_mem _ (in_Vote w h)) ty_Vote tyok_Vote nm_Vote hown hK hY.1 hP hS hx0 (gce_Vote hx0.1) rfl 4 (by decide) (hts _ (List.mem_cons_of_mem _ gw_78)) rfl (by decide +kernel) rfl rfl (Nat.le_of_ble_eq_true rfl) (gp_Vote_fresh hx0.1) gce_gset d_Vote_forget_10 (fun H locs hP hS => ?_)
  obtain ⟨S2, eS2⟩ : ∃ z, z = gset S1 x0 4 0 := ⟨_, rfl⟩
  rw [← eS2] at hP
  replace hw := hw S2 eS2
  exact W.vret hx hb hr (fun t ht hW => ⟨⟨S2, rfl, hw, by rw [ht]; exact hP, va_K.moved hW.alike hK⟩, hS.F ht⟩) hS.2.2 d_Vote_forget_13
set_option maxHeartbeats 4000000 in
set_option maxRecDepth 100000 in
theorem k_Vote_forget (l : Launch) (Y : gY) (hY : gOK Y) (sz : Nat) (x0 : gI)  (hx0 : gis Y 8 x0) (S : gS) (Q : gS → Prop) : Met l y_Vote_forget w_Vote_forget (gRm 1 25) (gPre Y [.ref (gad Y x0)] S sz (wp_Vote_forget (gLn Y) Q x0 S)) (va_Qv Q (gB Y) (gA Y sz)) 0 0 (gA Y sz) := by
  refine Met.ofW (cc := c_Vote_forget) (maxL := 1) (ret := (Option.none : Option Jvm.ClassFile.FieldType)) (by decide) rfl ?_
  intro p e s m args below meth c s₁ B hml hv
  obtain ⟨rfl, hsz, hP, hK, hSt, hw⟩ := hv
  subst hsz
  have hts := atoms_spec (ws := w_Vote_forget) B.pre
  have hl := lv_entry ([.ref (gad Y x0)]) (n := 1) (Nat.le_of_ble_eq_true rfl)
  rw [lg_entry_eq]
  generalize (lg_sl ([.ref (gad Y x0)]) ++ List.replicate (1 - (lg_sl ([.ref (gad Y x0)])).length) Slot.unset).toArray = ls at hl ⊢
  exact mw_Vote_forget ⟨B.exec, B.bytes, hml, findClass_of_methodNamed B.named, hts, B.returns, B.notSynchronized, hK, hY, hSt⟩ x0 S s.heap [] ls hx0 hw hP va_S.rf hl

def wp_Vote_nextFile (Ln : gI → Nat) (Q : Int32 → gS → Prop) (x0 : gI)  (S : gS) : Prop :=
  ((¬ (S.1 x0 3) = (-1 : Int32)) → ((((S.1 x0 4) = 0) → (Q (1 - (S.1 x0 3)) S)) ∧ ((¬ (S.1 x0 4) = 0) → (Q (S.1 x0 3) S)))) ∧ (((S.1 x0 3) = (-1 : Int32)) → (Q 1 S))
set_option maxHeartbeats 4000000 in
set_option maxRecDepth 100000 in
theorem mw_Vote_nextFile {p : Program} {l : Launch} {e : Env} {s : State} {m : MethodId} {args : Array Value} {below : List Frame} {meth : Method} {c : Code} {Y : gY} {Q : Int32 → gS → Prop} (C : gCx p s m args meth c Y "LogDisk$Vote" c_Vote_nextFile 1 (Option.some Jvm.ClassFile.FieldType.int) w_Vote_nextFile) : ∀ (x0 : gI)  (S : gS) (H : Heap) (locs : List Loc) (ls : Array Slot), gis Y 8 x0 → wp_Vote_nextFile (gLn Y) Q x0 S → gWd Y S H → va_S (gA Y s.heap.size) s.heap H locs → lv_has ls 1 [(0, .ref (gad Y x0))] → W p l e (gRm 0 0) s m args below meth c H locs 0 0 (MQ below (va_Qi Q (gB Y) (gA Y s.heap.size)) args s 0 0 (gA Y s.heap.size)) (F0 m 0 ls []) := by
  have C0 := C
  obtain ⟨hx, hb, hml, hown, hts, hr, hlocks, hK, hY, hSt⟩ := C
  intro x0 S H locs ls hx0 hw hP hS hl
  unfold wp_Vote_nextFile at hw
  refine lv_aload_n hx hb d_Vote_nextFile_0 rfl (lv_at hl 0 rfl) ?_
  refine g_get hx hb hts (fun w h => List.mem_cons_of_mem _ (in_Vote w h)) hown hK hP hx0 (gce_Vote hx0.1) rfl 3 (by decide) (hts _ (List.mem_cons_of_mem _ gw_76)) rfl d_Vote_nextFile_1 ?_
  refine lv_iconst (v := (-1 : Int32)) hx hb d_Vote_nextFile_4 (by decide) ?_
  refine lv_icmp_ne (tgt := 10) hx hb d_Vote_nextFile_5 (by decide) (fun c1 => ?_) (fun c1 => ?_)
  · replace hw := hw.1 c1
    refine lv_aload_n hx hb d_Vote_nextFile_10 rfl (lv_at hl 0 rfl) ?_
    refine g_get hx hb hts (fun w h => List.mem_cons_of_mem _ (in_Vote w h)) hown hK hP hx0 (gce_Vote hx0.1) rfl 4 (by decide) (hts _ (List.mem_cons_of_mem _ gw_78)) rfl d_Vote_nextFile_11 ?_
    refine lv_if_eq (tgt := 24) hx hb d_Vote_nextFile_14 (by decide) (fun c2 => ?_) (fun c2 => ?_)
    · replace hw := hw.1 c2
      refine lv_iconst (v := 1) hx hb d_Vote_nextFile_24 (by decide) ?_
      refine lv_aload_n hx hb d_Vote_nextFile_25 rfl (lv_at hl 0 rfl) ?_
      refine g_get hx hb hts (fun w h => List.mem_cons_of_mem _ (in_Vote w h)) hown hK hP hx0 (gce_Vote hx0.1) rfl 3 (by decide) (hts _ (List.mem_cons_of_mem _ gw_76)) rfl d_Vote_nextFile_26 ?_
      refine lv_isub hx hb d_Vote_nextFile_29 ?_
      exact W.iret (v := (1 - (S.1 x0 3))) hx hb hr (fun t ht hW => ⟨⟨(1 - (S.1 x0 3)), S, rfl, hw, by rw [ht]; exact hP, va_K.moved hW.alike hK⟩, hS.F ht⟩) hS.2.2 d_Vote_nextFile_30
    · replace hw := hw.2 c2
      refine lv_aload_n hx hb d_Vote_nextFile_17 rfl (lv_at hl 0 rfl) ?_
      refine g_get hx hb hts (fun w h => List.mem_cons_of_mem _ (in_Vote w h)) hown hK hP hx0 (gce_Vote hx0.1) rfl 3 (by decide) (hts _ (List.mem_cons_of_mem _ gw_76)) rfl d_Vote_nextFile_18 ?_
      refine lv_goto (tgt := 30) hx hb d_Vote_nextFile_21 (by decide) ?_
      exact W.iret (v := (S.1 x0 3)) hx hb hr (fun t ht hW => ⟨⟨(S.1 x0 3), S, rfl, hw, by rw [ht]; exact hP, va_K.moved hW.alike hK⟩, hS.F ht⟩) hS.2.2 d_Vote_nextFile_30
  · replace hw := hw.2 c1
    refine lv_iconst (v := 1) hx hb d_Vote_nextFile_8 (by decide) ?_
    exact W.iret (v := 1) hx hb hr (fun t ht hW => ⟨⟨1, S, rfl, hw, by rw [ht]; exact hP, va_K.moved hW.alike hK⟩, hS.F ht⟩) hS.2.2 d_Vote_nextFile_9
set_option maxHeartbeats 4000000 in
set_option maxRecDepth 100000 in
theorem k_Vote_nextFile (l : Launch) (Y : gY) (hY : gOK Y) (sz : Nat) (x0 : gI)  (hx0 : gis Y 8 x0) (S : gS) (Q : Int32 → gS → Prop) : Met l y_Vote_nextFile w_Vote_nextFile (gRm 0 0) (gPre Y [.ref (gad Y x0)] S sz (wp_Vote_nextFile (gLn Y) Q x0 S)) (va_Qi Q (gB Y) (gA Y sz)) 0 0 (gA Y sz) := by
  refine Met.ofW (cc := c_Vote_nextFile) (maxL := 1) (ret := (Option.some Jvm.ClassFile.FieldType.int)) (by decide) rfl ?_
  intro p e s m args below meth c s₁ B hml hv
  obtain ⟨rfl, hsz, hP, hK, hSt, hw⟩ := hv
  subst hsz
  have hts := atoms_spec (ws := w_Vote_nextFile) B.pre
  have hl := lv_entry ([.ref (gad Y x0)]) (n := 1) (Nat.le_of_ble_eq_true rfl)
  rw [lg_entry_eq]
  generalize (lg_sl ([.ref (gad Y x0)]) ++ List.replicate (1 - (lg_sl ([.ref (gad Y x0)])).length) Slot.unset).toArray = ls at hl ⊢
  exact mw_Vote_nextFile ⟨B.exec, B.bytes, hml, findClass_of_methodNamed B.named, hts, B.returns, B.notSynchronized, hK, hY, hSt⟩ x0 S s.heap [] ls hx0 hw hP va_S.rf hl
