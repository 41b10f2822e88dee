def wp_LogDisk_feed_49 (Ln : gI → Nat) (Q : Int32 → gS → Prop) (X : String → gS → Prop) : Nat → gI → Int64 → Int32 → Int32 → gS → Prop
  | 0, _, _, _, _, _ => False
  | n49 + 1, x0, x1, x3, x4, S => ((x3 ≤ x4) → (Q (S.1 (grf x0 3) 1) S)) ∧ ((¬ x3 ≤ x4) → (vp_in (S.1 (grf x0 3) 1) (Ln (grf (grf x0 3) 0)) ∧ (∀ S5 : gS, S5 = gset S (grf (grf x0 3) 0) (S.1 (grf x0 3) 1).toNatClampNeg (vp_nar .byte (((ju_lushr x1 (8 * x4)).toInt32).toInt8.toInt32)) → (∀ S6 : gS, S6 = gset S5 (grf x0 3) 1 ((S5.1 (grf x0 3) 1) + 1) → (∀ v4_7 : Int32, v4_7 = x4 + 1 → (wp_LogDisk_feed_49 Ln Q X n49 x0 x1 x3 v4_7 S6))))))
def wp_LogDisk_feed (Ln : gI → Nat) (Q : Int32 → gS → Prop) (X : String → gS → Prop) (x0 : gI) (x1 : Int64) (x3 : Int32)  (S : gS) : Prop :=
  ((x3 < 1) → (X "java/lang/IllegalArgumentException" S)) ∧ ((¬ x3 < 1) → (((x3 ≤ 8) → ((((S.1 (grf x0 3) 1) ≤ (4096 - x3)) → (∃ n49 : Nat, wp_LogDisk_feed_49 Ln Q X n49 x0 x1 x3 0 S)) ∧ ((¬ (S.1 (grf x0 3) 1) ≤ (4096 - x3)) → (X "java/lang/IllegalStateException" S)))) ∧ ((¬ x3 ≤ 8) → (X "java/lang/IllegalArgumentException" S))))
set_option maxHeartbeats 4000000 in
set_option maxRecDepth 100000 in
theorem mw_LogDisk_feed_49 {p : Program} {l : Launch} {e : Env} {s : State} {m : MethodId} {args : Array Value} {below : List Frame} {meth : Method} {c : Code} {Y : gY} {Q : Int32 → gS → Prop} {X : String → gS → Prop} (C : gCx p s m args meth c Y "LogDisk" c_LogDisk_feed 5 (Option.some Jvm.ClassFile.FieldType.int) w_LogDisk_feed) (hlt : l.stackTraces = false) (hout : ∀ x ∈ c.exceptionTable.toList, False) : ∀ (n : Nat), ∀ (x0 : gI) (x1 : Int64) (x3 : Int32) (x4 : Int32)  (S : gS) (H : Heap) (locs : List Loc) (ls : Array Slot), gis Y 9 x0 → wp_LogDisk_feed_49 (gLn Y) Q X n x0 x1 x3 x4 S → gWd Y S H → va_S (gA Y s.heap.size) s.heap H locs → lv_has ls 5 [(0, .ref (gad Y x0)), (1, .long x1), (3, .int x3), (4, .int x4)] → W p l e (gRmX 6 100) s m args below meth c H locs 0 0 (gxZ below Y (va_Qi Q (gB Y) (gA Y s.heap.size)) X args s) (F0 m 49 ls []) := by
  have C0 := C
  obtain ⟨hx, hb, hml, hown, hts, hr, hlocks, hK, hY, hSt⟩ := C
  intro n
  induction n with
  | zero =>
    intro x0 x1 x3 x4 S H locs ls hx0 hw
    exact False.elim hw
  | succ n ih =>
    intro x0 x1 x3 x4 S H locs ls hx0 hw hP hS hl
    unfold wp_LogDisk_feed_49 at hw
    refine lv_iload hx hb d_LogDisk_feed_49 (lv_at hl 3 rfl) ?_
    refine lv_iload_n hx hb d_LogDisk_feed_51 rfl (lv_at hl 2 rfl) ?_
    refine lv_icmp_ge (tgt := 98) hx hb d_LogDisk_feed_52 (by decide) (fun c4 => ?_) (fun c4 => ?_)
    · replace hw := hw.1 c4
      refine lv_aload_n hx hb d_LogDisk_feed_98 rfl (lv_at hl 0 rfl) ?_
      refine g_get hx hb hts (fun w h => List.mem_cons_of_mem _ (in_LogDisk w h)) hown hK hP hx0 (gce_LogDisk hx0.1) rfl 3 (by decide) (hts _ (List.mem_cons_of_mem _ gw_232)) rfl d_LogDisk_feed_99 ?_
      refine g_get hx hb hts (fun w h => List.mem_cons_of_mem _ (in_Tape w h)) hown hK hP (gis_LogDisk_tape hY hx0) (gce_Tape (gis_LogDisk_tape hY hx0).1) rfl 1 (by decide) (hts _ (List.mem_cons_of_mem _ gw_41)) rfl d_LogDisk_feed_102 ?_
      exact gx_ret (W.iret (v := (S.1 (grf x0 3) 1)) hx hb hr (fun t ht hW => ⟨⟨(S.1 (grf x0 3) 1), S, rfl, hw, by rw [ht]; exact hP, va_K.moved hW.alike hK⟩, hS.F ht⟩) hS.2.2 d_LogDisk_feed_105)
    · replace hw := hw.2 c4
      refine lv_aload_n hx hb d_LogDisk_feed_55 rfl (lv_at hl 0 rfl) ?_
      refine g_get hx hb hts (fun w h => List.mem_cons_of_mem _ (in_LogDisk w h)) hown hK hP hx0 (gce_LogDisk hx0.1) rfl 3 (by decide) (hts _ (List.mem_cons_of_mem _ gw_232)) rfl d_LogDisk_feed_56 ?_
      refine g_get hx hb hts (fun w h => List.mem_cons_of_mem _ (in_Tape w h)) hown hK hP (gis_LogDisk_tape hY hx0) (gce_Tape (gis_LogDisk_tape hY hx0).1) rfl 0 (by decide) (hts _ (List.mem_cons_of_mem _ gw_39)) rfl d_LogDisk_feed_59 ?_
      refine lv_aload_n hx hb d_LogDisk_feed_62 rfl (lv_at hl 0 rfl) ?_
      refine g_get hx hb hts (fun w h => List.mem_cons_of_mem _ (in_LogDisk w h)) hown hK hP hx0 (gce_LogDisk hx0.1) rfl 3 (by decide) (hts _ (List.mem_cons_of_mem _ gw_232)) rfl d_LogDisk_feed_63 ?_
      refine g_get hx hb hts (fun w h => List.mem_cons_of_mem _ (in_Tape w h)) hown hK hP (gis_LogDisk_tape hY hx0) (gce_Tape (gis_LogDisk_tape hY hx0).1) rfl 1 (by decide) (hts _ (List.mem_cons_of_mem _ gw_41)) rfl d_LogDisk_feed_66 ?_
      refine lv_lload_n hx hb d_LogDisk_feed_69 rfl (lv_at hl 1 rfl) ?_
      refine lv_bipush (v := 8) hx hb d_LogDisk_feed_70 (by decide) ?_
      refine lv_iload hx hb d_LogDisk_feed_72 (lv_at hl 3 rfl) ?_
      refine lv_imul hx hb d_LogDisk_feed_74 ?_
      refine lv_lushr hx hb d_LogDisk_feed_75 rfl ?_
      refine lv_l2i hx hb d_LogDisk_feed_76 rfl ?_
      refine lv_i2b hx hb d_LogDisk_feed_77 rfl ?_
      obtain ⟨hin, hw⟩ := hw
      refine g_bastore hx hb hK hY.1 hP hS (gis_Tape_bytes hY (gis_LogDisk_tape hY hx0)) hin d_LogDisk_feed_78 (fun S5 eS5 H locs hP hS => ?_)
      replace hw := hw S5 eS5
      refine lv_aload_n hx hb d_LogDisk_feed_79 rfl (lv_at hl 0 rfl) ?_
      refine g_get hx hb hts (fun w h => List.mem_cons_of_mem _ (in_LogDisk w h)) hown hK hP hx0 (gce_LogDisk hx0.1) rfl 3 (by decide) (hts _ (List.mem_cons_of_mem _ gw_232)) rfl d_LogDisk_feed_80 ?_
      refine lv_dup hx hb d_LogDisk_feed_83 rfl ?_
      refine g_get hx hb hts (fun w h => List.mem_cons_of_mem _ (in_Tape w h)) hown hK hP (gis_LogDisk_tape hY hx0) (gce_Tape (gis_LogDisk_tape hY hx0).1) rfl 1 (by decide) (hts _ (List.mem_cons_of_mem _ gw_41)) rfl d_LogDisk_feed_84 ?_
      refine lv_iconst (v := 1) hx hb d_LogDisk_feed_87 (by decide) ?_
      refine lv_iadd hx hb d_LogDisk_feed_88 ?_
      refine g_put (ty := .int) (v := .int ((S5.1 (grf x0 3) 1) + 1)) (S' := gset S5 (grf x0 3) 1 ((S5.1 (grf x0 3) 1) + 1)) hx hb hts (fun w h => List.mem_cons_of_mem _ (in_Tape w h)) ty_Tape tyok_Tape nm_Tape hown hK hY.1 hP hS (gis_LogDisk_tape hY hx0) (gce_Tape (gis_LogDisk_tape hY hx0).1) rfl 1 (by decide) (hts _ (List.mem_cons_of_mem _ gw_41)) rfl (by decide +kernel) rfl rfl (Nat.le_of_ble_eq_true rfl) (gp_Tape_size (gis_LogDisk_tape hY hx0).1) gce_gset d_LogDisk_feed_89 (fun H locs hP hS => ?_)
      obtain ⟨S6, eS6⟩ : ∃ z, z = gset S5 (grf x0 3) 1 ((S5.1 (grf x0 3) 1) + 1) := ⟨_, rfl⟩
      rw [← eS6] at hP
      replace hw := hw S6 eS6
      obtain ⟨v4_7, ev4_7⟩ : ∃ y : Int32, y = x4 + 1 := ⟨_, rfl⟩
      replace hw := hw v4_7 ev4_7
      refine lv_iinc (v := v4_7) (lv' := [(4, .int v4_7), (0, .ref (gad Y x0)), (1, .long x1), (3, .int x3)]) hx hb d_LogDisk_feed_92 hl (k := 3) rfl (by rw [ev4_7]; rfl) (by decide) rfl (fun ls hl => ?_)
      refine lv_goto (tgt := 49) hx hb d_LogDisk_feed_95 (by decide) ?_
      exact ih x0 x1 x3 v4_7 S6 H locs ls hx0 hw hP hS (lv_sub hl [1, 2, 3, 0] rfl)
set_option maxHeartbeats 4000000 in
set_option maxRecDepth 100000 in
theorem mw_LogDisk_feed {p : Program} {l : Launch} {e : Env} {s : State} {m : MethodId} {args : Array Value} {below : List Frame} {meth : Method} {c : Code} {Y : gY} {Q : Int32 → gS → Prop} {X : String → gS → Prop} (C : gCx p s m args meth c Y "LogDisk" c_LogDisk_feed 5 (Option.some Jvm.ClassFile.FieldType.int) w_LogDisk_feed) (hlt : l.stackTraces = false) (hout : ∀ x ∈ c.exceptionTable.toList, False) : ∀ (x0 : gI) (x1 : Int64) (x3 : Int32)  (S : gS) (H : Heap) (locs : List Loc) (ls : Array Slot), gis Y 9 x0 → wp_LogDisk_feed (gLn Y) Q X x0 x1 x3 S → gWd Y S H → va_S (gA Y s.heap.size) s.heap H locs → lv_has ls 5 [(0, .ref (gad Y x0)), (1, .long x1), (3, .int x3)] → W p l e (gRmX 6 100) s m args below meth c H locs 0 0 (gxZ below Y (va_Qi Q (gB Y) (gA Y s.heap.size)) X args s) (F0 m 0 ls []) := by
  have C0 := C
  obtain ⟨hx, hb, hml, hown, hts, hr, hlocks, hK, hY, hSt⟩ := C
  intro x0 x1 x3 S H locs ls hx0 hw hP hS hl
  unfold wp_LogDisk_feed at hw
  refine lv_iload_n hx hb d_LogDisk_feed_0 rfl (lv_at hl 2 rfl) ?_
  refine lv_iconst (v := 1) hx hb d_LogDisk_feed_1 (by decide) ?_
  refine lv_icmp_lt (tgt := 11) hx hb d_LogDisk_feed_2 (by decide) (fun c1 => ?_) (fun c1 => ?_)
  · replace hw := hw.1 c1
    exact gx_throwS (text := "n is not 1 .. 8") hx hb hlt hown (by decide +kernel) (hts _ (List.mem_cons_of_mem _ gw_434)) (hts _ (List.mem_cons_of_mem _ gw_16)) hSt (by decide +kernel) (by decide +kernel) hS hP (by rw [hml]; exact hl.1) d_LogDisk_feed_11 d_LogDisk_feed_14 d_LogDisk_feed_15 d_LogDisk_feed_17 d_LogDisk_feed_20 hout (Nat.le_of_ble_eq_true rfl) (Nat.le_of_ble_eq_true rfl) (Nat.le_of_ble_eq_true rfl) (Nat.le_of_ble_eq_true rfl) hlocks hw (Nat.le_refl _) (Nat.le_refl _)
  · replace hw := hw.2 c1
    refine lv_iload_n hx hb d_LogDisk_feed_5 rfl (lv_at hl 2 rfl) ?_
    refine lv_bipush (v := 8) hx hb d_LogDisk_feed_6 (by decide) ?_
    refine lv_icmp_le (tgt := 21) hx hb d_LogDisk_feed_8 (by decide) (fun c2 => ?_) (fun c2 => ?_)
    · replace hw := hw.1 c2
      refine lv_aload_n hx hb d_LogDisk_feed_21 rfl (lv_at hl 0 rfl) ?_
      refine g_get hx hb hts (fun w h => List.mem_cons_of_mem _ (in_LogDisk w h)) hown hK hP hx0 (gce_LogDisk hx0.1) rfl 3 (by decide) (hts _ (List.mem_cons_of_mem _ gw_232)) rfl d_LogDisk_feed_22 ?_
      refine g_get hx hb hts (fun w h => List.mem_cons_of_mem _ (in_Tape w h)) hown hK hP (gis_LogDisk_tape hY hx0) (gce_Tape (gis_LogDisk_tape hY hx0).1) rfl 1 (by decide) (hts _ (List.mem_cons_of_mem _ gw_41)) rfl d_LogDisk_feed_25 ?_
      refine lv_sipush (v := 4096) hx hb d_LogDisk_feed_28 (by decide) ?_
      refine lv_iload_n hx hb d_LogDisk_feed_31 rfl (lv_at hl 2 rfl) ?_
      refine lv_isub hx hb d_LogDisk_feed_32 ?_
      refine lv_icmp_le (tgt := 46) hx hb d_LogDisk_feed_33 (by decide) (fun c3 => ?_) (fun c3 => ?_)
      · replace hw := hw.1 c3
        refine lv_iconst (v := 0) hx hb d_LogDisk_feed_46 (by decide) ?_
        refine lv_istore (lv' := [(4, .int 0), (0, .ref (gad Y x0)), (1, .long x1), (3, .int x3)]) hx hb d_LogDisk_feed_47 hl (by decide) rfl (fun ls hl => ?_)
        obtain ⟨n, hw⟩ := hw
        exact mw_LogDisk_feed_49 C0 hlt hout n x0 x1 x3 0 S H locs ls hx0 hw hP hS (lv_sub hl [1, 2, 3, 0] rfl)
      · replace hw := hw.2 c3
        exact gx_throwS (text := "the tape would have more than 4096 bytes") hx hb hlt hown (by decide +kernel) (hts _ (List.mem_cons_of_mem _ gw_503)) (hts _ (List.mem_cons_of_mem _ gw_17)) hSt (by decide +kernel) (by decide +kernel) hS hP (by rw [hml]; exact hl.1) d_LogDisk_feed_36 d_LogDisk_feed_39 d_LogDisk_feed_40 d_LogDisk_feed_42 d_LogDisk_feed_45 hout (Nat.le_of_ble_eq_true rfl) (Nat.le_of_ble_eq_true rfl) (Nat.le_of_ble_eq_true rfl) (Nat.le_of_ble_eq_true rfl) hlocks hw (Nat.le_refl _) (Nat.le_refl _)
    · replace hw := hw.2 c2
      exact gx_throwS (text := "n is not 1 .. 8") hx hb hlt hown (by decide +kernel) (hts _ (List.mem_cons_of_mem _ gw_434)) (hts _ (List.mem_cons_of_mem _ gw_16)) hSt (by decide +kernel) (by decide +kernel) hS hP (by rw [hml]; exact hl.1) d_LogDisk_feed_11 d_LogDisk_feed_14 d_LogDisk_feed_15 d_LogDisk_feed_17 d_LogDisk_feed_20 hout (Nat.le_of_ble_eq_true rfl) (Nat.le_of_ble_eq_true rfl) (Nat.le_of_ble_eq_true rfl) (Nat.le_of_ble_eq_true rfl) hlocks hw (Nat.le_refl _) (Nat.le_refl _)
set_option maxHeartbeats 4000000 in
set_option maxRecDepth 100000 in
theorem k_LogDisk_feed (l : Launch) (hlt : l.stackTraces = false) (Y : gY) (hY : gOK Y) (sz : Nat) (x0 : gI) (x1 : Int64) (x3 : Int32)  (hx0 : gis Y 9 x0) (S : gS) (Q : Int32 → gS → Prop) (X : String → gS → Prop) : gxMet l y_LogDisk_feed w_LogDisk_feed (gRmX 6 100) (gPre Y [.ref (gad Y x0), .long x1, .int x3] S sz (wp_LogDisk_feed (gLn Y) Q X x0 x1 x3 S)) Y sz (va_Qi Q (gB Y) (gA Y sz)) X := by
  refine gx_ofW (cc := c_LogDisk_feed) (maxL := 5) (ret := (Option.some Jvm.ClassFile.FieldType.int)) (by decide) rfl ?_
  intro p e s m args below meth c s₁ B hml hout hv
  obtain ⟨rfl, hsz, hP, hK, hSt, hw⟩ := hv
  subst hsz
  refine ⟨rfl, ?_⟩
  have hts := atoms_spec (ws := w_LogDisk_feed) B.pre
  have hl := lv_entry ([.ref (gad Y x0), .long x1, .int x3]) (n := 5) (Nat.le_of_ble_eq_true rfl)
  rw [lg_entry_eq]
  generalize (lg_sl ([.ref (gad Y x0), .long x1, .int x3]) ++ List.replicate (5 - (lg_sl ([.ref (gad Y x0), .long x1, .int x3])).length) Slot.unset).toArray = ls at hl ⊢
  exact mw_LogDisk_feed ⟨B.exec, B.bytes, hml, findClass_of_methodNamed B.named, hts, B.returns, B.notSynchronized, hK, hY, hSt⟩ hlt hout x0 x1 x3 S s.heap [] ls hx0 hw hP va_S.rf hl

def wp_LogDisk_save (Ln : gI → Nat) (Q : Int32 → gS → Prop) (X : String → gS → Prop) (x0 : gI) (x1 : Int32) (x2 : Int32)  (S : gS) : Prop :=
  ((x1 < (S.1 (grf x0 5) 0)) → (X "java/lang/IllegalArgumentException" S)) ∧ ((¬ x1 < (S.1 (grf x0 5) 0)) → (((x1 ≤ 1000000) → (((x2 < (-1 : Int32)) → (X "java/lang/IllegalArgumentException" S)) ∧ ((¬ x2 < (-1 : Int32)) → (((x2 ≤ 6) → (wp_Vote_nextFile Ln (fun r6 S5 => vp_in r6 (Ln (grf x0 1)) ∧ (wp_DiskFile_canRewrite Ln (fun r9 S8 => ((¬ r9 = 0) → (wp_Vote_set Ln (fun S11 => ∀ S12 : gS, S12 = gset S11 (grf x0 5) 4 1 → (wp_LogDisk_writeVote Ln (fun S13 => ∀ S14 : gS, S14 = gset S13 x0 11 1 → (Q r6 S14)) x0 S12)) (grf x0 5) r6 ((S8.2 (grf x0 5) 2) + (1 : Int64)) x1 x2 S8)) ∧ ((r9 = 0) → (X "java/lang/UnsupportedOperationException" S8))) (grf (grf x0 1) r6.toNatClampNeg) 32 S5)) (grf x0 5) S)) ∧ ((¬ x2 ≤ 6) → (X "java/lang/IllegalArgumentException" S)))))) ∧ ((¬ x1 ≤ 1000000) → (X "java/lang/IllegalArgumentException" S))))
set_option maxHeartbeats 4000000 in
set_option maxRecDepth 100000 in
theorem mw_LogDisk_save {p : Program} {l : Launch} {e : Env} {s : State} {m : MethodId} {args : Array Value} {below : List Frame} {meth : Method} {c : Code} {Y : gY} {Q : Int32 → gS → Prop} {X : String → gS → Prop} (C : gCx p s m args meth c Y "LogDisk" c_LogDisk_save 4 (Option.some Jvm.ClassFile.FieldType.int) w_LogDisk_save) (hlt : l.stackTraces = false) (hout : ∀ x ∈ c.exceptionTable.toList, False) : ∀ (x0 : gI) (x1 : Int32) (x2 : Int32)  (S : gS) (H : Heap) (locs : List Loc) (ls : Array Slot), gis Y 9 x0 → wp_LogDisk_save (gLn Y) Q X x0 x1 x2 S → gWd Y S H → va_S (gA Y s.heap.size) s.heap H locs → lv_has ls 4 [(0, .ref (gad Y x0)), (1, .int x1), (2, .int x2)] → W p l e (gRmX 6 130) s m args below meth c H locs 0 0 (gxZ below Y (va_Qi Q (gB Y) (gA Y s.heap.size)) X args s) (F0 m 0 ls []) := by
  have C0 := C
  obtain ⟨hx, hb, hml, hown, hts, hr, hlocks, hK, hY, hSt⟩ := C
  intro x0 x1 x2 S H locs ls hx0 hw hP hS hl
  unfold wp_LogDisk_save at hw
  refine lv_iload_n hx hb d_LogDisk_save_0 rfl (lv_at hl 1 rfl) ?_
  refine lv_aload_n hx hb d_LogDisk_save_1 rfl (lv_at hl 0 rfl) ?_
  refine g_get hx hb hts (fun w h => List.mem_cons_of_mem _ (in_LogDisk w h)) hown hK hP hx0 (gce_LogDisk hx0.1) rfl 5 (by decide) (hts _ (List.mem_cons_of_mem _ gw_234)) rfl d_LogDisk_save_2 ?_
  refine g_get hx hb hts (fun w h => List.mem_cons_of_mem _ (in_Vote w h)) hown hK hP (gis_LogDisk_vote hY hx0) (gce_Vote (gis_LogDisk_vote hY hx0).1) rfl 0 (by decide) (hts _ (List.mem_cons_of_mem _ gw_71)) rfl d_LogDisk_save_5 ?_
  refine lv_icmp_lt (tgt := 17) hx hb d_LogDisk_save_8 (by decide) (fun c1 => ?_) (fun c1 => ?_)
  · replace hw := hw.1 c1
    exact gx_throwS (text := "term is not TERM .. 1000000") hx hb hlt hown (by decide +kernel) (hts _ (List.mem_cons_of_mem _ gw_434)) (hts _ (List.mem_cons_of_mem _ gw_16)) hSt (by decide +kernel) (by decide +kernel) hS hP (by rw [hml]; exact hl.1) d_LogDisk_save_17 d_LogDisk_save_20 d_LogDisk_save_21 d_LogDisk_save_23 d_LogDisk_save_26 hout (Nat.le_of_ble_eq_true rfl) (Nat.le_of_ble_eq_true rfl) (Nat.le_of_ble_eq_true rfl) (Nat.le_of_ble_eq_true rfl) hlocks hw (Nat.le_refl _) (Nat.le_refl _)
  · replace hw := hw.2 c1
    refine lv_iload_n hx hb d_LogDisk_save_11 rfl (lv_at hl 1 rfl) ?_
    refine lv_ldc (v := 1000000) hx hb hown (hts _ (List.mem_cons_of_mem _ gw_527)) d_LogDisk_save_12 ?_
    refine lv_icmp_le (tgt := 27) hx hb d_LogDisk_save_14 (by decide) (fun c2 => ?_) (fun c2 => ?_)
    · replace hw := hw.1 c2
      refine lv_iload_n hx hb d_LogDisk_save_27 rfl (lv_at hl 2 rfl) ?_
      refine lv_iconst (v := (-1 : Int32)) hx hb d_LogDisk_save_28 (by decide) ?_
      refine lv_icmp_lt (tgt := 38) hx hb d_LogDisk_save_29 (by decide) (fun c3 => ?_) (fun c3 => ?_)
      · replace hw := hw.1 c3
        exact gx_throwS (text := "voted is not NONE .. 6") hx hb hlt hown (by decide +kernel) (hts _ (List.mem_cons_of_mem _ gw_434)) (hts _ (List.mem_cons_of_mem _ gw_16)) hSt (by decide +kernel) (by decide +kernel) hS hP (by rw [hml]; exact hl.1) d_LogDisk_save_38 d_LogDisk_save_41 d_LogDisk_save_42 d_LogDisk_save_44 d_LogDisk_save_47 hout (Nat.le_of_ble_eq_true rfl) (Nat.le_of_ble_eq_true rfl) (Nat.le_of_ble_eq_true rfl) (Nat.le_of_ble_eq_true rfl) hlocks hw (Nat.le_refl _) (Nat.le_refl _)
      · replace hw := hw.2 c3
        refine lv_iload_n hx hb d_LogDisk_save_32 rfl (lv_at hl 2 rfl) ?_
        refine lv_bipush (v := 6) hx hb d_LogDisk_save_33 (by decide) ?_
        refine lv_icmp_le (tgt := 48) hx hb d_LogDisk_save_35 (by decide) (fun c4 => ?_) (fun c4 => ?_)
        · replace hw := hw.1 c4
          refine lv_aload_n hx hb d_LogDisk_save_48 rfl (lv_at hl 0 rfl) ?_
          refine g_get hx hb hts (fun w h => List.mem_cons_of_mem _ (in_LogDisk w h)) hown hK hP hx0 (gce_LogDisk hx0.1) rfl 5 (by decide) (hts _ (List.mem_cons_of_mem _ gw_234)) rfl d_LogDisk_save_49 ?_
          refine g_calli (va_runV (As := []) (rest := []) ⟨hx, hb, hml, hown, hts⟩ (k_Vote_nextFile l Y hY H.size (grf x0 5) (gis_LogDisk_vote hY hx0) S _) (cwV 0 hts (gG_V gw_530 gw_531 gw_532 gw_4 gw_533) rfl rfl rfl (by decide +kernel) ⟨Nat.le_of_ble_eq_true rfl, Nat.le_of_ble_eq_true rfl⟩) ⟨gPre_blind, g_recv hK hP (gis_LogDisk_vote hY hx0) (gce_Vote (gis_LogDisk_vote hY hx0).1) rfl, g_pre hK hSt hS hP hw⟩ rfl rfl hl.1 rfl (lv_room (Nat.le_of_ble_eq_true rfl)) d_LogDisk_save_52 ⟨Nat.zero_le _, Nat.zero_le _⟩) hS (fun r6 S5 H locs hw hP hS => ?_)
          refine lv_istore_n (lv' := [(3, .int r6), (0, .ref (gad Y x0)), (1, .int x1), (2, .int x2)]) hx hb d_LogDisk_save_55 rfl hl (by decide) rfl (fun ls hl => ?_)
          refine lv_aload_n hx hb d_LogDisk_save_56 rfl (lv_at hl 1 rfl) ?_
          refine g_get hx hb hts (fun w h => List.mem_cons_of_mem _ (in_LogDisk w h)) hown hK hP hx0 (gce_LogDisk hx0.1) rfl 1 (by decide) (hts _ (List.mem_cons_of_mem _ gw_230)) rfl d_LogDisk_save_57 ?_
          refine lv_iload_n hx hb d_LogDisk_save_60 rfl (lv_at hl 0 rfl) ?_
          obtain ⟨hin, hw⟩ := hw
          refine g_aaload hx hb hK hP (gis_LogDisk_files hY hx0) hin d_LogDisk_save_61 ?_
          have hin7 := hin
          refine lv_bipush (v := 32) hx hb d_LogDisk_save_62 (by decide) ?_
          refine g_calli (va_runV (As := [.int 32]) (rest := []) ⟨hx, hb, hml, hown, hts⟩ (k_DiskFile_canRewrite l Y hY H.size (grf (grf x0 1) r6.toNatClampNeg) 32 (gis_elem_DiskFile hY (gis_LogDisk_files hY hx0) hin7) S5 _) (cwV 1 hts (gG_V gw_534 gw_535 gw_536 gw_10 gw_537) rfl rfl rfl (by decide +kernel) ⟨Nat.le_of_ble_eq_true rfl, Nat.le_of_ble_eq_true rfl⟩) ⟨gPre_blind, g_recv hK hP (gis_elem_DiskFile hY (gis_LogDisk_files hY hx0) hin7) (gce_DiskFile (gis_elem_DiskFile hY (gis_LogDisk_files hY hx0) hin7).1) rfl, g_pre hK hSt hS hP hw⟩ rfl rfl hl.1 rfl (lv_room (Nat.le_of_ble_eq_true rfl)) d_LogDisk_save_64 ⟨Nat.zero_le _, Nat.zero_le _⟩) hS (fun r9 S8 H locs hw hP hS => ?_)
          refine lv_if_ne (tgt := 80) hx hb d_LogDisk_save_67 (by decide) (fun c10 => ?_) (fun c10 => ?_)
          · replace hw := hw.1 c10
            refine lv_aload_n hx hb d_LogDisk_save_80 rfl (lv_at hl 1 rfl) ?_
            refine g_get hx hb hts (fun w h => List.mem_cons_of_mem _ (in_LogDisk w h)) hown hK hP hx0 (gce_LogDisk hx0.1) rfl 5 (by decide) (hts _ (List.mem_cons_of_mem _ gw_234)) rfl d_LogDisk_save_81 ?_
            refine lv_iload_n hx hb d_LogDisk_save_84 rfl (lv_at hl 0 rfl) ?_
            refine lv_aload_n hx hb d_LogDisk_save_85 rfl (lv_at hl 1 rfl) ?_
            refine g_get hx hb hts (fun w h => List.mem_cons_of_mem _ (in_LogDisk w h)) hown hK hP hx0 (gce_LogDisk hx0.1) rfl 5 (by decide) (hts _ (List.mem_cons_of_mem _ gw_234)) rfl d_LogDisk_save_86 ?_
            refine g_get hx hb hts (fun w h => List.mem_cons_of_mem _ (in_Vote w h)) hown hK hP (gis_LogDisk_vote hY hx0) (gce_Vote (gis_LogDisk_vote hY hx0).1) rfl 2 (by decide) (hts _ (List.mem_cons_of_mem _ gw_75)) rfl d_LogDisk_save_89 ?_
            refine lv_lconst (v := 1) hx hb d_LogDisk_save_92 (by decide) ?_
            refine lv_ladd hx hb d_LogDisk_save_93 ?_
            refine lv_iload_n hx hb d_LogDisk_save_94 rfl (lv_at hl 2 rfl) ?_
            refine lv_iload_n hx hb d_LogDisk_save_95 rfl (lv_at hl 3 rfl) ?_
            refine g_callv (va_runV (As := [.int r6, .long ((S8.2 (grf x0 5) 2) + (1 : Int64)), .int x1, .int x2]) (rest := []) ⟨hx, hb, hml, hown, hts⟩ (k_Vote_set l Y hY H.size (grf x0 5) r6 ((S8.2 (grf x0 5) 2) + (1 : Int64)) x1 x2 (gis_LogDisk_vote hY hx0) S8 _) (cwV 4 hts (gG_V gw_354 gw_333 gw_334 gw_4 gw_335) rfl rfl rfl (by decide +kernel) ⟨Nat.le_of_ble_eq_true rfl, Nat.le_of_ble_eq_true rfl⟩) ⟨gPre_blind, g_recv hK hP (gis_LogDisk_vote hY hx0) (gce_Vote (gis_LogDisk_vote hY hx0).1) rfl, g_pre hK hSt hS hP hw⟩ rfl rfl hl.1 rfl (lv_room (Nat.le_of_ble_eq_true rfl)) d_LogDisk_save_96 ⟨Nat.zero_le _, Nat.zero_le _⟩) hS (fun S11 H locs hw hP hS => ?_)
            refine lv_aload_n hx hb d_LogDisk_save_99 rfl (lv_at hl 1 rfl) ?_
            refine g_get hx hb hts (fun w h => List.mem_cons_of_mem _ (in_LogDisk w h)) hown hK hP hx0 (gce_LogDisk hx0.1) rfl 5 (by decide) (hts _ (List.mem_cons_of_mem _ gw_234)) rfl d_LogDisk_save_100 ?_
            refine lv_iconst (v := 1) hx hb d_LogDisk_save_103 (by decide) ?_
            refine g_put (ty := .boolean) (v := .int 1) (S' := gset S11 (grf x0 5) 4 1) hx hb hts (fun w h => List.mem_cons_of_mem _ (in_Vote w h)) ty_Vote tyok_Vote nm_Vote hown hK hY.1 hP hS (gis_LogDisk_vote hY hx0) (gce_Vote (gis_LogDisk_vote hY hx0).1) rfl 4 (by decide) (hts _ (List.mem_cons_of_mem _ gw_79)) rfl (by decide +kernel) rfl rfl (Nat.le_of_ble_eq_true rfl) (gp_Vote_fresh (gis_LogDisk_vote hY hx0).1) gce_gset d_LogDisk_save_104 (fun H locs hP hS => ?_)
            obtain ⟨S12, eS12⟩ : ∃ z, z = gset S11 (grf x0 5) 4 1 := ⟨_, rfl⟩
            rw [← eS12] at hP
            replace hw := hw S12 eS12
            refine lv_aload_n hx hb d_LogDisk_save_107 rfl (lv_at hl 1 rfl) ?_
            refine g_callv (va_runV (As := []) (rest := []) ⟨hx, hb, hml, hown, hts⟩ (k_LogDisk_writeVote l Y hY H.size x0 hx0 S12 _) (cwV 0 hts (gG_V gw_559 gw_561 gs_11 gw_1 gw_562) rfl rfl rfl (by decide +kernel) ⟨Nat.le_of_ble_eq_true rfl, Nat.le_of_ble_eq_true rfl⟩) ⟨gPre_blind, g_recv hK hP hx0 (gce_LogDisk hx0.1) rfl, g_pre hK hSt hS hP hw⟩ rfl rfl hl.1 rfl (lv_room (Nat.le_of_ble_eq_true rfl)) d_LogDisk_save_108 ⟨Nat.zero_le _, Nat.zero_le _⟩) hS (fun S13 H locs hw hP hS => ?_)
            refine lv_aload_n hx hb d_LogDisk_save_111 rfl (lv_at hl 1 rfl) ?_
            refine lv_iconst (v := 1) hx hb d_LogDisk_save_112 (by decide) ?_
            refine g_put (ty := .boolean) (v := .int 1) (S' := gset S13 x0 11 1) hx hb hts (fun w h => List.mem_cons_of_mem _ (in_LogDisk w h)) ty_LogDisk tyok_LogDisk nm_LogDisk hown hK hY.1 hP hS hx0 (gce_LogDisk hx0.1) rfl 11 (by decide) (hts _ (List.mem_cons_of_mem _ gw_240)) rfl (by decide +kernel) rfl rfl (Nat.le_of_ble_eq_true rfl) (gp_LogDisk_dirty hx0.1) gce_gset d_LogDisk_save_113 (fun H locs hP hS => ?_)
            obtain ⟨S14, eS14⟩ : ∃ z, z = gset S13 x0 11 1 := ⟨_, rfl⟩
            rw [← eS14] at hP
            replace hw := hw S14 eS14
            refine lv_iload_n hx hb d_LogDisk_save_116 rfl (lv_at hl 0 rfl) ?_
            exact gx_ret (W.iret (v := r6) hx hb hr (fun t ht hW => ⟨⟨r6, S14, rfl, hw, by rw [ht]; exact hP, va_K.moved hW.alike hK⟩, hS.F ht⟩) hS.2.2 d_LogDisk_save_117)
          · replace hw := hw.2 c10
            exact gx_throwS (text := "full") hx hb hlt hown (by decide +kernel) (hts _ (List.mem_cons_of_mem _ gw_543)) (hts _ (List.mem_cons_of_mem _ gw_18)) hSt (by decide +kernel) (by decide +kernel) hS hP (by rw [hml]; exact hl.1) d_LogDisk_save_70 d_LogDisk_save_73 d_LogDisk_save_74 d_LogDisk_save_76 d_LogDisk_save_79 hout (Nat.le_of_ble_eq_true rfl) (Nat.le_of_ble_eq_true rfl) (Nat.le_of_ble_eq_true rfl) (Nat.le_of_ble_eq_true rfl) hlocks hw (Nat.le_refl _) (Nat.le_refl _)
        · replace hw := hw.2 c4
          exact gx_throwS (text := "voted is not NONE .. 6") hx hb hlt hown (by decide +kernel) (hts _ (List.mem_cons_of_mem _ gw_434)) (hts _ (List.mem_cons_of_mem _ gw_16)) hSt (by decide +kernel) (by decide +kernel) hS hP (by rw [hml]; exact hl.1) d_LogDisk_save_38 d_LogDisk_save_41 d_LogDisk_save_42 d_LogDisk_save_44 d_LogDisk_save_47 hout (Nat.le_of_ble_eq_true rfl) (Nat.le_of_ble_eq_true rfl) (Nat.le_of_ble_eq_true rfl) (Nat.le_of_ble_eq_true rfl) hlocks hw (Nat.le_refl _) (Nat.le_refl _)
    · replace hw := hw.2 c2
      exact gx_throwS (text := "term is not TERM .. 1000000") hx hb hlt hown (by decide +kernel) (hts _ (List.mem_cons_of_mem _ gw_434)) (hts _ (List.mem_cons_of_mem _ gw_16)) hSt (by decide +kernel) (by decide +kernel) hS hP (by rw [hml]; exact hl.1) d_LogDisk_save_17 d_LogDisk_save_20 d_LogDisk_save_21 d_LogDisk_save_23 d_LogDisk_save_26 hout (Nat.le_of_ble_eq_true rfl) (Nat.le_of_ble_eq_true rfl) (Nat.le_of_ble_eq_true rfl) (Nat.le_of_ble_eq_true rfl) hlocks hw (Nat.le_refl _) (Nat.le_refl _)
set_option maxHeartbeats 4000000 in
set_option maxRecDepth 100000 in
theorem k_LogDisk_save (l : Launch) (hlt : l.stackTraces = false) (Y : gY) (hY : gOK Y) (sz : Nat) (x0 : gI) (x1 : Int32) (x2 : Int32)  (hx0 : gis Y 9 x0) (S : gS) (Q : Int32 → gS → Prop) (X : String → gS → Prop) : gxMet l y_LogDisk_save w_LogDisk_save (gRmX 6 130) (gPre Y [.ref (gad Y x0), .int x1, .int x2] S sz (wp_LogDisk_save (gLn Y) Q X x0 x1 x2 S)) Y sz (va_Qi Q (gB Y) (gA Y sz)) X := by
  refine gx_ofW (cc := c_LogDisk_save) (maxL := 4) (ret := (Option.some Jvm.ClassFile.FieldType.int)) (by decide) rfl ?_
  intro p e s m args below meth c s₁ B hml hout hv
  obtain ⟨rfl, hsz, hP, hK, hSt, hw⟩ := hv
  subst hsz
  refine ⟨rfl, ?_⟩
  have hts := atoms_spec (ws := w_LogDisk_save) B.pre
  have hl := lv_entry ([.ref (gad Y x0), .int x1, .int x2]) (n := 4) (Nat.le_of_ble_eq_true rfl)
  rw [lg_entry_eq]
  generalize (lg_sl ([.ref (gad Y x0), .int x1, .int x2]) ++ List.replicate (4 - (lg_sl ([.ref (gad Y x0), .int x1, .int x2])).length) Slot.unset).toArray = ls at hl ⊢
  exact mw_LogDisk_save ⟨B.exec, B.bytes, hml, findClass_of_methodNamed B.named, hts, B.returns, B.notSynchronized, hK, hY, hSt⟩ hlt hout x0 x1 x2 S s.heap [] ls hx0 hw hP va_S.rf hl

def wp_LogDisk_append_170 (Ln : gI → Nat) (Q : Int32 → gS → Prop) (X : String → gS → Prop) (x0 : gI) (x1 : Int32) (x2 : Int32) (x3 : Int32) (x5 : Int32)  (S : gS) : Prop :=
  wp_LogDisk_writeEntry Ln (fun S23 => ∀ S24 : gS, S24 = gset S23 x0 11 1 → (Q (S24.1 x0 10) S24)) x0 x5 x1 x2 x3 S
def wp_LogDisk_append_121 (Ln : gI → Nat) (Q : Int32 → gS → Prop) (X : String → gS → Prop) (x0 : gI) (x1 : Int32) (x2 : Int32) (x3 : Int32) (x4 : Int32) (x5 : Int32) (y0 : Int32) (S : gS) : Prop :=
  ∀ v6_16 : Int32, v6_16 = (y0 + 25) + x3 → (((x5 = (-1 : Int32)) → (X "java/lang/UnsupportedOperationException" S)) ∧ ((¬ x5 = (-1 : Int32)) → (vp_in x5 (Ln (grf x0 1)) ∧ (wp_DiskFile_canExtend Ln (fun r20 S19 => ((¬ r20 = 0) → (((x4 = 0) → (wp_LogDisk_append_170 Ln Q X x0 x1 x2 x3 x5 S19)) ∧ ((¬ x4 = 0) → (wp_LogDisk_openSegment Ln (fun S25 => wp_LogDisk_append_170 Ln Q X x0 x1 x2 x3 x5 S25) x0 x5 S19)))) ∧ ((r20 = 0) → (X "java/lang/UnsupportedOperationException" S19))) (grf (grf x0 1) x5.toNatClampNeg) v6_16 S))))
def wp_LogDisk_append_108 (Ln : gI → Nat) (Q : Int32 → gS → Prop) (X : String → gS → Prop) (x0 : gI) (x1 : Int32) (x2 : Int32) (x3 : Int32) (x4 : Int32) (y0 : Int32) (S : gS) : Prop :=
  ((x4 = 0) → (wp_LogDisk_append_121 Ln Q X x0 x1 x2 x3 x4 y0 0 S)) ∧ ((¬ x4 = 0) → (wp_LogDisk_append_121 Ln Q X x0 x1 x2 x3 x4 y0 24 S))
def wp_LogDisk_append (Ln : gI → Nat) (Q : Int32 → gS → Prop) (X : String → gS → Prop) (x0 : gI) (x1 : Int32) (x2 : Int32)  (S : gS) : Prop :=
  wp_Tape_handOver Ln (fun r2 S1 => wp_LogDisk_termAt Ln (fun r4 S3 => ((x1 < r4) → (X "java/lang/IllegalArgumentException" S3)) ∧ ((¬ x1 < r4) → (((x1 ≤ 1000000) → (((x2 < 0) → (X "java/lang/IllegalArgumentException" S3)) ∧ ((¬ x2 < 0) → (((x2 ≤ 2) → (((((S3.1 x0 10) - (S3.1 (grf x0 6) 1)) < 300) → (wp_LogDisk_needsNewSegment Ln (fun r11 S10 => ((r11 = 0) → (wp_Segments_lastFile Ln (fun r14 S13 => wp_LogDisk_append_108 Ln Q X x0 x1 x2 r2 r11 r14 S13) (grf x0 7) S10)) ∧ ((¬ r11 = 0) → (wp_LogDisk_lowestFreeFile Ln (fun r27 S26 => wp_LogDisk_append_108 Ln Q X x0 x1 x2 r2 r11 r27 S26) x0 S10))) x0 S3)) ∧ ((¬ ((S3.1 x0 10) - (S3.1 (grf x0 6) 1)) < 300) → (X "java/lang/IllegalStateException" S3)))) ∧ ((¬ x2 ≤ 2) → (X "java/lang/IllegalArgumentException" S3)))))) ∧ ((¬ x1 ≤ 1000000) → (X "java/lang/IllegalArgumentException" S3))))) x0 (S1.1 x0 10) S1) (grf x0 3) S
set_option maxHeartbeats 4000000 in
set_option maxRecDepth 100000 in
theorem mw_LogDisk_append_170 {p : Program} {l : Launch} {e : Env} {s : State} {m : MethodId} {args : Array Value} {below : List Frame} {meth : Method} {c : Code} {Y : gY} {Q : Int32 → gS → Prop} {X : String → gS → Prop} (C : gCx p s m args meth c Y "LogDisk" c_LogDisk_append 7 (Option.some Jvm.ClassFile.FieldType.int) w_LogDisk_append) (hlt : l.stackTraces = false) (hout : ∀ x ∈ c.exceptionTable.toList, False) : ∀ (x0 : gI) (x1 : Int32) (x2 : Int32) (x3 : Int32) (x5 : Int32)  (S : gS) (H : Heap) (locs : List Loc) (ls : Array Slot), gis Y 9 x0 → wp_LogDisk_append_170 (gLn Y) Q X x0 x1 x2 x3 x5 S → gWd Y S H → va_S (gA Y s.heap.size) s.heap H locs → lv_has ls 7 [(0, .ref (gad Y x0)), (1, .int x1), (2, .int x2), (3, .int x3), (5, .int x5)] → W p l e (gRmX 6 134) s m args below meth c H locs 0 0 (gxZ below Y (va_Qi Q (gB Y) (gA Y s.heap.size)) X args s) (F0 m 170 ls []) := by
  have C0 := C
  obtain ⟨hx, hb, hml, hown, hts, hr, hlocks, hK, hY, hSt⟩ := C
  intro x0 x1 x2 x3 x5 S H locs ls hx0 hw hP hS hl
  unfold wp_LogDisk_append_170 at hw
  refine lv_aload_n hx hb d_LogDisk_append_170 rfl (lv_at hl 0 rfl) ?_
  refine lv_iload hx hb d_LogDisk_append_171 (lv_at hl 4 rfl) ?_
  refine lv_iload_n hx hb d_LogDisk_append_173 rfl (lv_at hl 1 rfl) ?_
  refine lv_iload_n hx hb d_LogDisk_append_174 rfl (lv_at hl 2 rfl) ?_
  refine lv_iload_n hx hb d_LogDisk_append_175 rfl (lv_at hl 3 rfl) ?_
  refine g_callv (va_runV (As := [.int x5, .int x1, .int x2, .int x3]) (rest := []) ⟨hx, hb, hml, hown, hts⟩ (k_LogDisk_writeEntry l Y hY H.size x0 x5 x1 x2 x3 hx0 S _) (cwV 4 hts (gG_V gw_642 gw_644 gs_17 gw_1 gw_645) rfl rfl rfl (by decide +kernel) ⟨Nat.le_of_ble_eq_true rfl, Nat.le_of_ble_eq_true rfl⟩) ⟨gPre_blind, g_recv hK hP hx0 (gce_LogDisk hx0.1) rfl, g_pre hK hSt hS hP hw⟩ rfl rfl hl.1 rfl (lv_room (Nat.le_of_ble_eq_true rfl)) d_LogDisk_append_176 ⟨Nat.zero_le _, Nat.zero_le _⟩) hS (fun S23 H locs hw hP hS => ?_)
  refine lv_aload_n hx hb d_LogDisk_append_179 rfl (lv_at hl 0 rfl) ?_
  refine lv_iconst (v := 1) hx hb d_LogDisk_append_180 (by decide) ?_
  refine g_put (ty := .boolean) (v := .int 1) (S' := gset S23 x0 11 1) hx hb hts (fun w h => List.mem_cons_of_mem _ (in_LogDisk w h)) ty_LogDisk tyok_LogDisk nm_LogDisk hown hK hY.1 hP hS hx0 (gce_LogDisk hx0.1) rfl 11 (by decide) (hts _ (List.mem_cons_of_mem _ gw_240)) rfl (by decide +kernel) rfl rfl (Nat.le_of_ble_eq_true rfl) (gp_LogDisk_dirty hx0.1) gce_gset d_LogDisk_append_181 (fun H locs hP hS => ?_)
  obtain ⟨S24, eS24⟩ : ∃ z, z = gset S23 x0 11 1 := ⟨_, rfl⟩
  rw [← eS24] at hP
  replace hw := hw S24 eS24
  refine lv_aload_n hx hb d_LogDisk_append_184 rfl (lv_at hl 0 rfl) ?_
  refine g_get hx hb hts (fun w h => List.mem_cons_of_mem _ (in_LogDisk w h)) hown hK hP hx0 (gce_LogDisk hx0.1) rfl 10 (by decide) (hts _ (List.mem_cons_of_mem _ gw_239)) rfl d_LogDisk_append_185 ?_
  exact gx_ret (W.iret (v := (S24.1 x0 10)) hx hb hr (fun t ht hW => ⟨⟨(S24.1 x0 10), S24, rfl, hw, by rw [ht]; exact hP, va_K.moved hW.alike hK⟩, hS.F ht⟩) hS.2.2 d_LogDisk_append_188)
set_option maxHeartbeats 4000000 in
set_option maxRecDepth 100000 in
theorem mw_LogDisk_append_121 {p : Program} {l : Launch} {e : Env} {s : State} {m : MethodId} {args : Array Value} {below : List Frame} {meth : Method} {c : Code} {Y : gY} {Q : Int32 → gS → Prop} {X : String → gS → Prop} (C : gCx p s m args meth c Y "LogDisk" c_LogDisk_append 7 (Option.some Jvm.ClassFile.FieldType.int) w_LogDisk_append) (hlt : l.stackTraces = false) (hout : ∀ x ∈ c.exceptionTable.toList, False) : ∀ (x0 : gI) (x1 : Int32) (x2 : Int32) (x3 : Int32) (x4 : Int32) (x5 : Int32) (y0 : Int32) (S : gS) (H : Heap) (locs : List Loc) (ls : Array Slot), gis Y 9 x0 → wp_LogDisk_append_121 (gLn Y) Q X x0 x1 x2 x3 x4 x5 y0 S → gWd Y S H → va_S (gA Y s.heap.size) s.heap H locs → lv_has ls 7 [(0, .ref (gad Y x0)), (1, .int x1), (2, .int x2), (3, .int x3), (4, .int x4), (5, .int x5)] → W p l e (gRmX 6 134) s m args below meth c H locs 0 0 (gxZ below Y (va_Qi Q (gB Y) (gA Y s.heap.size)) X args s) (F0 m 121 ls [.int y0]) := by
  have C0 := C
  obtain ⟨hx, hb, hml, hown, hts, hr, hlocks, hK, hY, hSt⟩ := C
  intro x0 x1 x2 x3 x4 x5 y0 S H locs ls hx0 hw hP hS hl
  unfold wp_LogDisk_append_121 at hw
  refine lv_bipush (v := 25) hx hb d_LogDisk_append_121 (by decide) ?_
  refine lv_iadd hx hb d_LogDisk_append_123 ?_
  refine lv_iload_n hx hb d_LogDisk_append_124 rfl (lv_at hl 3 rfl) ?_
  refine lv_iadd hx hb d_LogDisk_append_125 ?_
  refine lv_topi (fun v6_16 ev6_16 => ?_)
  replace hw := hw v6_16 ev6_16
  refine lv_istore (lv' := [(6, .int v6_16), (0, .ref (gad Y x0)), (1, .int x1), (2, .int x2), (3, .int x3), (4, .int x4), (5, .int x5)]) hx hb d_LogDisk_append_126 hl (by decide) rfl (fun ls hl => ?_)
  refine lv_iload hx hb d_LogDisk_append_128 (lv_at hl 6 rfl) ?_
  refine lv_iconst (v := (-1 : Int32)) hx hb d_LogDisk_append_130 (by decide) ?_
  refine lv_icmp_eq (tgt := 149) hx hb d_LogDisk_append_131 (by decide) (fun c17 => ?_) (fun c17 => ?_)
  · replace hw := hw.1 c17
    exact gx_throwS (text := "full") hx hb hlt hown (by decide +kernel) (hts _ (List.mem_cons_of_mem _ gw_543)) (hts _ (List.mem_cons_of_mem _ gw_18)) hSt (by decide +kernel) (by decide +kernel) hS hP (by rw [hml]; exact hl.1) d_LogDisk_append_149 d_LogDisk_append_152 d_LogDisk_append_153 d_LogDisk_append_155 d_LogDisk_append_158 hout (Nat.le_of_ble_eq_true rfl) (Nat.le_of_ble_eq_true rfl) (Nat.le_of_ble_eq_true rfl) (Nat.le_of_ble_eq_true rfl) hlocks hw (Nat.le_refl _) (Nat.le_refl _)
  · replace hw := hw.2 c17
    refine lv_aload_n hx hb d_LogDisk_append_134 rfl (lv_at hl 1 rfl) ?_
    refine g_get hx hb hts (fun w h => List.mem_cons_of_mem _ (in_LogDisk w h)) hown hK hP hx0 (gce_LogDisk hx0.1) rfl 1 (by decide) (hts _ (List.mem_cons_of_mem _ gw_230)) rfl d_LogDisk_append_135 ?_
    refine lv_iload hx hb d_LogDisk_append_138 (lv_at hl 6 rfl) ?_
    obtain ⟨hin, hw⟩ := hw
    refine g_aaload hx hb hK hP (gis_LogDisk_files hY hx0) hin d_LogDisk_append_140 ?_
    have hin18 := hin
    refine lv_iload hx hb d_LogDisk_append_141 (lv_at hl 0 rfl) ?_
    refine g_calli (va_runV (As := [.int v6_16]) (rest := []) ⟨hx, hb, hml, hown, hts⟩ (k_DiskFile_canExtend l Y hY H.size (grf (grf x0 1) x5.toNatClampNeg) v6_16 (gis_elem_DiskFile hY (gis_LogDisk_files hY hx0) hin18) S _) (cwV 1 hts (gG_V gw_634 gw_635 gw_636 gw_10 gw_637) rfl rfl rfl (by decide +kernel) ⟨Nat.le_of_ble_eq_true rfl, Nat.le_of_ble_eq_true rfl⟩) ⟨gPre_blind, g_recv hK hP (gis_elem_DiskFile hY (gis_LogDisk_files hY hx0) hin18) (gce_DiskFile (gis_elem_DiskFile hY (gis_LogDisk_files hY hx0) hin18).1) rfl, g_pre hK hSt hS hP hw⟩ rfl rfl hl.1 rfl (lv_room (Nat.le_of_ble_eq_true rfl)) d_LogDisk_append_143 ⟨Nat.zero_le _, Nat.zero_le _⟩) hS (fun r20 S19 H locs hw hP hS => ?_)
    refine lv_if_ne (tgt := 159) hx hb d_LogDisk_append_146 (by decide) (fun c21 => ?_) (fun c21 => ?_)
    · replace hw := hw.1 c21
      refine lv_iload hx hb d_LogDisk_append_159 (lv_at hl 5 rfl) ?_
      refine lv_if_eq (tgt := 170) hx hb d_LogDisk_append_161 (by decide) (fun c22 => ?_) (fun c22 => ?_)
      · replace hw := hw.1 c22
        exact mw_LogDisk_append_170 C0 hlt hout x0 x1 x2 x3 x5 S19 H locs ls hx0 hw hP hS (lv_sub hl [1, 2, 3, 4, 6] rfl)
      · replace hw := hw.2 c22
        refine lv_aload_n hx hb d_LogDisk_append_164 rfl (lv_at hl 1 rfl) ?_
        refine lv_iload hx hb d_LogDisk_append_165 (lv_at hl 6 rfl) ?_
        refine g_callv (va_runV (As := [.int x5]) (rest := []) ⟨hx, hb, hml, hown, hts⟩ (k_LogDisk_openSegment l Y hY H.size x0 x5 hx0 S19 _) (cwV 1 hts (gG_V gw_638 gw_640 gs_16 gw_1 gw_641) rfl rfl rfl (by decide +kernel) ⟨Nat.le_of_ble_eq_true rfl, Nat.le_of_ble_eq_true rfl⟩) ⟨gPre_blind, g_recv hK hP hx0 (gce_LogDisk hx0.1) rfl, g_pre hK hSt hS hP hw⟩ rfl rfl hl.1 rfl (lv_room (Nat.le_of_ble_eq_true rfl)) d_LogDisk_append_167 ⟨Nat.zero_le _, Nat.zero_le _⟩) hS (fun S25 H locs hw hP hS => ?_)
        exact mw_LogDisk_append_170 C0 hlt hout x0 x1 x2 x3 x5 S25 H locs ls hx0 hw hP hS (lv_sub hl [1, 2, 3, 4, 6] rfl)
    · replace hw := hw.2 c21
      exact gx_throwS (text := "full") hx hb hlt hown (by decide +kernel) (hts _ (List.mem_cons_of_mem _ gw_543)) (hts _ (List.mem_cons_of_mem _ gw_18)) hSt (by decide +kernel) (by decide +kernel) hS hP (by rw [hml]; exact hl.1) d_LogDisk_append_149 d_LogDisk_append_152 d_LogDisk_append_153 d_LogDisk_append_155 d_LogDisk_append_158 hout (Nat.le_of_ble_eq_true rfl) (Nat.le_of_ble_eq_true rfl) (Nat.le_of_ble_eq_true rfl) (Nat.le_of_ble_eq_true rfl) hlocks hw (Nat.le_refl _) (Nat.le_refl _)
set_option maxHeartbeats 4000000 in
set_option maxRecDepth 100000 in
theorem mw_LogDisk_append_108 {p : Program} {l : Launch} {e : Env} {s : State} {m : MethodId} {args : Array Value} {below : List Frame} {meth : Method} {c : Code} {Y : gY} {Q : Int32 → gS → Prop} {X : String → gS → Prop} (C : gCx p s m args meth c Y "LogDisk" c_LogDisk_append 7 (Option.some Jvm.ClassFile.FieldType.int) w_LogDisk_append) (hlt : l.stackTraces = false) (hout : ∀ x ∈ c.exceptionTable.toList, False) : ∀ (x0 : gI) (x1 : Int32) (x2 : Int32) (x3 : Int32) (x4 : Int32) (y0 : Int32) (S : gS) (H : Heap) (locs : List Loc) (ls : Array Slot), gis Y 9 x0 → wp_LogDisk_append_108 (gLn Y) Q X x0 x1 x2 x3 x4 y0 S → gWd Y S H → va_S (gA Y s.heap.size) s.heap H locs → lv_has ls 7 [(0, .ref (gad Y x0)), (1, .int x1), (2, .int x2), (3, .int x3), (4, .int x4)] → W p l e (gRmX 6 134) s m args below meth c H locs 0 0 (gxZ below Y (va_Qi Q (gB Y) (gA Y s.heap.size)) X args s) (F0 m 108 ls [.int y0]) := by
  have C0 := C
  obtain ⟨hx, hb, hml, hown, hts, hr, hlocks, hK, hY, hSt⟩ := C
  intro x0 x1 x2 x3 x4 y0 S H locs ls hx0 hw hP hS hl
  unfold wp_LogDisk_append_108 at hw
  refine lv_istore (lv' := [(5, .int y0), (0, .ref (gad Y x0)), (1, .int x1), (2, .int x2), (3, .int x3), (4, .int x4)]) hx hb d_LogDisk_append_108 hl (by decide) rfl (fun ls hl => ?_)
  refine lv_iload hx hb d_LogDisk_append_110 (lv_at hl 5 rfl) ?_
  refine lv_if_eq (tgt := 120) hx hb d_LogDisk_append_112 (by decide) (fun c15 => ?_) (fun c15 => ?_)
  · replace hw := hw.1 c15
    refine lv_iconst (v := 0) hx hb d_LogDisk_append_120 (by decide) ?_
    exact mw_LogDisk_append_121 C0 hlt hout x0 x1 x2 x3 x4 y0 0 S H locs ls hx0 hw hP hS (lv_sub hl [1, 2, 3, 4, 5, 0] rfl)
  · replace hw := hw.2 c15
    refine lv_bipush (v := 24) hx hb d_LogDisk_append_115 (by decide) ?_
    refine lv_goto (tgt := 121) hx hb d_LogDisk_append_117 (by decide) ?_
    exact mw_LogDisk_append_121 C0 hlt hout x0 x1 x2 x3 x4 y0 24 S H locs ls hx0 hw hP hS (lv_sub hl [1, 2, 3, 4, 5, 0] rfl)
set_option maxHeartbeats 4000000 in
set_option maxRecDepth 100000 in
theorem mw_LogDisk_append {p : Program} {l : Launch} {e : Env} {s : State} {m : MethodId} {args : Array Value} {below : List Frame} {meth : Method} {c : Code} {Y : gY} {Q : Int32 → gS → Prop} {X : String → gS → Prop} (C : gCx p s m args meth c Y "LogDisk" c_LogDisk_append 7 (Option.some Jvm.ClassFile.FieldType.int) w_LogDisk_append) (hlt : l.stackTraces = false) (hout : ∀ x ∈ c.exceptionTable.toList, False) : ∀ (x0 : gI) (x1 : Int32) (x2 : Int32)  (S : gS) (H : Heap) (locs : List Loc) (ls : Array Slot), gis Y 9 x0 → wp_LogDisk_append (gLn Y) Q X x0 x1 x2 S → gWd Y S H → va_S (gA Y s.heap.size) s.heap H locs → lv_has ls 7 [(0, .ref (gad Y x0)), (1, .int x1), (2, .int x2)] → W p l e (gRmX 6 134) s m args below meth c H locs 0 0 (gxZ below Y (va_Qi Q (gB Y) (gA Y s.heap.size)) X args s) (F0 m 0 ls []) := by
  have C0 := C
  obtain ⟨hx, hb, hml, hown, hts, hr, hlocks, hK, hY, hSt⟩ := C
  intro x0 x1 x2 S H locs ls hx0 hw hP hS hl
  unfold wp_LogDisk_append at hw
  refine lv_aload_n hx hb d_LogDisk_append_0 rfl (lv_at hl 0 rfl) ?_
  refine g_get hx hb hts (fun w h => List.mem_cons_of_mem _ (in_LogDisk w h)) hown hK hP hx0 (gce_LogDisk hx0.1) rfl 3 (by decide) (hts _ (List.mem_cons_of_mem _ gw_232)) rfl d_LogDisk_append_1 ?_
  refine g_calli (va_runV (As := []) (rest := []) ⟨hx, hb, hml, hown, hts⟩ (k_Tape_handOver l Y hY H.size (grf x0 3) (gis_LogDisk_tape hY hx0) S _) (cwV 0 hts (gG_V gw_607 gw_608 gw_609 gw_2 gw_610) rfl rfl rfl (by decide +kernel) ⟨Nat.le_of_ble_eq_true rfl, Nat.le_of_ble_eq_true rfl⟩) ⟨gPre_blind, g_recv hK hP (gis_LogDisk_tape hY hx0) (gce_Tape (gis_LogDisk_tape hY hx0).1) rfl, g_pre hK hSt hS hP hw⟩ rfl rfl hl.1 rfl (lv_room (Nat.le_of_ble_eq_true rfl)) d_LogDisk_append_4 ⟨Nat.zero_le _, Nat.zero_le _⟩) hS (fun r2 S1 H locs hw hP hS => ?_)
  refine lv_istore_n (lv' := [(3, .int r2), (0, .ref (gad Y x0)), (1, .int x1), (2, .int x2)]) hx hb d_LogDisk_append_7 rfl hl (by decide) rfl (fun ls hl => ?_)
  refine lv_iload_n hx hb d_LogDisk_append_8 rfl (lv_at hl 2 rfl) ?_
  refine lv_aload_n hx hb d_LogDisk_append_9 rfl (lv_at hl 1 rfl) ?_
  refine lv_aload_n hx hb d_LogDisk_append_10 rfl (lv_at hl 1 rfl) ?_
  refine g_get hx hb hts (fun w h => List.mem_cons_of_mem _ (in_LogDisk w h)) hown hK hP hx0 (gce_LogDisk hx0.1) rfl 10 (by decide) (hts _ (List.mem_cons_of_mem _ gw_239)) rfl d_LogDisk_append_11 ?_
  refine g_calli (va_runV (As := [.int (S1.1 x0 10)]) (rest := [.int x1]) ⟨hx, hb, hml, hown, hts⟩ (k_LogDisk_termAt l Y hY H.size x0 (S1.1 x0 10) hx0 S1 _) (cwV 1 hts (gG_V gw_611 gw_613 gs_12 gw_1 gw_614) rfl rfl rfl (by decide +kernel) ⟨Nat.le_of_ble_eq_true rfl, Nat.le_of_ble_eq_true rfl⟩) ⟨gPre_blind, g_recv hK hP hx0 (gce_LogDisk hx0.1) rfl, g_pre hK hSt hS hP hw⟩ rfl rfl hl.1 rfl (lv_room (Nat.le_of_ble_eq_true rfl)) d_LogDisk_append_14 ⟨Nat.zero_le _, Nat.zero_le _⟩) hS (fun r4 S3 H locs hw hP hS => ?_)
  refine lv_icmp_lt (tgt := 26) hx hb d_LogDisk_append_17 (by decide) (fun c5 => ?_) (fun c5 => ?_)
  · replace hw := hw.1 c5
    exact gx_throwS (text := "term is below that of LAST or above 1000000") hx hb hlt hown (by decide +kernel) (hts _ (List.mem_cons_of_mem _ gw_434)) (hts _ (List.mem_cons_of_mem _ gw_16)) hSt (by decide +kernel) (by decide +kernel) hS hP (by rw [hml]; exact hl.1) d_LogDisk_append_26 d_LogDisk_append_29 d_LogDisk_append_30 d_LogDisk_append_32 d_LogDisk_append_35 hout (Nat.le_of_ble_eq_true rfl) (Nat.le_of_ble_eq_true rfl) (Nat.le_of_ble_eq_true rfl) (Nat.le_of_ble_eq_true rfl) hlocks hw (Nat.le_refl _) (Nat.le_refl _)
  · replace hw := hw.2 c5
    refine lv_iload_n hx hb d_LogDisk_append_20 rfl (lv_at hl 2 rfl) ?_
    refine lv_ldc (v := 1000000) hx hb hown (hts _ (List.mem_cons_of_mem _ gw_527)) d_LogDisk_append_21 ?_
    refine lv_icmp_le (tgt := 36) hx hb d_LogDisk_append_23 (by decide) (fun c6 => ?_) (fun c6 => ?_)
    · replace hw := hw.1 c6
      refine lv_iload_n hx hb d_LogDisk_append_36 rfl (lv_at hl 3 rfl) ?_
      refine lv_if_lt (tgt := 45) hx hb d_LogDisk_append_37 (by decide) (fun c7 => ?_) (fun c7 => ?_)
      · replace hw := hw.1 c7
        exact gx_throwS (text := "kind is not 0 .. 2") hx hb hlt hown (by decide +kernel) (hts _ (List.mem_cons_of_mem _ gw_434)) (hts _ (List.mem_cons_of_mem _ gw_16)) hSt (by decide +kernel) (by decide +kernel) hS hP (by rw [hml]; exact hl.1) d_LogDisk_append_45 d_LogDisk_append_48 d_LogDisk_append_49 d_LogDisk_append_51 d_LogDisk_append_54 hout (Nat.le_of_ble_eq_true rfl) (Nat.le_of_ble_eq_true rfl) (Nat.le_of_ble_eq_true rfl) (Nat.le_of_ble_eq_true rfl) hlocks hw (Nat.le_refl _) (Nat.le_refl _)
      · replace hw := hw.2 c7
        refine lv_iload_n hx hb d_LogDisk_append_40 rfl (lv_at hl 3 rfl) ?_
        refine lv_iconst (v := 2) hx hb d_LogDisk_append_41 (by decide) ?_
        refine lv_icmp_le (tgt := 55) hx hb d_LogDisk_append_42 (by decide) (fun c8 => ?_) (fun c8 => ?_)
        · replace hw := hw.1 c8
          refine lv_aload_n hx hb d_LogDisk_append_55 rfl (lv_at hl 1 rfl) ?_
          refine g_get hx hb hts (fun w h => List.mem_cons_of_mem _ (in_LogDisk w h)) hown hK hP hx0 (gce_LogDisk hx0.1) rfl 10 (by decide) (hts _ (List.mem_cons_of_mem _ gw_239)) rfl d_LogDisk_append_56 ?_
          refine lv_aload_n hx hb d_LogDisk_append_59 rfl (lv_at hl 1 rfl) ?_
          refine g_get hx hb hts (fun w h => List.mem_cons_of_mem _ (in_LogDisk w h)) hown hK hP hx0 (gce_LogDisk hx0.1) rfl 6 (by decide) (hts _ (List.mem_cons_of_mem _ gw_235)) rfl d_LogDisk_append_60 ?_
          refine g_get hx hb hts (fun w h => List.mem_cons_of_mem _ (in_Snapshot w h)) hown hK hP (gis_LogDisk_snapshot hY hx0) (gce_Snapshot (gis_LogDisk_snapshot hY hx0).1) rfl 1 (by decide) (hts _ (List.mem_cons_of_mem _ gw_100)) rfl d_LogDisk_append_63 ?_
          refine lv_isub hx hb d_LogDisk_append_66 ?_
          refine lv_sipush (v := 300) hx hb d_LogDisk_append_67 (by decide) ?_
          refine lv_icmp_lt (tgt := 83) hx hb d_LogDisk_append_70 (by decide) (fun c9 => ?_) (fun c9 => ?_)
          · replace hw := hw.1 c9
            refine lv_aload_n hx hb d_LogDisk_append_83 rfl (lv_at hl 1 rfl) ?_
            refine g_calli (va_runV (As := []) (rest := []) ⟨hx, hb, hml, hown, hts⟩ (k_LogDisk_needsNewSegment l Y hY H.size x0 hx0 S3 _) (cwV 0 hts (gG_V gw_622 gw_624 gs_14 gw_1 gw_625) rfl rfl rfl (by decide +kernel) ⟨Nat.le_of_ble_eq_true rfl, Nat.le_of_ble_eq_true rfl⟩) ⟨gPre_blind, g_recv hK hP hx0 (gce_LogDisk hx0.1) rfl, g_pre hK hSt hS hP hw⟩ rfl rfl hl.1 rfl (lv_room (Nat.le_of_ble_eq_true rfl)) d_LogDisk_append_84 ⟨Nat.zero_le _, Nat.zero_le _⟩) hS (fun r11 S10 H locs hw hP hS => ?_)
            refine lv_istore (lv' := [(4, .int r11), (3, .int r2), (0, .ref (gad Y x0)), (1, .int x1), (2, .int x2)]) hx hb d_LogDisk_append_87 hl (by decide) rfl (fun ls hl => ?_)
            refine lv_iload hx hb d_LogDisk_append_89 (lv_at hl 0 rfl) ?_
            refine lv_if_eq (tgt := 101) hx hb d_LogDisk_append_91 (by decide) (fun c12 => ?_) (fun c12 => ?_)
            · replace hw := hw.1 c12
              refine lv_aload_n hx hb d_LogDisk_append_101 rfl (lv_at hl 2 rfl) ?_
              refine g_get hx hb hts (fun w h => List.mem_cons_of_mem _ (in_LogDisk w h)) hown hK hP hx0 (gce_LogDisk hx0.1) rfl 7 (by decide) (hts _ (List.mem_cons_of_mem _ gw_236)) rfl d_LogDisk_append_102 ?_
              refine g_calli (va_runV (As := []) (rest := []) ⟨hx, hb, hml, hown, hts⟩ (k_Segments_lastFile l Y hY H.size (grf x0 7) (gis_LogDisk_segments hY hx0) S10 _) (cwV 0 hts (gG_V gw_626 gw_627 gw_628 gw_6 gw_629) rfl rfl rfl (by decide +kernel) ⟨Nat.le_of_ble_eq_true rfl, Nat.le_of_ble_eq_true rfl⟩) ⟨gPre_blind, g_recv hK hP (gis_LogDisk_segments hY hx0) (gce_Segments (gis_LogDisk_segments hY hx0).1) rfl, g_pre hK hSt hS hP hw⟩ rfl rfl hl.1 rfl (lv_room (Nat.le_of_ble_eq_true rfl)) d_LogDisk_append_105 ⟨Nat.zero_le _, Nat.zero_le _⟩) hS (fun r14 S13 H locs hw hP hS => ?_)
              exact mw_LogDisk_append_108 C0 hlt hout x0 x1 x2 r2 r11 r14 S13 H locs ls hx0 hw hP hS (lv_sub hl [2, 3, 4, 1, 0] rfl)
            · replace hw := hw.2 c12
              refine lv_aload_n hx hb d_LogDisk_append_94 rfl (lv_at hl 2 rfl) ?_
              refine g_calli (va_runV (As := []) (rest := []) ⟨hx, hb, hml, hown, hts⟩ (k_LogDisk_lowestFreeFile l Y hY H.size x0 hx0 S10 _) (cwV 0 hts (gG_V gw_630 gw_632 gs_15 gw_1 gw_633) rfl rfl rfl (by decide +kernel) ⟨Nat.le_of_ble_eq_true rfl, Nat.le_of_ble_eq_true rfl⟩) ⟨gPre_blind, g_recv hK hP hx0 (gce_LogDisk hx0.1) rfl, g_pre hK hSt hS hP hw⟩ rfl rfl hl.1 rfl (lv_room (Nat.le_of_ble_eq_true rfl)) d_LogDisk_append_95 ⟨Nat.zero_le _, Nat.zero_le _⟩) hS (fun r27 S26 H locs hw hP hS => ?_)
              refine lv_goto (tgt := 108) hx hb d_LogDisk_append_98 (by decide) ?_
              exact mw_LogDisk_append_108 C0 hlt hout x0 x1 x2 r2 r11 r27 S26 H locs ls hx0 hw hP hS (lv_sub hl [2, 3, 4, 1, 0] rfl)
          · replace hw := hw.2 c9
            exact gx_throwS (text := "there are 300 entries above BASE") hx hb hlt hown (by decide +kernel) (hts _ (List.mem_cons_of_mem _ gw_503)) (hts _ (List.mem_cons_of_mem _ gw_17)) hSt (by decide +kernel) (by decide +kernel) hS hP (by rw [hml]; exact hl.1) d_LogDisk_append_73 d_LogDisk_append_76 d_LogDisk_append_77 d_LogDisk_append_79 d_LogDisk_append_82 hout (Nat.le_of_ble_eq_true rfl) (Nat.le_of_ble_eq_true rfl) (Nat.le_of_ble_eq_true rfl) (Nat.le_of_ble_eq_true rfl) hlocks hw (Nat.le_refl _) (Nat.le_refl _)
        · replace hw := hw.2 c8
          exact gx_throwS (text := "kind is not 0 .. 2") hx hb hlt hown (by decide +kernel) (hts _ (List.mem_cons_of_mem _ gw_434)) (hts _ (List.mem_cons_of_mem _ gw_16)) hSt (by decide +kernel) (by decide +kernel) hS hP (by rw [hml]; exact hl.1) d_LogDisk_append_45 d_LogDisk_append_48 d_LogDisk_append_49 d_LogDisk_append_51 d_LogDisk_append_54 hout (Nat.le_of_ble_eq_true rfl) (Nat.le_of_ble_eq_true rfl) (Nat.le_of_ble_eq_true rfl) (Nat.le_of_ble_eq_true rfl) hlocks hw (Nat.le_refl _) (Nat.le_refl _)
    · replace hw := hw.2 c6
      exact gx_throwS (text := "term is below that of LAST or above 1000000") hx hb hlt hown (by decide +kernel) (hts _ (List.mem_cons_of_mem _ gw_434)) (hts _ (List.mem_cons_of_mem _ gw_16)) hSt (by decide +kernel) (by decide +kernel) hS hP (by rw [hml]; exact hl.1) d_LogDisk_append_26 d_LogDisk_append_29 d_LogDisk_append_30 d_LogDisk_append_32 d_LogDisk_append_35 hout (Nat.le_of_ble_eq_true rfl) (Nat.le_of_ble_eq_true rfl) (Nat.le_of_ble_eq_true rfl) (Nat.le_of_ble_eq_true rfl) hlocks hw (Nat.le_refl _) (Nat.le_refl _)
set_option maxHeartbeats 4000000 in
set_option maxRecDepth 100000 in
theorem k_LogDisk_append (l : Launch) (hlt : l.stackTraces = false) (Y : gY) (hY : gOK Y) (sz : Nat) (x0 : gI) (x1 : Int32) (x2 : Int32)  (hx0 : gis Y 9 x0) (S : gS) (Q : Int32 → gS → Prop) (X : String → gS → Prop) : gxMet l y_LogDisk_append w_LogDisk_append (gRmX 6 134) (gPre Y [.ref (gad Y x0), .int x1, .int x2] S sz (wp_LogDisk_append (gLn Y) Q X x0 x1 x2 S)) Y sz (va_Qi Q (gB Y) (gA Y sz)) X := by
  refine gx_ofW (cc := c_LogDisk_append) (maxL := 7) (ret := (Option.some Jvm.ClassFile.FieldType.int)) (by decide) rfl ?_
  intro p e s m args below meth c s₁ B hml hout hv
  obtain ⟨rfl, hsz, hP, hK, hSt, hw⟩ := hv
  subst hsz
  refine ⟨rfl, ?_⟩
  have hts := atoms_spec (ws := w_LogDisk_append) B.pre
  have hl := lv_entry ([.ref (gad Y x0), .int x1, .int x2]) (n := 7) (Nat.le_of_ble_eq_true rfl)
  rw [lg_entry_eq]
  generalize (lg_sl ([.ref (gad Y x0), .int x1, .int x2]) ++ List.replicate (7 - (lg_sl ([.ref (gad Y x0), .int x1, .int x2])).length) Slot.unset).toArray = ls at hl ⊢
  exact mw_LogDisk_append ⟨B.exec, B.bytes, hml, findClass_of_methodNamed B.named, hts, B.returns, B.notSynchronized, hK, hY, hSt⟩ hlt hout x0 x1 x2 S s.heap [] ls hx0 hw hP va_S.rf hl

def wp_LogDisk_cutFrom_144 (Ln : gI → Nat) (Q : Int32 → gS → Prop) (X : String → gS → Prop) (x0 : gI) (x1 : Int32) (x2 : Int32)  (S : gS) : Prop :=
  ∀ S12 : gS, S12 = gset S x0 10 (x1 - 1) → (∀ S13 : gS, S13 = gset S12 x0 11 1 → (Q x2 S13))
def wp_LogDisk_cutFrom_90 (Ln : gI → Nat) (Q : Int32 → gS → Prop) (X : String → gS → Prop) (x0 : gI) (x1 : Int32) (x2 : Int32)  (S : gS) : Prop :=
  wp_Entries_slot Ln (fun r8 S7 => wp_Segments_lastFile Ln (fun r10 S9 => vp_in r8 (Ln (grf (grf x0 8) 0)) ∧ (((¬ r10 = (S9.1 (grf (grf x0 8) 0) r8.toNatClampNeg)) → (wp_LogDisk_cutFrom_144 Ln Q X x0 x1 x2 S9)) ∧ ((r10 = (S9.1 (grf (grf x0 8) 0) r8.toNatClampNeg)) → (vp_in r8 (Ln (grf (grf x0 8) 0)) ∧ (vp_in (S9.1 (grf (grf x0 8) 0) r8.toNatClampNeg) (Ln (grf x0 1)) ∧ (vp_in r8 (Ln (grf (grf x0 8) 1)) ∧ (wp_DiskFile_cutTo Ln (fun S15 => wp_LogDisk_cutFrom_144 Ln Q X x0 x1 x2 S15) (grf (grf x0 1) (S9.1 (grf (grf x0 8) 0) r8.toNatClampNeg).toNatClampNeg) (S9.1 (grf (grf x0 8) 1) r8.toNatClampNeg) S9))))))) (grf x0 7) S7) (grf x0 8) x1 S
def wp_LogDisk_cutFrom_37 (Ln : gI → Nat) (Q : Int32 → gS → Prop) (X : String → gS → Prop) : Nat → gI → Int32 → Int32 → Int32 → gS → Prop
  | 0, _, _, _, _, _ => False
  | n37 + 1, x0, x1, x2, x3, S => ((x3 < 0) → (wp_LogDisk_cutFrom_90 Ln Q X x0 x1 x2 S)) ∧ ((¬ x3 < 0) → (vp_in x3 (Ln (grf (grf x0 7) 1)) ∧ ((((S.1 (grf (grf x0 7) 1) x3.toNatClampNeg) < x1) → (wp_LogDisk_cutFrom_90 Ln Q X x0 x1 x2 S)) ∧ ((¬ (S.1 (grf (grf x0 7) 1) x3.toNatClampNeg) < x1) → (vp_in x3 (Ln (grf (grf x0 7) 0)) ∧ (vp_in (S.1 (grf (grf x0 7) 0) x3.toNatClampNeg) (Ln (grf x0 1)) ∧ (wp_DiskFile_remove Ln (fun S18 => ∀ S19 : gS, S19 = gset S18 (grf x0 7) 2 ((S18.1 (grf x0 7) 2) - 1) → (∀ v3_20 : Int32, v3_20 = x3 + (-1 : Int32) → (wp_LogDisk_cutFrom_37 Ln Q X n37 x0 x1 x2 v3_20 S19))) (grf (grf x0 1) (S.1 (grf (grf x0 7) 0) x3.toNatClampNeg).toNatClampNeg) S)))))))
def wp_LogDisk_cutFrom (Ln : gI → Nat) (Q : Int32 → gS → Prop) (X : String → gS → Prop) (x0 : gI) (x1 : Int32)  (S : gS) : Prop :=
  wp_LogDisk_isInLog Ln (fun r2 S1 => ((¬ r2 = 0) → (∀ v2_4 : Int32, v2_4 = ((S1.1 x0 10) - x1) + 1 → (∀ v3_5 : Int32, v3_5 = (S1.1 (grf x0 7) 2) - 1 → (∃ n37 : Nat, wp_LogDisk_cutFrom_37 Ln Q X n37 x0 x1 v2_4 v3_5 S1)))) ∧ ((r2 = 0) → (X "java/lang/IndexOutOfBoundsException" S1))) x0 x1 S
set_option maxHeartbeats 4000000 in
set_option maxRecDepth 100000 in
theorem mw_LogDisk_cutFrom_144 {p : Program} {l : Launch} {e : Env} {s : State} {m : MethodId} {args : Array Value} {below : List Frame} {meth : Method} {c : Code} {Y : gY} {Q : Int32 → gS → Prop} {X : String → gS → Prop} (C : gCx p s m args meth c Y "LogDisk" c_LogDisk_cutFrom 4 (Option.some Jvm.ClassFile.FieldType.int) w_LogDisk_cutFrom) (hlt : l.stackTraces = false) (hout : ∀ x ∈ c.exceptionTable.toList, False) : ∀ (x0 : gI) (x1 : Int32) (x2 : Int32)  (S : gS) (H : Heap) (locs : List Loc) (ls : Array Slot), gis Y 9 x0 → wp_LogDisk_cutFrom_144 (gLn Y) Q X x0 x1 x2 S → gWd Y S H → va_S (gA Y s.heap.size) s.heap H locs → lv_has ls 4 [(0, .ref (gad Y x0)), (1, .int x1), (2, .int x2)] → W p l e (gRmX 6 100) s m args below meth c H locs 0 0 (gxZ below Y (va_Qi Q (gB Y) (gA Y s.heap.size)) X args s) (F0 m 144 ls []) := by
  have C0 := C
  obtain ⟨hx, hb, hml, hown, hts, hr, hlocks, hK, hY, hSt⟩ := C
  intro x0 x1 x2 S H locs ls hx0 hw hP hS hl
  unfold wp_LogDisk_cutFrom_144 at hw
  refine lv_aload_n hx hb d_LogDisk_cutFrom_144 rfl (lv_at hl 0 rfl) ?_
  refine lv_iload_n hx hb d_LogDisk_cutFrom_145 rfl (lv_at hl 1 rfl) ?_
  refine lv_iconst (v := 1) hx hb d_LogDisk_cutFrom_146 (by decide) ?_
  refine lv_isub hx hb d_LogDisk_cutFrom_147 ?_
  refine g_put (ty := .int) (v := .int (x1 - 1)) (S' := gset S x0 10 (x1 - 1)) hx hb hts (fun w h => List.mem_cons_of_mem _ (in_LogDisk w h)) ty_LogDisk tyok_LogDisk nm_LogDisk hown hK hY.1 hP hS hx0 (gce_LogDisk hx0.1) rfl 10 (by decide) (hts _ (List.mem_cons_of_mem _ gw_239)) rfl (by decide +kernel) rfl rfl (Nat.le_of_ble_eq_true rfl) (gp_LogDisk_last hx0.1) gce_gset d_LogDisk_cutFrom_148 (fun H locs hP hS => ?_)
  obtain ⟨S12, eS12⟩ : ∃ z, z = gset S x0 10 (x1 - 1) := ⟨_, rfl⟩
  rw [← eS12] at hP
  replace hw := hw S12 eS12
  refine lv_aload_n hx hb d_LogDisk_cutFrom_151 rfl (lv_at hl 0 rfl) ?_
  refine lv_iconst (v := 1) hx hb d_LogDisk_cutFrom_152 (by decide) ?_
  refine g_put (ty := .boolean) (v := .int 1) (S' := gset S12 x0 11 1) hx hb hts (fun w h => List.mem_cons_of_mem _ (in_LogDisk w h)) ty_LogDisk tyok_LogDisk nm_LogDisk hown hK hY.1 hP hS hx0 (gce_LogDisk hx0.1) rfl 11 (by decide) (hts _ (List.mem_cons_of_mem _ gw_240)) rfl (by decide +kernel) rfl rfl (Nat.le_of_ble_eq_true rfl) (gp_LogDisk_dirty hx0.1) gce_gset d_LogDisk_cutFrom_153 (fun H locs hP hS => ?_)
  obtain ⟨S13, eS13⟩ : ∃ z, z = gset S12 x0 11 1 := ⟨_, rfl⟩
  rw [← eS13] at hP
  replace hw := hw S13 eS13
  refine lv_iload_n hx hb d_LogDisk_cutFrom_156 rfl (lv_at hl 2 rfl) ?_
  exact gx_ret (W.iret (v := x2) hx hb hr (fun t ht hW => ⟨⟨x2, S13, rfl, hw, by rw [ht]; exact hP, va_K.moved hW.alike hK⟩, hS.F ht⟩) hS.2.2 d_LogDisk_cutFrom_157)
set_option maxHeartbeats 4000000 in
set_option maxRecDepth 100000 in
theorem mw_LogDisk_cutFrom_90 {p : Program} {l : Launch} {e : Env} {s : State} {m : MethodId} {args : Array Value} {below : List Frame} {meth : Method} {c : Code} {Y : gY} {Q : Int32 → gS → Prop} {X : String → gS → Prop} (C : gCx p s m args meth c Y "LogDisk" c_LogDisk_cutFrom 4 (Option.some Jvm.ClassFile.FieldType.int) w_LogDisk_cutFrom) (hlt : l.stackTraces = false) (hout : ∀ x ∈ c.exceptionTable.toList, False) : ∀ (x0 : gI) (x1 : Int32) (x2 : Int32)  (S : gS) (H : Heap) (locs : List Loc) (ls : Array Slot), gis Y 9 x0 → wp_LogDisk_cutFrom_90 (gLn Y) Q X x0 x1 x2 S → gWd Y S H → va_S (gA Y s.heap.size) s.heap H locs → lv_has ls 4 [(0, .ref (gad Y x0)), (1, .int x1), (2, .int x2)] → W p l e (gRmX 6 100) s m args below meth c H locs 0 0 (gxZ below Y (va_Qi Q (gB Y) (gA Y s.heap.size)) X args s) (F0 m 90 ls []) := by
  have C0 := C
  obtain ⟨hx, hb, hml, hown, hts, hr, hlocks, hK, hY, hSt⟩ := C
  intro x0 x1 x2 S H locs ls hx0 hw hP hS hl
  unfold wp_LogDisk_cutFrom_90 at hw
  refine lv_aload_n hx hb d_LogDisk_cutFrom_90 rfl (lv_at hl 0 rfl) ?_
  refine g_get hx hb hts (fun w h => List.mem_cons_of_mem _ (in_LogDisk w h)) hown hK hP hx0 (gce_LogDisk hx0.1) rfl 8 (by decide) (hts _ (List.mem_cons_of_mem _ gw_237)) rfl d_LogDisk_cutFrom_91 ?_
  refine lv_iload_n hx hb d_LogDisk_cutFrom_94 rfl (lv_at hl 1 rfl) ?_
  refine g_calli (va_runV (As := [.int x1]) (rest := []) ⟨hx, hb, hml, hown, hts⟩ (k_Entries_slot l Y hY H.size (grf x0 8) x1 (gis_LogDisk_entries hY hx0) S _) (cwV 1 hts (gG_V gw_401 gw_386 gw_387 gw_7 gw_388) rfl rfl rfl (by decide +kernel) ⟨Nat.le_of_ble_eq_true rfl, Nat.le_of_ble_eq_true rfl⟩) ⟨gPre_blind, g_recv hK hP (gis_LogDisk_entries hY hx0) (gce_Entries (gis_LogDisk_entries hY hx0).1) rfl, g_pre hK hSt hS hP hw⟩ rfl rfl hl.1 rfl (lv_room (Nat.le_of_ble_eq_true rfl)) d_LogDisk_cutFrom_95 ⟨Nat.zero_le _, Nat.zero_le _⟩) hS (fun r8 S7 H locs hw hP hS => ?_)
  refine lv_istore_n (lv' := [(3, .int r8), (0, .ref (gad Y x0)), (1, .int x1), (2, .int x2)]) hx hb d_LogDisk_cutFrom_98 rfl hl (by decide) rfl (fun ls hl => ?_)
  refine lv_aload_n hx hb d_LogDisk_cutFrom_99 rfl (lv_at hl 1 rfl) ?_
  refine g_get hx hb hts (fun w h => List.mem_cons_of_mem _ (in_LogDisk w h)) hown hK hP hx0 (gce_LogDisk hx0.1) rfl 7 (by decide) (hts _ (List.mem_cons_of_mem _ gw_236)) rfl d_LogDisk_cutFrom_100 ?_
  refine g_calli (va_runV (As := []) (rest := []) ⟨hx, hb, hml, hown, hts⟩ (k_Segments_lastFile l Y hY H.size (grf x0 7) (gis_LogDisk_segments hY hx0) S7 _) (cwV 0 hts (gG_V gw_626 gw_627 gw_628 gw_6 gw_629) rfl rfl rfl (by decide +kernel) ⟨Nat.le_of_ble_eq_true rfl, Nat.le_of_ble_eq_true rfl⟩) ⟨gPre_blind, g_recv hK hP (gis_LogDisk_segments hY hx0) (gce_Segments (gis_LogDisk_segments hY hx0).1) rfl, g_pre hK hSt hS hP hw⟩ rfl rfl hl.1 rfl (lv_room (Nat.le_of_ble_eq_true rfl)) d_LogDisk_cutFrom_103 ⟨Nat.zero_le _, Nat.zero_le _⟩) hS (fun r10 S9 H locs hw hP hS => ?_)
  refine lv_aload_n hx hb d_LogDisk_cutFrom_106 rfl (lv_at hl 1 rfl) ?_
  refine g_get hx hb hts (fun w h => List.mem_cons_of_mem _ (in_LogDisk w h)) hown hK hP hx0 (gce_LogDisk hx0.1) rfl 8 (by decide) (hts _ (List.mem_cons_of_mem _ gw_237)) rfl d_LogDisk_cutFrom_107 ?_
  refine g_get hx hb hts (fun w h => List.mem_cons_of_mem _ (in_Entries w h)) hown hK hP (gis_LogDisk_entries hY hx0) (gce_Entries (gis_LogDisk_entries hY hx0).1) rfl 0 (by decide) (hts _ (List.mem_cons_of_mem _ gw_140)) rfl d_LogDisk_cutFrom_110 ?_
  refine lv_iload_n hx hb d_LogDisk_cutFrom_113 rfl (lv_at hl 0 rfl) ?_
  obtain ⟨hin, hw⟩ := hw
  refine g_iaload hx hb hK hP (gis_Entries_file hY (gis_LogDisk_entries hY hx0)) hin d_LogDisk_cutFrom_114 ?_
  refine lv_icmp_ne (tgt := 144) hx hb d_LogDisk_cutFrom_115 (by decide) (fun c11 => ?_) (fun c11 => ?_)
  · replace hw := hw.1 c11
    exact mw_LogDisk_cutFrom_144 C0 hlt hout x0 x1 x2 S9 H locs ls hx0 hw hP hS (lv_sub hl [1, 2, 3] rfl)
  · replace hw := hw.2 c11
    refine lv_aload_n hx hb d_LogDisk_cutFrom_118 rfl (lv_at hl 1 rfl) ?_
    refine g_get hx hb hts (fun w h => List.mem_cons_of_mem _ (in_LogDisk w h)) hown hK hP hx0 (gce_LogDisk hx0.1) rfl 1 (by decide) (hts _ (List.mem_cons_of_mem _ gw_230)) rfl d_LogDisk_cutFrom_119 ?_
    refine lv_aload_n hx hb d_LogDisk_cutFrom_122 rfl (lv_at hl 1 rfl) ?_
    refine g_get hx hb hts (fun w h => List.mem_cons_of_mem _ (in_LogDisk w h)) hown hK hP hx0 (gce_LogDisk hx0.1) rfl 8 (by decide) (hts _ (List.mem_cons_of_mem _ gw_237)) rfl d_LogDisk_cutFrom_123 ?_
    refine g_get hx hb hts (fun w h => List.mem_cons_of_mem _ (in_Entries w h)) hown hK hP (gis_LogDisk_entries hY hx0) (gce_Entries (gis_LogDisk_entries hY hx0).1) rfl 0 (by decide) (hts _ (List.mem_cons_of_mem _ gw_140)) rfl d_LogDisk_cutFrom_126 ?_
    refine lv_iload_n hx hb d_LogDisk_cutFrom_129 rfl (lv_at hl 0 rfl) ?_
    obtain ⟨hin, hw⟩ := hw
    refine g_iaload hx hb hK hP (gis_Entries_file hY (gis_LogDisk_entries hY hx0)) hin d_LogDisk_cutFrom_130 ?_
    obtain ⟨hin, hw⟩ := hw
    refine g_aaload hx hb hK hP (gis_LogDisk_files hY hx0) hin d_LogDisk_cutFrom_131 ?_
    have hin14 := hin
    refine lv_aload_n hx hb d_LogDisk_cutFrom_132 rfl (lv_at hl 1 rfl) ?_
    refine g_get hx hb hts (fun w h => List.mem_cons_of_mem _ (in_LogDisk w h)) hown hK hP hx0 (gce_LogDisk hx0.1) rfl 8 (by decide) (hts _ (List.mem_cons_of_mem _ gw_237)) rfl d_LogDisk_cutFrom_133 ?_
    refine g_get hx hb hts (fun w h => List.mem_cons_of_mem _ (in_Entries w h)) hown hK hP (gis_LogDisk_entries hY hx0) (gce_Entries (gis_LogDisk_entries hY hx0).1) rfl 1 (by decide) (hts _ (List.mem_cons_of_mem _ gw_142)) rfl d_LogDisk_cutFrom_136 ?_
    refine lv_iload_n hx hb d_LogDisk_cutFrom_139 rfl (lv_at hl 0 rfl) ?_
    obtain ⟨hin, hw⟩ := hw
    refine g_iaload hx hb hK hP (gis_Entries_start hY (gis_LogDisk_entries hY hx0)) hin d_LogDisk_cutFrom_140 ?_
    refine g_callv (va_runV (As := [.int (S9.1 (grf (grf x0 8) 1) r8.toNatClampNeg)]) (rest := []) ⟨hx, hb, hml, hown, hts⟩ (k_DiskFile_cutTo l Y hY H.size (grf (grf x0 1) (S9.1 (grf (grf x0 8) 0) r8.toNatClampNeg).toNatClampNeg) (S9.1 (grf (grf x0 8) 1) r8.toNatClampNeg) (gis_elem_DiskFile hY (gis_LogDisk_files hY hx0) hin14) S9 _) (cwV 1 hts (gG_V gw_392 gw_318 gw_319 gw_10 gw_320) rfl rfl rfl (by decide +kernel) ⟨Nat.le_of_ble_eq_true rfl, Nat.le_of_ble_eq_true rfl⟩) ⟨gPre_blind, g_recv hK hP (gis_elem_DiskFile hY (gis_LogDisk_files hY hx0) hin14) (gce_DiskFile (gis_elem_DiskFile hY (gis_LogDisk_files hY hx0) hin14).1) rfl, g_pre hK hSt hS hP hw⟩ rfl rfl hl.1 rfl (lv_room (Nat.le_of_ble_eq_true rfl)) d_LogDisk_cutFrom_141 ⟨Nat.zero_le _, Nat.zero_le _⟩) hS (fun S15 H locs hw hP hS => ?_)
    exact mw_LogDisk_cutFrom_144 C0 hlt hout x0 x1 x2 S15 H locs ls hx0 hw hP hS (lv_sub hl [1, 2, 3] rfl)
set_option maxHeartbeats 4000000 in
set_option maxRecDepth 100000 in
theorem mw_LogDisk_cutFrom_37 {p : Program} {l : Launch} {e : Env} {s : State} {m : MethodId} {args : Array Value} {below : List Frame} {meth : Method} {c : Code} {Y : gY} {Q : Int32 → gS → Prop} {X : String → gS → Prop} (C : gCx p s m args meth c Y "LogDisk" c_LogDisk_cutFrom 4 (Option.some Jvm.ClassFile.FieldType.int) w_LogDisk_cutFrom) (hlt : l.stackTraces = false) (hout : ∀ x ∈ c.exceptionTable.toList, False) : ∀ (n : Nat), ∀ (x0 : gI) (x1 : Int32) (x2 : Int32) (x3 : Int32)  (S : gS) (H : Heap) (locs : List Loc) (ls : Array Slot), gis Y 9 x0 → wp_LogDisk_cutFrom_37 (gLn Y) Q X n x0 x1 x2 x3 S → gWd Y S H → va_S (gA Y s.heap.size) s.heap H locs → lv_has ls 4 [(0, .ref (gad Y x0)), (1, .int x1), (2, .int x2), (3, .int x3)] → W p l e (gRmX 6 100) s m args below meth c H locs 0 0 (gxZ below Y (va_Qi Q (gB Y) (gA Y s.heap.size)) X args s) (F0 m 37 ls []) := by
  have C0 := C
  obtain ⟨hx, hb, hml, hown, hts, hr, hlocks, hK, hY, hSt⟩ := C
  intro n
  induction n with
  | zero =>
    intro x0 x1 x2 x3 S H locs ls hx0 hw
    exact False.elim hw
  | succ n ih =>
    intro x0 x1 x2 x3 S H locs ls hx0 hw hP hS hl
    unfold wp_LogDisk_cutFrom_37 at hw
    refine lv_iload_n hx hb d_LogDisk_cutFrom_37 rfl (lv_at hl 3 rfl) ?_
    refine lv_if_lt (tgt := 90) hx hb d_LogDisk_cutFrom_38 (by decide) (fun c6 => ?_) (fun c6 => ?_)
    · replace hw := hw.1 c6
      exact mw_LogDisk_cutFrom_90 C0 hlt hout x0 x1 x2 S H locs ls hx0 hw hP hS (lv_sub hl [0, 1, 2] rfl)
    · replace hw := hw.2 c6
      refine lv_aload_n hx hb d_LogDisk_cutFrom_41 rfl (lv_at hl 0 rfl) ?_
      refine g_get hx hb hts (fun w h => List.mem_cons_of_mem _ (in_LogDisk w h)) hown hK hP hx0 (gce_LogDisk hx0.1) rfl 7 (by decide) (hts _ (List.mem_cons_of_mem _ gw_236)) rfl d_LogDisk_cutFrom_42 ?_
      refine g_get hx hb hts (fun w h => List.mem_cons_of_mem _ (in_Segments w h)) hown hK hP (gis_LogDisk_segments hY hx0) (gce_Segments (gis_LogDisk_segments hY hx0).1) rfl 1 (by decide) (hts _ (List.mem_cons_of_mem _ gw_123)) rfl d_LogDisk_cutFrom_45 ?_
      refine lv_iload_n hx hb d_LogDisk_cutFrom_48 rfl (lv_at hl 3 rfl) ?_
      obtain ⟨hin, hw⟩ := hw
      refine g_iaload hx hb hK hP (gis_Segments_first hY (gis_LogDisk_segments hY hx0)) hin d_LogDisk_cutFrom_49 ?_
      refine lv_iload_n hx hb d_LogDisk_cutFrom_50 rfl (lv_at hl 1 rfl) ?_
      refine lv_icmp_lt (tgt := 90) hx hb d_LogDisk_cutFrom_51 (by decide) (fun c16 => ?_) (fun c16 => ?_)
      · replace hw := hw.1 c16
        exact mw_LogDisk_cutFrom_90 C0 hlt hout x0 x1 x2 S H locs ls hx0 hw hP hS (lv_sub hl [0, 1, 2] rfl)
      · replace hw := hw.2 c16
        refine lv_aload_n hx hb d_LogDisk_cutFrom_54 rfl (lv_at hl 0 rfl) ?_
        refine g_get hx hb hts (fun w h => List.mem_cons_of_mem _ (in_LogDisk w h)) hown hK hP hx0 (gce_LogDisk hx0.1) rfl 1 (by decide) (hts _ (List.mem_cons_of_mem _ gw_230)) rfl d_LogDisk_cutFrom_55 ?_
        refine lv_aload_n hx hb d_LogDisk_cutFrom_58 rfl (lv_at hl 0 rfl) ?_
        refine g_get hx hb hts (fun w h => List.mem_cons_of_mem _ (in_LogDisk w h)) hown hK hP hx0 (gce_LogDisk hx0.1) rfl 7 (by decide) (hts _ (List.mem_cons_of_mem _ gw_236)) rfl d_LogDisk_cutFrom_59 ?_
        refine g_get hx hb hts (fun w h => List.mem_cons_of_mem _ (in_Segments w h)) hown hK hP (gis_LogDisk_segments hY hx0) (gce_Segments (gis_LogDisk_segments hY hx0).1) rfl 0 (by decide) (hts _ (List.mem_cons_of_mem _ gw_121)) rfl d_LogDisk_cutFrom_62 ?_
        refine lv_iload_n hx hb d_LogDisk_cutFrom_65 rfl (lv_at hl 3 rfl) ?_
        obtain ⟨hin, hw⟩ := hw
        refine g_iaload hx hb hK hP (gis_Segments_file hY (gis_LogDisk_segments hY hx0)) hin d_LogDisk_cutFrom_66 ?_
        obtain ⟨hin, hw⟩ := hw
        refine g_aaload hx hb hK hP (gis_LogDisk_files hY hx0) hin d_LogDisk_cutFrom_67 ?_
        have hin17 := hin
        refine g_callv (va_runV (As := []) (rest := []) ⟨hx, hb, hml, hown, hts⟩ (k_DiskFile_remove l Y hY H.size (grf (grf x0 1) (S.1 (grf (grf x0 7) 0) x3.toNatClampNeg).toNatClampNeg) (gis_elem_DiskFile hY (gis_LogDisk_files hY hx0) hin17) S _) (cwV 0 hts (gG_V gw_418 gw_419 gw_420 gw_10 gw_421) rfl rfl rfl (by decide +kernel) ⟨Nat.le_of_ble_eq_true rfl, Nat.le_of_ble_eq_true rfl⟩) ⟨gPre_blind, g_recv hK hP (gis_elem_DiskFile hY (gis_LogDisk_files hY hx0) hin17) (gce_DiskFile (gis_elem_DiskFile hY (gis_LogDisk_files hY hx0) hin17).1) rfl, g_pre hK hSt hS hP hw⟩ rfl rfl hl.1 rfl (lv_room (Nat.le_of_ble_eq_true rfl)) d_LogDisk_cutFrom_68 ⟨Nat.zero_le _, Nat.zero_le _⟩) hS (fun S18 H locs hw hP hS => ?_)
        refine lv_aload_n hx hb d_LogDisk_cutFrom_71 rfl (lv_at hl 0 rfl) ?_
        refine g_get hx hb hts (fun w h => List.mem_cons_of_mem _ (in_LogDisk w h)) hown hK hP hx0 (gce_LogDisk hx0.1) rfl 7 (by decide) (hts _ (List.mem_cons_of_mem _ gw_236)) rfl d_LogDisk_cutFrom_72 ?_
        refine lv_dup hx hb d_LogDisk_cutFrom_75 rfl ?_
        refine g_get hx hb hts (fun w h => List.mem_cons_of_mem _ (in_Segments w h)) hown hK hP (gis_LogDisk_segments hY hx0) (gce_Segments (gis_LogDisk_segments hY hx0).1) rfl 2 (by decide) (hts _ (List.mem_cons_of_mem _ gw_125)) rfl d_LogDisk_cutFrom_76 ?_
        refine lv_iconst (v := 1) hx hb d_LogDisk_cutFrom_79 (by decide) ?_
        refine lv_isub hx hb d_LogDisk_cutFrom_80 ?_
        refine g_put (ty := .int) (v := .int ((S18.1 (grf x0 7) 2) - 1)) (S' := gset S18 (grf x0 7) 2 ((S18.1 (grf x0 7) 2) - 1)) hx hb hts (fun w h => List.mem_cons_of_mem _ (in_Segments w h)) ty_Segments tyok_Segments nm_Segments hown hK hY.1 hP hS (gis_LogDisk_segments hY hx0) (gce_Segments (gis_LogDisk_segments hY hx0).1) rfl 2 (by decide) (hts _ (List.mem_cons_of_mem _ gw_125)) rfl (by decide +kernel) rfl rfl (Nat.le_of_ble_eq_true rfl) (gp_Segments_count (gis_LogDisk_segments hY hx0).1) gce_gset d_LogDisk_cutFrom_81 (fun H locs hP hS => ?_)
        obtain ⟨S19, eS19⟩ : ∃ z, z = gset S18 (grf x0 7) 2 ((S18.1 (grf x0 7) 2) - 1) := ⟨_, rfl⟩
        rw [← eS19] at hP
        replace hw := hw S19 eS19
        obtain ⟨v3_20, ev3_20⟩ : ∃ y : Int32, y = x3 + (-1 : Int32) := ⟨_, rfl⟩
        replace hw := hw v3_20 ev3_20
        refine lv_iinc (v := v3_20) (lv' := [(3, .int v3_20), (0, .ref (gad Y x0)), (1, .int x1), (2, .int x2)]) hx hb d_LogDisk_cutFrom_84 hl (k := 3) rfl (by rw [ev3_20]; rfl) (by decide) rfl (fun ls hl => ?_)
        refine lv_goto (tgt := 37) hx hb d_LogDisk_cutFrom_87 (by decide) ?_
        exact ih x0 x1 x2 v3_20 S19 H locs ls hx0 hw hP hS (lv_sub hl [1, 2, 3, 0] rfl)
set_option maxHeartbeats 4000000 in
set_option maxRecDepth 100000 in
theorem mw_LogDisk_cutFrom {p : Program} {l : Launch} {e : Env} {s : State} {m : MethodId} {args : Array Value} {below : List Frame} {meth : Method} {c : Code} {Y : gY} {Q : Int32 → gS → Prop} {X : String → gS → Prop} (C : gCx p s m args meth c Y "LogDisk" c_LogDisk_cutFrom 4 (Option.some Jvm.ClassFile.FieldType.int) w_LogDisk_cutFrom) (hlt : l.stackTraces = false) (hout : ∀ x ∈ c.exceptionTable.toList, False) : ∀ (x0 : gI) (x1 : Int32)  (S : gS) (H : Heap) (locs : List Loc) (ls : Array Slot), gis Y 9 x0 → wp_LogDisk_cutFrom (gLn Y) Q X x0 x1 S → gWd Y S H → va_S (gA Y s.heap.size) s.heap H locs → lv_has ls 4 [(0, .ref (gad Y x0)), (1, .int x1)] → W p l e (gRmX 6 100) s m args below meth c H locs 0 0 (gxZ below Y (va_Qi Q (gB Y) (gA Y s.heap.size)) X args s) (F0 m 0 ls []) := by
  have C0 := C
  obtain ⟨hx, hb, hml, hown, hts, hr, hlocks, hK, hY, hSt⟩ := C
  intro x0 x1 S H locs ls hx0 hw hP hS hl
  unfold wp_LogDisk_cutFrom at hw
  refine lv_aload_n hx hb d_LogDisk_cutFrom_0 rfl (lv_at hl 0 rfl) ?_
  refine lv_iload_n hx hb d_LogDisk_cutFrom_1 rfl (lv_at hl 1 rfl) ?_
  refine g_calli (va_runV (As := [.int x1]) (rest := []) ⟨hx, hb, hml, hown, hts⟩ (k_LogDisk_isInLog l Y hY H.size x0 x1 hx0 S _) (cwV 1 hts (gG_V gw_615 gw_617 gs_13 gw_1 gw_618) rfl rfl rfl (by decide +kernel) ⟨Nat.le_of_ble_eq_true rfl, Nat.le_of_ble_eq_true rfl⟩) ⟨gPre_blind, g_recv hK hP hx0 (gce_LogDisk hx0.1) rfl, g_pre hK hSt hS hP hw⟩ rfl rfl hl.1 rfl (lv_room (Nat.le_of_ble_eq_true rfl)) d_LogDisk_cutFrom_2 ⟨Nat.zero_le _, Nat.zero_le _⟩) hS (fun r2 S1 H locs hw hP hS => ?_)
  refine lv_if_ne (tgt := 18) hx hb d_LogDisk_cutFrom_5 (by decide) (fun c3 => ?_) (fun c3 => ?_)
  · replace hw := hw.1 c3
    refine lv_aload_n hx hb d_LogDisk_cutFrom_18 rfl (lv_at hl 0 rfl) ?_
    refine g_get hx hb hts (fun w h => List.mem_cons_of_mem _ (in_LogDisk w h)) hown hK hP hx0 (gce_LogDisk hx0.1) rfl 10 (by decide) (hts _ (List.mem_cons_of_mem _ gw_239)) rfl d_LogDisk_cutFrom_19 ?_
    refine lv_iload_n hx hb d_LogDisk_cutFrom_22 rfl (lv_at hl 1 rfl) ?_
    refine lv_isub hx hb d_LogDisk_cutFrom_23 ?_
    refine lv_iconst (v := 1) hx hb d_LogDisk_cutFrom_24 (by decide) ?_
    refine lv_iadd hx hb d_LogDisk_cutFrom_25 ?_
    refine lv_topi (fun v2_4 ev2_4 => ?_)
    replace hw := hw v2_4 ev2_4
    refine lv_istore_n (lv' := [(2, .int v2_4), (0, .ref (gad Y x0)), (1, .int x1)]) hx hb d_LogDisk_cutFrom_26 rfl hl (by decide) rfl (fun ls hl => ?_)
    refine lv_aload_n hx hb d_LogDisk_cutFrom_27 rfl (lv_at hl 1 rfl) ?_
    refine g_get hx hb hts (fun w h => List.mem_cons_of_mem _ (in_LogDisk w h)) hown hK hP hx0 (gce_LogDisk hx0.1) rfl 7 (by decide) (hts _ (List.mem_cons_of_mem _ gw_236)) rfl d_LogDisk_cutFrom_28 ?_
    refine g_get hx hb hts (fun w h => List.mem_cons_of_mem _ (in_Segments w h)) hown hK hP (gis_LogDisk_segments hY hx0) (gce_Segments (gis_LogDisk_segments hY hx0).1) rfl 2 (by decide) (hts _ (List.mem_cons_of_mem _ gw_125)) rfl d_LogDisk_cutFrom_31 ?_
    refine lv_iconst (v := 1) hx hb d_LogDisk_cutFrom_34 (by decide) ?_
    refine lv_isub hx hb d_LogDisk_cutFrom_35 ?_
    refine lv_topi (fun v3_5 ev3_5 => ?_)
    replace hw := hw v3_5 ev3_5
    refine lv_istore_n (lv' := [(3, .int v3_5), (2, .int v2_4), (0, .ref (gad Y x0)), (1, .int x1)]) hx hb d_LogDisk_cutFrom_36 rfl hl (by decide) rfl (fun ls hl => ?_)
    obtain ⟨n, hw⟩ := hw
    exact mw_LogDisk_cutFrom_37 C0 hlt hout n x0 x1 v2_4 v3_5 S1 H locs ls hx0 hw hP hS (lv_sub hl [2, 3, 1, 0] rfl)
  · replace hw := hw.2 c3
    exact gx_throwS (text := "not BASE + 1 .. LAST") hx hb hlt hown (by decide +kernel) (hts _ (List.mem_cons_of_mem _ gw_659)) (hts _ (List.mem_cons_of_mem _ gw_20)) hSt (by decide +kernel) (by decide +kernel) hS hP (by rw [hml]; exact hl.1) d_LogDisk_cutFrom_8 d_LogDisk_cutFrom_11 d_LogDisk_cutFrom_12 d_LogDisk_cutFrom_14 d_LogDisk_cutFrom_17 hout (Nat.le_of_ble_eq_true rfl) (Nat.le_of_ble_eq_true rfl) (Nat.le_of_ble_eq_true rfl) (Nat.le_of_ble_eq_true rfl) hlocks hw (Nat.le_refl _) (Nat.le_refl _)
set_option maxHeartbeats 4000000 in
set_option maxRecDepth 100000 in
theorem k_LogDisk_cutFrom (l : Launch) (hlt : l.stackTraces = false) (Y : gY) (hY : gOK Y) (sz : Nat) (x0 : gI) (x1 : Int32)  (hx0 : gis Y 9 x0) (S : gS) (Q : Int32 → gS → Prop) (X : String → gS → Prop) : gxMet l y_LogDisk_cutFrom w_LogDisk_cutFrom (gRmX 6 100) (gPre Y [.ref (gad Y x0), .int x1] S sz (wp_LogDisk_cutFrom (gLn Y) Q X x0 x1 S)) Y sz (va_Qi Q (gB Y) (gA Y sz)) X := by
  refine gx_ofW (cc := c_LogDisk_cutFrom) (maxL := 4) (ret := (Option.some Jvm.ClassFile.FieldType.int)) (by decide) rfl ?_
  intro p e s m args below meth c s₁ B hml hout hv
  obtain ⟨rfl, hsz, hP, hK, hSt, hw⟩ := hv
  subst hsz
  refine ⟨rfl, ?_⟩
  have hts := atoms_spec (ws := w_LogDisk_cutFrom) B.pre
  have hl := lv_entry ([.ref (gad Y x0), .int x1]) (n := 4) (Nat.le_of_ble_eq_true rfl)
  rw [lg_entry_eq]
  generalize (lg_sl ([.ref (gad Y x0), .int x1]) ++ List.replicate (4 - (lg_sl ([.ref (gad Y x0), .int x1])).length) Slot.unset).toArray = ls at hl ⊢
  exact mw_LogDisk_cutFrom ⟨B.exec, B.bytes, hml, findClass_of_methodNamed B.named, hts, B.returns, B.notSynchronized, hK, hY, hSt⟩ hlt hout x0 x1 S s.heap [] ls hx0 hw hP va_S.rf hl

def wp_LogDisk_compact (Ln : gI → Nat) (Q : Int32 → gS → Prop) (X : String → gS → Prop) (x0 : gI) (x1 : Int32) (x2 : Int32)  (S : gS) : Prop :=
  wp_Tape_handOver Ln (fun r2 S1 => wp_LogDisk_isInLog Ln (fun r4 S3 => ((¬ r4 = 0) → (wp_Snapshot_nextFile Ln (fun r7 S6 => vp_in r7 (Ln (grf x0 1)) ∧ (wp_DiskFile_canRewrite Ln (fun r10 S9 => ((¬ r10 = 0) → (∀ v4_12 : Int32, v4_12 = x1 - (S9.1 (grf x0 6) 1) → (wp_LogDisk_termAt Ln (fun r14 S13 => wp_LogDisk_moveBase Ln (fun S15 => Q v4_12 S15) x0 x1 r14 x2 r2 S13) x0 x1 S9))) ∧ ((r10 = 0) → (X "java/lang/UnsupportedOperationException" S9))) (grf (grf x0 1) r7.toNatClampNeg) (20 + r2) S6)) (grf x0 6) S3)) ∧ ((r4 = 0) → (X "java/lang/IndexOutOfBoundsException" S3))) x0 x1 S1) (grf x0 3) S
set_option maxHeartbeats 4000000 in
set_option maxRecDepth 100000 in
theorem mw_LogDisk_compact {p : Program} {l : Launch} {e : Env} {s : State} {m : MethodId} {args : Array Value} {below : List Frame} {meth : Method} {c : Code} {Y : gY} {Q : Int32 → gS → Prop} {X : String → gS → Prop} (C : gCx p s m args meth c Y "LogDisk" c_LogDisk_compact 5 (Option.some Jvm.ClassFile.FieldType.int) w_LogDisk_compact) (hlt : l.stackTraces = false) (hout : ∀ x ∈ c.exceptionTable.toList, False) : ∀ (x0 : gI) (x1 : Int32) (x2 : Int32)  (S : gS) (H : Heap) (locs : List Loc) (ls : Array Slot), gis Y 9 x0 → wp_LogDisk_compact (gLn Y) Q X x0 x1 x2 S → gWd Y S H → va_S (gA Y s.heap.size) s.heap H locs → lv_has ls 5 [(0, .ref (gad Y x0)), (1, .int x1), (2, .int x2)] → W p l e (gRmX 6 135) s m args below meth c H locs 0 0 (gxZ below Y (va_Qi Q (gB Y) (gA Y s.heap.size)) X args s) (F0 m 0 ls []) := by
  have C0 := C
  obtain ⟨hx, hb, hml, hown, hts, hr, hlocks, hK, hY, hSt⟩ := C
  intro x0 x1 x2 S H locs ls hx0 hw hP hS hl
  unfold wp_LogDisk_compact at hw
  refine lv_aload_n hx hb d_LogDisk_compact_0 rfl (lv_at hl 0 rfl) ?_
  refine g_get hx hb hts (fun w h => List.mem_cons_of_mem _ (in_LogDisk w h)) hown hK hP hx0 (gce_LogDisk hx0.1) rfl 3 (by decide) (hts _ (List.mem_cons_of_mem _ gw_232)) rfl d_LogDisk_compact_1 ?_
  refine g_calli (va_runV (As := []) (rest := []) ⟨hx, hb, hml, hown, hts⟩ (k_Tape_handOver l Y hY H.size (grf x0 3) (gis_LogDisk_tape hY hx0) S _) (cwV 0 hts (gG_V gw_607 gw_608 gw_609 gw_2 gw_610) rfl rfl rfl (by decide +kernel) ⟨Nat.le_of_ble_eq_true rfl, Nat.le_of_ble_eq_true rfl⟩) ⟨gPre_blind, g_recv hK hP (gis_LogDisk_tape hY hx0) (gce_Tape (gis_LogDisk_tape hY hx0).1) rfl, g_pre hK hSt hS hP hw⟩ rfl rfl hl.1 rfl (lv_room (Nat.le_of_ble_eq_true rfl)) d_LogDisk_compact_4 ⟨Nat.zero_le _, Nat.zero_le _⟩) hS (fun r2 S1 H locs hw hP hS => ?_)
  refine lv_istore_n (lv' := [(3, .int r2), (0, .ref (gad Y x0)), (1, .int x1), (2, .int x2)]) hx hb d_LogDisk_compact_7 rfl hl (by decide) rfl (fun ls hl => ?_)
  refine lv_aload_n hx hb d_LogDisk_compact_8 rfl (lv_at hl 1 rfl) ?_
  refine lv_iload_n hx hb d_LogDisk_compact_9 rfl (lv_at hl 2 rfl) ?_
  refine g_calli (va_runV (As := [.int x1]) (rest := []) ⟨hx, hb, hml, hown, hts⟩ (k_LogDisk_isInLog l Y hY H.size x0 x1 hx0 S1 _) (cwV 1 hts (gG_V gw_615 gw_617 gs_13 gw_1 gw_618) rfl rfl rfl (by decide +kernel) ⟨Nat.le_of_ble_eq_true rfl, Nat.le_of_ble_eq_true rfl⟩) ⟨gPre_blind, g_recv hK hP hx0 (gce_LogDisk hx0.1) rfl, g_pre hK hSt hS hP hw⟩ rfl rfl hl.1 rfl (lv_room (Nat.le_of_ble_eq_true rfl)) d_LogDisk_compact_10 ⟨Nat.zero_le _, Nat.zero_le _⟩) hS (fun r4 S3 H locs hw hP hS => ?_)
  refine lv_if_ne (tgt := 26) hx hb d_LogDisk_compact_13 (by decide) (fun c5 => ?_) (fun c5 => ?_)
  · replace hw := hw.1 c5
    refine lv_aload_n hx hb d_LogDisk_compact_26 rfl (lv_at hl 1 rfl) ?_
    refine g_get hx hb hts (fun w h => List.mem_cons_of_mem _ (in_LogDisk w h)) hown hK hP hx0 (gce_LogDisk hx0.1) rfl 1 (by decide) (hts _ (List.mem_cons_of_mem _ gw_230)) rfl d_LogDisk_compact_27 ?_
    refine lv_aload_n hx hb d_LogDisk_compact_30 rfl (lv_at hl 1 rfl) ?_
    refine g_get hx hb hts (fun w h => List.mem_cons_of_mem _ (in_LogDisk w h)) hown hK hP hx0 (gce_LogDisk hx0.1) rfl 6 (by decide) (hts _ (List.mem_cons_of_mem _ gw_235)) rfl d_LogDisk_compact_31 ?_
    refine g_calli (va_runV (As := []) (rest := [.ref (gad Y (grf x0 1))]) ⟨hx, hb, hml, hown, hts⟩ (k_Snapshot_nextFile l Y hY H.size (grf x0 6) (gis_LogDisk_snapshot hY hx0) S3 _) (cwV 0 hts (gG_V gw_682 gw_683 gw_684 gw_5 gw_685) rfl rfl rfl (by decide +kernel) ⟨Nat.le_of_ble_eq_true rfl, Nat.le_of_ble_eq_true rfl⟩) ⟨gPre_blind, g_recv hK hP (gis_LogDisk_snapshot hY hx0) (gce_Snapshot (gis_LogDisk_snapshot hY hx0).1) rfl, g_pre hK hSt hS hP hw⟩ rfl rfl hl.1 rfl (lv_room (Nat.le_of_ble_eq_true rfl)) d_LogDisk_compact_34 ⟨Nat.zero_le _, Nat.zero_le _⟩) hS (fun r7 S6 H locs hw hP hS => ?_)
    obtain ⟨hin, hw⟩ := hw
    refine g_aaload hx hb hK hP (gis_LogDisk_files hY hx0) hin d_LogDisk_compact_37 ?_
    have hin8 := hin
    refine lv_bipush (v := 20) hx hb d_LogDisk_compact_38 (by decide) ?_
    refine lv_iload_n hx hb d_LogDisk_compact_40 rfl (lv_at hl 0 rfl) ?_
    refine lv_iadd hx hb d_LogDisk_compact_41 ?_
    refine g_calli (va_runV (As := [.int (20 + r2)]) (rest := []) ⟨hx, hb, hml, hown, hts⟩ (k_DiskFile_canRewrite l Y hY H.size (grf (grf x0 1) r7.toNatClampNeg) (20 + r2) (gis_elem_DiskFile hY (gis_LogDisk_files hY hx0) hin8) S6 _) (cwV 1 hts (gG_V gw_534 gw_535 gw_536 gw_10 gw_537) rfl rfl rfl (by decide +kernel) ⟨Nat.le_of_ble_eq_true rfl, Nat.le_of_ble_eq_true rfl⟩) ⟨gPre_blind, g_recv hK hP (gis_elem_DiskFile hY (gis_LogDisk_files hY hx0) hin8) (gce_DiskFile (gis_elem_DiskFile hY (gis_LogDisk_files hY hx0) hin8).1) rfl, g_pre hK hSt hS hP hw⟩ rfl rfl hl.1 rfl (lv_room (Nat.le_of_ble_eq_true rfl)) d_LogDisk_compact_42 ⟨Nat.zero_le _, Nat.zero_le _⟩) hS (fun r10 S9 H locs hw hP hS => ?_)
    refine lv_if_ne (tgt := 58) hx hb d_LogDisk_compact_45 (by decide) (fun c11 => ?_) (fun c11 => ?_)
    · replace hw := hw.1 c11
      refine lv_iload_n hx hb d_LogDisk_compact_58 rfl (lv_at hl 2 rfl) ?_
      refine lv_aload_n hx hb d_LogDisk_compact_59 rfl (lv_at hl 1 rfl) ?_
      refine g_get hx hb hts (fun w h => List.mem_cons_of_mem _ (in_LogDisk w h)) hown hK hP hx0 (gce_LogDisk hx0.1) rfl 6 (by decide) (hts _ (List.mem_cons_of_mem _ gw_235)) rfl d_LogDisk_compact_60 ?_
      refine g_get hx hb hts (fun w h => List.mem_cons_of_mem _ (in_Snapshot w h)) hown hK hP (gis_LogDisk_snapshot hY hx0) (gce_Snapshot (gis_LogDisk_snapshot hY hx0).1) rfl 1 (by decide) (hts _ (List.mem_cons_of_mem _ gw_100)) rfl d_LogDisk_compact_63 ?_
      refine lv_isub hx hb d_LogDisk_compact_66 ?_
      refine lv_topi (fun v4_12 ev4_12 => ?_)
      replace hw := hw v4_12 ev4_12
      refine lv_istore (lv' := [(4, .int v4_12), (3, .int r2), (0, .ref (gad Y x0)), (1, .int x1), (2, .int x2)]) hx hb d_LogDisk_compact_67 hl (by decide) rfl (fun ls hl => ?_)
      refine lv_aload_n hx hb d_LogDisk_compact_69 rfl (lv_at hl 2 rfl) ?_
      refine lv_iload_n hx hb d_LogDisk_compact_70 rfl (lv_at hl 3 rfl) ?_
      refine lv_aload_n hx hb d_LogDisk_compact_71 rfl (lv_at hl 2 rfl) ?_
      refine lv_iload_n hx hb d_LogDisk_compact_72 rfl (lv_at hl 3 rfl) ?_
      refine g_calli (va_runV (As := [.int x1]) (rest := [.int x1, .ref (gad Y x0)]) ⟨hx, hb, hml, hown, hts⟩ (k_LogDisk_termAt l Y hY H.size x0 x1 hx0 S9 _) (cwV 1 hts (gG_V gw_611 gw_613 gs_12 gw_1 gw_614) rfl rfl rfl (by decide +kernel) ⟨Nat.le_of_ble_eq_true rfl, Nat.le_of_ble_eq_true rfl⟩) ⟨gPre_blind, g_recv hK hP hx0 (gce_LogDisk hx0.1) rfl, g_pre hK hSt hS hP hw⟩ rfl rfl hl.1 rfl (lv_room (Nat.le_of_ble_eq_true rfl)) d_LogDisk_compact_73 ⟨Nat.zero_le _, Nat.zero_le _⟩) hS (fun r14 S13 H locs hw hP hS => ?_)
      refine lv_iload_n hx hb d_LogDisk_compact_76 rfl (lv_at hl 4 rfl) ?_
      refine lv_iload_n hx hb d_LogDisk_compact_77 rfl (lv_at hl 1 rfl) ?_
      refine g_callv (va_runV (As := [.int x1, .int r14, .int x2, .int r2]) (rest := []) ⟨hx, hb, hml, hown, hts⟩ (k_LogDisk_moveBase l Y hY H.size x0 x1 r14 x2 r2 hx0 S13 _) (cwV 4 hts (gG_V gw_686 gw_688 gs_18 gw_1 gw_689) rfl rfl rfl (by decide +kernel) ⟨Nat.le_of_ble_eq_true rfl, Nat.le_of_ble_eq_true rfl⟩) ⟨gPre_blind, g_recv hK hP hx0 (gce_LogDisk hx0.1) rfl, g_pre hK hSt hS hP hw⟩ rfl rfl hl.1 rfl (lv_room (Nat.le_of_ble_eq_true rfl)) d_LogDisk_compact_78 ⟨Nat.zero_le _, Nat.zero_le _⟩) hS (fun S15 H locs hw hP hS => ?_)
      refine lv_iload hx hb d_LogDisk_compact_81 (lv_at hl 0 rfl) ?_
      exact gx_ret (W.iret (v := v4_12) hx hb hr (fun t ht hW => ⟨⟨v4_12, S15, rfl, hw, by rw [ht]; exact hP, va_K.moved hW.alike hK⟩, hS.F ht⟩) hS.2.2 d_LogDisk_compact_83)
    · replace hw := hw.2 c11
      exact gx_throwS (text := "full") hx hb hlt hown (by decide +kernel) (hts _ (List.mem_cons_of_mem _ gw_543)) (hts _ (List.mem_cons_of_mem _ gw_18)) hSt (by decide +kernel) (by decide +kernel) hS hP (by rw [hml]; exact hl.1) d_LogDisk_compact_48 d_LogDisk_compact_51 d_LogDisk_compact_52 d_LogDisk_compact_54 d_LogDisk_compact_57 hout (Nat.le_of_ble_eq_true rfl) (Nat.le_of_ble_eq_true rfl) (Nat.le_of_ble_eq_true rfl) (Nat.le_of_ble_eq_true rfl) hlocks hw (Nat.le_refl _) (Nat.le_refl _)
  · replace hw := hw.2 c5
    exact gx_throwS (text := "not BASE + 1 .. LAST") hx hb hlt hown (by decide +kernel) (hts _ (List.mem_cons_of_mem _ gw_659)) (hts _ (List.mem_cons_of_mem _ gw_20)) hSt (by decide +kernel) (by decide +kernel) hS hP (by rw [hml]; exact hl.1) d_LogDisk_compact_16 d_LogDisk_compact_19 d_LogDisk_compact_20 d_LogDisk_compact_22 d_LogDisk_compact_25 hout (Nat.le_of_ble_eq_true rfl) (Nat.le_of_ble_eq_true rfl) (Nat.le_of_ble_eq_true rfl) (Nat.le_of_ble_eq_true rfl) hlocks hw (Nat.le_refl _) (Nat.le_refl _)
set_option maxHeartbeats 4000000 in
set_option maxRecDepth 100000 in
theorem k_LogDisk_compact (l : Launch) (hlt : l.stackTraces = false) (Y : gY) (hY : gOK Y) (sz : Nat) (x0 : gI) (x1 : Int32) (x2 : Int32)  (hx0 : gis Y 9 x0) (S : gS) (Q : Int32 → gS → Prop) (X : String → gS → Prop) : gxMet l y_LogDisk_compact w_LogDisk_compact (gRmX 6 135) (gPre Y [.ref (gad Y x0), .int x1, .int x2] S sz (wp_LogDisk_compact (gLn Y) Q X x0 x1 x2 S)) Y sz (va_Qi Q (gB Y) (gA Y sz)) X := by
  refine gx_ofW (cc := c_LogDisk_compact) (maxL := 5) (ret := (Option.some Jvm.ClassFile.FieldType.int)) (by decide) rfl ?_
  intro p e s m args below meth c s₁ B hml hout hv
  obtain ⟨rfl, hsz, hP, hK, hSt, hw⟩ := hv
  subst hsz
  refine ⟨rfl, ?_⟩
  have hts := atoms_spec (ws := w_LogDisk_compact) B.pre
  have hl := lv_entry ([.ref (gad Y x0), .int x1, .int x2]) (n := 5) (Nat.le_of_ble_eq_true rfl)
  rw [lg_entry_eq]
  generalize (lg_sl ([.ref (gad Y x0), .int x1, .int x2]) ++ List.replicate (5 - (lg_sl ([.ref (gad Y x0), .int x1, .int x2])).length) Slot.unset).toArray = ls at hl ⊢
  exact mw_LogDisk_compact ⟨B.exec, B.bytes, hml, findClass_of_methodNamed B.named, hts, B.returns, B.notSynchronized, hK, hY, hSt⟩ hlt hout x0 x1 x2 S s.heap [] ls hx0 hw hP va_S.rf hl

def wp_LogDisk_take_111 (Ln : gI → Nat) (Q : Int32 → gS → Prop) (X : String → gS → Prop) (x0 : gI) (x1 : Int32) (x2 : Int32) (x3 : Int32) (x4 : Int32)  (S : gS) : Prop :=
  wp_LogDisk_moveBase Ln (fun S17 => Q (S17.1 x0 10) S17) x0 x1 x2 x3 x4 S
def wp_LogDisk_take_106 (Ln : gI → Nat) (Q : Int32 → gS → Prop) (X : String → gS → Prop) (x0 : gI) (x1 : Int32) (x2 : Int32) (x3 : Int32) (x4 : Int32)  (S : gS) : Prop :=
  ∀ S16 : gS, S16 = gset S x0 10 x1 → (wp_LogDisk_take_111 Ln Q X x0 x1 x2 x3 x4 S16)
def wp_LogDisk_take (Ln : gI → Nat) (Q : Int32 → gS → Prop) (X : String → gS → Prop) (x0 : gI) (x1 : Int32) (x2 : Int32) (x3 : Int32)  (S : gS) : Prop :=
  wp_Tape_handOver Ln (fun r2 S1 => ((x1 ≤ (S1.1 (grf x0 6) 1)) → (X "java/lang/IllegalArgumentException" S1)) ∧ ((¬ x1 ≤ (S1.1 (grf x0 6) 1)) → (((x1 ≤ 1000000) → (((x2 < 0) → (X "java/lang/IllegalArgumentException" S1)) ∧ ((¬ x2 < 0) → (((x2 ≤ 1000000) → (wp_Snapshot_nextFile Ln (fun r8 S7 => vp_in r8 (Ln (grf x0 1)) ∧ (wp_DiskFile_canRewrite Ln (fun r11 S10 => ((¬ r11 = 0) → (wp_LogDisk_isInLog Ln (fun r14 S13 => ((r14 = 0) → (wp_LogDisk_take_106 Ln Q X x0 x1 x2 x3 r2 S13)) ∧ ((¬ r14 = 0) → (wp_LogDisk_termAt Ln (fun r19 S18 => ((r19 = x2) → (wp_LogDisk_take_111 Ln Q X x0 x1 x2 x3 r2 S18)) ∧ ((¬ r19 = x2) → (wp_LogDisk_take_106 Ln Q X x0 x1 x2 x3 r2 S18))) x0 x1 S13))) x0 x1 S10)) ∧ ((r11 = 0) → (X "java/lang/UnsupportedOperationException" S10))) (grf (grf x0 1) r8.toNatClampNeg) (20 + r2) S7)) (grf x0 6) S1)) ∧ ((¬ x2 ≤ 1000000) → (X "java/lang/IllegalArgumentException" S1)))))) ∧ ((¬ x1 ≤ 1000000) → (X "java/lang/IllegalArgumentException" S1))))) (grf x0 3) S
set_option maxHeartbeats 4000000 in
set_option maxRecDepth 100000 in
theorem mw_LogDisk_take_111 {p : Program} {l : Launch} {e : Env} {s : State} {m : MethodId} {args : Array Value} {below : List Frame} {meth : Method} {c : Code} {Y : gY} {Q : Int32 → gS → Prop} {X : String → gS → Prop} (C : gCx p s m args meth c Y "LogDisk" c_LogDisk_take 5 (Option.some Jvm.ClassFile.FieldType.int) w_LogDisk_take) (hlt : l.stackTraces = false) (hout : ∀ x ∈ c.exceptionTable.toList, False) : ∀ (x0 : gI) (x1 : Int32) (x2 : Int32) (x3 : Int32) (x4 : Int32)  (S : gS) (H : Heap) (locs : List Loc) (ls : Array Slot), gis Y 9 x0 → wp_LogDisk_take_111 (gLn Y) Q X x0 x1 x2 x3 x4 S → gWd Y S H → va_S (gA Y s.heap.size) s.heap H locs → lv_has ls 5 [(0, .ref (gad Y x0)), (1, .int x1), (2, .int x2), (3, .int x3), (4, .int x4)] → W p l e (gRmX 6 135) s m args below meth c H locs 0 0 (gxZ below Y (va_Qi Q (gB Y) (gA Y s.heap.size)) X args s) (F0 m 111 ls []) := by
  have C0 := C
  obtain ⟨hx, hb, hml, hown, hts, hr, hlocks, hK, hY, hSt⟩ := C
  intro x0 x1 x2 x3 x4 S H locs ls hx0 hw hP hS hl
  unfold wp_LogDisk_take_111 at hw
  refine lv_aload_n hx hb d_LogDisk_take_111 rfl (lv_at hl 0 rfl) ?_
  refine lv_iload_n hx hb d_LogDisk_take_112 rfl (lv_at hl 1 rfl) ?_
  refine lv_iload_n hx hb d_LogDisk_take_113 rfl (lv_at hl 2 rfl) ?_
  refine lv_iload_n hx hb d_LogDisk_take_114 rfl (lv_at hl 3 rfl) ?_
  refine lv_iload hx hb d_LogDisk_take_115 (lv_at hl 4 rfl) ?_
  refine g_callv (va_runV (As := [.int x1, .int x2, .int x3, .int x4]) (rest := []) ⟨hx, hb, hml, hown, hts⟩ (k_LogDisk_moveBase l Y hY H.size x0 x1 x2 x3 x4 hx0 S _) (cwV 4 hts (gG_V gw_686 gw_688 gs_18 gw_1 gw_689) rfl rfl rfl (by decide +kernel) ⟨Nat.le_of_ble_eq_true rfl, Nat.le_of_ble_eq_true rfl⟩) ⟨gPre_blind, g_recv hK hP hx0 (gce_LogDisk hx0.1) rfl, g_pre hK hSt hS hP hw⟩ rfl rfl hl.1 rfl (lv_room (Nat.le_of_ble_eq_true rfl)) d_LogDisk_take_117 ⟨Nat.zero_le _, Nat.zero_le _⟩) hS (fun S17 H locs hw hP hS => ?_)
  refine lv_aload_n hx hb d_LogDisk_take_120 rfl (lv_at hl 0 rfl) ?_
  refine g_get hx hb hts (fun w h => List.mem_cons_of_mem _ (in_LogDisk w h)) hown hK hP hx0 (gce_LogDisk hx0.1) rfl 10 (by decide) (hts _ (List.mem_cons_of_mem _ gw_239)) rfl d_LogDisk_take_121 ?_
  exact gx_ret (W.iret (v := (S17.1 x0 10)) hx hb hr (fun t ht hW => ⟨⟨(S17.1 x0 10), S17, rfl, hw, by rw [ht]; exact hP, va_K.moved hW.alike hK⟩, hS.F ht⟩) hS.2.2 d_LogDisk_take_124)
set_option maxHeartbeats 4000000 in
set_option maxRecDepth 100000 in
theorem mw_LogDisk_take_106 {p : Program} {l : Launch} {e : Env} {s : State} {m : MethodId} {args : Array Value} {below : List Frame} {meth : Method} {c : Code} {Y : gY} {Q : Int32 → gS → Prop} {X : String → gS → Prop} (C : gCx p s m args meth c Y "LogDisk" c_LogDisk_take 5 (Option.some Jvm.ClassFile.FieldType.int) w_LogDisk_take) (hlt : l.stackTraces = false) (hout : ∀ x ∈ c.exceptionTable.toList, False) : ∀ (x0 : gI) (x1 : Int32) (x2 : Int32) (x3 : Int32) (x4 : Int32)  (S : gS) (H : Heap) (locs : List Loc) (ls : Array Slot), gis Y 9 x0 → wp_LogDisk_take_106 (gLn Y) Q X x0 x1 x2 x3 x4 S → gWd Y S H → va_S (gA Y s.heap.size) s.heap H locs → lv_has ls 5 [(0, .ref (gad Y x0)), (1, .int x1), (2, .int x2), (3, .int x3), (4, .int x4)] → W p l e (gRmX 6 135) s m args below meth c H locs 0 0 (gxZ below Y (va_Qi Q (gB Y) (gA Y s.heap.size)) X args s) (F0 m 106 ls []) := by
  have C0 := C
  obtain ⟨hx, hb, hml, hown, hts, hr, hlocks, hK, hY, hSt⟩ := C
  intro x0 x1 x2 x3 x4 S H locs ls hx0 hw hP hS hl
  unfold wp_LogDisk_take_106 at hw
  refine lv_aload_n hx hb d_LogDisk_take_106 rfl (lv_at hl 0 rfl) ?_
  refine lv_iload_n hx hb d_LogDisk_take_107 rfl (lv_at hl 1 rfl) ?_
  refine g_put (ty := .int) (v := .int x1) (S' := gset S x0 10 x1) hx hb hts (fun w h => List.mem_cons_of_mem _ (in_LogDisk w h)) ty_LogDisk tyok_LogDisk nm_LogDisk hown hK hY.1 hP hS hx0 (gce_LogDisk hx0.1) rfl 10 (by decide) (hts _ (List.mem_cons_of_mem _ gw_239)) rfl (by decide +kernel) rfl rfl (Nat.le_of_ble_eq_true rfl) (gp_LogDisk_last hx0.1) gce_gset d_LogDisk_take_108 (fun H locs hP hS => ?_)
  obtain ⟨S16, eS16⟩ : ∃ z, z = gset S x0 10 x1 := ⟨_, rfl⟩
  rw [← eS16] at hP
  replace hw := hw S16 eS16
  exact mw_LogDisk_take_111 C0 hlt hout x0 x1 x2 x3 x4 S16 H locs ls hx0 hw hP hS (lv_sub hl [0, 1, 2, 3, 4] rfl)
set_option maxHeartbeats 4000000 in
set_option maxRecDepth 100000 in
theorem mw_LogDisk_take {p : Program} {l : Launch} {e : Env} {s : State} {m : MethodId} {args : Array Value} {below : List Frame} {meth : Method} {c : Code} {Y : gY} {Q : Int32 → gS → Prop} {X : String → gS → Prop} (C : gCx p s m args meth c Y "LogDisk" c_LogDisk_take 5 (Option.some Jvm.ClassFile.FieldType.int) w_LogDisk_take) (hlt : l.stackTraces = false) (hout : ∀ x ∈ c.exceptionTable.toList, False) : ∀ (x0 : gI) (x1 : Int32) (x2 : Int32) (x3 : Int32)  (S : gS) (H : Heap) (locs : List Loc) (ls : Array Slot), gis Y 9 x0 → wp_LogDisk_take (gLn Y) Q X x0 x1 x2 x3 S → gWd Y S H → va_S (gA Y s.heap.size) s.heap H locs → lv_has ls 5 [(0, .ref (gad Y x0)), (1, .int x1), (2, .int x2), (3, .int x3)] → W p l e (gRmX 6 135) s m args below meth c H locs 0 0 (gxZ below Y (va_Qi Q (gB Y) (gA Y s.heap.size)) X args s) (F0 m 0 ls []) := by
  have C0 := C
  obtain ⟨hx, hb, hml, hown, hts, hr, hlocks, hK, hY, hSt⟩ := C
  intro x0 x1 x2 x3 S H locs ls hx0 hw hP hS hl
  unfold wp_LogDisk_take at hw
  refine lv_aload_n hx hb d_LogDisk_take_0 rfl (lv_at hl 0 rfl) ?_
  refine g_get hx hb hts (fun w h => List.mem_cons_of_mem _ (in_LogDisk w h)) hown hK hP hx0 (gce_LogDisk hx0.1) rfl 3 (by decide) (hts _ (List.mem_cons_of_mem _ gw_232)) rfl d_LogDisk_take_1 ?_
  refine g_calli (va_runV (As := []) (rest := []) ⟨hx, hb, hml, hown, hts⟩ (k_Tape_handOver l Y hY H.size (grf x0 3) (gis_LogDisk_tape hY hx0) S _) (cwV 0 hts (gG_V gw_607 gw_608 gw_609 gw_2 gw_610) rfl rfl rfl (by decide +kernel) ⟨Nat.le_of_ble_eq_true rfl, Nat.le_of_ble_eq_true rfl⟩) ⟨gPre_blind, g_recv hK hP (gis_LogDisk_tape hY hx0) (gce_Tape (gis_LogDisk_tape hY hx0).1) rfl, g_pre hK hSt hS hP hw⟩ rfl rfl hl.1 rfl (lv_room (Nat.le_of_ble_eq_true rfl)) d_LogDisk_take_4 ⟨Nat.zero_le _, Nat.zero_le _⟩) hS (fun r2 S1 H locs hw hP hS => ?_)
  refine lv_istore (lv' := [(4, .int r2), (0, .ref (gad Y x0)), (1, .int x1), (2, .int x2), (3, .int x3)]) hx hb d_LogDisk_take_7 hl (by decide) rfl (fun ls hl => ?_)
  refine lv_iload_n hx hb d_LogDisk_take_9 rfl (lv_at hl 2 rfl) ?_
  refine lv_aload_n hx hb d_LogDisk_take_10 rfl (lv_at hl 1 rfl) ?_
  refine g_get hx hb hts (fun w h => List.mem_cons_of_mem _ (in_LogDisk w h)) hown hK hP hx0 (gce_LogDisk hx0.1) rfl 6 (by decide) (hts _ (List.mem_cons_of_mem _ gw_235)) rfl d_LogDisk_take_11 ?_
  refine g_get hx hb hts (fun w h => List.mem_cons_of_mem _ (in_Snapshot w h)) hown hK hP (gis_LogDisk_snapshot hY hx0) (gce_Snapshot (gis_LogDisk_snapshot hY hx0).1) rfl 1 (by decide) (hts _ (List.mem_cons_of_mem _ gw_100)) rfl d_LogDisk_take_14 ?_
  refine lv_icmp_le (tgt := 26) hx hb d_LogDisk_take_17 (by decide) (fun c3 => ?_) (fun c3 => ?_)
  · replace hw := hw.1 c3
    exact gx_throwS (text := "base is not BASE + 1 .. 1000000") hx hb hlt hown (by decide +kernel) (hts _ (List.mem_cons_of_mem _ gw_434)) (hts _ (List.mem_cons_of_mem _ gw_16)) hSt (by decide +kernel) (by decide +kernel) hS hP (by rw [hml]; exact hl.1) d_LogDisk_take_26 d_LogDisk_take_29 d_LogDisk_take_30 d_LogDisk_take_32 d_LogDisk_take_35 hout (Nat.le_of_ble_eq_true rfl) (Nat.le_of_ble_eq_true rfl) (Nat.le_of_ble_eq_true rfl) (Nat.le_of_ble_eq_true rfl) hlocks hw (Nat.le_refl _) (Nat.le_refl _)
  · replace hw := hw.2 c3
    refine lv_iload_n hx hb d_LogDisk_take_20 rfl (lv_at hl 2 rfl) ?_
    refine lv_ldc (v := 1000000) hx hb hown (hts _ (List.mem_cons_of_mem _ gw_527)) d_LogDisk_take_21 ?_
    refine lv_icmp_le (tgt := 36) hx hb d_LogDisk_take_23 (by decide) (fun c4 => ?_) (fun c4 => ?_)
    · replace hw := hw.1 c4
      refine lv_iload_n hx hb d_LogDisk_take_36 rfl (lv_at hl 3 rfl) ?_
      refine lv_if_lt (tgt := 46) hx hb d_LogDisk_take_37 (by decide) (fun c5 => ?_) (fun c5 => ?_)
      · replace hw := hw.1 c5
        exact gx_throwS (text := "term is not 0 .. 1000000") hx hb hlt hown (by decide +kernel) (hts _ (List.mem_cons_of_mem _ gw_434)) (hts _ (List.mem_cons_of_mem _ gw_16)) hSt (by decide +kernel) (by decide +kernel) hS hP (by rw [hml]; exact hl.1) d_LogDisk_take_46 d_LogDisk_take_49 d_LogDisk_take_50 d_LogDisk_take_52 d_LogDisk_take_55 hout (Nat.le_of_ble_eq_true rfl) (Nat.le_of_ble_eq_true rfl) (Nat.le_of_ble_eq_true rfl) (Nat.le_of_ble_eq_true rfl) hlocks hw (Nat.le_refl _) (Nat.le_refl _)
      · replace hw := hw.2 c5
        refine lv_iload_n hx hb d_LogDisk_take_40 rfl (lv_at hl 3 rfl) ?_
        refine lv_ldc (v := 1000000) hx hb hown (hts _ (List.mem_cons_of_mem _ gw_527)) d_LogDisk_take_41 ?_
        refine lv_icmp_le (tgt := 56) hx hb d_LogDisk_take_43 (by decide) (fun c6 => ?_) (fun c6 => ?_)
        · replace hw := hw.1 c6
          refine lv_aload_n hx hb d_LogDisk_take_56 rfl (lv_at hl 1 rfl) ?_
          refine g_get hx hb hts (fun w h => List.mem_cons_of_mem _ (in_LogDisk w h)) hown hK hP hx0 (gce_LogDisk hx0.1) rfl 1 (by decide) (hts _ (List.mem_cons_of_mem _ gw_230)) rfl d_LogDisk_take_57 ?_
          refine lv_aload_n hx hb d_LogDisk_take_60 rfl (lv_at hl 1 rfl) ?_
          refine g_get hx hb hts (fun w h => List.mem_cons_of_mem _ (in_LogDisk w h)) hown hK hP hx0 (gce_LogDisk hx0.1) rfl 6 (by decide) (hts _ (List.mem_cons_of_mem _ gw_235)) rfl d_LogDisk_take_61 ?_
          refine g_calli (va_runV (As := []) (rest := [.ref (gad Y (grf x0 1))]) ⟨hx, hb, hml, hown, hts⟩ (k_Snapshot_nextFile l Y hY H.size (grf x0 6) (gis_LogDisk_snapshot hY hx0) S1 _) (cwV 0 hts (gG_V gw_682 gw_683 gw_684 gw_5 gw_685) rfl rfl rfl (by decide +kernel) ⟨Nat.le_of_ble_eq_true rfl, Nat.le_of_ble_eq_true rfl⟩) ⟨gPre_blind, g_recv hK hP (gis_LogDisk_snapshot hY hx0) (gce_Snapshot (gis_LogDisk_snapshot hY hx0).1) rfl, g_pre hK hSt hS hP hw⟩ rfl rfl hl.1 rfl (lv_room (Nat.le_of_ble_eq_true rfl)) d_LogDisk_take_64 ⟨Nat.zero_le _, Nat.zero_le _⟩) hS (fun r8 S7 H locs hw hP hS => ?_)
          obtain ⟨hin, hw⟩ := hw
          refine g_aaload hx hb hK hP (gis_LogDisk_files hY hx0) hin d_LogDisk_take_67 ?_
          have hin9 := hin
          refine lv_bipush (v := 20) hx hb d_LogDisk_take_68 (by decide) ?_
          refine lv_iload hx hb d_LogDisk_take_70 (lv_at hl 0 rfl) ?_
          refine lv_iadd hx hb d_LogDisk_take_72 ?_
          refine g_calli (va_runV (As := [.int (20 + r2)]) (rest := []) ⟨hx, hb, hml, hown, hts⟩ (k_DiskFile_canRewrite l Y hY H.size (grf (grf x0 1) r8.toNatClampNeg) (20 + r2) (gis_elem_DiskFile hY (gis_LogDisk_files hY hx0) hin9) S7 _) (cwV 1 hts (gG_V gw_534 gw_535 gw_536 gw_10 gw_537) rfl rfl rfl (by decide +kernel) ⟨Nat.le_of_ble_eq_true rfl, Nat.le_of_ble_eq_true rfl⟩) ⟨gPre_blind, g_recv hK hP (gis_elem_DiskFile hY (gis_LogDisk_files hY hx0) hin9) (gce_DiskFile (gis_elem_DiskFile hY (gis_LogDisk_files hY hx0) hin9).1) rfl, g_pre hK hSt hS hP hw⟩ rfl rfl hl.1 rfl (lv_room (Nat.le_of_ble_eq_true rfl)) d_LogDisk_take_73 ⟨Nat.zero_le _, Nat.zero_le _⟩) hS (fun r11 S10 H locs hw hP hS => ?_)
          refine lv_if_ne (tgt := 89) hx hb d_LogDisk_take_76 (by decide) (fun c12 => ?_) (fun c12 => ?_)
          · replace hw := hw.1 c12
            refine lv_aload_n hx hb d_LogDisk_take_89 rfl (lv_at hl 1 rfl) ?_
            refine lv_iload_n hx hb d_LogDisk_take_90 rfl (lv_at hl 2 rfl) ?_
            refine g_calli (va_runV (As := [.int x1]) (rest := []) ⟨hx, hb, hml, hown, hts⟩ (k_LogDisk_isInLog l Y hY H.size x0 x1 hx0 S10 _) (cwV 1 hts (gG_V gw_615 gw_617 gs_13 gw_1 gw_618) rfl rfl rfl (by decide +kernel) ⟨Nat.le_of_ble_eq_true rfl, Nat.le_of_ble_eq_true rfl⟩) ⟨gPre_blind, g_recv hK hP hx0 (gce_LogDisk hx0.1) rfl, g_pre hK hSt hS hP hw⟩ rfl rfl hl.1 rfl (lv_room (Nat.le_of_ble_eq_true rfl)) d_LogDisk_take_91 ⟨Nat.zero_le _, Nat.zero_le _⟩) hS (fun r14 S13 H locs hw hP hS => ?_)
            refine lv_if_eq (tgt := 106) hx hb d_LogDisk_take_94 (by decide) (fun c15 => ?_) (fun c15 => ?_)
            · replace hw := hw.1 c15
              exact mw_LogDisk_take_106 C0 hlt hout x0 x1 x2 x3 r2 S13 H locs ls hx0 hw hP hS (lv_sub hl [1, 2, 3, 4, 0] rfl)
            · replace hw := hw.2 c15
              refine lv_aload_n hx hb d_LogDisk_take_97 rfl (lv_at hl 1 rfl) ?_
              refine lv_iload_n hx hb d_LogDisk_take_98 rfl (lv_at hl 2 rfl) ?_
              refine g_calli (va_runV (As := [.int x1]) (rest := []) ⟨hx, hb, hml, hown, hts⟩ (k_LogDisk_termAt l Y hY H.size x0 x1 hx0 S13 _) (cwV 1 hts (gG_V gw_611 gw_613 gs_12 gw_1 gw_614) rfl rfl rfl (by decide +kernel) ⟨Nat.le_of_ble_eq_true rfl, Nat.le_of_ble_eq_true rfl⟩) ⟨gPre_blind, g_recv hK hP hx0 (gce_LogDisk hx0.1) rfl, g_pre hK hSt hS hP hw⟩ rfl rfl hl.1 rfl (lv_room (Nat.le_of_ble_eq_true rfl)) d_LogDisk_take_99 ⟨Nat.zero_le _, Nat.zero_le _⟩) hS (fun r19 S18 H locs hw hP hS => ?_)
              refine lv_iload_n hx hb d_LogDisk_take_102 rfl (lv_at hl 3 rfl) ?_
              refine lv_icmp_eq (tgt := 111) hx hb d_LogDisk_take_103 (by decide) (fun c20 => ?_) (fun c20 => ?_)
              · replace hw := hw.1 c20
                exact mw_LogDisk_take_111 C0 hlt hout x0 x1 x2 x3 r2 S18 H locs ls hx0 hw hP hS (lv_sub hl [1, 2, 3, 4, 0] rfl)
              · replace hw := hw.2 c20
                exact mw_LogDisk_take_106 C0 hlt hout x0 x1 x2 x3 r2 S18 H locs ls hx0 hw hP hS (lv_sub hl [1, 2, 3, 4, 0] rfl)
          · replace hw := hw.2 c12
            exact gx_throwS (text := "full") hx hb hlt hown (by decide +kernel) (hts _ (List.mem_cons_of_mem _ gw_543)) (hts _ (List.mem_cons_of_mem _ gw_18)) hSt (by decide +kernel) (by decide +kernel) hS hP (by rw [hml]; exact hl.1) d_LogDisk_take_79 d_LogDisk_take_82 d_LogDisk_take_83 d_LogDisk_take_85 d_LogDisk_take_88 hout (Nat.le_of_ble_eq_true rfl) (Nat.le_of_ble_eq_true rfl) (Nat.le_of_ble_eq_true rfl) (Nat.le_of_ble_eq_true rfl) hlocks hw (Nat.le_refl _) (Nat.le_refl _)
        · replace hw := hw.2 c6
          exact gx_throwS (text := "term is not 0 .. 1000000") hx hb hlt hown (by decide +kernel) (hts _ (List.mem_cons_of_mem _ gw_434)) (hts _ (List.mem_cons_of_mem _ gw_16)) hSt (by decide +kernel) (by decide +kernel) hS hP (by rw [hml]; exact hl.1) d_LogDisk_take_46 d_LogDisk_take_49 d_LogDisk_take_50 d_LogDisk_take_52 d_LogDisk_take_55 hout (Nat.le_of_ble_eq_true rfl) (Nat.le_of_ble_eq_true rfl) (Nat.le_of_ble_eq_true rfl) (Nat.le_of_ble_eq_true rfl) hlocks hw (Nat.le_refl _) (Nat.le_refl _)
    · replace hw := hw.2 c4
      exact gx_throwS (text := "base is not BASE + 1 .. 1000000") hx hb hlt hown (by decide +kernel) (hts _ (List.mem_cons_of_mem _ gw_434)) (hts _ (List.mem_cons_of_mem _ gw_16)) hSt (by decide +kernel) (by decide +kernel) hS hP (by rw [hml]; exact hl.1) d_LogDisk_take_26 d_LogDisk_take_29 d_LogDisk_take_30 d_LogDisk_take_32 d_LogDisk_take_35 hout (Nat.le_of_ble_eq_true rfl) (Nat.le_of_ble_eq_true rfl) (Nat.le_of_ble_eq_true rfl) (Nat.le_of_ble_eq_true rfl) hlocks hw (Nat.le_refl _) (Nat.le_refl _)
set_option maxHeartbeats 4000000 in
set_option maxRecDepth 100000 in
theorem k_LogDisk_take (l : Launch) (hlt : l.stackTraces = false) (Y : gY) (hY : gOK Y) (sz : Nat) (x0 : gI) (x1 : Int32) (x2 : Int32) (x3 : Int32)  (hx0 : gis Y 9 x0) (S : gS) (Q : Int32 → gS → Prop) (X : String → gS → Prop) : gxMet l y_LogDisk_take w_LogDisk_take (gRmX 6 135) (gPre Y [.ref (gad Y x0), .int x1, .int x2, .int x3] S sz (wp_LogDisk_take (gLn Y) Q X x0 x1 x2 x3 S)) Y sz (va_Qi Q (gB Y) (gA Y sz)) X := by
  refine gx_ofW (cc := c_LogDisk_take) (maxL := 5) (ret := (Option.some Jvm.ClassFile.FieldType.int)) (by decide) rfl ?_
  intro p e s m args below meth c s₁ B hml hout hv
  obtain ⟨rfl, hsz, hP, hK, hSt, hw⟩ := hv
  subst hsz
  refine ⟨rfl, ?_⟩
  have hts := atoms_spec (ws := w_LogDisk_take) B.pre
  have hl := lv_entry ([.ref (gad Y x0), .int x1, .int x2, .int x3]) (n := 5) (Nat.le_of_ble_eq_true rfl)
  rw [lg_entry_eq]
  generalize (lg_sl ([.ref (gad Y x0), .int x1, .int x2, .int x3]) ++ List.replicate (5 - (lg_sl ([.ref (gad Y x0), .int x1, .int x2, .int x3])).length) Slot.unset).toArray = ls at hl ⊢
  exact mw_LogDisk_take ⟨B.exec, B.bytes, hml, findClass_of_methodNamed B.named, hts, B.returns, B.notSynchronized, hK, hY, hSt⟩ hlt hout x0 x1 x2 x3 S s.heap [] ls hx0 hw hP va_S.rf hl

def wp_LogDisk_keep (Ln : gI → Nat) (Q : gS → Prop) (X : String → gS → Prop) (x0 : gI) (x1 : Int32) (x2 : Int32)  (S : gS) : Prop :=
  wp_LogDisk_isFile Ln (fun r2 S1 => ((¬ r2 = 0) → (((0 ≤ x2) → (vp_in x1 (Ln (grf x0 2)) ∧ (∀ S5 : gS, S5 = gset S1 (grf x0 2) x1.toNatClampNeg x2 → (Q S5)))) ∧ ((¬ 0 ≤ x2) → (X "java/lang/IllegalArgumentException" S1)))) ∧ ((r2 = 0) → (X "java/lang/IndexOutOfBoundsException" S1))) x1 S
set_option maxHeartbeats 4000000 in
set_option maxRecDepth 100000 in
theorem mw_LogDisk_keep {p : Program} {l : Launch} {e : Env} {s : State} {m : MethodId} {args : Array Value} {below : List Frame} {meth : Method} {c : Code} {Y : gY} {Q : gS → Prop} {X : String → gS → Prop} (C : gCx p s m args meth c Y "LogDisk" c_LogDisk_keep 3 (Option.none : Option Jvm.ClassFile.FieldType) w_LogDisk_keep) (hlt : l.stackTraces = false) (hout : ∀ x ∈ c.exceptionTable.toList, False) : ∀ (x0 : gI) (x1 : Int32) (x2 : Int32)  (S : gS) (H : Heap) (locs : List Loc) (ls : Array Slot), gis Y 9 x0 → wp_LogDisk_keep (gLn Y) Q X x0 x1 x2 S → gWd Y S H → va_S (gA Y s.heap.size) s.heap H locs → lv_has ls 3 [(0, .ref (gad Y x0)), (1, .int x1), (2, .int x2)] → W p l e (gRmX 6 100) s m args below meth c H locs 0 0 (gxZ below Y (va_Qv Q (gB Y) (gA Y s.heap.size)) X args s) (F0 m 0 ls []) := by
  have C0 := C
  obtain ⟨hx, hb, hml, hown, hts, hr, hlocks, hK, hY, hSt⟩ := C
  intro x0 x1 x2 S H locs ls hx0 hw hP hS hl
  unfold wp_LogDisk_keep at hw
  refine lv_iload_n hx hb d_LogDisk_keep_0 rfl (lv_at hl 1 rfl) ?_
  refine g_calli (va_runS (As := [.int x1]) (rest := []) ⟨hx, hb, hml, hown, hts⟩ (k_LogDisk_isFile l Y hY H.size x1 S _) (va_cwS 1 hts (gG_S gw_718 gw_719 gw_1 gw_720) rfl rfl rfl (by decide +kernel) ⟨Nat.le_of_ble_eq_true rfl, Nat.le_of_ble_eq_true rfl⟩) ⟨gPre_blind, g_pre hK hSt hS hP hw⟩ rfl rfl hl.1 rfl (lv_room (Nat.le_of_ble_eq_true rfl)) d_LogDisk_keep_1 ⟨Nat.zero_le _, Nat.zero_le _⟩) hS (fun r2 S1 H locs hw hP hS => ?_)
  refine lv_if_ne (tgt := 17) hx hb d_LogDisk_keep_4 (by decide) (fun c3 => ?_) (fun c3 => ?_)
  · replace hw := hw.1 c3
    refine lv_iload_n hx hb d_LogDisk_keep_17 rfl (lv_at hl 2 rfl) ?_
    refine lv_if_ge (tgt := 31) hx hb d_LogDisk_keep_18 (by decide) (fun c4 => ?_) (fun c4 => ?_)
    · replace hw := hw.1 c4
      refine lv_aload_n hx hb d_LogDisk_keep_31 rfl (lv_at hl 0 rfl) ?_
      refine g_get hx hb hts (fun w h => List.mem_cons_of_mem _ (in_LogDisk w h)) hown hK hP hx0 (gce_LogDisk hx0.1) rfl 2 (by decide) (hts _ (List.mem_cons_of_mem _ gw_231)) rfl d_LogDisk_keep_32 ?_
      refine lv_iload_n hx hb d_LogDisk_keep_35 rfl (lv_at hl 1 rfl) ?_
      refine lv_iload_n hx hb d_LogDisk_keep_36 rfl (lv_at hl 2 rfl) ?_
      obtain ⟨hin, hw⟩ := hw
      refine g_iastore hx hb hK hY.1 hP hS (gis_LogDisk_keeps hY hx0) hin d_LogDisk_keep_37 (fun S5 eS5 H locs hP hS => ?_)
      replace hw := hw S5 eS5
      exact gx_ret (W.vret hx hb hr (fun t ht hW => ⟨⟨S5, rfl, hw, by rw [ht]; exact hP, va_K.moved hW.alike hK⟩, hS.F ht⟩) hS.2.2 d_LogDisk_keep_38)
    · replace hw := hw.2 c4
      exact gx_throwS (text := "keep is below 0") hx hb hlt hown (by decide +kernel) (hts _ (List.mem_cons_of_mem _ gw_434)) (hts _ (List.mem_cons_of_mem _ gw_16)) hSt (by decide +kernel) (by decide +kernel) hS hP (by rw [hml]; exact hl.1) d_LogDisk_keep_21 d_LogDisk_keep_24 d_LogDisk_keep_25 d_LogDisk_keep_27 d_LogDisk_keep_30 hout (Nat.le_of_ble_eq_true rfl) (Nat.le_of_ble_eq_true rfl) (Nat.le_of_ble_eq_true rfl) (Nat.le_of_ble_eq_true rfl) hlocks hw (Nat.le_refl _) (Nat.le_refl _)
  · replace hw := hw.2 c3
    exact gx_throwS (text := "no such file") hx hb hlt hown (by decide +kernel) (hts _ (List.mem_cons_of_mem _ gw_659)) (hts _ (List.mem_cons_of_mem _ gw_20)) hSt (by decide +kernel) (by decide +kernel) hS hP (by rw [hml]; exact hl.1) d_LogDisk_keep_7 d_LogDisk_keep_10 d_LogDisk_keep_11 d_LogDisk_keep_13 d_LogDisk_keep_16 hout (Nat.le_of_ble_eq_true rfl) (Nat.le_of_ble_eq_true rfl) (Nat.le_of_ble_eq_true rfl) (Nat.le_of_ble_eq_true rfl) hlocks hw (Nat.le_refl _) (Nat.le_refl _)
set_option maxHeartbeats 4000000 in
set_option maxRecDepth 100000 in
theorem k_LogDisk_keep (l : Launch) (hlt : l.stackTraces = false) (Y : gY) (hY : gOK Y) (sz : Nat) (x0 : gI) (x1 : Int32) (x2 : Int32)  (hx0 : gis Y 9 x0) (S : gS) (Q : gS → Prop) (X : String → gS → Prop) : gxMet l y_LogDisk_keep w_LogDisk_keep (gRmX 6 100) (gPre Y [.ref (gad Y x0), .int x1, .int x2] S sz (wp_LogDisk_keep (gLn Y) Q X x0 x1 x2 S)) Y sz (va_Qv Q (gB Y) (gA Y sz)) X := by
  refine gx_ofW (cc := c_LogDisk_keep) (maxL := 3) (ret := (Option.none : Option Jvm.ClassFile.FieldType)) (by decide) rfl ?_
  intro p e s m args below meth c s₁ B hml hout hv
  obtain ⟨rfl, hsz, hP, hK, hSt, hw⟩ := hv
  subst hsz
  refine ⟨rfl, ?_⟩
  have hts := atoms_spec (ws := w_LogDisk_keep) B.pre
  have hl := lv_entry ([.ref (gad Y x0), .int x1, .int x2]) (n := 3) (Nat.le_of_ble_eq_true rfl)
  rw [lg_entry_eq]
  generalize (lg_sl ([.ref (gad Y x0), .int x1, .int x2]) ++ List.replicate (3 - (lg_sl ([.ref (gad Y x0), .int x1, .int x2])).length) Slot.unset).toArray = ls at hl ⊢
  exact mw_LogDisk_keep ⟨B.exec, B.bytes, hml, findClass_of_methodNamed B.named, hts, B.returns, B.notSynchronized, hK, hY, hSt⟩ hlt hout x0 x1 x2 S s.heap [] ls hx0 hw hP va_S.rf hl
