/-! Constructors: rows over explicit worlds. -/
abbrev gtyL (ac : Nat → ClassId) : List (ClassId × FieldType) := [(ac 0, .int), (ac 1, .byte), (ac 2, .boolean), (ac 3, .long), (ac 4, .object "LogDisk$DiskFile")]
abbrev gRmC (f c s lo : Nat) : Room := { frames := f, cells := c, slots := s, locals := lo }
section
variable {p : Program} {l : Launch} {e : Env} {R : Room} {s : State} {m : MethodId} {args : Array Value} {below : List Frame} {meth : Method} {c : Code} {H : Heap} {locs : List Loc} {cells slots : Nat} {Q : State → Prop}
variable {cc : ByteArray} {pc : Nat} {ls : Array Slot} {rest : List Value} {D : va_G} {cl : List vw_C} {A : Nat → Prop} {tys : List (ClassId × FieldType)} {ws : va_W} {H0 : Heap}
theorem gc_newa (hx : p.tables.exec = Jvm.exec) (hb : c.code = cc) {atype : ArrayType} (harr : (Cond.arrayClass (newarray.typeOf atype)).before args s = true) {ty : FieldType} (hty : newarray.typeOf atype = ty) (hK : va_K D cl tys s) (t0 : Nat) {cA : ClassId} (ht : tys[t0]? = some (cA, ty)) (hu : ∀ c c', va_RA s c ty → va_RA s c' ty → c = c') (hP : va_P D cl ws H) (hD : va_D A ws) (hS : va_S A H0 H locs) (hA : ∀ q, H0.size ≤ q → A q)
    {n : Int32} {N' : Nat} {a0 : vp_A} (ha : ∀ cA : ClassId, vp_cell cA a0 = arrV cA N' (fun _ => defaultValue ty)) (hn : ¬ n < 0) (hN : n.toNatClampNeg = N') (hbytes : N' * componentBytes ty ≤ 536870912) (hcells : cells + 1 ≤ R.cells) (hslots : slots + N' ≤ R.slots) (hdg : decode cc pc = .ok (.newarray atype, 2))
    (kk : ∀ (q : Nat) (H1 : Heap), va_P D cl (ws ++ [(q, .inl (cA, a0))]) H1 → va_D A (ws ++ [(q, .inl (cA, a0))]) → va_S A H0 H1 locs → W p l e R s m args below meth c H1 locs (cells + 1) (slots + N') Q (F0 m (pc + 2) ls (.ref q :: rest))) : W p l e R s m args below meth c H locs cells slots Q (F0 m pc ls (.int n :: rest)) := by
  refine va_newa hx hb harr hty hK hP hD hS hA ha hn hN hbytes hcells hslots hdg (fun q cA' H1 hK1 hP1 hD1 hS1 => ?_)
  have e1 : cA' = cA := hu _ _ (hK1.2 tys.length (cA', ty) (by rw [List.getElem?_append_right (Nat.le_refl _), Nat.sub_self]; rfl)).2 (hK.2 t0 _ ht).2
  subst e1
  exact kk q H1 hP1 hD1 hS1
theorem gc_uI : ∀ c c', va_RA s c .int → va_RA s c' .int → c = c' := fun _ _ h h' => Option.some.inj (h.symm.trans h')
theorem gc_uB : ∀ c c', va_RA s c .byte → va_RA s c' .byte → c = c' := fun _ _ h h' => Option.some.inj (h.symm.trans h')
theorem gc_uZ : ∀ c c', va_RA s c .boolean → va_RA s c' .boolean → c = c' := fun _ _ h h' => Option.some.inj (h.symm.trans h')
theorem gc_uL : ∀ c c', va_RA s c .long → va_RA s c' .long → c = c' := fun _ _ h h' => Option.some.inj (h.symm.trans h')
end
set_option maxHeartbeats 4000000 in
set_option maxRecDepth 100000 in
theorem kc_Tape (l : Launch) (D : va_G) (ac : Nat → ClassId) (h0 sz : Nat) : Met l y_Tape_init w_Tape_init (gRmC 1 1 4096 12) (va_Pc [.ref h0] (fun U => U.heap.size = sz ∧ va_P D gCl [(h0, .inr (7, [.null, .int 0]))] U.heap ∧ va_K D gCl (gtyL ac) U ∧ va_D (fun _ => True) [(h0, .inr (7, [.null, .int 0]))])) (va_Qv (fun _ : Nat => True) (fun (q1 : Nat) t => va_P D gCl [(h0, .inr (7, [.ref q1, .int 0])), (q1, .inl (ac 1, 4096, .inl (fun _ => 0)))] t.heap ∧ va_K D gCl (gtyL ac) t ∧ va_D (va_A [(h0, .inr (7, [.null, .int 0]))] sz) [(h0, .inr (7, [.ref q1, .int 0])), (q1, .inl (ac 1, 4096, .inl (fun _ => 0)))]) (va_A [(h0, .inr (7, [.null, .int 0]))] sz)) 1 4096 (va_A [(h0, .inr (7, [.null, .int 0]))] sz) := by
  refine Met.ofW (cc := c_Tape_init) (maxL := 1) (ret := none) (by decide) rfl ?_
  intro p e s m args below meth c s₁ B hml hv
  obtain ⟨rfl, hsz, hP, hK, hD0⟩ := hv
  have hx := B.exec
  have hb := B.bytes
  have hr := B.returns
  have hts := atoms_spec (ws := w_Tape_init) B.pre
  have hown : s.vm.findClass "LogDisk$Tape" = some m.cls := findClass_of_methodNamed B.named
  have hlocks := B.notSynchronized
  have hin : meth.name = "<init>" := (name_of_methodNamed B.named B.method).1
  subst hsz
  have hD := hD0.self (sz := s.heap.size)
  generalize hAe : va_A [(h0, .inr (7, [.null, .int 0]))] s.heap.size = A at hD ⊢
  have hA : ∀ q : Nat, s.heap.size ≤ q → A q := fun q h => by rw [← hAe]; exact Or.inr h
  have hS : va_S A s.heap s.heap [] := va_S.rf
  have hc1 : 0 + 1 ≤ 1 := by decide
  have hs1 : 0 + 4096 ≤ 4096 := by omega
  have hl := lv_entry ([.ref h0]) (n := 1) (Nat.le_of_ble_eq_true rfl)
  rw [lg_entry_eq]
  generalize (lg_sl ([.ref h0]) ++ List.replicate (1 - (lg_sl ([.ref h0])).length) Slot.unset).toArray = ls at hl ⊢
  have hl : lv_has ls 1 [(0, .ref h0)] := hl
  refine lv_aload_n hx hb d_Tape_init_0 rfl (lv_at hl 0 rfl) ?_
  refine W.objInit hx hb hown (hts _ (List.mem_cons_of_mem _ gw_37)) (hts _ (List.mem_cons_of_mem _ gw_28)) (hts _ (List.mem_cons_of_mem _ gw_29)) rfl (by rw [hml]; exact hl.1) rfl d_Tape_init_1 (Nat.le_of_ble_eq_true rfl) (Nat.le_of_ble_eq_true rfl) ?_
  refine W.eq (g2 := F0 m 4 ls []) rfl ?_
  refine lv_aload_n hx hb d_Tape_init_4 rfl (lv_at hl 0 rfl) ?_
  refine lv_sipush (v := 4096) hx hb d_Tape_init_5 (by decide) ?_
  refine gc_newa (atype := .byte) (ty := .byte) (a0 := (4096, .inl (fun _ => 0))) (N' := 4096) hx hb (hts _ (List.mem_cons_of_mem _ gw_48)) rfl hK 1 rfl gc_uB hP hD hS hA (fun _ => rfl) (by decide) (by decide) (by decide) hc1 hs1 d_Tape_init_8 (fun q1 H hP hD hS => ?_)
  have hP : va_P D gCl [(h0, .inr (7, [.null, .int 0])), (q1, .inl (ac 1, 4096, .inl (fun _ => 0)))] H := hP
  have hD : va_D A [(h0, .inr (7, [.null, .int 0])), (q1, .inl (ac 1, 4096, .inl (fun _ => 0)))] := hD
  refine va_putF (D := D) (ci := 7) (v := .ref q1) (ty := (.array .byte)) (C := "LogDisk$Tape") (T := T_Tape) (N := 2) hx hb hts (fun w h => List.mem_cons_of_mem _ (in_Tape w h)) ty_Tape tyok_Tape nm_Tape hown hK hP hD hS 0 rfl rfl 0 (by decide) (hts _ (List.mem_cons_of_mem _ gw_38)) (fun _ h9 => h9) rfl hin rfl (by decide +kernel) rfl rfl (Nat.le_of_ble_eq_true rfl) d_Tape_init_10 (fun H locs hP hD hS => ?_)
  have hP : va_P D gCl [(h0, .inr (7, [.ref q1, .int 0])), (q1, .inl (ac 1, 4096, .inl (fun _ => 0)))] H := hP
  have hD : va_D A [(h0, .inr (7, [.ref q1, .int 0])), (q1, .inl (ac 1, 4096, .inl (fun _ => 0)))] := hD
  refine W.widen (k := 1) (n := 4096) (by omega) (by omega) ?_
  exact W.vret hx hb hr (fun t ht hW => ⟨⟨q1, rfl, trivial, by rw [ht]; exact hP, va_K.moved hW.alike hK, hD⟩, hS.F ht⟩) hS.2.2 d_Tape_init_13
set_option maxHeartbeats 4000000 in
set_option maxRecDepth 100000 in
theorem kc_Frame (l : Launch) (D : va_G) (ac : Nat → ClassId) (h0 sz : Nat) : Met l y_Frame_init w_Frame_init (gRmC 1 1 4121 12) (va_Pc [.ref h0] (fun U => U.heap.size = sz ∧ va_P D gCl [(h0, .inr (3, [.null, .int 0]))] U.heap ∧ va_K D gCl (gtyL ac) U ∧ va_D (fun _ => True) [(h0, .inr (3, [.null, .int 0]))])) (va_Qv (fun _ : Nat => True) (fun (q1 : Nat) t => va_P D gCl [(h0, .inr (3, [.ref q1, .int 0])), (q1, .inl (ac 1, 4121, .inl (fun _ => 0)))] t.heap ∧ va_K D gCl (gtyL ac) t ∧ va_D (va_A [(h0, .inr (3, [.null, .int 0]))] sz) [(h0, .inr (3, [.ref q1, .int 0])), (q1, .inl (ac 1, 4121, .inl (fun _ => 0)))]) (va_A [(h0, .inr (3, [.null, .int 0]))] sz)) 1 4121 (va_A [(h0, .inr (3, [.null, .int 0]))] sz) := by
  refine Met.ofW (cc := c_Frame_init) (maxL := 1) (ret := none) (by decide) rfl ?_
  intro p e s m args below meth c s₁ B hml hv
  obtain ⟨rfl, hsz, hP, hK, hD0⟩ := hv
  have hx := B.exec
  have hb := B.bytes
  have hr := B.returns
  have hts := atoms_spec (ws := w_Frame_init) B.pre
  have hown : s.vm.findClass "LogDisk$Frame" = some m.cls := findClass_of_methodNamed B.named
  have hlocks := B.notSynchronized
  have hin : meth.name = "<init>" := (name_of_methodNamed B.named B.method).1
  subst hsz
  have hD := hD0.self (sz := s.heap.size)
  generalize hAe : va_A [(h0, .inr (3, [.null, .int 0]))] s.heap.size = A at hD ⊢
  have hA : ∀ q : Nat, s.heap.size ≤ q → A q := fun q h => by rw [← hAe]; exact Or.inr h
  have hS : va_S A s.heap s.heap [] := va_S.rf
  have hc1 : 0 + 1 ≤ 1 := by decide
  have hs1 : 0 + 4121 ≤ 4121 := by omega
  have hl := lv_entry ([.ref h0]) (n := 1) (Nat.le_of_ble_eq_true rfl)
  rw [lg_entry_eq]
  generalize (lg_sl ([.ref h0]) ++ List.replicate (1 - (lg_sl ([.ref h0])).length) Slot.unset).toArray = ls at hl ⊢
  have hl : lv_has ls 1 [(0, .ref h0)] := hl
  refine lv_aload_n hx hb d_Frame_init_0 rfl (lv_at hl 0 rfl) ?_
  refine W.objInit hx hb hown (hts _ (List.mem_cons_of_mem _ gw_54)) (hts _ (List.mem_cons_of_mem _ gw_28)) (hts _ (List.mem_cons_of_mem _ gw_29)) rfl (by rw [hml]; exact hl.1) rfl d_Frame_init_1 (Nat.le_of_ble_eq_true rfl) (Nat.le_of_ble_eq_true rfl) ?_
  refine W.eq (g2 := F0 m 4 ls []) rfl ?_
  refine lv_aload_n hx hb d_Frame_init_4 rfl (lv_at hl 0 rfl) ?_
  refine lv_sipush (v := 4121) hx hb d_Frame_init_5 (by decide) ?_
  refine gc_newa (atype := .byte) (ty := .byte) (a0 := (4121, .inl (fun _ => 0))) (N' := 4121) hx hb (hts _ (List.mem_cons_of_mem _ gw_48)) rfl hK 1 rfl gc_uB hP hD hS hA (fun _ => rfl) (by decide) (by decide) (by decide) hc1 hs1 d_Frame_init_8 (fun q1 H hP hD hS => ?_)
  have hP : va_P D gCl [(h0, .inr (3, [.null, .int 0])), (q1, .inl (ac 1, 4121, .inl (fun _ => 0)))] H := hP
  have hD : va_D A [(h0, .inr (3, [.null, .int 0])), (q1, .inl (ac 1, 4121, .inl (fun _ => 0)))] := hD
  refine va_putF (D := D) (ci := 3) (v := .ref q1) (ty := (.array .byte)) (C := "LogDisk$Frame") (T := T_Frame) (N := 2) hx hb hts (fun w h => List.mem_cons_of_mem _ (in_Frame w h)) ty_Frame tyok_Frame nm_Frame hown hK hP hD hS 0 rfl rfl 0 (by decide) (hts _ (List.mem_cons_of_mem _ gw_55)) (fun _ h9 => h9) rfl hin rfl (by decide +kernel) rfl rfl (Nat.le_of_ble_eq_true rfl) d_Frame_init_10 (fun H locs hP hD hS => ?_)
  have hP : va_P D gCl [(h0, .inr (3, [.ref q1, .int 0])), (q1, .inl (ac 1, 4121, .inl (fun _ => 0)))] H := hP
  have hD : va_D A [(h0, .inr (3, [.ref q1, .int 0])), (q1, .inl (ac 1, 4121, .inl (fun _ => 0)))] := hD
  refine W.widen (k := 1) (n := 4121) (by omega) (by omega) ?_
  exact W.vret hx hb hr (fun t ht hW => ⟨⟨q1, rfl, trivial, by rw [ht]; exact hP, va_K.moved hW.alike hK, hD⟩, hS.F ht⟩) hS.2.2 d_Frame_init_13
set_option maxHeartbeats 4000000 in
set_option maxRecDepth 100000 in
theorem kc_Vote (l : Launch) (D : va_G) (ac : Nat → ClassId) (h0 sz : Nat) : Met l y_Vote_init w_Vote_init (gRmC 1 0 0 12) (va_Pc [.ref h0] (fun U => U.heap.size = sz ∧ va_P D gCl [(h0, .inr (8, [.int 0, .int 0, .long 0, .int 0, .int 0]))] U.heap ∧ va_K D gCl (gtyL ac) U ∧ va_D (fun _ => True) [(h0, .inr (8, [.int 0, .int 0, .long 0, .int 0, .int 0]))])) (va_Qv (fun _ : Unit => True) (fun (u : Unit) t => va_P D gCl [(h0, .inr (8, [.int 0, .int (-1), .long 0, .int (-1), .int 0]))] t.heap ∧ va_K D gCl (gtyL ac) t ∧ va_D (va_A [(h0, .inr (8, [.int 0, .int 0, .long 0, .int 0, .int 0]))] sz) [(h0, .inr (8, [.int 0, .int (-1), .long 0, .int (-1), .int 0]))]) (va_A [(h0, .inr (8, [.int 0, .int 0, .long 0, .int 0, .int 0]))] sz)) 0 0 (va_A [(h0, .inr (8, [.int 0, .int 0, .long 0, .int 0, .int 0]))] sz) := by
  refine Met.ofW (cc := c_Vote_init) (maxL := 1) (ret := none) (by decide) rfl ?_
  intro p e s m args below meth c s₁ B hml hv
  obtain ⟨rfl, hsz, hP, hK, hD0⟩ := hv
  have hx := B.exec
  have hb := B.bytes
  have hr := B.returns
  have hts := atoms_spec (ws := w_Vote_init) B.pre
  have hown : s.vm.findClass "LogDisk$Vote" = some m.cls := findClass_of_methodNamed B.named
  have hlocks := B.notSynchronized
  have hin : meth.name = "<init>" := (name_of_methodNamed B.named B.method).1
  subst hsz
  have hD := hD0.self (sz := s.heap.size)
  generalize hAe : va_A [(h0, .inr (8, [.int 0, .int 0, .long 0, .int 0, .int 0]))] s.heap.size = A at hD ⊢
  have hA : ∀ q : Nat, s.heap.size ≤ q → A q := fun q h => by rw [← hAe]; exact Or.inr h
  have hS : va_S A s.heap s.heap [] := va_S.rf
  have hl := lv_entry ([.ref h0]) (n := 1) (Nat.le_of_ble_eq_true rfl)
  rw [lg_entry_eq]
  generalize (lg_sl ([.ref h0]) ++ List.replicate (1 - (lg_sl ([.ref h0])).length) Slot.unset).toArray = ls at hl ⊢
  have hl : lv_has ls 1 [(0, .ref h0)] := hl
  refine lv_aload_n hx hb d_Vote_init_0 rfl (lv_at hl 0 rfl) ?_
  refine W.objInit hx hb hown (hts _ (List.mem_cons_of_mem _ gw_69)) (hts _ (List.mem_cons_of_mem _ gw_28)) (hts _ (List.mem_cons_of_mem _ gw_29)) rfl (by rw [hml]; exact hl.1) rfl d_Vote_init_1 (Nat.le_of_ble_eq_true rfl) (Nat.le_of_ble_eq_true rfl) ?_
  refine W.eq (g2 := F0 m 4 ls []) rfl ?_
  refine lv_aload_n hx hb d_Vote_init_4 rfl (lv_at hl 0 rfl) ?_
  refine lv_iconst (v := -1) hx hb d_Vote_init_5 (by decide) ?_
  refine va_put (D := D) (ci := 8) (v := .int (-1)) (ty := .int) (C := "LogDisk$Vote") (T := T_Vote) (N := 5) hx hb hts (fun w h => List.mem_cons_of_mem _ (in_Vote w h)) ty_Vote tyok_Vote nm_Vote hown hK hP hD hS 0 rfl rfl 1 (by decide) (hts _ (List.mem_cons_of_mem _ gw_72)) (fun _ h9 => h9) rfl (by decide +kernel) rfl rfl (Nat.le_of_ble_eq_true rfl) d_Vote_init_6 (fun H locs hP hD hS => ?_)
  have hP : va_P D gCl [(h0, .inr (8, [.int 0, .int (-1), .long 0, .int 0, .int 0]))] H := hP
  have hD : va_D A [(h0, .inr (8, [.int 0, .int (-1), .long 0, .int 0, .int 0]))] := hD
  refine lv_aload_n hx hb d_Vote_init_9 rfl (lv_at hl 0 rfl) ?_
  refine lv_iconst (v := -1) hx hb d_Vote_init_10 (by decide) ?_
  refine va_put (D := D) (ci := 8) (v := .int (-1)) (ty := .int) (C := "LogDisk$Vote") (T := T_Vote) (N := 5) hx hb hts (fun w h => List.mem_cons_of_mem _ (in_Vote w h)) ty_Vote tyok_Vote nm_Vote hown hK hP hD hS 0 rfl rfl 3 (by decide) (hts _ (List.mem_cons_of_mem _ gw_76)) (fun _ h9 => h9) rfl (by decide +kernel) rfl rfl (Nat.le_of_ble_eq_true rfl) d_Vote_init_11 (fun H locs hP hD hS => ?_)
  have hP : va_P D gCl [(h0, .inr (8, [.int 0, .int (-1), .long 0, .int (-1), .int 0]))] H := hP
  have hD : va_D A [(h0, .inr (8, [.int 0, .int (-1), .long 0, .int (-1), .int 0]))] := hD
  refine W.widen (k := 0) (n := 0) (by omega) (by omega) ?_
  exact W.vret hx hb hr (fun t ht hW => ⟨⟨(), rfl, trivial, by rw [ht]; exact hP, va_K.moved hW.alike hK, hD⟩, hS.F ht⟩) hS.2.2 d_Vote_init_14
set_option maxHeartbeats 4000000 in
set_option maxRecDepth 100000 in
theorem kc_Snapshot (l : Launch) (D : va_G) (ac : Nat → ClassId) (h0 sz : Nat) : Met l y_Snapshot_init w_Snapshot_init (gRmC 1 0 0 12) (va_Pc [.ref h0] (fun U => U.heap.size = sz ∧ va_P D gCl [(h0, .inr (6, [.int 0, .int 0, .int 0, .int 0]))] U.heap ∧ va_K D gCl (gtyL ac) U ∧ va_D (fun _ => True) [(h0, .inr (6, [.int 0, .int 0, .int 0, .int 0]))])) (va_Qv (fun _ : Unit => True) (fun (u : Unit) t => va_P D gCl [(h0, .inr (6, [.int (-1), .int 0, .int 0, .int 0]))] t.heap ∧ va_K D gCl (gtyL ac) t ∧ va_D (va_A [(h0, .inr (6, [.int 0, .int 0, .int 0, .int 0]))] sz) [(h0, .inr (6, [.int (-1), .int 0, .int 0, .int 0]))]) (va_A [(h0, .inr (6, [.int 0, .int 0, .int 0, .int 0]))] sz)) 0 0 (va_A [(h0, .inr (6, [.int 0, .int 0, .int 0, .int 0]))] sz) := by
  refine Met.ofW (cc := c_Snapshot_init) (maxL := 1) (ret := none) (by decide) rfl ?_
  intro p e s m args below meth c s₁ B hml hv
  obtain ⟨rfl, hsz, hP, hK, hD0⟩ := hv
  have hx := B.exec
  have hb := B.bytes
  have hr := B.returns
  have hts := atoms_spec (ws := w_Snapshot_init) B.pre
  have hown : s.vm.findClass "LogDisk$Snapshot" = some m.cls := findClass_of_methodNamed B.named
  have hlocks := B.notSynchronized
  have hin : meth.name = "<init>" := (name_of_methodNamed B.named B.method).1
  subst hsz
  have hD := hD0.self (sz := s.heap.size)
  generalize hAe : va_A [(h0, .inr (6, [.int 0, .int 0, .int 0, .int 0]))] s.heap.size = A at hD ⊢
  have hA : ∀ q : Nat, s.heap.size ≤ q → A q := fun q h => by rw [← hAe]; exact Or.inr h
  have hS : va_S A s.heap s.heap [] := va_S.rf
  have hl := lv_entry ([.ref h0]) (n := 1) (Nat.le_of_ble_eq_true rfl)
  rw [lg_entry_eq]
  generalize (lg_sl ([.ref h0]) ++ List.replicate (1 - (lg_sl ([.ref h0])).length) Slot.unset).toArray = ls at hl ⊢
  have hl : lv_has ls 1 [(0, .ref h0)] := hl
  refine lv_aload_n hx hb d_Snapshot_init_0 rfl (lv_at hl 0 rfl) ?_
  refine W.objInit hx hb hown (hts _ (List.mem_cons_of_mem _ gw_96)) (hts _ (List.mem_cons_of_mem _ gw_28)) (hts _ (List.mem_cons_of_mem _ gw_29)) rfl (by rw [hml]; exact hl.1) rfl d_Snapshot_init_1 (Nat.le_of_ble_eq_true rfl) (Nat.le_of_ble_eq_true rfl) ?_
  refine W.eq (g2 := F0 m 4 ls []) rfl ?_
  refine lv_aload_n hx hb d_Snapshot_init_4 rfl (lv_at hl 0 rfl) ?_
  refine lv_iconst (v := -1) hx hb d_Snapshot_init_5 (by decide) ?_
  refine va_put (D := D) (ci := 6) (v := .int (-1)) (ty := .int) (C := "LogDisk$Snapshot") (T := T_Snapshot) (N := 4) hx hb hts (fun w h => List.mem_cons_of_mem _ (in_Snapshot w h)) ty_Snapshot tyok_Snapshot nm_Snapshot hown hK hP hD hS 0 rfl rfl 0 (by decide) (hts _ (List.mem_cons_of_mem _ gw_97)) (fun _ h9 => h9) rfl (by decide +kernel) rfl rfl (Nat.le_of_ble_eq_true rfl) d_Snapshot_init_6 (fun H locs hP hD hS => ?_)
  have hP : va_P D gCl [(h0, .inr (6, [.int (-1), .int 0, .int 0, .int 0]))] H := hP
  have hD : va_D A [(h0, .inr (6, [.int (-1), .int 0, .int 0, .int 0]))] := hD
  refine W.widen (k := 0) (n := 0) (by omega) (by omega) ?_
  exact W.vret hx hb hr (fun t ht hW => ⟨⟨(), rfl, trivial, by rw [ht]; exact hP, va_K.moved hW.alike hK, hD⟩, hS.F ht⟩) hS.2.2 d_Snapshot_init_9
set_option maxHeartbeats 4000000 in
set_option maxRecDepth 100000 in
theorem kc_Segments (l : Launch) (D : va_G) (ac : Nat → ClassId) (h0 sz : Nat) : Met l y_Segments_init w_Segments_init (gRmC 1 2 24 12) (va_Pc [.ref h0] (fun U => U.heap.size = sz ∧ va_P D gCl [(h0, .inr (5, [.null, .null, .int 0]))] U.heap ∧ va_K D gCl (gtyL ac) U ∧ va_D (fun _ => True) [(h0, .inr (5, [.null, .null, .int 0]))])) (va_Qv (fun _ : Nat × Nat => True) (fun (u : Nat × Nat) t => match u with | (q1, q2) => va_P D gCl [(h0, .inr (5, [.ref q1, .ref q2, .int 0])), (q1, .inl (ac 0, 12, .inl (fun _ => 0))), (q2, .inl (ac 0, 12, .inl (fun _ => 0)))] t.heap ∧ va_K D gCl (gtyL ac) t ∧ va_D (va_A [(h0, .inr (5, [.null, .null, .int 0]))] sz) [(h0, .inr (5, [.ref q1, .ref q2, .int 0])), (q1, .inl (ac 0, 12, .inl (fun _ => 0))), (q2, .inl (ac 0, 12, .inl (fun _ => 0)))]) (va_A [(h0, .inr (5, [.null, .null, .int 0]))] sz)) 2 24 (va_A [(h0, .inr (5, [.null, .null, .int 0]))] sz) := by
  refine Met.ofW (cc := c_Segments_init) (maxL := 1) (ret := none) (by decide) rfl ?_
  intro p e s m args below meth c s₁ B hml hv
  obtain ⟨rfl, hsz, hP, hK, hD0⟩ := hv
  have hx := B.exec
  have hb := B.bytes
  have hr := B.returns
  have hts := atoms_spec (ws := w_Segments_init) B.pre
  have hown : s.vm.findClass "LogDisk$Segments" = some m.cls := findClass_of_methodNamed B.named
  have hlocks := B.notSynchronized
  have hin : meth.name = "<init>" := (name_of_methodNamed B.named B.method).1
  subst hsz
  have hD := hD0.self (sz := s.heap.size)
  generalize hAe : va_A [(h0, .inr (5, [.null, .null, .int 0]))] s.heap.size = A at hD ⊢
  have hA : ∀ q : Nat, s.heap.size ≤ q → A q := fun q h => by rw [← hAe]; exact Or.inr h
  have hS : va_S A s.heap s.heap [] := va_S.rf
  have hc1 : 0 + 1 ≤ 2 := by decide
  have hs1 : 0 + 12 ≤ 24 := by omega
  have hc2 : 1 + 1 ≤ 2 := by decide
  have hs2 : 0 + 12 + 12 ≤ 24 := by omega
  have hl := lv_entry ([.ref h0]) (n := 1) (Nat.le_of_ble_eq_true rfl)
  rw [lg_entry_eq]
  generalize (lg_sl ([.ref h0]) ++ List.replicate (1 - (lg_sl ([.ref h0])).length) Slot.unset).toArray = ls at hl ⊢
  have hl : lv_has ls 1 [(0, .ref h0)] := hl
  refine lv_aload_n hx hb d_Segments_init_0 rfl (lv_at hl 0 rfl) ?_
  refine W.objInit hx hb hown (hts _ (List.mem_cons_of_mem _ gw_119)) (hts _ (List.mem_cons_of_mem _ gw_28)) (hts _ (List.mem_cons_of_mem _ gw_29)) rfl (by rw [hml]; exact hl.1) rfl d_Segments_init_1 (Nat.le_of_ble_eq_true rfl) (Nat.le_of_ble_eq_true rfl) ?_
  refine W.eq (g2 := F0 m 4 ls []) rfl ?_
  refine lv_aload_n hx hb d_Segments_init_4 rfl (lv_at hl 0 rfl) ?_
  refine lv_bipush (v := 12) hx hb d_Segments_init_5 (by decide) ?_
  refine gc_newa (atype := .int) (ty := .int) (a0 := (12, .inl (fun _ => 0))) (N' := 12) hx hb (hts _ (List.mem_cons_of_mem _ gw_47)) rfl hK 0 rfl gc_uI hP hD hS hA (fun _ => rfl) (by decide) (by decide) (by decide) hc1 hs1 d_Segments_init_7 (fun q1 H hP hD hS => ?_)
  have hP : va_P D gCl [(h0, .inr (5, [.null, .null, .int 0])), (q1, .inl (ac 0, 12, .inl (fun _ => 0)))] H := hP
  have hD : va_D A [(h0, .inr (5, [.null, .null, .int 0])), (q1, .inl (ac 0, 12, .inl (fun _ => 0)))] := hD
  refine va_putF (D := D) (ci := 5) (v := .ref q1) (ty := (.array .int)) (C := "LogDisk$Segments") (T := T_Segments) (N := 3) hx hb hts (fun w h => List.mem_cons_of_mem _ (in_Segments w h)) ty_Segments tyok_Segments nm_Segments hown hK hP hD hS 0 rfl rfl 0 (by decide) (hts _ (List.mem_cons_of_mem _ gw_120)) (fun _ h9 => h9) rfl hin rfl (by decide +kernel) rfl rfl (Nat.le_of_ble_eq_true rfl) d_Segments_init_9 (fun H locs hP hD hS => ?_)
  have hP : va_P D gCl [(h0, .inr (5, [.ref q1, .null, .int 0])), (q1, .inl (ac 0, 12, .inl (fun _ => 0)))] H := hP
  have hD : va_D A [(h0, .inr (5, [.ref q1, .null, .int 0])), (q1, .inl (ac 0, 12, .inl (fun _ => 0)))] := hD
  refine lv_aload_n hx hb d_Segments_init_12 rfl (lv_at hl 0 rfl) ?_
  refine lv_bipush (v := 12) hx hb d_Segments_init_13 (by decide) ?_
  refine gc_newa (atype := .int) (ty := .int) (a0 := (12, .inl (fun _ => 0))) (N' := 12) hx hb (hts _ (List.mem_cons_of_mem _ gw_47)) rfl hK 0 rfl gc_uI hP hD hS hA (fun _ => rfl) (by decide) (by decide) (by decide) hc2 hs2 d_Segments_init_15 (fun q2 H hP hD hS => ?_)
  have hP : va_P D gCl [(h0, .inr (5, [.ref q1, .null, .int 0])), (q1, .inl (ac 0, 12, .inl (fun _ => 0))), (q2, .inl (ac 0, 12, .inl (fun _ => 0)))] H := hP
  have hD : va_D A [(h0, .inr (5, [.ref q1, .null, .int 0])), (q1, .inl (ac 0, 12, .inl (fun _ => 0))), (q2, .inl (ac 0, 12, .inl (fun _ => 0)))] := hD
  refine va_putF (D := D) (ci := 5) (v := .ref q2) (ty := (.array .int)) (C := "LogDisk$Segments") (T := T_Segments) (N := 3) hx hb hts (fun w h => List.mem_cons_of_mem _ (in_Segments w h)) ty_Segments tyok_Segments nm_Segments hown hK hP hD hS 0 rfl rfl 1 (by decide) (hts _ (List.mem_cons_of_mem _ gw_122)) (fun _ h9 => h9) rfl hin rfl (by decide +kernel) rfl rfl (Nat.le_of_ble_eq_true rfl) d_Segments_init_17 (fun H locs hP hD hS => ?_)
  have hP : va_P D gCl [(h0, .inr (5, [.ref q1, .ref q2, .int 0])), (q1, .inl (ac 0, 12, .inl (fun _ => 0))), (q2, .inl (ac 0, 12, .inl (fun _ => 0)))] H := hP
  have hD : va_D A [(h0, .inr (5, [.ref q1, .ref q2, .int 0])), (q1, .inl (ac 0, 12, .inl (fun _ => 0))), (q2, .inl (ac 0, 12, .inl (fun _ => 0)))] := hD
  refine W.widen (k := 2) (n := 24) (by omega) (by omega) ?_
  exact W.vret hx hb hr (fun t ht hW => ⟨⟨(q1, q2), rfl, trivial, by rw [ht]; exact hP, va_K.moved hW.alike hK, hD⟩, hS.F ht⟩) hS.2.2 d_Segments_init_20
set_option maxHeartbeats 4000000 in
set_option maxRecDepth 100000 in
theorem kc_Entries (l : Launch) (D : va_G) (ac : Nat → ClassId) (h0 sz : Nat) : Met l y_Entries_init w_Entries_init (gRmC 1 5 1505 12) (va_Pc [.ref h0] (fun U => U.heap.size = sz ∧ va_P D gCl [(h0, .inr (2, [.null, .null, .null, .null, .null]))] U.heap ∧ va_K D gCl (gtyL ac) U ∧ va_D (fun _ => True) [(h0, .inr (2, [.null, .null, .null, .null, .null]))])) (va_Qv (fun _ : Nat × Nat × Nat × Nat × Nat => True) (fun (u : Nat × Nat × Nat × Nat × Nat) t => match u with | (q1, q2, q3, q4, q5) => va_P D gCl [(h0, .inr (2, [.ref q1, .ref q2, .ref q3, .ref q4, .ref q5])), (q1, .inl (ac 0, 301, .inl (fun _ => 0))), (q2, .inl (ac 0, 301, .inl (fun _ => 0))), (q3, .inl (ac 0, 301, .inl (fun _ => 0))), (q4, .inl (ac 0, 301, .inl (fun _ => 0))), (q5, .inl (ac 0, 301, .inl (fun _ => 0)))] t.heap ∧ va_K D gCl (gtyL ac) t ∧ va_D (va_A [(h0, .inr (2, [.null, .null, .null, .null, .null]))] sz) [(h0, .inr (2, [.ref q1, .ref q2, .ref q3, .ref q4, .ref q5])), (q1, .inl (ac 0, 301, .inl (fun _ => 0))), (q2, .inl (ac 0, 301, .inl (fun _ => 0))), (q3, .inl (ac 0, 301, .inl (fun _ => 0))), (q4, .inl (ac 0, 301, .inl (fun _ => 0))), (q5, .inl (ac 0, 301, .inl (fun _ => 0)))]) (va_A [(h0, .inr (2, [.null, .null, .null, .null, .null]))] sz)) 5 1505 (va_A [(h0, .inr (2, [.null, .null, .null, .null, .null]))] sz) := by
  refine Met.ofW (cc := c_Entries_init) (maxL := 1) (ret := none) (by decide) rfl ?_
  intro p e s m args below meth c s₁ B hml hv
  obtain ⟨rfl, hsz, hP, hK, hD0⟩ := hv
  have hx := B.exec
  have hb := B.bytes
  have hr := B.returns
  have hts := atoms_spec (ws := w_Entries_init) B.pre
  have hown : s.vm.findClass "LogDisk$Entries" = some m.cls := findClass_of_methodNamed B.named
  have hlocks := B.notSynchronized
  have hin : meth.name = "<init>" := (name_of_methodNamed B.named B.method).1
  subst hsz
  have hD := hD0.self (sz := s.heap.size)
  generalize hAe : va_A [(h0, .inr (2, [.null, .null, .null, .null, .null]))] s.heap.size = A at hD ⊢
  have hA : ∀ q : Nat, s.heap.size ≤ q → A q := fun q h => by rw [← hAe]; exact Or.inr h
  have hS : va_S A s.heap s.heap [] := va_S.rf
  have hc1 : 0 + 1 ≤ 5 := by decide
  have hs1 : 0 + 301 ≤ 1505 := by omega
  have hc2 : 1 + 1 ≤ 5 := by decide
  have hs2 : 0 + 301 + 301 ≤ 1505 := by omega
  have hc3 : 2 + 1 ≤ 5 := by decide
  have hs3 : 0 + 301 + 301 + 301 ≤ 1505 := by omega
  have hc4 : 3 + 1 ≤ 5 := by decide
  have hs4 : 0 + 301 + 301 + 301 + 301 ≤ 1505 := by omega
  have hc5 : 4 + 1 ≤ 5 := by decide
  have hs5 : 0 + 301 + 301 + 301 + 301 + 301 ≤ 1505 := by omega
  have hl := lv_entry ([.ref h0]) (n := 1) (Nat.le_of_ble_eq_true rfl)
  rw [lg_entry_eq]
  generalize (lg_sl ([.ref h0]) ++ List.replicate (1 - (lg_sl ([.ref h0])).length) Slot.unset).toArray = ls at hl ⊢
  have hl : lv_has ls 1 [(0, .ref h0)] := hl
  refine lv_aload_n hx hb d_Entries_init_0 rfl (lv_at hl 0 rfl) ?_
  refine W.objInit hx hb hown (hts _ (List.mem_cons_of_mem _ gw_138)) (hts _ (List.mem_cons_of_mem _ gw_28)) (hts _ (List.mem_cons_of_mem _ gw_29)) rfl (by rw [hml]; exact hl.1) rfl d_Entries_init_1 (Nat.le_of_ble_eq_true rfl) (Nat.le_of_ble_eq_true rfl) ?_
  refine W.eq (g2 := F0 m 4 ls []) rfl ?_
  refine lv_aload_n hx hb d_Entries_init_4 rfl (lv_at hl 0 rfl) ?_
  refine lv_sipush (v := 301) hx hb d_Entries_init_5 (by decide) ?_
  refine gc_newa (atype := .int) (ty := .int) (a0 := (301, .inl (fun _ => 0))) (N' := 301) hx hb (hts _ (List.mem_cons_of_mem _ gw_47)) rfl hK 0 rfl gc_uI hP hD hS hA (fun _ => rfl) (by decide) (by decide) (by decide) hc1 hs1 d_Entries_init_8 (fun q1 H hP hD hS => ?_)
  have hP : va_P D gCl [(h0, .inr (2, [.null, .null, .null, .null, .null])), (q1, .inl (ac 0, 301, .inl (fun _ => 0)))] H := hP
  have hD : va_D A [(h0, .inr (2, [.null, .null, .null, .null, .null])), (q1, .inl (ac 0, 301, .inl (fun _ => 0)))] := hD
  refine va_putF (D := D) (ci := 2) (v := .ref q1) (ty := (.array .int)) (C := "LogDisk$Entries") (T := T_Entries) (N := 5) hx hb hts (fun w h => List.mem_cons_of_mem _ (in_Entries w h)) ty_Entries tyok_Entries nm_Entries hown hK hP hD hS 0 rfl rfl 0 (by decide) (hts _ (List.mem_cons_of_mem _ gw_139)) (fun _ h9 => h9) rfl hin rfl (by decide +kernel) rfl rfl (Nat.le_of_ble_eq_true rfl) d_Entries_init_10 (fun H locs hP hD hS => ?_)
  have hP : va_P D gCl [(h0, .inr (2, [.ref q1, .null, .null, .null, .null])), (q1, .inl (ac 0, 301, .inl (fun _ => 0)))] H := hP
  have hD : va_D A [(h0, .inr (2, [.ref q1, .null, .null, .null, .null])), (q1, .inl (ac 0, 301, .inl (fun _ => 0)))] := hD
  refine lv_aload_n hx hb d_Entries_init_13 rfl (lv_at hl 0 rfl) ?_
  refine lv_sipush (v := 301) hx hb d_Entries_init_14 (by decide) ?_
  refine gc_newa (atype := .int) (ty := .int) (a0 := (301, .inl (fun _ => 0))) (N' := 301) hx hb (hts _ (List.mem_cons_of_mem _ gw_47)) rfl hK 0 rfl gc_uI hP hD hS hA (fun _ => rfl) (by decide) (by decide) (by decide) hc2 hs2 d_Entries_init_17 (fun q2 H hP hD hS => ?_)
  have hP : va_P D gCl [(h0, .inr (2, [.ref q1, .null, .null, .null, .null])), (q1, .inl (ac 0, 301, .inl (fun _ => 0))), (q2, .inl (ac 0, 301, .inl (fun _ => 0)))] H := hP
  have hD : va_D A [(h0, .inr (2, [.ref q1, .null, .null, .null, .null])), (q1, .inl (ac 0, 301, .inl (fun _ => 0))), (q2, .inl (ac 0, 301, .inl (fun _ => 0)))] := hD
  refine va_putF (D := D) (ci := 2) (v := .ref q2) (ty := (.array .int)) (C := "LogDisk$Entries") (T := T_Entries) (N := 5) hx hb hts (fun w h => List.mem_cons_of_mem _ (in_Entries w h)) ty_Entries tyok_Entries nm_Entries hown hK hP hD hS 0 rfl rfl 1 (by decide) (hts _ (List.mem_cons_of_mem _ gw_141)) (fun _ h9 => h9) rfl hin rfl (by decide +kernel) rfl rfl (Nat.le_of_ble_eq_true rfl) d_Entries_init_19 (fun H locs hP hD hS => ?_)
  have hP : va_P D gCl [(h0, .inr (2, [.ref q1, .ref q2, .null, .null, .null])), (q1, .inl (ac 0, 301, .inl (fun _ => 0))), (q2, .inl (ac 0, 301, .inl (fun _ => 0)))] H := hP
  have hD : va_D A [(h0, .inr (2, [.ref q1, .ref q2, .null, .null, .null])), (q1, .inl (ac 0, 301, .inl (fun _ => 0))), (q2, .inl (ac 0, 301, .inl (fun _ => 0)))] := hD
  refine lv_aload_n hx hb d_Entries_init_22 rfl (lv_at hl 0 rfl) ?_
  refine lv_sipush (v := 301) hx hb d_Entries_init_23 (by decide) ?_
  refine gc_newa (atype := .int) (ty := .int) (a0 := (301, .inl (fun _ => 0))) (N' := 301) hx hb (hts _ (List.mem_cons_of_mem _ gw_47)) rfl hK 0 rfl gc_uI hP hD hS hA (fun _ => rfl) (by decide) (by decide) (by decide) hc3 hs3 d_Entries_init_26 (fun q3 H hP hD hS => ?_)
  have hP : va_P D gCl [(h0, .inr (2, [.ref q1, .ref q2, .null, .null, .null])), (q1, .inl (ac 0, 301, .inl (fun _ => 0))), (q2, .inl (ac 0, 301, .inl (fun _ => 0))), (q3, .inl (ac 0, 301, .inl (fun _ => 0)))] H := hP
  have hD : va_D A [(h0, .inr (2, [.ref q1, .ref q2, .null, .null, .null])), (q1, .inl (ac 0, 301, .inl (fun _ => 0))), (q2, .inl (ac 0, 301, .inl (fun _ => 0))), (q3, .inl (ac 0, 301, .inl (fun _ => 0)))] := hD
  refine va_putF (D := D) (ci := 2) (v := .ref q3) (ty := (.array .int)) (C := "LogDisk$Entries") (T := T_Entries) (N := 5) hx hb hts (fun w h => List.mem_cons_of_mem _ (in_Entries w h)) ty_Entries tyok_Entries nm_Entries hown hK hP hD hS 0 rfl rfl 2 (by decide) (hts _ (List.mem_cons_of_mem _ gw_143)) (fun _ h9 => h9) rfl hin rfl (by decide +kernel) rfl rfl (Nat.le_of_ble_eq_true rfl) d_Entries_init_28 (fun H locs hP hD hS => ?_)
  have hP : va_P D gCl [(h0, .inr (2, [.ref q1, .ref q2, .ref q3, .null, .null])), (q1, .inl (ac 0, 301, .inl (fun _ => 0))), (q2, .inl (ac 0, 301, .inl (fun _ => 0))), (q3, .inl (ac 0, 301, .inl (fun _ => 0)))] H := hP
  have hD : va_D A [(h0, .inr (2, [.ref q1, .ref q2, .ref q3, .null, .null])), (q1, .inl (ac 0, 301, .inl (fun _ => 0))), (q2, .inl (ac 0, 301, .inl (fun _ => 0))), (q3, .inl (ac 0, 301, .inl (fun _ => 0)))] := hD
  refine lv_aload_n hx hb d_Entries_init_31 rfl (lv_at hl 0 rfl) ?_
  refine lv_sipush (v := 301) hx hb d_Entries_init_32 (by decide) ?_
  refine gc_newa (atype := .int) (ty := .int) (a0 := (301, .inl (fun _ => 0))) (N' := 301) hx hb (hts _ (List.mem_cons_of_mem _ gw_47)) rfl hK 0 rfl gc_uI hP hD hS hA (fun _ => rfl) (by decide) (by decide) (by decide) hc4 hs4 d_Entries_init_35 (fun q4 H hP hD hS => ?_)
  have hP : va_P D gCl [(h0, .inr (2, [.ref q1, .ref q2, .ref q3, .null, .null])), (q1, .inl (ac 0, 301, .inl (fun _ => 0))), (q2, .inl (ac 0, 301, .inl (fun _ => 0))), (q3, .inl (ac 0, 301, .inl (fun _ => 0))), (q4, .inl (ac 0, 301, .inl (fun _ => 0)))] H := hP
  have hD : va_D A [(h0, .inr (2, [.ref q1, .ref q2, .ref q3, .null, .null])), (q1, .inl (ac 0, 301, .inl (fun _ => 0))), (q2, .inl (ac 0, 301, .inl (fun _ => 0))), (q3, .inl (ac 0, 301, .inl (fun _ => 0))), (q4, .inl (ac 0, 301, .inl (fun _ => 0)))] := hD
  refine va_putF (D := D) (ci := 2) (v := .ref q4) (ty := (.array .int)) (C := "LogDisk$Entries") (T := T_Entries) (N := 5) hx hb hts (fun w h => List.mem_cons_of_mem _ (in_Entries w h)) ty_Entries tyok_Entries nm_Entries hown hK hP hD hS 0 rfl rfl 3 (by decide) (hts _ (List.mem_cons_of_mem _ gw_145)) (fun _ h9 => h9) rfl hin rfl (by decide +kernel) rfl rfl (Nat.le_of_ble_eq_true rfl) d_Entries_init_37 (fun H locs hP hD hS => ?_)
  have hP : va_P D gCl [(h0, .inr (2, [.ref q1, .ref q2, .ref q3, .ref q4, .null])), (q1, .inl (ac 0, 301, .inl (fun _ => 0))), (q2, .inl (ac 0, 301, .inl (fun _ => 0))), (q3, .inl (ac 0, 301, .inl (fun _ => 0))), (q4, .inl (ac 0, 301, .inl (fun _ => 0)))] H := hP
  have hD : va_D A [(h0, .inr (2, [.ref q1, .ref q2, .ref q3, .ref q4, .null])), (q1, .inl (ac 0, 301, .inl (fun _ => 0))), (q2, .inl (ac 0, 301, .inl (fun _ => 0))), (q3, .inl (ac 0, 301, .inl (fun _ => 0))), (q4, .inl (ac 0, 301, .inl (fun _ => 0)))] := hD
  refine lv_aload_n hx hb d_Entries_init_40 rfl (lv_at hl 0 rfl) ?_
  refine lv_sipush (v := 301) hx hb d_Entries_init_41 (by decide) ?_
  refine gc_newa (atype := .int) (ty := .int) (a0 := (301, .inl (fun _ => 0))) (N' := 301) hx hb (hts _ (List.mem_cons_of_mem _ gw_47)) rfl hK 0 rfl gc_uI hP hD hS hA (fun _ => rfl) (by decide) (by decide) (by decide) hc5 hs5 d_Entries_init_44 (fun q5 H hP hD hS => ?_)
  have hP : va_P D gCl [(h0, .inr (2, [.ref q1, .ref q2, .ref q3, .ref q4, .null])), (q1, .inl (ac 0, 301, .inl (fun _ => 0))), (q2, .inl (ac 0, 301, .inl (fun _ => 0))), (q3, .inl (ac 0, 301, .inl (fun _ => 0))), (q4, .inl (ac 0, 301, .inl (fun _ => 0))), (q5, .inl (ac 0, 301, .inl (fun _ => 0)))] H := hP
  have hD : va_D A [(h0, .inr (2, [.ref q1, .ref q2, .ref q3, .ref q4, .null])), (q1, .inl (ac 0, 301, .inl (fun _ => 0))), (q2, .inl (ac 0, 301, .inl (fun _ => 0))), (q3, .inl (ac 0, 301, .inl (fun _ => 0))), (q4, .inl (ac 0, 301, .inl (fun _ => 0))), (q5, .inl (ac 0, 301, .inl (fun _ => 0)))] := hD
  refine va_putF (D := D) (ci := 2) (v := .ref q5) (ty := (.array .int)) (C := "LogDisk$Entries") (T := T_Entries) (N := 5) hx hb hts (fun w h => List.mem_cons_of_mem _ (in_Entries w h)) ty_Entries tyok_Entries nm_Entries hown hK hP hD hS 0 rfl rfl 4 (by decide) (hts _ (List.mem_cons_of_mem _ gw_147)) (fun _ h9 => h9) rfl hin rfl (by decide +kernel) rfl rfl (Nat.le_of_ble_eq_true rfl) d_Entries_init_46 (fun H locs hP hD hS => ?_)
  have hP : va_P D gCl [(h0, .inr (2, [.ref q1, .ref q2, .ref q3, .ref q4, .ref q5])), (q1, .inl (ac 0, 301, .inl (fun _ => 0))), (q2, .inl (ac 0, 301, .inl (fun _ => 0))), (q3, .inl (ac 0, 301, .inl (fun _ => 0))), (q4, .inl (ac 0, 301, .inl (fun _ => 0))), (q5, .inl (ac 0, 301, .inl (fun _ => 0)))] H := hP
  have hD : va_D A [(h0, .inr (2, [.ref q1, .ref q2, .ref q3, .ref q4, .ref q5])), (q1, .inl (ac 0, 301, .inl (fun _ => 0))), (q2, .inl (ac 0, 301, .inl (fun _ => 0))), (q3, .inl (ac 0, 301, .inl (fun _ => 0))), (q4, .inl (ac 0, 301, .inl (fun _ => 0))), (q5, .inl (ac 0, 301, .inl (fun _ => 0)))] := hD
  refine W.widen (k := 5) (n := 1505) (by omega) (by omega) ?_
  exact W.vret hx hb hr (fun t ht hW => ⟨⟨(q1, q2, q3, q4, q5), rfl, trivial, by rw [ht]; exact hP, va_K.moved hW.alike hK, hD⟩, hS.F ht⟩) hS.2.2 d_Entries_init_49
set_option maxHeartbeats 4000000 in
set_option maxRecDepth 100000 in
theorem kc_Content (l : Launch) (D : va_G) (ac : Nat → ClassId) (h0 sz : Nat) (p1 : Int32) (N : Nat) (hNN : N ≤ 65536) (hp : p1 = nI N) : Met l y_Content_init w_Content_init (gRmC 1 1 N 12) (va_Pc [.ref h0, .int p1] (fun U => U.heap.size = sz ∧ va_P D gCl [(h0, .inr (0, [.null, .int 0, .int 0]))] U.heap ∧ va_K D gCl (gtyL ac) U ∧ va_D (fun _ => True) [(h0, .inr (0, [.null, .int 0, .int 0]))])) (va_Qv (fun _ : Nat => True) (fun (q1 : Nat) t => va_P D gCl [(h0, .inr (0, [.ref q1, .int 0, .int 0])), (q1, .inl (ac 0, N, .inl (fun _ => 0)))] t.heap ∧ va_K D gCl (gtyL ac) t ∧ va_D (va_A [(h0, .inr (0, [.null, .int 0, .int 0]))] sz) [(h0, .inr (0, [.ref q1, .int 0, .int 0])), (q1, .inl (ac 0, N, .inl (fun _ => 0)))]) (va_A [(h0, .inr (0, [.null, .int 0, .int 0]))] sz)) 1 N (va_A [(h0, .inr (0, [.null, .int 0, .int 0]))] sz) := by
  refine Met.ofW (cc := c_Content_init) (maxL := 2) (ret := none) (by decide) rfl ?_
  intro p e s m args below meth c s₁ B hml hv
  obtain ⟨rfl, hsz, hP, hK, hD0⟩ := hv
  have hx := B.exec
  have hb := B.bytes
  have hr := B.returns
  have hts := atoms_spec (ws := w_Content_init) B.pre
  have hown : s.vm.findClass "LogDisk$Content" = some m.cls := findClass_of_methodNamed B.named
  have hlocks := B.notSynchronized
  have hin : meth.name = "<init>" := (name_of_methodNamed B.named B.method).1
  subst hsz
  have hD := hD0.self (sz := s.heap.size)
  generalize hAe : va_A [(h0, .inr (0, [.null, .int 0, .int 0]))] s.heap.size = A at hD ⊢
  have hA : ∀ q : Nat, s.heap.size ≤ q → A q := fun q h => by rw [← hAe]; exact Or.inr h
  have hS : va_S A s.heap s.heap [] := va_S.rf
  have hn1 : ¬ p1 < 0 := by rw [hp]; exact nI_pos (by omega)
  have hN1 : p1.toNatClampNeg = N := by rw [hp]; exact nI_clamp (by omega)
  have hb0 : componentBytes .int ≤ 8 := by decide
  have hb1 : N * componentBytes .int ≤ 536870912 := Nat.le_trans (Nat.mul_le_mul hNN hb0) (by decide)
  have hc1 : 0 + 1 ≤ 1 := by decide
  have hs1 : 0 + N ≤ N := by omega
  have hl := lv_entry ([.ref h0, .int p1]) (n := 2) (Nat.le_of_ble_eq_true rfl)
  rw [lg_entry_eq]
  generalize (lg_sl ([.ref h0, .int p1]) ++ List.replicate (2 - (lg_sl ([.ref h0, .int p1])).length) Slot.unset).toArray = ls at hl ⊢
  have hl : lv_has ls 2 [(0, .ref h0), (1, .int p1)] := hl
  refine lv_aload_n hx hb d_Content_init_0 rfl (lv_at hl 0 rfl) ?_
  refine W.objInit hx hb hown (hts _ (List.mem_cons_of_mem _ gw_197)) (hts _ (List.mem_cons_of_mem _ gw_28)) (hts _ (List.mem_cons_of_mem _ gw_29)) rfl (by rw [hml]; exact hl.1) rfl d_Content_init_1 (Nat.le_of_ble_eq_true rfl) (Nat.le_of_ble_eq_true rfl) ?_
  refine W.eq (g2 := F0 m 4 ls []) rfl ?_
  refine lv_aload_n hx hb d_Content_init_4 rfl (lv_at hl 0 rfl) ?_
  refine lv_iload_n hx hb d_Content_init_5 rfl (lv_at hl 1 rfl) ?_
  refine gc_newa (atype := .int) (ty := .int) (a0 := (N, .inl (fun _ => 0))) (N' := N) hx hb (hts _ (List.mem_cons_of_mem _ gw_47)) rfl hK 0 rfl gc_uI hP hD hS hA (fun _ => rfl) hn1 hN1 hb1 hc1 hs1 d_Content_init_6 (fun q1 H hP hD hS => ?_)
  have hP : va_P D gCl [(h0, .inr (0, [.null, .int 0, .int 0])), (q1, .inl (ac 0, N, .inl (fun _ => 0)))] H := hP
  have hD : va_D A [(h0, .inr (0, [.null, .int 0, .int 0])), (q1, .inl (ac 0, N, .inl (fun _ => 0)))] := hD
  refine va_putF (D := D) (ci := 0) (v := .ref q1) (ty := (.array .int)) (C := "LogDisk$Content") (T := T_Content) (N := 3) hx hb hts (fun w h => List.mem_cons_of_mem _ (in_Content w h)) ty_Content tyok_Content nm_Content hown hK hP hD hS 0 rfl rfl 0 (by decide) (hts _ (List.mem_cons_of_mem _ gw_198)) (fun _ h9 => h9) rfl hin rfl (by decide +kernel) rfl rfl (Nat.le_of_ble_eq_true rfl) d_Content_init_8 (fun H locs hP hD hS => ?_)
  have hP : va_P D gCl [(h0, .inr (0, [.ref q1, .int 0, .int 0])), (q1, .inl (ac 0, N, .inl (fun _ => 0)))] H := hP
  have hD : va_D A [(h0, .inr (0, [.ref q1, .int 0, .int 0])), (q1, .inl (ac 0, N, .inl (fun _ => 0)))] := hD
  refine W.widen (k := 1) (n := N) (by omega) (by omega) ?_
  exact W.vret hx hb hr (fun t ht hW => ⟨⟨q1, rfl, trivial, by rw [ht]; exact hP, va_K.moved hW.alike hK, hD⟩, hS.F ht⟩) hS.2.2 d_Content_init_11
