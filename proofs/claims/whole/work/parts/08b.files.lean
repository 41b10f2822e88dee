set_option maxHeartbeats 4000000 in
set_option maxRecDepth 100000 in
theorem kc_DiskFile (l : Launch) (D : va_G) (ac : Nat → ClassId) (h0 sz p1 : Nat) (p2 : Int32) (N : Nat) (hNN : N ≤ 65536) (hp : p2 = nI N) : Met l y_DiskFile_init w_DiskFile_init (gRmC 2 4 (2 * N + 6) 40) (va_Pc [.ref h0, .ref p1, .int p2] (fun U => U.heap.size = sz ∧ va_P D gCl [(h0, .inr (1, [.null, .null, .null, .int 0]))] U.heap ∧ va_K D gCl (gtyL ac) U ∧ va_D (fun _ => True) [(h0, .inr (1, [.null, .null, .null, .int 0]))])) (va_Qv (fun _ : Nat × Nat × Nat × Nat => True) (fun u t => match u with | (a1, b1, a2, b2) => va_P D gCl [(h0, .inr (1, [.ref p1, .ref a1, .ref a2, .int 0])), (a1, .inr (0, [.ref b1, .int 0, .int 0])), (b1, .inl (ac 0, N, .inl (fun _ => 0))), (a2, .inr (0, [.ref b2, .int 0, .int 0])), (b2, .inl (ac 0, N, .inl (fun _ => 0)))] t.heap ∧ va_K D gCl (gtyL ac) t ∧ va_D (va_A [(h0, .inr (1, [.null, .null, .null, .int 0]))] sz) [(h0, .inr (1, [.ref p1, .ref a1, .ref a2, .int 0])), (a1, .inr (0, [.ref b1, .int 0, .int 0])), (b1, .inl (ac 0, N, .inl (fun _ => 0))), (a2, .inr (0, [.ref b2, .int 0, .int 0])), (b2, .inl (ac 0, N, .inl (fun _ => 0)))]) (va_A [(h0, .inr (1, [.null, .null, .null, .int 0]))] sz)) 4 (2 * N + 6) (va_A [(h0, .inr (1, [.null, .null, .null, .int 0]))] sz) := by
  refine Met.ofW (cc := c_DiskFile_init) (maxL := 3) (ret := none) (by decide) rfl ?_
  intro p e s m args below meth c s₁ B hml hv
  obtain ⟨rfl, hsz, hP, hK, hD0⟩ := hv
  have hx := B.exec
  have hb := B.bytes
  have hr := B.returns
  have hts := atoms_spec (ws := w_DiskFile_init) B.pre
  have hown : s.vm.findClass "LogDisk$DiskFile" = some m.cls := findClass_of_methodNamed B.named
  have hlocks := B.notSynchronized
  have hin : meth.name = "<init>" := (name_of_methodNamed B.named B.method).1
  subst hsz
  have hD := hD0.self (sz := s.heap.size)
  generalize hAe : va_A [(h0, .inr (1, [.null, .null, .null, .int 0]))] s.heap.size = A at hD ⊢
  have hA : ∀ q : Nat, s.heap.size ≤ q → A q := fun q h => by rw [← hAe]; exact Or.inr h
  have hS : va_S A s.heap s.heap [] := va_S.rf
  have hn1 : 0 + 1 ≤ 4 := by decide
  have hm1 : 0 + 3 ≤ (2 * N + 6) := by omega
  have ho1 : 0 + 1 + 1 ≤ 4 := by decide
  have hq1 : 0 + 3 + N ≤ (2 * N + 6) := by omega
  have hn2 : 0 + 1 + 1 + 1 ≤ 4 := by decide
  have hm2 : 0 + 3 + N + 3 ≤ (2 * N + 6) := by omega
  have ho2 : 0 + 1 + 1 + 1 + 1 ≤ 4 := by decide
  have hq2 : 0 + 3 + N + 3 + N ≤ (2 * N + 6) := by omega
  have hl := lv_entry ([.ref h0, .ref p1, .int p2]) (n := 3) (Nat.le_of_ble_eq_true rfl)
  rw [lg_entry_eq]
  generalize (lg_sl ([.ref h0, .ref p1, .int p2]) ++ List.replicate (3 - (lg_sl ([.ref h0, .ref p1, .int p2])).length) Slot.unset).toArray = ls at hl ⊢
  have hl : lv_has ls 3 [(0, .ref h0), (1, .ref p1), (2, .int p2)] := hl
  refine lv_aload_n hx hb d_DiskFile_init_0 rfl (lv_at hl 0 rfl) ?_
  refine W.objInit hx hb hown (hts _ (List.mem_cons_of_mem _ gw_191)) (hts _ (List.mem_cons_of_mem _ gw_28)) (hts _ (List.mem_cons_of_mem _ gw_29)) rfl (by rw [hml]; exact hl.1) rfl d_DiskFile_init_1 (Nat.le_of_ble_eq_true rfl) (Nat.le_of_ble_eq_true rfl) ?_
  refine W.eq (g2 := F0 m 4 ls []) rfl ?_
  refine lv_aload_n hx hb d_DiskFile_init_4 rfl (lv_at hl 0 rfl) ?_
  refine lv_aload_n hx hb d_DiskFile_init_5 rfl (lv_at hl 1 rfl) ?_
  refine va_putF (D := D) (ci := 1) (v := .ref p1) (ty := .object "LogDisk$Pages") (C := "LogDisk$DiskFile") (T := T_DiskFile) (N := 4) hx hb hts (fun w h => List.mem_cons_of_mem _ (in_DiskFile w h)) ty_DiskFile tyok_DiskFile nm_DiskFile hown hK hP hD hS 0 rfl rfl 0 (by decide) (hts _ (List.mem_cons_of_mem _ gw_213)) (fun _ h9 => h9) rfl hin rfl (by decide +kernel) rfl rfl (Nat.le_of_ble_eq_true rfl) d_DiskFile_init_6 (fun H locs hP hD hS => ?_)
  have hP : va_P D gCl [(h0, .inr (1, [.ref p1, .null, .null, .int 0]))] H := hP
  have hD : va_D A [(h0, .inr (1, [.ref p1, .null, .null, .int 0]))] := hD
  refine lv_aload_n hx hb d_DiskFile_init_9 rfl (lv_at hl 0 rfl) ?_
  refine va_new (ci := 0) (fs := [.null, .int 0, .int 0]) (C := "LogDisk$Content") (T := T_Content) (N := 3) hx hb hts (fun w h => List.mem_cons_of_mem _ (in_Content w h)) ty_Content tyok_Content hown (hts _ (List.mem_cons_of_mem _ gw_192)) (hts _ (List.mem_cons_of_mem _ gw_193)) (hts _ (List.mem_cons_of_mem _ gw_11)) hK hP hD hS hA rfl (fun j hj => by rcases (show j = 0 ∨ j = 1 ∨ j = 2 by omega) with rfl | rfl | rfl <;> rfl) hn1 hm1 d_DiskFile_init_10 (fun a1 H hP hD hS => ?_)
  have hP : va_P D gCl [(h0, .inr (1, [.ref p1, .null, .null, .int 0])), (a1, .inr (0, [.null, .int 0, .int 0]))] H := hP
  have hD : va_D A [(h0, .inr (1, [.ref p1, .null, .null, .int 0])), (a1, .inr (0, [.null, .int 0, .int 0]))] := hD
  refine lv_dup hx hb d_DiskFile_init_13 rfl ?_
  refine lv_iload_n hx hb d_DiskFile_init_14 rfl (lv_at hl 2 rfl) ?_
  have hPc := hP.sub (ws' := [(a1, .inr (0, [.null, .int 0, .int 0]))]) [1] rfl
  have hDc := hD.sub (ws' := [(a1, .inr (0, [.null, .int 0, .int 0]))]) [1] (by decide) rfl
  have hFc := va_free (wc := [(a1, .inr (0, [.null, .int 0, .int 0]))]) hD hS hA [1] rfl
  refine va_callv (va_runI (As := [.int p2]) (rest := [.ref a1, .ref h0]) ⟨hx, hb, hml, hown, hts⟩ (kc_Content l D ac a1 H.size p2 N hNN hp) (cwI 1 hts (gG_N gw_196) rfl rfl rfl (hts _ (List.mem_cons_of_mem _ gw_11)) (hts _ (List.mem_cons_of_mem _ gw_194)) (hts _ (List.mem_cons_of_mem _ gw_195)) rfl (by decide +kernel) ⟨Nat.le_of_ble_eq_true rfl, Nat.le_of_ble_eq_true rfl⟩) ⟨fun a U g mk q => by obtain ⟨q0, q1, qP, qK, qD⟩ := q; exact ⟨q0, q1, qP, va_K.moved (u := U) (U := U.calling g mk a) (Vm.Alike.refl U.vm) qK, qD⟩, fun U hU hW => ⟨rfl, by rw [hU], by rw [hU]; exact hPc, va_K.moved hW.alike hK, hDc.weaken (fun _ _ _ _ => trivial)⟩⟩ rfl rfl hl.1 rfl (lv_room (Nat.le_of_ble_eq_true rfl)) d_DiskFile_init_15 ⟨ho1, hq1⟩) hS (fun q _ h => hFc q h) hFc (fun b1 t H1 locs ht hvm _ hB hz1 hk1 hS => ?_)
  obtain ⟨hP1, -, hD1⟩ := hB
  rw [ht] at hP1
  obtain ⟨hP, hD⟩ := va_join (wr := [(h0, .inr (1, [.ref p1, .null, .null, .int 0]))]) (w1 := [(a1, .inr (0, [.ref b1, .int 0, .int 0])), (b1, .inl (ac 0, N, .inl (fun _ => 0)))]) hP hD [1] [0] rfl rfl (by decide) (by decide) hk1 hFc hP1 hD1
  generalize H1 = H at hP hS ⊢
  have hP : va_P D gCl [(h0, .inr (1, [.ref p1, .null, .null, .int 0])), (a1, .inr (0, [.ref b1, .int 0, .int 0])), (b1, .inl (ac 0, N, .inl (fun _ => 0)))] H := hP
  have hD : va_D A [(h0, .inr (1, [.ref p1, .null, .null, .int 0])), (a1, .inr (0, [.ref b1, .int 0, .int 0])), (b1, .inl (ac 0, N, .inl (fun _ => 0)))] := hD
  refine va_putF (D := D) (ci := 1) (v := .ref a1) (ty := .object "LogDisk$Content") (C := "LogDisk$DiskFile") (T := T_DiskFile) (N := 4) hx hb hts (fun w h => List.mem_cons_of_mem _ (in_DiskFile w h)) ty_DiskFile tyok_DiskFile nm_DiskFile hown hK hP hD hS 0 rfl rfl 1 (by decide) (hts _ (List.mem_cons_of_mem _ gw_214)) (fun _ h9 => h9) rfl hin rfl (by decide +kernel) rfl rfl (Nat.le_of_ble_eq_true rfl) d_DiskFile_init_18 (fun H locs hP hD hS => ?_)
  have hP : va_P D gCl [(h0, .inr (1, [.ref p1, .ref a1, .null, .int 0])), (a1, .inr (0, [.ref b1, .int 0, .int 0])), (b1, .inl (ac 0, N, .inl (fun _ => 0)))] H := hP
  have hD : va_D A [(h0, .inr (1, [.ref p1, .ref a1, .null, .int 0])), (a1, .inr (0, [.ref b1, .int 0, .int 0])), (b1, .inl (ac 0, N, .inl (fun _ => 0)))] := hD
  refine lv_aload_n hx hb d_DiskFile_init_21 rfl (lv_at hl 0 rfl) ?_
  refine va_new (ci := 0) (fs := [.null, .int 0, .int 0]) (C := "LogDisk$Content") (T := T_Content) (N := 3) hx hb hts (fun w h => List.mem_cons_of_mem _ (in_Content w h)) ty_Content tyok_Content hown (hts _ (List.mem_cons_of_mem _ gw_192)) (hts _ (List.mem_cons_of_mem _ gw_193)) (hts _ (List.mem_cons_of_mem _ gw_11)) hK hP hD hS hA rfl (fun j hj => by rcases (show j = 0 ∨ j = 1 ∨ j = 2 by omega) with rfl | rfl | rfl <;> rfl) hn2 hm2 d_DiskFile_init_22 (fun a2 H hP hD hS => ?_)
  have hP : va_P D gCl [(h0, .inr (1, [.ref p1, .ref a1, .null, .int 0])), (a1, .inr (0, [.ref b1, .int 0, .int 0])), (b1, .inl (ac 0, N, .inl (fun _ => 0))), (a2, .inr (0, [.null, .int 0, .int 0]))] H := hP
  have hD : va_D A [(h0, .inr (1, [.ref p1, .ref a1, .null, .int 0])), (a1, .inr (0, [.ref b1, .int 0, .int 0])), (b1, .inl (ac 0, N, .inl (fun _ => 0))), (a2, .inr (0, [.null, .int 0, .int 0]))] := hD
  refine lv_dup hx hb d_DiskFile_init_25 rfl ?_
  refine lv_iload_n hx hb d_DiskFile_init_26 rfl (lv_at hl 2 rfl) ?_
  have hPc := hP.sub (ws' := [(a2, .inr (0, [.null, .int 0, .int 0]))]) [3] rfl
  have hDc := hD.sub (ws' := [(a2, .inr (0, [.null, .int 0, .int 0]))]) [3] (by decide) rfl
  have hFc := va_free (wc := [(a2, .inr (0, [.null, .int 0, .int 0]))]) hD hS hA [3] rfl
  refine va_callv (va_runI (As := [.int p2]) (rest := [.ref a2, .ref h0]) ⟨hx, hb, hml, hown, hts⟩ (kc_Content l D ac a2 H.size p2 N hNN hp) (cwI 1 hts (gG_N gw_196) rfl rfl rfl (hts _ (List.mem_cons_of_mem _ gw_11)) (hts _ (List.mem_cons_of_mem _ gw_194)) (hts _ (List.mem_cons_of_mem _ gw_195)) rfl (by decide +kernel) ⟨Nat.le_of_ble_eq_true rfl, Nat.le_of_ble_eq_true rfl⟩) ⟨fun a U g mk q => by obtain ⟨q0, q1, qP, qK, qD⟩ := q; exact ⟨q0, q1, qP, va_K.moved (u := U) (U := U.calling g mk a) (Vm.Alike.refl U.vm) qK, qD⟩, fun U hU hW => ⟨rfl, by rw [hU], by rw [hU]; exact hPc, va_K.moved hW.alike hK, hDc.weaken (fun _ _ _ _ => trivial)⟩⟩ rfl rfl hl.1 rfl (lv_room (Nat.le_of_ble_eq_true rfl)) d_DiskFile_init_27 ⟨ho2, hq2⟩) hS (fun q _ h => hFc q h) hFc (fun b2 t H1 locs ht hvm _ hB hz1 hk1 hS => ?_)
  obtain ⟨hP1, -, hD1⟩ := hB
  rw [ht] at hP1
  obtain ⟨hP, hD⟩ := va_join (wr := [(h0, .inr (1, [.ref p1, .ref a1, .null, .int 0])), (a1, .inr (0, [.ref b1, .int 0, .int 0])), (b1, .inl (ac 0, N, .inl (fun _ => 0)))]) (w1 := [(a2, .inr (0, [.ref b2, .int 0, .int 0])), (b2, .inl (ac 0, N, .inl (fun _ => 0)))]) hP hD [3] [0, 1, 2] rfl rfl (by decide) (by decide) hk1 hFc hP1 hD1
  generalize H1 = H at hP hS ⊢
  have hP : va_P D gCl [(h0, .inr (1, [.ref p1, .ref a1, .null, .int 0])), (a1, .inr (0, [.ref b1, .int 0, .int 0])), (b1, .inl (ac 0, N, .inl (fun _ => 0))), (a2, .inr (0, [.ref b2, .int 0, .int 0])), (b2, .inl (ac 0, N, .inl (fun _ => 0)))] H := hP
  have hD : va_D A [(h0, .inr (1, [.ref p1, .ref a1, .null, .int 0])), (a1, .inr (0, [.ref b1, .int 0, .int 0])), (b1, .inl (ac 0, N, .inl (fun _ => 0))), (a2, .inr (0, [.ref b2, .int 0, .int 0])), (b2, .inl (ac 0, N, .inl (fun _ => 0)))] := hD
  refine va_putF (D := D) (ci := 1) (v := .ref a2) (ty := .object "LogDisk$Content") (C := "LogDisk$DiskFile") (T := T_DiskFile) (N := 4) hx hb hts (fun w h => List.mem_cons_of_mem _ (in_DiskFile w h)) ty_DiskFile tyok_DiskFile nm_DiskFile hown hK hP hD hS 0 rfl rfl 2 (by decide) (hts _ (List.mem_cons_of_mem _ gw_216)) (fun _ h9 => h9) rfl hin rfl (by decide +kernel) rfl rfl (Nat.le_of_ble_eq_true rfl) d_DiskFile_init_30 (fun H locs hP hD hS => ?_)
  have hP : va_P D gCl [(h0, .inr (1, [.ref p1, .ref a1, .ref a2, .int 0])), (a1, .inr (0, [.ref b1, .int 0, .int 0])), (b1, .inl (ac 0, N, .inl (fun _ => 0))), (a2, .inr (0, [.ref b2, .int 0, .int 0])), (b2, .inl (ac 0, N, .inl (fun _ => 0)))] H := hP
  have hD : va_D A [(h0, .inr (1, [.ref p1, .ref a1, .ref a2, .int 0])), (a1, .inr (0, [.ref b1, .int 0, .int 0])), (b1, .inl (ac 0, N, .inl (fun _ => 0))), (a2, .inr (0, [.ref b2, .int 0, .int 0])), (b2, .inl (ac 0, N, .inl (fun _ => 0)))] := hD
  refine W.widen (k := 4) (n := (2 * N + 6)) (by omega) (by omega) ?_
  exact W.vret hx hb hr (fun t ht hW => ⟨⟨(a1, b1, a2, b2), rfl, trivial, by rw [ht]; exact hP, va_K.moved hW.alike hK, hD⟩, hS.F ht⟩) hS.2.2 d_DiskFile_init_33
