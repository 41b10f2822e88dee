set_option maxHeartbeats 4000000 in
theorem kl_Pages {p : Program} {l : Launch} {e : Env} {R : Room} {s : State} {m : MethodId} {args : Array Value} {below : List Frame} {meth : Method} {c : Code} {cells slots : Nat} {Q : State → Prop} {D : va_G} {ac : Nat → ClassId} {A : Nat → Prop} {h0 q1 q2 q3 N : Nat} (hNN : N ≤ 1024) (hx : p.tables.exec = Jvm.exec) (hb : c.code = c_Pages_init) (hts : ∀ w ∈ w_Pages_init, w.before args s = true) (hown : s.vm.findClass "LogDisk$Pages" = some m.cls) (hK : va_K D gCl (gtyL ac) s)
    (hend : ∀ (f : Nat → Int32) (H : Heap) (locs : List Loc) (ls : Array Slot), (∀ j, j < N → f j = nI (N - 1 - j)) → va_P D gCl [(h0, .inr (4, [.ref q1, .ref q2, .ref q3, .int (nI N)])), (q1, .inl (ac 1, (N * 64), .inl (fun _ => 0))), (q2, .inl (ac 0, N, .inl (fun _ => 0))), (q3, .inl (ac 0, N, .inl f))] H → va_D A [(h0, .inr (4, [.ref q1, .ref q2, .ref q3, .int (nI N)])), (q1, .inl (ac 1, (N * 64), .inl (fun _ => 0))), (q2, .inl (ac 0, N, .inl (fun _ => 0))), (q3, .inl (ac 0, N, .inl f))] → va_S A s.heap H locs → W p l e R s m args below meth c H locs cells slots Q (F0 m 57 ls [])) :
    ∀ (n k : Nat) (f : Nat → Int32) (H : Heap) (locs : List Loc) (ls : Array Slot), k ≤ N → N ≤ k + n → (∀ j, j < k → f j = nI (N - 1 - j)) → va_P D gCl [(h0, .inr (4, [.ref q1, .ref q2, .ref q3, .int (nI N)])), (q1, .inl (ac 1, (N * 64), .inl (fun _ => 0))), (q2, .inl (ac 0, N, .inl (fun _ => 0))), (q3, .inl (ac 0, N, .inl f))] H → va_D A [(h0, .inr (4, [.ref q1, .ref q2, .ref q3, .int (nI N)])), (q1, .inl (ac 1, (N * 64), .inl (fun _ => 0))), (q2, .inl (ac 0, N, .inl (fun _ => 0))), (q3, .inl (ac 0, N, .inl f))] → va_S A s.heap H locs → lv_has ls 3 [(0, .ref h0), (1, .int (nI N)), (2, .int (nI k))] → W p l e R s m args below meth c H locs cells slots Q (F0 m 35 ls []) := by
  intro n
  induction n with
  | zero =>
    intro k f H locs ls h1 h2 hf hP hD hS hl
    have hk : k = N := by omega
    subst hk
    refine lv_iload_n hx hb d_Pages_init_35 rfl (lv_at hl 2 rfl) ?_
    refine lv_iload_n hx hb d_Pages_init_36 rfl (lv_at hl 1 rfl) ?_
    exact lv_icmp_ge (tgt := 57) hx hb d_Pages_init_37 (by decide) (fun c1 => hend f H locs ls hf hP hD hS) (fun c1 => absurd (nI_le (Nat.le_refl k) (by omega)) c1)
  | succ n ih =>
    intro k f H locs ls h1 h2 hf hP hD hS hl
    refine lv_iload_n hx hb d_Pages_init_35 rfl (lv_at hl 2 rfl) ?_
    refine lv_iload_n hx hb d_Pages_init_36 rfl (lv_at hl 1 rfl) ?_
    refine lv_icmp_ge (tgt := 57) hx hb d_Pages_init_37 (by decide) (fun c1 => ?_) (fun c1 => ?_)
    · have hk : k = N := by
        rcases Nat.lt_or_ge k N with h | h
        · exact absurd c1 (nI_ge h (by omega))
        · omega
      subst hk
      exact hend f H locs ls hf hP hD hS
    · have hk : k < N := by
        rcases Nat.lt_or_ge k N with h | h
        · exact h
        · exact absurd (nI_le h (by omega)) c1
      refine lv_aload_n hx hb d_Pages_init_40 rfl (lv_at hl 0 rfl) ?_
      refine va_get (D := D) (ci := 4) (v := .ref q3) (C := "LogDisk$Pages") (T := T_Pages) (N := 4) hx hb hts (fun w h => List.mem_cons_of_mem _ (in_Pages w h)) hown hK hP 0 rfl rfl 2 (by decide) (hts _ (List.mem_cons_of_mem _ gw_175)) (fun _ h9 => h9) rfl d_Pages_init_41 ?_
      refine lv_iload_n hx hb d_Pages_init_44 rfl (lv_at hl 2 rfl) ?_
      refine lv_iload_n hx hb d_Pages_init_45 rfl (lv_at hl 1 rfl) ?_
      refine lv_iconst (v := nI 1) hx hb d_Pages_init_46 (by decide) ?_
      refine lv_isub hx hb d_Pages_init_47 ?_
      refine lv_iload_n hx hb d_Pages_init_48 rfl (lv_at hl 2 rfl) ?_
      refine lv_isub hx hb d_Pages_init_49 ?_
      rw [pk_sub (by omega), pk_sub (by omega)]
      refine va_iast hx hb hK hP hD hS 3 0 rfl rfl (vp_in_nI hk (by omega)) d_Pages_init_50 (fun H locs hP hD hS => ?_)
      obtain ⟨f2, ef2⟩ : ∃ z, z = upd f (nI k).toNatClampNeg (nI (N - 1 - k)) := ⟨_, rfl⟩
      rw [← ef2] at hP hD
      rw [nI_clamp (by omega)] at ef2
      refine lv_iinc (v := nI (k + 1)) (lv' := [(2, .int (nI (k + 1))), (0, .ref h0), (1, .int (nI N))]) hx hb d_Pages_init_51 hl (k := 2) rfl (nI_1 k) (by decide) rfl (fun ls hl => ?_)
      refine lv_goto (tgt := 35) hx hb d_Pages_init_54 (by decide) ?_
      refine ih (k + 1) f2 H locs ls hk (by omega) (fun j hj => ?_) hP hD hS (lv_sub hl [1, 2, 0] rfl)
      rw [ef2]
      by_cases hjk : j = k
      · rw [hjk, pk_us]
      · rw [pk_un hjk]; exact hf j (by omega)
set_option maxHeartbeats 4000000 in
set_option maxRecDepth 100000 in
theorem kc_Pages (l : Launch) (D : va_G) (ac : Nat → ClassId) (h0 sz N : Nat) (hNN : N ≤ 1024) : Met l y_Pages_init w_Pages_init (gRmC 1 3 (66 * N) 12) (va_Pc [.ref h0, .int (nI N)] (fun U => U.heap.size = sz ∧ va_P D gCl [(h0, .inr (4, [.null, .null, .null, .int 0]))] U.heap ∧ va_K D gCl (gtyL ac) U ∧ va_D (fun _ => True) [(h0, .inr (4, [.null, .null, .null, .int 0]))])) (va_Qv (fun u : (Nat × Nat × Nat) × (Nat → Int32) => ∀ j, j < N → u.2 j = nI (N - 1 - j)) (fun u t => va_P D gCl [(h0, .inr (4, [.ref u.1.1, .ref u.1.2.1, .ref u.1.2.2, .int (nI N)])), (u.1.1, .inl (ac 1, (N * 64), .inl (fun _ => 0))), (u.1.2.1, .inl (ac 0, N, .inl (fun _ => 0))), (u.1.2.2, .inl (ac 0, N, .inl u.2))] t.heap ∧ va_K D gCl (gtyL ac) t ∧ va_D (va_A [(h0, .inr (4, [.null, .null, .null, .int 0]))] sz) [(h0, .inr (4, [.ref u.1.1, .ref u.1.2.1, .ref u.1.2.2, .int (nI N)])), (u.1.1, .inl (ac 1, (N * 64), .inl (fun _ => 0))), (u.1.2.1, .inl (ac 0, N, .inl (fun _ => 0))), (u.1.2.2, .inl (ac 0, N, .inl u.2))]) (va_A [(h0, .inr (4, [.null, .null, .null, .int 0]))] sz)) 3 (66 * N) (va_A [(h0, .inr (4, [.null, .null, .null, .int 0]))] sz) := by
  refine Met.ofW (cc := c_Pages_init) (maxL := 3) (ret := none) (by decide) rfl ?_
  intro p e s m args below meth c s₁ B hml hv
  obtain ⟨rfl, hsz, hP, hK, hD0⟩ := hv
  have hx := B.exec
  have hb := B.bytes
  have hr := B.returns
  have hts := atoms_spec (ws := w_Pages_init) B.pre
  have hown : s.vm.findClass "LogDisk$Pages" = some m.cls := findClass_of_methodNamed B.named
  have hlocks := B.notSynchronized
  have hin : meth.name = "<init>" := (name_of_methodNamed B.named B.method).1
  subst hsz
  have hD := hD0.self (sz := s.heap.size)
  generalize hAe : va_A [(h0, .inr (4, [.null, .null, .null, .int 0]))] s.heap.size = A at hD ⊢
  have hA : ∀ q : Nat, s.heap.size ≤ q → A q := fun q h => by rw [← hAe]; exact Or.inr h
  have hS : va_S A s.heap s.heap [] := va_S.rf
  have hn1 : ¬ nI N < 0 := nI_pos (by omega)
  have hN1 : (nI N).toNatClampNeg = N := nI_clamp (by omega)
  have hb0 : componentBytes .int ≤ 8 := by decide
  have hb1 : N * componentBytes .int ≤ 536870912 := Nat.le_trans (Nat.mul_le_mul hNN hb0) (by decide)
  have e64 : nI N * 64 = nI (N * 64) := by rw [show (64 : Int32) = nI 64 from rfl, pk_mul]
  have hn2 : ¬ nI N * 64 < 0 := by rw [e64]; exact nI_pos (by omega)
  have hN2 : (nI N * 64).toNatClampNeg = N * 64 := by rw [e64]; exact nI_clamp (by omega)
  have hb3 : componentBytes .byte ≤ 8 := by decide
  have hb2 : (N * 64) * componentBytes .byte ≤ 536870912 := Nat.le_trans (Nat.mul_le_mul (Nat.mul_le_mul hNN (Nat.le_refl 64)) hb3) (by decide)
  have hc1 : 0 + 1 ≤ 3 := by decide
  have hs1 : 0 + (N * 64) ≤ (66 * N) := by omega
  have hc2 : 0 + 1 + 1 ≤ 3 := by decide
  have hs2 : 0 + (N * 64) + N ≤ (66 * N) := by omega
  have hc3 : 0 + 1 + 1 + 1 ≤ 3 := by decide
  have hs3 : 0 + (N * 64) + N + N ≤ (66 * N) := by omega
  have hl := lv_entry ([.ref h0, .int (nI N)]) (n := 3) (Nat.le_of_ble_eq_true rfl)
  rw [lg_entry_eq]
  generalize (lg_sl ([.ref h0, .int (nI N)]) ++ List.replicate (3 - (lg_sl ([.ref h0, .int (nI N)])).length) Slot.unset).toArray = ls at hl ⊢
  have hl : lv_has ls 3 [(0, .ref h0), (1, .int (nI N))] := hl
  refine lv_aload_n hx hb d_Pages_init_0 rfl (lv_at hl 0 rfl) ?_
  refine W.objInit hx hb hown (hts _ (List.mem_cons_of_mem _ gw_171)) (hts _ (List.mem_cons_of_mem _ gw_28)) (hts _ (List.mem_cons_of_mem _ gw_29)) rfl (by rw [hml]; exact hl.1) rfl d_Pages_init_1 (Nat.le_of_ble_eq_true rfl) (Nat.le_of_ble_eq_true rfl) ?_
  refine W.eq (g2 := F0 m 4 ls []) rfl ?_
  refine lv_aload_n hx hb d_Pages_init_4 rfl (lv_at hl 0 rfl) ?_
  refine lv_iload_n hx hb d_Pages_init_5 rfl (lv_at hl 1 rfl) ?_
  refine lv_bipush (v := 64) hx hb d_Pages_init_6 (by decide) ?_
  refine lv_imul hx hb d_Pages_init_8 ?_
  refine gc_newa (atype := .byte) (ty := .byte) (a0 := ((N * 64), .inl (fun _ => 0))) (N' := (N * 64)) hx hb (hts _ (List.mem_cons_of_mem _ gw_48)) rfl hK 1 rfl gc_uB hP hD hS hA (fun _ => rfl) hn2 hN2 hb2 hc1 hs1 d_Pages_init_9 (fun q1 H hP hD hS => ?_)
  have hP : va_P D gCl [(h0, .inr (4, [.null, .null, .null, .int 0])), (q1, .inl (ac 1, (N * 64), .inl (fun _ => 0)))] H := hP
  have hD : va_D A [(h0, .inr (4, [.null, .null, .null, .int 0])), (q1, .inl (ac 1, (N * 64), .inl (fun _ => 0)))] := hD
  refine va_putF (D := D) (ci := 4) (v := .ref q1) (ty := (.array .byte)) (C := "LogDisk$Pages") (T := T_Pages) (N := 4) hx hb hts (fun w h => List.mem_cons_of_mem _ (in_Pages w h)) ty_Pages tyok_Pages nm_Pages hown hK hP hD hS 0 rfl rfl 0 (by decide) (hts _ (List.mem_cons_of_mem _ gw_172)) (fun _ h9 => h9) rfl hin rfl (by decide +kernel) rfl rfl (Nat.le_of_ble_eq_true rfl) d_Pages_init_11 (fun H locs hP hD hS => ?_)
  have hP : va_P D gCl [(h0, .inr (4, [.ref q1, .null, .null, .int 0])), (q1, .inl (ac 1, (N * 64), .inl (fun _ => 0)))] H := hP
  have hD : va_D A [(h0, .inr (4, [.ref q1, .null, .null, .int 0])), (q1, .inl (ac 1, (N * 64), .inl (fun _ => 0)))] := hD
  refine lv_aload_n hx hb d_Pages_init_14 rfl (lv_at hl 0 rfl) ?_
  refine lv_iload_n hx hb d_Pages_init_15 rfl (lv_at hl 1 rfl) ?_
  refine gc_newa (atype := .int) (ty := .int) (a0 := (N, .inl (fun _ => 0))) (N' := N) hx hb (hts _ (List.mem_cons_of_mem _ gw_47)) rfl hK 0 rfl gc_uI hP hD hS hA (fun _ => rfl) hn1 hN1 hb1 hc2 hs2 d_Pages_init_16 (fun q2 H hP hD hS => ?_)
  have hP : va_P D gCl [(h0, .inr (4, [.ref q1, .null, .null, .int 0])), (q1, .inl (ac 1, (N * 64), .inl (fun _ => 0))), (q2, .inl (ac 0, N, .inl (fun _ => 0)))] H := hP
  have hD : va_D A [(h0, .inr (4, [.ref q1, .null, .null, .int 0])), (q1, .inl (ac 1, (N * 64), .inl (fun _ => 0))), (q2, .inl (ac 0, N, .inl (fun _ => 0)))] := hD
  refine va_putF (D := D) (ci := 4) (v := .ref q2) (ty := (.array .int)) (C := "LogDisk$Pages") (T := T_Pages) (N := 4) hx hb hts (fun w h => List.mem_cons_of_mem _ (in_Pages w h)) ty_Pages tyok_Pages nm_Pages hown hK hP hD hS 0 rfl rfl 1 (by decide) (hts _ (List.mem_cons_of_mem _ gw_174)) (fun _ h9 => h9) rfl hin rfl (by decide +kernel) rfl rfl (Nat.le_of_ble_eq_true rfl) d_Pages_init_18 (fun H locs hP hD hS => ?_)
  have hP : va_P D gCl [(h0, .inr (4, [.ref q1, .ref q2, .null, .int 0])), (q1, .inl (ac 1, (N * 64), .inl (fun _ => 0))), (q2, .inl (ac 0, N, .inl (fun _ => 0)))] H := hP
  have hD : va_D A [(h0, .inr (4, [.ref q1, .ref q2, .null, .int 0])), (q1, .inl (ac 1, (N * 64), .inl (fun _ => 0))), (q2, .inl (ac 0, N, .inl (fun _ => 0)))] := hD
  refine lv_aload_n hx hb d_Pages_init_21 rfl (lv_at hl 0 rfl) ?_
  refine lv_iload_n hx hb d_Pages_init_22 rfl (lv_at hl 1 rfl) ?_
  refine gc_newa (atype := .int) (ty := .int) (a0 := (N, .inl (fun _ => 0))) (N' := N) hx hb (hts _ (List.mem_cons_of_mem _ gw_47)) rfl hK 0 rfl gc_uI hP hD hS hA (fun _ => rfl) hn1 hN1 hb1 hc3 hs3 d_Pages_init_23 (fun q3 H hP hD hS => ?_)
  have hP : va_P D gCl [(h0, .inr (4, [.ref q1, .ref q2, .null, .int 0])), (q1, .inl (ac 1, (N * 64), .inl (fun _ => 0))), (q2, .inl (ac 0, N, .inl (fun _ => 0))), (q3, .inl (ac 0, N, .inl (fun _ => 0)))] H := hP
  have hD : va_D A [(h0, .inr (4, [.ref q1, .ref q2, .null, .int 0])), (q1, .inl (ac 1, (N * 64), .inl (fun _ => 0))), (q2, .inl (ac 0, N, .inl (fun _ => 0))), (q3, .inl (ac 0, N, .inl (fun _ => 0)))] := hD
  refine va_putF (D := D) (ci := 4) (v := .ref q3) (ty := (.array .int)) (C := "LogDisk$Pages") (T := T_Pages) (N := 4) hx hb hts (fun w h => List.mem_cons_of_mem _ (in_Pages w h)) ty_Pages tyok_Pages nm_Pages hown hK hP hD hS 0 rfl rfl 2 (by decide) (hts _ (List.mem_cons_of_mem _ gw_175)) (fun _ h9 => h9) rfl hin rfl (by decide +kernel) rfl rfl (Nat.le_of_ble_eq_true rfl) d_Pages_init_25 (fun H locs hP hD hS => ?_)
  have hP : va_P D gCl [(h0, .inr (4, [.ref q1, .ref q2, .ref q3, .int 0])), (q1, .inl (ac 1, (N * 64), .inl (fun _ => 0))), (q2, .inl (ac 0, N, .inl (fun _ => 0))), (q3, .inl (ac 0, N, .inl (fun _ => 0)))] H := hP
  have hD : va_D A [(h0, .inr (4, [.ref q1, .ref q2, .ref q3, .int 0])), (q1, .inl (ac 1, (N * 64), .inl (fun _ => 0))), (q2, .inl (ac 0, N, .inl (fun _ => 0))), (q3, .inl (ac 0, N, .inl (fun _ => 0)))] := hD
  refine lv_aload_n hx hb d_Pages_init_28 rfl (lv_at hl 0 rfl) ?_
  refine lv_iload_n hx hb d_Pages_init_29 rfl (lv_at hl 1 rfl) ?_
  refine va_put (D := D) (ci := 4) (v := .int (nI N)) (ty := .int) (C := "LogDisk$Pages") (T := T_Pages) (N := 4) hx hb hts (fun w h => List.mem_cons_of_mem _ (in_Pages w h)) ty_Pages tyok_Pages nm_Pages hown hK hP hD hS 0 rfl rfl 3 (by decide) (hts _ (List.mem_cons_of_mem _ gw_176)) (fun _ h9 => h9) rfl (by decide +kernel) rfl rfl (Nat.le_of_ble_eq_true rfl) d_Pages_init_30 (fun H locs hP hD hS => ?_)
  have hP : va_P D gCl [(h0, .inr (4, [.ref q1, .ref q2, .ref q3, .int (nI N)])), (q1, .inl (ac 1, (N * 64), .inl (fun _ => 0))), (q2, .inl (ac 0, N, .inl (fun _ => 0))), (q3, .inl (ac 0, N, .inl (fun _ => 0)))] H := hP
  have hD : va_D A [(h0, .inr (4, [.ref q1, .ref q2, .ref q3, .int (nI N)])), (q1, .inl (ac 1, (N * 64), .inl (fun _ => 0))), (q2, .inl (ac 0, N, .inl (fun _ => 0))), (q3, .inl (ac 0, N, .inl (fun _ => 0)))] := hD
  refine W.widen (k := 3) (n := (66 * N)) (by omega) (by omega) ?_
  refine lv_iconst (v := nI 0) hx hb d_Pages_init_33 (by decide) ?_
  refine lv_istore_n (lv' := [(2, .int (nI 0)), (0, .ref h0), (1, .int (nI N))]) hx hb d_Pages_init_34 rfl hl (by decide) rfl (fun ls hl => ?_)
  refine kl_Pages hNN hx hb hts hown hK (fun f H locs ls hf hP hD hS => ?_) N 0 (fun _ => 0) H locs ls (Nat.zero_le _) (by omega) (fun j hj => absurd hj (Nat.not_lt_zero _)) hP hD hS (lv_sub hl [1, 2, 0] rfl)
  exact W.vret hx hb hr (fun t ht hW => ⟨⟨((q1, q2, q3), f), rfl, hf, by rw [ht]; exact hP, va_K.moved hW.alike hK, hD⟩, hS.F ht⟩) hS.2.2 d_Pages_init_57
