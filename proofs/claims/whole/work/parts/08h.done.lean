/-! The class's constructor, put together. -/
def gM (p1 : Int32) : Nat := (moLim p1).toNatClampNeg
theorem gM_ok (p1 : Int32) : moLim p1 = nI (gM p1) ∧ 8 ≤ gM p1 ∧ gM p1 ≤ 1024 := by
  have h8 : (8 : Int32).toInt = 8 := by decide
  have h1 : (1024 : Int32).toInt = 1024 := by decide
  have key : ∃ n, moLim p1 = nI n ∧ 8 ≤ n ∧ n ≤ 1024 := by
    unfold moLim
    by_cases c1 : p1 < 8
    · exact ⟨8, by rw [if_pos c1]; rfl, by omega, by omega⟩
    · by_cases c2 : 1024 < p1
      · exact ⟨1024, by rw [if_neg c1, if_pos c2]; rfl, by omega, by omega⟩
      · rw [if_neg c1, if_neg c2]
        rw [Int32.lt_iff_toInt_lt] at c1 c2
        obtain ⟨n, hn, e⟩ := nI_of (x := p1) (by rw [Int32.lt_iff_toInt_lt]; have : (0 : Int32).toInt = 0 := by decide
                                                 omega)
        subst e
        rw [nI_toInt hn] at c1 c2
        exact ⟨n, rfl, by omega, by omega⟩
  obtain ⟨n, e, h8', h9'⟩ := key
  have : gM p1 = n := by unfold gM; rw [e, nI_clamp (by omega)]
  rw [this]
  exact ⟨e, h8', h9'⟩
theorem ld_lim (p1 : Int32) : (if (8 : Int32) < (if p1 < 1024 then p1 else 1024) then (if p1 < 1024 then p1 else 1024) else 8) = nI (gM p1) := by
  rw [← (gM_ok p1).1]
  unfold moLim
  have h8 : (8 : Int32).toInt = 8 := by decide
  have h1 : (1024 : Int32).toInt = 1024 := by decide
  by_cases c1 : p1 < 1024
  · rw [if_pos c1]
    by_cases c2 : 8 < p1
    · rw [if_pos c2, if_neg (fun h => by rw [Int32.lt_iff_toInt_lt] at h c2; omega), if_neg (fun h => by rw [Int32.lt_iff_toInt_lt] at h c1; omega)]
    · rw [if_neg c2]
      by_cases c3 : p1 < 8
      · rw [if_pos c3]
      · rw [if_neg c3, if_neg (fun h => by rw [Int32.lt_iff_toInt_lt] at h c1; omega)]
        rw [Int32.lt_iff_toInt_lt] at c2 c3
        exact Int32.toInt_inj.mp (by omega)
  · rw [if_neg c1, if_pos (by decide), if_neg (fun h => by rw [Int32.lt_iff_toInt_lt] at h c1; omega)]
    by_cases c2 : 1024 < p1
    · rw [if_pos c2]
    · rw [if_neg c2]
      rw [Int32.lt_iff_toInt_lt] at c1 c2
      exact Int32.toInt_inj.mp (by omega)
set_option maxHeartbeats 4000000 in
set_option maxRecDepth 100000 in
theorem kb_LD3 {p : Program} {l : Launch} {e : Env} {s : State} {m : MethodId} {args : Array Value} {below : List Frame} {meth : Method} {c : Code} {Q : State → Prop} {D : va_G} {ac : Nat → ClassId} {A : Nat → Prop} {a : Nat → Nat} {M : Nat} {F : Nat → g5} {g : Nat → Option Nat} {f u : Nat → Int32} {p1 p2 : Int32} {H : Heap} {locs : List Loc} {ls : Array Slot} (hx : p.tables.exec = Jvm.exec) (hb : c.code = c_LogDisk_init) (hml : c.maxLocals = 6) (hts : ∀ w ∈ w_LogDisk_init, w.before args s = true) (hown : s.vm.findClass "LogDisk" = some m.cls) (hin : meth.name = "<init>") (hK : va_K D gCl (gtyL ac) s) (hMk : gMk s) (hA : ∀ q : Nat, s.heap.size ≤ q → A q) (hP : va_P D gCl (ldWs ac a .null g f u M 0 0 ++ fWn ac (min M 400) (a 18) F 16) H) (hD : va_D A (ldWs ac a .null g f u M 0 0 ++ fWn ac (min M 400) (a 18) F 16)) (hS : va_S A s.heap H locs) (hl : lv_has ls 6 [(0, .ref (a 0)), (1, .int p1), (2, .int p2), (3, .int (nI M)), (4, .ref (a 18)), (5, .int (nI 16))])
    (hend : ∀ (H : Heap) (locs : List Loc), va_P D gCl (ldWs ac a (.ref (a 18)) g f u M p2 p2 ++ fWn ac (min M 400) (a 18) F 16) H → va_D A (ldWs ac a (.ref (a 18)) g f u M p2 p2 ++ fWn ac (min M 400) (a 18) F 16) → va_S A s.heap H locs → W p l e (gRmC 3 101 90347 62) s m args below meth c H locs 101 90347 Q (F0 m 176 ls [])) : W p l e (gRmC 3 101 90347 62) s m args below meth c H locs 101 90347 Q (F0 m 157 ls []) := by
  refine lv_aload_n hx hb d_LogDisk_init_157 rfl (lv_at hl 0 rfl) ?_
  refine lv_aload hx hb d_LogDisk_init_158 (lv_at hl 4 rfl) ?_
  refine va_putF (D := D) (ci := 9) (v := .ref (a 18)) (ty := .object "LogDisk$Pages") (C := "LogDisk") (T := T_LogDisk) (N := 12) hx hb hts (fun w h => List.mem_cons_of_mem _ (in_LogDisk w h)) ty_LogDisk tyok_LogDisk nm_LogDisk hown hK hP hD hS 0 rfl rfl 0 (by decide) (hts _ (List.mem_cons_of_mem _ gw_229)) (fun _ h9 => h9) rfl hin rfl (by decide +kernel) rfl rfl (Nat.le_of_ble_eq_true rfl) d_LogDisk_init_160 (fun H locs hP hD hS => ?_)
  have hP : va_P D gCl (ldWs ac a (.ref (a 18)) g f u M 0 0 ++ fWn ac (min M 400) (a 18) F 16) H := hP
  have hD : va_D A (ldWs ac a (.ref (a 18)) g f u M 0 0 ++ fWn ac (min M 400) (a 18) F 16) := hD
  refine lv_aload_n hx hb d_LogDisk_init_163 rfl (lv_at hl 0 rfl) ?_
  refine lv_iload_n hx hb d_LogDisk_init_164 rfl (lv_at hl 2 rfl) ?_
  refine va_putF (D := D) (ci := 9) (v := .int p2) (ty := .int) (C := "LogDisk") (T := T_LogDisk) (N := 12) hx hb hts (fun w h => List.mem_cons_of_mem _ (in_LogDisk w h)) ty_LogDisk tyok_LogDisk nm_LogDisk hown hK hP hD hS 0 rfl rfl 9 (by decide) (hts _ (List.mem_cons_of_mem _ gw_238)) (fun _ h9 => h9) rfl hin rfl (by decide +kernel) rfl rfl (Nat.le_of_ble_eq_true rfl) d_LogDisk_init_165 (fun H locs hP hD hS => ?_)
  have hP : va_P D gCl (ldWs ac a (.ref (a 18)) g f u M p2 0 ++ fWn ac (min M 400) (a 18) F 16) H := hP
  have hD : va_D A (ldWs ac a (.ref (a 18)) g f u M p2 0 ++ fWn ac (min M 400) (a 18) F 16) := hD
  refine lv_aload_n hx hb d_LogDisk_init_168 rfl (lv_at hl 0 rfl) ?_
  refine va_get (D := D) (ci := 9) (v := .ref (a 8)) (C := "LogDisk") (T := T_LogDisk) (N := 12) hx hb hts (fun w h => List.mem_cons_of_mem _ (in_LogDisk w h)) hown hK hP 0 rfl rfl 6 (by decide) (hts _ (List.mem_cons_of_mem _ gw_235)) (fun _ h9 => h9) rfl d_LogDisk_init_169 ?_
  refine lv_iload_n hx hb d_LogDisk_init_172 rfl (lv_at hl 2 rfl) ?_
  refine va_put (D := D) (ci := 6) (v := .int p2) (ty := .int) (C := "LogDisk$Snapshot") (T := T_Snapshot) (N := 4) hx hb hts (fun w h => List.mem_cons_of_mem _ (in_Snapshot w h)) ty_Snapshot tyok_Snapshot nm_Snapshot hown hK hP hD hS 8 rfl rfl 3 (by decide) (hts _ (List.mem_cons_of_mem _ gw_103)) (fun _ h9 => h9) rfl (by decide +kernel) rfl rfl (Nat.le_of_ble_eq_true rfl) d_LogDisk_init_173 (fun H locs hP hD hS => ?_)
  exact hend H locs hP hD hS
set_option maxHeartbeats 4000000 in
set_option maxRecDepth 100000 in
theorem kb_LD {p : Program} {l : Launch} {e : Env} {s : State} {m : MethodId} {args : Array Value} {below : List Frame} {meth : Method} {c : Code} {Q : State → Prop} {D : va_G} {ac : Nat → ClassId} {A : Nat → Prop} {h0 : Nat} {p1 p2 : Int32} {ls : Array Slot} (hx : p.tables.exec = Jvm.exec) (hb : c.code = c_LogDisk_init) (hml : c.maxLocals = 6) (hts : ∀ w ∈ w_LogDisk_init, w.before args s = true) (hown : s.vm.findClass "LogDisk" = some m.cls) (hin : meth.name = "<init>") (hK : va_K D gCl (gtyL ac) s) (hMk : gMk s) (hA : ∀ q : Nat, s.heap.size ≤ q → A q) (hP : va_P D gCl [(h0, .inr (9, [.null, .null, .null, .null, .null, .null, .null, .null, .null, .int 0, .int 0, .int 0]))] s.heap) (hD : va_D A [(h0, .inr (9, [.null, .null, .null, .null, .null, .null, .null, .null, .null, .int 0, .int 0, .int 0]))]) (hl : lv_has ls 6 [(0, .ref h0), (1, .int p1), (2, .int p2)])
    (hend : ∀ (a : Nat → Nat) (F : Nat → g5) (g : Nat → Option Nat) (f u : Nat → Int32) (H : Heap) (locs : List Loc) (ls : Array Slot), a 0 = h0 → (∀ j, j < 16 → g j = some (F j).1) → (∀ j, j < 16 → f j = -1) → (∀ j, j < gM p1 → u j = nI (gM p1 - 1 - j)) → va_P D gCl (ldWs ac a (.ref (a 18)) g f u (gM p1) p2 p2 ++ fWn ac (min (gM p1) 400) (a 18) F 16) H → va_D A (ldWs ac a (.ref (a 18)) g f u (gM p1) p2 p2 ++ fWn ac (min (gM p1) 400) (a 18) F 16) → va_S A s.heap H locs → W p l e (gRmC 3 101 90347 62) s m args below meth c H locs 101 90347 Q (F0 m 176 ls [])) : W p l e (gRmC 3 101 90347 62) s m args below meth c s.heap [] 0 0 Q (F0 m 4 ls []) := by
  refine kb_LD1 hx hb hml hts hown hin hK hMk hA hP hD hl (fun q1 q2 q3 q4 q5 q6 q7 q8 q9 q10 q11 q12 q13 q14 q15 q16 q17 H locs hP hD hS => ?_)
  obtain ⟨eM, hM8, hM⟩ := gM_ok p1
  refine lv_bipush (v := 8) hx hb d_LogDisk_init_87 (by decide) ?_
  refine lv_sipush (v := 1024) hx hb d_LogDisk_init_89 (by decide) ?_
  refine lv_iload_n hx hb d_LogDisk_init_92 rfl (lv_at hl 1 rfl) ?_
  refine va_mmin hx hb (by rw [hml]; exact hl.1.symm) hown (hts _ (List.mem_cons_of_mem _ gw_160)) (hts _ (List.mem_cons_of_mem _ gw_161)) (hts _ (List.mem_cons_of_mem _ gw_8)) (hts _ (List.mem_cons_of_mem _ gw_162)) (Nat.le_of_ble_eq_true rfl) (Nat.le_of_ble_eq_true rfl) (Nat.le_of_ble_eq_true rfl) (Nat.le_of_ble_eq_true rfl) d_LogDisk_init_93 ?_
  refine va_mmax hx hb (by rw [hml]; exact hl.1.symm) hown (hts _ (List.mem_cons_of_mem _ gw_163)) (hts _ (List.mem_cons_of_mem _ gw_164)) (hts _ (List.mem_cons_of_mem _ gw_8)) (hts _ (List.mem_cons_of_mem _ gw_165)) (Nat.le_of_ble_eq_true rfl) (Nat.le_of_ble_eq_true rfl) (Nat.le_of_ble_eq_true rfl) (Nat.le_of_ble_eq_true rfl) d_LogDisk_init_96 ?_
  rw [ld_lim]
  generalize hMe : gM p1 = M at *
  refine lv_istore_n (lv' := [(3, .int (nI M)), (0, .ref h0), (1, .int p1), (2, .int p2)]) hx hb d_LogDisk_init_99 rfl hl (by decide) rfl (fun ls hl => ?_)
  refine va_new (ci := 4) (fs := [.null, .null, .null, .int 0]) (C := "LogDisk$Pages") (T := T_Pages) (N := 4) hx hb hts (fun w h => List.mem_cons_of_mem _ (in_Pages w h)) ty_Pages tyok_Pages hown (hts _ (List.mem_cons_of_mem _ gw_166)) (hts _ (List.mem_cons_of_mem _ gw_167)) (hts _ (List.mem_cons_of_mem _ gw_9)) hK hP hD hS hA rfl (fun j hj => by rcases (show j = 0 ∨ j = 1 ∨ j = 2 ∨ j = 3 by omega) with rfl | rfl | rfl | rfl <;> rfl) (Nat.le_of_ble_eq_true rfl) (Nat.le_of_ble_eq_true rfl) d_LogDisk_init_100 (fun q H hP hD hS => ?_)
  refine lv_dup hx hb d_LogDisk_init_103 rfl ?_
  refine lv_iload_n hx hb d_LogDisk_init_104 rfl (lv_at hl 0 rfl) ?_
  have hs2 : 9799 + 4 + (66 * M) ≤ 90347 := by omega
  refine gc_init (x := (q, .inr (4, [.null, .null, .null, .int 0]))) (w := [(h0, .inr (9, [.null, .ref q1, .ref q2, .ref q3, .ref q5, .ref q7, .ref q8, .ref q9, .ref q12, .int 0, .int 0, .int 0])), (q1, .inl (ac 4, 16, .inr (.inr (.inr (.inr (fun _ => none)))))), (q2, .inl (ac 0, 16, .inl (fun _ => 0))), (q3, .inr (7, [.ref q4, .int 0])), (q4, .inl (ac 1, 4096, .inl (fun _ => 0))), (q5, .inr (3, [.ref q6, .int 0])), (q6, .inl (ac 1, 4121, .inl (fun _ => 0))), (q7, .inr (8, [.int 0, .int (-1), .long 0, .int (-1), .int 0])), (q8, .inr (6, [.int (-1), .int 0, .int 0, .int 0])), (q9, .inr (5, [.ref q10, .ref q11, .int 0])), (q10, .inl (ac 0, 12, .inl (fun _ => 0))), (q11, .inl (ac 0, 12, .inl (fun _ => 0))), (q12, .inr (2, [.ref q13, .ref q14, .ref q15, .ref q16, .ref q17])), (q13, .inl (ac 0, 301, .inl (fun _ => 0))), (q14, .inl (ac 0, 301, .inl (fun _ => 0))), (q15, .inl (ac 0, 301, .inl (fun _ => 0))), (q16, .inl (ac 0, 301, .inl (fun _ => 0))), (q17, .inl (ac 0, 301, .inl (fun _ => 0)))]) (va_runI (As := [.int (nI M)]) (rest := [.ref q]) ⟨hx, hb, hml, hown, hts⟩ (kc_Pages l D ac q H.size M hM) (cwI 1 hts (gG_N gw_170) rfl rfl rfl (hts _ (List.mem_cons_of_mem _ gw_9)) (hts _ (List.mem_cons_of_mem _ gw_168)) (hts _ (List.mem_cons_of_mem _ gw_169)) rfl (by decide +kernel) ⟨Nat.le_of_ble_eq_true rfl, Nat.le_of_ble_eq_true rfl⟩) (gc_pre (w := [(h0, .inr (9, [.null, .ref q1, .ref q2, .ref q3, .ref q5, .ref q7, .ref q8, .ref q9, .ref q12, .int 0, .int 0, .int 0])), (q1, .inl (ac 4, 16, .inr (.inr (.inr (.inr (fun _ => none)))))), (q2, .inl (ac 0, 16, .inl (fun _ => 0))), (q3, .inr (7, [.ref q4, .int 0])), (q4, .inl (ac 1, 4096, .inl (fun _ => 0))), (q5, .inr (3, [.ref q6, .int 0])), (q6, .inl (ac 1, 4121, .inl (fun _ => 0))), (q7, .inr (8, [.int 0, .int (-1), .long 0, .int (-1), .int 0])), (q8, .inr (6, [.int (-1), .int 0, .int 0, .int 0])), (q9, .inr (5, [.ref q10, .ref q11, .int 0])), (q10, .inl (ac 0, 12, .inl (fun _ => 0))), (q11, .inl (ac 0, 12, .inl (fun _ => 0))), (q12, .inr (2, [.ref q13, .ref q14, .ref q15, .ref q16, .ref q17])), (q13, .inl (ac 0, 301, .inl (fun _ => 0))), (q14, .inl (ac 0, 301, .inl (fun _ => 0))), (q15, .inl (ac 0, 301, .inl (fun _ => 0))), (q16, .inl (ac 0, 301, .inl (fun _ => 0))), (q17, .inl (ac 0, 301, .inl (fun _ => 0)))]) hK hP) rfl rfl hl.1 rfl (lv_room (Nat.le_of_ble_eq_true rfl)) d_LogDisk_init_105 ⟨Nat.le_of_ble_eq_true rfl, hs2⟩) (fun u => [(q, .inr (4, [.ref u.1.1, .ref u.1.2.1, .ref u.1.2.2, .int (nI M)])), (u.1.1, .inl (ac 1, (M * 64), .inl (fun _ => 0))), (u.1.2.1, .inl (ac 0, M, .inl (fun _ => 0))), (u.1.2.2, .inl (ac 0, M, .inl u.2))]) (fun u t h => ⟨h.1, h.2.2⟩) hP hD hS hA (fun u H locs hu hP hD hS => ?_)
  refine W.widen (k := 21 + 5 * 0) (n := 77387 + 810 * 0) (by omega) (by omega) ?_
  have hP : va_P D gCl (ldWs ac (ldA h0 q1 q2 q3 q4 q5 q6 q7 q8 q9 q10 q11 q12 q13 q14 q15 q16 q17 q u.1.1 u.1.2.1 u.1.2.2) .null (fun _ => none) (fun _ => 0) u.2 M 0 0 ++ fWn ac (min M 400) ((ldA h0 q1 q2 q3 q4 q5 q6 q7 q8 q9 q10 q11 q12 q13 q14 q15 q16 q17 q u.1.1 u.1.2.1 u.1.2.2) 18) (fun _ => (0, 0, 0, 0, 0)) 0) H := hP
  have hD : va_D A (ldWs ac (ldA h0 q1 q2 q3 q4 q5 q6 q7 q8 q9 q10 q11 q12 q13 q14 q15 q16 q17 q u.1.1 u.1.2.1 u.1.2.2) .null (fun _ => none) (fun _ => 0) u.2 M 0 0 ++ fWn ac (min M 400) ((ldA h0 q1 q2 q3 q4 q5 q6 q7 q8 q9 q10 q11 q12 q13 q14 q15 q16 q17 q u.1.1 u.1.2.1 u.1.2.2) 18) (fun _ => (0, 0, 0, 0, 0)) 0) := hD
  refine lv_astore (lv' := [(4, .ref q), (3, .int (nI M)), (0, .ref h0), (1, .int p1), (2, .int p2)]) hx hb d_LogDisk_init_108 hl (by decide) rfl (fun ls hl => ?_)
  refine lv_iconst (v := nI 0) hx hb d_LogDisk_init_110 (by decide) ?_
  refine lv_istore (lv' := [(5, .int (nI 0)), (4, .ref q), (3, .int (nI M)), (0, .ref h0), (1, .int p1), (2, .int p2)]) hx hb d_LogDisk_init_111 hl (by decide) rfl (fun ls hl => ?_)
  refine kl_LD (a := (ldA h0 q1 q2 q3 q4 q5 q6 q7 q8 q9 q10 q11 q12 q13 q14 q15 q16 q17 q u.1.1 u.1.2.1 u.1.2.2)) hM hx hb hml hts hown hin hK hMk hA (fun F g f H locs ls hg hf hP hD hS hl => ?_) 16 0 (fun _ => (0, 0, 0, 0, 0)) (fun _ => none) (fun _ => 0) H locs ls (by decide) (by decide) (fun j hj => absurd hj (Nat.not_lt_zero _)) (fun j hj => absurd hj (Nat.not_lt_zero _)) hP hD hS (lv_sub hl [3, 4, 5, 2, 1, 0] rfl)
  exact kb_LD3 hx hb hml hts hown hin hK hMk hA hP hD hS hl (fun H locs hP hD hS => hend (ldA h0 q1 q2 q3 q4 q5 q6 q7 q8 q9 q10 q11 q12 q13 q14 q15 q16 q17 q u.1.1 u.1.2.1 u.1.2.2) F g f u.2 H locs ls rfl hg hf hu hP hD hS)
set_option maxHeartbeats 4000000 in
set_option maxRecDepth 100000 in
theorem kc_LD (l : Launch) (D : va_G) (ac : Nat → ClassId) (h0 sz : Nat) (p1 p2 : Int32) : Met l y_LogDisk_init w_LogDisk_init (gRmC 3 101 90347 62) (va_Pc [.ref h0, .int p1, .int p2] (fun U => U.heap.size = sz ∧ va_P D gCl [(h0, .inr (9, [.null, .null, .null, .null, .null, .null, .null, .null, .null, .int 0, .int 0, .int 0]))] U.heap ∧ (va_K D gCl (gtyL ac) U ∧ gMk U) ∧ va_D (fun _ => True) [(h0, .inr (9, [.null, .null, .null, .null, .null, .null, .null, .null, .null, .int 0, .int 0, .int 0]))])) (va_Qv (fun u : (Nat → Nat) × (Nat → g5) × (Nat → Option Nat) × (Nat → Int32) × (Nat → Int32) => u.1 0 = h0 ∧ (∀ j, j < 16 → u.2.2.1 j = some (u.2.1 j).1) ∧ (∀ j, j < 16 → u.2.2.2.1 j = -1) ∧ ∀ j, j < gM p1 → u.2.2.2.2 j = nI (gM p1 - 1 - j)) (fun u t => va_P D gCl (ldWs ac u.1 (.ref (u.1 18)) u.2.2.1 u.2.2.2.1 u.2.2.2.2 (gM p1) p2 p2 ++ fWn ac (min (gM p1) 400) (u.1 18) u.2.1 16) t.heap ∧ va_K D gCl (gtyL ac) t ∧ va_D (va_A [(h0, .inr (9, [.null, .null, .null, .null, .null, .null, .null, .null, .null, .int 0, .int 0, .int 0]))] sz) (ldWs ac u.1 (.ref (u.1 18)) u.2.2.1 u.2.2.2.1 u.2.2.2.2 (gM p1) p2 p2 ++ fWn ac (min (gM p1) 400) (u.1 18) u.2.1 16)) (va_A [(h0, .inr (9, [.null, .null, .null, .null, .null, .null, .null, .null, .null, .int 0, .int 0, .int 0]))] sz)) 101 90347 (va_A [(h0, .inr (9, [.null, .null, .null, .null, .null, .null, .null, .null, .null, .int 0, .int 0, .int 0]))] sz) := by
  refine Met.ofW (cc := c_LogDisk_init) (maxL := 6) (ret := none) (by decide) rfl ?_
  intro p e s m args below meth c s₁ B hml hv
  obtain ⟨rfl, hsz, hP, ⟨hK, hMk⟩, hD0⟩ := hv
  have hx := B.exec
  have hb := B.bytes
  have hr := B.returns
  have hts := atoms_spec (ws := w_LogDisk_init) B.pre
  have hown : s.vm.findClass "LogDisk" = some m.cls := findClass_of_methodNamed B.named
  have hlocks := B.notSynchronized
  have hin : meth.name = "<init>" := (name_of_methodNamed B.named B.method).1
  subst hsz
  have hD := hD0.self (sz := s.heap.size)
  generalize hAe : va_A [(h0, .inr (9, [.null, .null, .null, .null, .null, .null, .null, .null, .null, .int 0, .int 0, .int 0]))] s.heap.size = A at hD ⊢
  have hA : ∀ q : Nat, s.heap.size ≤ q → A q := fun q h => by rw [← hAe]; exact Or.inr h
  have hl := lv_entry ([.ref h0, .int p1, .int p2]) (n := 6) (Nat.le_of_ble_eq_true rfl)
  rw [lg_entry_eq]
  generalize (lg_sl ([.ref h0, .int p1, .int p2]) ++ List.replicate (6 - (lg_sl ([.ref h0, .int p1, .int p2])).length) Slot.unset).toArray = ls at hl ⊢
  have hl : lv_has ls 6 [(0, .ref h0), (1, .int p1), (2, .int p2)] := hl
  refine lv_aload_n hx hb d_LogDisk_init_0 rfl (lv_at hl 0 rfl) ?_
  refine W.objInit hx hb hown (hts _ (List.mem_cons_of_mem _ gw_27)) (hts _ (List.mem_cons_of_mem _ gw_28)) (hts _ (List.mem_cons_of_mem _ gw_29)) rfl (by rw [hml]; exact hl.1) rfl d_LogDisk_init_1 (Nat.le_of_ble_eq_true rfl) (Nat.le_of_ble_eq_true rfl) ?_
  refine W.eq (g2 := F0 m 4 ls []) rfl ?_
  refine kb_LD hx hb hml hts hown hin hK hMk hA hP hD hl (fun a F g f u H locs ls ha hg hf hu hP hD hS => ?_)
  refine W.widen (k := 101) (n := 90347) (by omega) (by omega) ?_
  exact W.vret hx hb hr (fun t ht hW => ⟨⟨(a, F, g, f, u), rfl, ⟨ha, hg, hf, hu⟩, by rw [ht]; exact hP, va_K.moved hW.alike hK, hD⟩, hS.F ht⟩) hS.2.2 d_LogDisk_init_176
