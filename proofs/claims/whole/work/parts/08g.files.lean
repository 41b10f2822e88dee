/-! The class's constructor: the loop of files, the end. -/
abbrev g5 : Type := Nat × Nat × Nat × Nat × Nat
def fcell (ac : Nat → ClassId) (N pg : Nat) (t : g5) : va_W := [(t.1, .inr (1, [.ref pg, .ref t.2.1, .ref t.2.2.2.1, .int 0])), (t.2.1, .inr (0, [.ref t.2.2.1, .int 0, .int 0])), (t.2.2.1, .inl (ac 0, N, .inl (fun _ => 0))), (t.2.2.2.1, .inr (0, [.ref t.2.2.2.2, .int 0, .int 0])), (t.2.2.2.2, .inl (ac 0, N, .inl (fun _ => 0)))]
def fWn (ac : Nat → ClassId) (N pg : Nat) (F : Nat → g5) : Nat → va_W
  | 0 => []
  | k + 1 => fcell ac N pg (F k) ++ fWn ac N pg F k
theorem fWn_c {ac : Nat → ClassId} {N pg : Nat} {F F' : Nat → g5} : ∀ k, (∀ j, j < k → F' j = F j) → fWn ac N pg F' k = fWn ac N pg F k
  | 0, _ => rfl
  | k + 1, h => by
    show fcell ac N pg (F' k) ++ fWn ac N pg F' k = fcell ac N pg (F k) ++ fWn ac N pg F k
    rw [h k (Nat.lt_succ_self k), fWn_c k (fun j hj => h j (Nat.lt_succ_of_lt hj))]
def ldWs (ac : Nat → ClassId) (a : Nat → Nat) (pgs : Value) (g : Nat → Option Nat) (f u : Nat → Int32) (M : Nat) (fc sc : Int32) : va_W := [((a 0), .inr (9, [pgs, .ref (a 1), .ref (a 2), .ref (a 3), .ref (a 5), .ref (a 7), .ref (a 8), .ref (a 9), .ref (a 12), .int fc, .int 0, .int 0])), ((a 1), .inl (ac 4, 16, .inr (.inr (.inr (.inr g))))), ((a 2), .inl (ac 0, 16, .inl f)), ((a 3), .inr (7, [.ref (a 4), .int 0])), ((a 4), .inl (ac 1, 4096, .inl (fun _ => 0))), ((a 5), .inr (3, [.ref (a 6), .int 0])), ((a 6), .inl (ac 1, 4121, .inl (fun _ => 0))), ((a 7), .inr (8, [.int 0, .int (-1), .long 0, .int (-1), .int 0])), ((a 8), .inr (6, [.int (-1), .int 0, .int 0, .int sc])), ((a 9), .inr (5, [.ref (a 10), .ref (a 11), .int 0])), ((a 10), .inl (ac 0, 12, .inl (fun _ => 0))), ((a 11), .inl (ac 0, 12, .inl (fun _ => 0))), ((a 12), .inr (2, [.ref (a 13), .ref (a 14), .ref (a 15), .ref (a 16), .ref (a 17)])), ((a 13), .inl (ac 0, 301, .inl (fun _ => 0))), ((a 14), .inl (ac 0, 301, .inl (fun _ => 0))), ((a 15), .inl (ac 0, 301, .inl (fun _ => 0))), ((a 16), .inl (ac 0, 301, .inl (fun _ => 0))), ((a 17), .inl (ac 0, 301, .inl (fun _ => 0))), ((a 18), .inr (4, [.ref (a 19), .ref (a 20), .ref (a 21), .int (nI M)])), ((a 19), .inl (ac 1, (M * 64), .inl (fun _ => 0))), ((a 20), .inl (ac 0, M, .inl (fun _ => 0))), ((a 21), .inl (ac 0, M, .inl u))]
def ldA (h0 q1 q2 q3 q4 q5 q6 q7 q8 q9 q10 q11 q12 q13 q14 q15 q16 q17 q18 q19 q20 q21 : Nat) : Nat → Nat := fun k => match k with
  | 0 => h0
  | 1 => q1
  | 2 => q2
  | 3 => q3
  | 4 => q4
  | 5 => q5
  | 6 => q6
  | 7 => q7
  | 8 => q8
  | 9 => q9
  | 10 => q10
  | 11 => q11
  | 12 => q12
  | 13 => q13
  | 14 => q14
  | 15 => q15
  | 16 => q16
  | 17 => q17
  | 18 => q18
  | 19 => q19
  | 20 => q20
  | 21 => q21
  | _ => 0
theorem min_i {M : Nat} (hM : M ≤ 1024) : (if (400 : Int32) < nI M then (400 : Int32) else nI M) = nI (min M 400) := by
  by_cases h : 400 < M
  · rw [if_pos (by rw [show (400 : Int32) = nI 400 from rfl, nI_ltI (by omega) (by omega)]; exact h), Nat.min_eq_right (by omega)]; rfl
  · rw [if_neg (by rw [show (400 : Int32) = nI 400 from rfl, nI_ltI (by omega) (by omega)]; exact h), Nat.min_eq_left (by omega)]
set_option maxHeartbeats 4000000 in
set_option maxRecDepth 100000 in
theorem kl_LD {p : Program} {l : Launch} {e : Env} {s : State} {m : MethodId} {args : Array Value} {below : List Frame} {meth : Method} {c : Code} {Q : State → Prop} {D : va_G} {ac : Nat → ClassId} {A : Nat → Prop} {a : Nat → Nat} {M : Nat} {u : Nat → Int32} {p1 p2 : Int32} (hM : M ≤ 1024) (hx : p.tables.exec = Jvm.exec) (hb : c.code = c_LogDisk_init) (hml : c.maxLocals = 6) (hts : ∀ w ∈ w_LogDisk_init, w.before args s = true) (hown : s.vm.findClass "LogDisk" = some m.cls) (hin : meth.name = "<init>") (hK : va_K D gCl (gtyL ac) s) (hMk : gMk s) (hA : ∀ q : Nat, s.heap.size ≤ q → A q)
    (hend : ∀ (F : Nat → g5) (g : Nat → Option Nat) (f : Nat → Int32) (H : Heap) (locs : List Loc) (ls : Array Slot), (∀ j, j < 16 → g j = some (F j).1) → (∀ j, j < 16 → f j = -1) → va_P D gCl (ldWs ac a .null g f u M 0 0 ++ fWn ac (min M 400) (a 18) F 16) H → va_D A (ldWs ac a .null g f u M 0 0 ++ fWn ac (min M 400) (a 18) F 16) → va_S A s.heap H locs → lv_has ls 6 [(0, .ref (a 0)), (1, .int p1), (2, .int p2), (3, .int (nI M)), (4, .ref (a 18)), (5, .int (nI 16))] → W p l e (gRmC 3 101 90347 62) s m args below meth c H locs (21 + 5 * 16) (77387 + 810 * 16) Q (F0 m 157 ls [])) :
    ∀ (n k : Nat) (F : Nat → g5) (g : Nat → Option Nat) (f : Nat → Int32) (H : Heap) (locs : List Loc) (ls : Array Slot), k ≤ 16 → 16 ≤ k + n → (∀ j, j < k → g j = some (F j).1) → (∀ j, j < k → f j = -1) → va_P D gCl (ldWs ac a .null g f u M 0 0 ++ fWn ac (min M 400) (a 18) F k) H → va_D A (ldWs ac a .null g f u M 0 0 ++ fWn ac (min M 400) (a 18) F k) → va_S A s.heap H locs → lv_has ls 6 [(0, .ref (a 0)), (1, .int p1), (2, .int p2), (3, .int (nI M)), (4, .ref (a 18)), (5, .int (nI k))] → W p l e (gRmC 3 101 90347 62) s m args below meth c H locs (21 + 5 * k) (77387 + 810 * k) Q (F0 m 113 ls []) := by
  intro n
  induction n with
  | zero =>
    intro k F g f H locs ls h1 h2 hg hf hP hD hS hl
    have hk : k = 16 := by omega
    subst hk
    refine lv_iload hx hb d_LogDisk_init_113 (lv_at hl 5 rfl) ?_
    refine lv_bipush (v := nI 16) hx hb d_LogDisk_init_115 (by decide) ?_
    exact lv_icmp_ge (tgt := 157) hx hb d_LogDisk_init_117 (by decide) (fun c1 => hend F g f H locs ls hg hf hP hD hS hl) (fun c1 => absurd (nI_le (Nat.le_refl 16) (by omega)) c1)
  | succ n ih =>
    intro k F g f H locs ls h1 h2 hg hf hP hD hS hl
    refine lv_iload hx hb d_LogDisk_init_113 (lv_at hl 5 rfl) ?_
    refine lv_bipush (v := nI 16) hx hb d_LogDisk_init_115 (by decide) ?_
    refine lv_icmp_ge (tgt := 157) hx hb d_LogDisk_init_117 (by decide) (fun c1 => ?_) (fun c1 => ?_)
    · have hk : k = 16 := by
        rcases Nat.lt_or_ge k 16 with h | h
        · exact absurd c1 (nI_ge h (by omega))
        · omega
      subst hk
      exact hend F g f H locs ls hg hf hP hD hS hl
    · have hk : k < 16 := by
        rcases Nat.lt_or_ge k 16 with h | h
        · exact h
        · exact absurd (nI_le h (by omega)) c1
      have hc1 : 21 + 5 * k + 1 ≤ 101 := by omega
      have hs1 : 77387 + 810 * k + 4 ≤ 90347 := by omega
      have hc2 : 21 + 5 * k + 1 + 4 ≤ 101 := by omega
      have hmn : min M 400 ≤ 400 := Nat.min_le_right _ _
      have hs2 : 77387 + 810 * k + 4 + (2 * min M 400 + 6) ≤ 90347 := by omega
      refine lv_aload_n hx hb d_LogDisk_init_120 rfl (lv_at hl 0 rfl) ?_
      refine va_get (D := D) (ci := 9) (v := .ref (a 1)) (C := "LogDisk") (T := T_LogDisk) (N := 12) hx hb hts (fun w h => List.mem_cons_of_mem _ (in_LogDisk w h)) hown hK hP 0 rfl rfl 1 (by decide) (hts _ (List.mem_cons_of_mem _ gw_230)) (fun _ h9 => h9) rfl d_LogDisk_init_121 ?_
      refine lv_iload hx hb d_LogDisk_init_124 (lv_at hl 5 rfl) ?_
      refine va_new (ci := 1) (fs := [.null, .null, .null, .int 0]) (C := "LogDisk$DiskFile") (T := T_DiskFile) (N := 4) hx hb hts (fun w h => List.mem_cons_of_mem _ (in_DiskFile w h)) ty_DiskFile tyok_DiskFile hown (hts _ (List.mem_cons_of_mem _ gw_30)) (hts _ (List.mem_cons_of_mem _ gw_187)) (hts _ (List.mem_cons_of_mem _ gw_10)) hK hP hD hS hA rfl (fun j hj => by rcases (show j = 0 ∨ j = 1 ∨ j = 2 ∨ j = 3 by omega) with rfl | rfl | rfl | rfl <;> rfl) hc1 hs1 d_LogDisk_init_126 (fun q H hP hD hS => ?_)
      refine lv_dup hx hb d_LogDisk_init_129 rfl ?_
      refine lv_aload hx hb d_LogDisk_init_130 (lv_at hl 4 rfl) ?_
      refine lv_iload_n hx hb d_LogDisk_init_132 rfl (lv_at hl 3 rfl) ?_
      refine lv_sipush (v := 400) hx hb d_LogDisk_init_133 (by decide) ?_
      refine va_mmin hx hb (by rw [hml]; exact hl.1.symm) hown (hts _ (List.mem_cons_of_mem _ gw_160)) (hts _ (List.mem_cons_of_mem _ gw_161)) (hts _ (List.mem_cons_of_mem _ gw_8)) (hts _ (List.mem_cons_of_mem _ gw_162)) (Nat.le_of_ble_eq_true rfl) (Nat.le_of_ble_eq_true rfl) (by show _ ≤ 101; omega) (by show _ ≤ 90347; omega) d_LogDisk_init_136 ?_
      rw [min_i hM]
      refine gc_init (x := (q, .inr (1, [.null, .null, .null, .int 0]))) (w := (ldWs ac a .null g f u M 0 0 ++ fWn ac (min M 400) (a 18) F k)) (va_runI (As := [.ref (a 18), .int (nI (min M 400))]) (rest := [.ref q, .int (nI k), .ref (a 1)]) ⟨hx, hb, hml, hown, hts⟩ (kc_DiskFile l D ac q H.size (a 18) (nI (min M 400)) (min M 400) (by omega) rfl) (cwI 2 hts (gG_N gw_190) rfl rfl rfl (hts _ (List.mem_cons_of_mem _ gw_10)) (hts _ (List.mem_cons_of_mem _ gw_188)) (hts _ (List.mem_cons_of_mem _ gw_189)) rfl (by decide +kernel) ⟨Nat.le_of_ble_eq_true rfl, Nat.le_of_ble_eq_true rfl⟩) (gc_pre (w := (ldWs ac a .null g f u M 0 0 ++ fWn ac (min M 400) (a 18) F k)) hK hP) rfl rfl hl.1 rfl (lv_room (Nat.le_of_ble_eq_true rfl)) d_LogDisk_init_139 ⟨hc2, hs2⟩) (fun t => fcell ac (min M 400) (a 18) (q, t)) (fun t U h => by obtain ⟨x1, x2, x3, x4⟩ := t; exact ⟨h.1, h.2.2⟩) hP hD hS hA (fun t H locs _ hP hD hS => ?_)
      refine W.widen (k := 21 + 5 * (k + 1)) (n := 77387 + 810 * (k + 1)) (by omega) (by omega) ?_
      have hP := hP.swap
      have hD := hD.swap
      refine va_astq hx hb hK hP hD hS 1 4 22 1 (r := ("LogDisk$DiskFile", T_DiskFile, 4)) rfl rfl rfl rfl (vp_in_nI hk (by omega)) d_LogDisk_init_142 (fun H locs hP hD hS => ?_)
      rw [nI_clamp (by omega)] at hP hD
      obtain ⟨g2, eg2⟩ : ∃ z, z = va_up g k (some q) := ⟨_, rfl⟩
      have hP : va_P D gCl ((ldWs ac a .null (va_up g k (some q)) f u M 0 0 ++ fcell ac (min M 400) (a 18) (q, t)) ++ fWn ac (min M 400) (a 18) F k) H := hP
      have hD : va_D A ((ldWs ac a .null (va_up g k (some q)) f u M 0 0 ++ fcell ac (min M 400) (a 18) (q, t)) ++ fWn ac (min M 400) (a 18) F k) := hD
      rw [← eg2] at hP hD
      refine lv_aload_n hx hb d_LogDisk_init_143 rfl (lv_at hl 0 rfl) ?_
      refine va_get (D := D) (ci := 9) (v := .ref (a 2)) (C := "LogDisk") (T := T_LogDisk) (N := 12) hx hb hts (fun w h => List.mem_cons_of_mem _ (in_LogDisk w h)) hown hK hP 0 rfl rfl 2 (by decide) (hts _ (List.mem_cons_of_mem _ gw_231)) (fun _ h9 => h9) rfl d_LogDisk_init_144 ?_
      refine lv_iload hx hb d_LogDisk_init_147 (lv_at hl 5 rfl) ?_
      refine lv_iconst (v := -1) hx hb d_LogDisk_init_149 (by decide) ?_
      refine va_iast hx hb hK hP hD hS 2 0 rfl rfl (vp_in_nI hk (by omega)) d_LogDisk_init_150 (fun H locs hP hD hS => ?_)
      rw [nI_clamp (by omega)] at hP hD
      obtain ⟨f2, ef2⟩ : ∃ z, z = upd f k (-1) := ⟨_, rfl⟩
      have hP : va_P D gCl ((ldWs ac a .null g2 (upd f k (-1)) u M 0 0 ++ fcell ac (min M 400) (a 18) (q, t)) ++ fWn ac (min M 400) (a 18) F k) H := hP
      have hD : va_D A ((ldWs ac a .null g2 (upd f k (-1)) u M 0 0 ++ fcell ac (min M 400) (a 18) (q, t)) ++ fWn ac (min M 400) (a 18) F k) := hD
      have eW : fcell ac (min M 400) (a 18) (q, t) ++ fWn ac (min M 400) (a 18) F k = fWn ac (min M 400) (a 18) (va_up F k (q, t)) (k + 1) := by
        show _ = fcell ac (min M 400) (a 18) (va_up F k (q, t) k) ++ fWn ac (min M 400) (a 18) (va_up F k (q, t)) k
        rw [va_up_self, fWn_c k (fun j hj => va_up_ne _ _ (by omega))]
      rw [← ef2, List.append_assoc, eW] at hP hD
      refine lv_iinc (v := nI (k + 1)) (lv' := [(5, .int (nI (k + 1))), (0, .ref (a 0)), (1, .int p1), (2, .int p2), (3, .int (nI M)), (4, .ref (a 18))]) hx hb d_LogDisk_init_151 hl (k := 5) rfl (nI_1 k) (by decide) rfl (fun ls hl => ?_)
      refine lv_goto (tgt := 113) hx hb d_LogDisk_init_154 (by decide) ?_
      refine ih (k + 1) (va_up F k (q, t)) g2 f2 H locs ls hk (by omega) (fun j hj => ?_) (fun j hj => ?_) hP hD hS (lv_sub hl [1, 2, 3, 4, 5, 0] rfl)
      · rw [eg2]
        by_cases hjk : j = k
        · rw [hjk, va_up_self, va_up_self]
        · rw [va_up_ne _ _ hjk, va_up_ne _ _ hjk]; exact hg j (by omega)
      · rw [ef2]
        by_cases hjk : j = k
        · rw [hjk, pk_us]
        · rw [pk_un hjk]; exact hf j (by omega)
