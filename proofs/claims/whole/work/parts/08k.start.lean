/-! The law's start. -/
def cellv (L : Nat) (xs : Nat → Int32) (k : Nat) : Int32 := if k < L then xs k else 0
set_option maxHeartbeats 4000000 in
theorem kc_cell (l : Launch) (b L : Nat) (xs : Nat → Int32) (k sz : Nat) (hk : k < 2 ^ 31) (hL : L < 2 ^ 31) : Met l y_Law_cell w_Law_cell (gRmC 0 0 0 0) (va_Pc [.ref b, .int (nI k)] (fun U => U.heap.size = sz ∧ va_X b L xs U U.heap ∧ b < U.heap.size)) (va_Qi (fun (r : Int32) (_ : Unit) => r = cellv L xs k) (fun _ _ => True) (fun _ => False)) 0 0 (fun _ => False) := by
  refine Met.ofW (cc := c_Law_cell) (maxL := 2) (ret := some .int) (by decide) rfl ?_
  intro p e s m args below meth c s₁ B hml hv
  obtain ⟨rfl, hsz, hX, hbl⟩ := hv
  have hx := B.exec
  have hb := B.bytes
  have hr := B.returns
  have hlocks := B.notSynchronized
  have hS : va_S (fun _ => False) s.heap s.heap [] := va_S.rf
  have hbA : ¬ (fun _ : Nat => False) b := fun h => h
  have hl := lv_entry ([.ref b, .int (nI k)]) (n := 2) (Nat.le_of_ble_eq_true rfl)
  rw [lg_entry_eq]
  generalize (lg_sl ([.ref b, .int (nI k)]) ++ List.replicate (2 - (lg_sl ([.ref b, .int (nI k)])).length) Slot.unset).toArray = ls at hl ⊢
  have hl : lv_has ls 2 [(0, .ref b), (1, .int (nI k))] := hl
  refine lv_iload_n hx hb d_Law_cell_0 rfl (lv_at hl 1 rfl) ?_
  refine lv_aload_n hx hb d_Law_cell_1 rfl (lv_at hl 0 rfl) ?_
  refine va_slen hx hb hX hbl hbA hS d_Law_cell_2 ?_
  refine lv_icmp_ge (tgt := 12) hx hb d_Law_cell_3 (by decide) (fun c1 => ?_) (fun c1 => ?_)
  · have hle : L ≤ k := by
      rcases Nat.lt_or_ge k L with h | h
      · exact absurd c1 (nI_ge h hL)
      · exact h
    refine lv_iconst (v := 0) hx hb d_Law_cell_12 (by decide) ?_
    exact W.iret (v := 0) hx hb hr (fun t ht hW => ⟨⟨0, (), rfl, (if_neg (Nat.not_lt.mpr hle)).symm, trivial⟩, hS.F ht⟩) hS.2.2 d_Law_cell_13
  · have hlt : k < L := by
      rcases Nat.lt_or_ge k L with h | h
      · exact h
      · exact absurd (nI_le h hk) c1
    refine lv_aload_n hx hb d_Law_cell_6 rfl (lv_at hl 0 rfl) ?_
    refine lv_iload_n hx hb d_Law_cell_7 rfl (lv_at hl 1 rfl) ?_
    refine va_sld hx hb hX hbl hbA hS (vp_in_nI hlt hL) d_Law_cell_8 ?_
    refine lv_goto (tgt := 13) hx hb d_Law_cell_9 (by decide) ?_
    exact W.iret (v := xs (nI k).toNatClampNeg) hx hb hr (fun t ht hW => ⟨⟨_, (), rfl, by rw [nI_clamp hk]; exact (if_pos hlt).symm, trivial⟩, hS.F ht⟩) hS.2.2 d_Law_cell_13
section
variable {p : Program} {l : Launch} {e : Env} {s : State} {m : MethodId} {below : List Frame} {meth : Method} {c : Code} {H : Heap} {locs : List Loc} {cells slots : Nat} {Q : State → Prop} {pc b L : Nat} {xs : Nat → Int32} {ls : Array Slot} {rest : List Value} {D : va_G} {ws : va_W}
theorem gl_cell (hx : p.tables.exec = Jvm.exec) (hb : c.code = code) (hml : c.maxLocals = 7) (hown : s.vm.findClass "LogDiskLaw" = some m.cls) (hts : ∀ w ∈ Cond.tt :: gTb, w.before #[Value.ref b] s = true) (hX : va_X b L xs s s.heap) (hbl : b < s.heap.size) (hL : L < 2 ^ 31) (hS : va_S (fun q => s.heap.size ≤ q) s.heap H locs) (hP : va_P D gCl ws H) (k : Nat) (hk : k < 2 ^ 31) (hls : ls.size = 7) (hroom : 2 * 0 + (rest.map fun v => v.category).sum ≤ 8) (hc : cells ≤ room_1.cells) (hs : slots ≤ room_1.slots) (hdg : decode code pc = .ok (.invokestatic 66, 3))
    (kk : ∀ (H1 : Heap) (locs1 : List Loc), va_P D gCl ws H1 → va_S (fun q => s.heap.size ≤ q) s.heap H1 locs1 → W p l e room_1 s m #[Value.ref b] below meth c H1 locs1 cells slots Q (F0 m (pc + 3) ls (.int (cellv L xs k) :: rest))) : W p l e room_1 s m #[Value.ref b] below meth c H locs cells slots Q (F0 m pc ls (.int (nI k) :: .ref b :: rest)) := by
  refine va_calli (va_runS (As := [.ref b, .int (nI k)]) (rest := rest) ⟨hx, hb, hml, hown, hts⟩ (kc_cell l b L xs k H.size hk hL) (va_cwS 2 hts (gG_S gw_422 gw_423 gw_0 gw_424) rfl rfl rfl (by decide +kernel) ⟨Nat.le_of_ble_eq_true rfl, Nat.le_of_ble_eq_true rfl⟩) ⟨fun a U g mk q => by
      obtain ⟨q0, q1, q2, q3⟩ := q
      exact ⟨q0, q1, va_X.moved (u := U) (U := U.calling g mk a) (Vm.Alike.refl U.vm) q2, q3⟩, fun U hU hW => ⟨rfl, by rw [hU], by rw [hU]; exact va_X.moved hW.alike (hX.kept (hS.2.1 b hbl (Nat.not_le.mpr hbl))), by rw [hU]; exact Nat.lt_of_lt_of_le hbl hS.1⟩⟩ rfl rfl hls rfl hroom hdg ⟨hc, hs⟩) hS (fun q _ h => h.elim) (fun q h => h.elim) (fun r u t H1 locs1 ht hvm hpost _ hz hkp hS1 => ?_)
  rw [hpost]
  exact kk H1 locs1 (hP.kept (fun k q hq => hkp q.1 (hP k q hq).lt (fun z => z))) hS1
theorem gc_preM {ac : Nat → ClassId} {x : Nat × va_E} {w : va_W} {av : List Value} (hK : va_K D gCl (gtyL ac) s) (hMk : gMk s) (hP : va_P D gCl (w ++ [x]) H) : PreS s H (va_Pc av (fun U => U.heap.size = H.size ∧ va_P D gCl [x] U.heap ∧ (va_K D gCl (gtyL ac) U ∧ gMk U) ∧ va_D (fun _ => True) [x])) av :=
  ⟨fun a U g mk q => by
    obtain ⟨q0, q1, qP, ⟨qK, qM⟩, qD⟩ := q
    exact ⟨q0, q1, qP, ⟨va_K.moved (u := U) (U := U.calling g mk a) (Vm.Alike.refl U.vm) qK, gMk_calling qM⟩, qD⟩, fun U hU hW => ⟨rfl, by rw [hU], by rw [hU]; exact gj_P hP, ⟨va_K.moved hW.alike hK, gMk_warm hW hMk⟩, gj_D trivial⟩⟩
end
set_option maxHeartbeats 4000000 in
set_option maxRecDepth 100000 in
theorem whole_start {p : Program} {e : Env} {s : State} {m : MethodId} {below : List Frame} {meth : Method} {c : Code} (l : Launch) (hlt : l.stackTraces = false) {b L : Nat} {xs : Nat → Int32} (hL : L ≤ 2050) (C0 : lw_At p s m meth c b L xs) : W p l e room_1 s m #[Value.ref b] below meth c s.heap [] 0 0 (lw_Z below #[Value.ref b] s) (entryFrame m ([Value.ref b] : List Value).toArray 7) := by
  obtain ⟨hx, hb, hr, hml, hown, hts0, hX, hbl, hlocks, hgv⟩ := C0
  have htg : ∀ w ∈ gTb, w.before #[Value.ref b] s = true := fun w hw => hts0 w (List.mem_filter.mp hw).1
  have hts : ∀ w ∈ Cond.tt :: gTb, w.before #[Value.ref b] s = true := fun w hw => by
    rcases List.mem_cons.mp hw with h | h
    · rw [h]; rfl
    · exact htg w h
  have hown' : s.vm.findClass "LogDiskLaw" = some m.cls := hown
  obtain ⟨D, ac, hK⟩ := law_K hts0 htg
  have hMk := gMk_of hts0
  have hA : ∀ q : Nat, s.heap.size ≤ q → (fun q => s.heap.size ≤ q) q := fun q h => h
  have hS : va_S (fun q => s.heap.size ≤ q) s.heap s.heap [] := va_S.rf
  have hP : va_P D gCl [] s.heap := fun k q hk => by simp at hk
  have hD : va_D (fun q => s.heap.size ≤ q) [] := ⟨fun i j x y hi => by simp at hi, fun k q hk => by simp at hk⟩
  have hl := lv_entry ([.ref b]) (n := 7) (Nat.le_of_ble_eq_true rfl)
  rw [lg_entry_eq]
  generalize (lg_sl ([.ref b]) ++ List.replicate (7 - (lg_sl ([.ref b])).length) Slot.unset).toArray = ls at hl ⊢
  have hl : lv_has ls 7 [(0, .ref b)] := hl
  refine va_new (ci := 9) (fs := [.null, .null, .null, .null, .null, .null, .null, .null, .null, .int 0, .int 0, .int 0]) (C := "LogDisk") (T := T_LogDisk) (N := 12) hx hb hts (fun w h => List.mem_cons_of_mem _ (in_LogDisk w h)) ty_LogDisk tyok_LogDisk hown' (hts _ (List.mem_cons_of_mem _ gw_22)) (hts _ (List.mem_cons_of_mem _ gw_23)) (hts _ (List.mem_cons_of_mem _ gw_1)) hK hP hD hS hA rfl (fun j hj => by rcases (show j = 0 ∨ j = 1 ∨ j = 2 ∨ j = 3 ∨ j = 4 ∨ j = 5 ∨ j = 6 ∨ j = 7 ∨ j = 8 ∨ j = 9 ∨ j = 10 ∨ j = 11 by omega) with rfl | rfl | rfl | rfl | rfl | rfl | rfl | rfl | rfl | rfl | rfl | rfl <;> rfl) (Nat.le_of_ble_eq_true rfl) (Nat.le_of_ble_eq_true rfl) d_Law_law_0 (fun q H hP hD hS => ?_)
  refine lv_dup hx hb d_Law_law_3 rfl ?_
  refine lv_aload_n hx hb d_Law_law_4 rfl (lv_at hl 0 rfl) ?_
  refine lv_iconst (v := nI 0) hx hb d_Law_law_5 (by decide) ?_
  refine gl_cell hx hb hml hown' hts hX hbl (by omega) hS hP 0 (by decide) hl.1 (Nat.le_of_ble_eq_true rfl) (Nat.le_of_ble_eq_true rfl) (Nat.le_of_ble_eq_true rfl) d_Law_law_6 (fun H locs hP hS => ?_)
  refine lv_aload_n hx hb d_Law_law_9 rfl (lv_at hl 0 rfl) ?_
  refine lv_iconst (v := nI 1) hx hb d_Law_law_10 (by decide) ?_
  refine gl_cell hx hb hml hown' hts hX hbl (by omega) hS hP 1 (by decide) hl.1 (Nat.le_of_ble_eq_true rfl) (Nat.le_of_ble_eq_true rfl) (Nat.le_of_ble_eq_true rfl) d_Law_law_11 (fun H locs hP hS => ?_)
  refine gc_init (x := (q, .inr (9, [.null, .null, .null, .null, .null, .null, .null, .null, .null, .int 0, .int 0, .int 0]))) (w := []) (va_runI (As := [.int (cellv L xs 0), .int (cellv L xs 1)]) (rest := [.ref q]) ⟨hx, hb, hml, hown', hts⟩ (kc_LD l D ac q H.size (cellv L xs 0) (cellv L xs 1)) (cwI 2 hts (gG_N gw_26) rfl rfl rfl (hts _ (List.mem_cons_of_mem _ gw_1)) (hts _ (List.mem_cons_of_mem _ gw_24)) (hts _ (List.mem_cons_of_mem _ gw_25)) rfl (by decide +kernel) ⟨Nat.le_of_ble_eq_true rfl, Nat.le_of_ble_eq_true rfl⟩) (gc_preM (w := []) hK hMk hP) rfl rfl hl.1 rfl (lv_room (Nat.le_of_ble_eq_true rfl)) d_Law_law_14 ⟨Nat.le_of_ble_eq_true rfl, Nat.le_of_ble_eq_true rfl⟩) (fun u => ldWs ac u.1 (.ref (u.1 18)) u.2.2.1 u.2.2.2.1 u.2.2.2.2 (gM (cellv L xs 0)) (cellv L xs 1) (cellv L xs 1) ++ fWn ac (min (gM (cellv L xs 0)) 400) (u.1 18) u.2.1 16) (fun u t h => ⟨h.1, h.2.2⟩) hP hD hS hA (fun v H locs hv hP hD hS => ?_)
  obtain ⟨a, F, g, f, u⟩ := v
  obtain ⟨ha, hg, hf, hu⟩ := hv
  rw [List.nil_append] at hP hD
  have ha : a 0 = q := ha
  refine lv_astore_n (lv' := [(1, .ref q), (0, .ref b)]) hx hb d_Law_law_17 rfl hl (by decide) rfl (fun ls hl => ?_)
  refine W.widen (k := 102) (n := 90359) (by omega) (by omega) ?_
  refine va_new (ci := 10) (fs := [.int 0, .int 0, .int 0, .int 0, .null, .null, .null, .null, .null, .null, .null, .int 0, .null, .null, .null, .null, .null, .null, .null, .int 0, .int 0, .int 0, .int 0, .int 0, .int 0, .int 0, .int 0, .int 0, .int 0, .int 0, .int 0, .null, .null, .int 0, .null]) (C := "LogDiskModel") (T := T_Mo) (N := 35) hx hb hts (fun w h => List.mem_cons_of_mem _ (in_Mo w h)) ty_Mo tyok_Mo hown' (hts _ (List.mem_cons_of_mem _ gw_801)) (hts _ (List.mem_cons_of_mem _ gw_802)) (hts _ (List.mem_cons_of_mem _ gw_12)) hK hP hD hS hA rfl (fun j hj => by rcases (show j = 0 ∨ j = 1 ∨ j = 2 ∨ j = 3 ∨ j = 4 ∨ j = 5 ∨ j = 6 ∨ j = 7 ∨ j = 8 ∨ j = 9 ∨ j = 10 ∨ j = 11 ∨ j = 12 ∨ j = 13 ∨ j = 14 ∨ j = 15 ∨ j = 16 ∨ j = 17 ∨ j = 18 ∨ j = 19 ∨ j = 20 ∨ j = 21 ∨ j = 22 ∨ j = 23 ∨ j = 24 ∨ j = 25 ∨ j = 26 ∨ j = 27 ∨ j = 28 ∨ j = 29 ∨ j = 30 ∨ j = 31 ∨ j = 32 ∨ j = 33 ∨ j = 34 by omega) with rfl | rfl | rfl | rfl | rfl | rfl | rfl | rfl | rfl | rfl | rfl | rfl | rfl | rfl | rfl | rfl | rfl | rfl | rfl | rfl | rfl | rfl | rfl | rfl | rfl | rfl | rfl | rfl | rfl | rfl | rfl | rfl | rfl | rfl | rfl <;> rfl) (Nat.le_of_ble_eq_true rfl) (Nat.le_of_ble_eq_true rfl) d_Law_law_18 (fun q2 H hP hD hS => ?_)
  refine lv_dup hx hb d_Law_law_21 rfl ?_
  refine lv_aload_n hx hb d_Law_law_22 rfl (lv_at hl 1 rfl) ?_
  refine lv_iconst (v := nI 0) hx hb d_Law_law_23 (by decide) ?_
  refine gl_cell hx hb hml hown' hts hX hbl (by omega) hS hP 0 (by decide) hl.1 (Nat.le_of_ble_eq_true rfl) (Nat.le_of_ble_eq_true rfl) (Nat.le_of_ble_eq_true rfl) d_Law_law_24 (fun H locs hP hS => ?_)
  refine lv_aload_n hx hb d_Law_law_27 rfl (lv_at hl 1 rfl) ?_
  refine lv_iconst (v := nI 1) hx hb d_Law_law_28 (by decide) ?_
  refine gl_cell hx hb hml hown' hts hX hbl (by omega) hS hP 1 (by decide) hl.1 (Nat.le_of_ble_eq_true rfl) (Nat.le_of_ble_eq_true rfl) (Nat.le_of_ble_eq_true rfl) d_Law_law_29 (fun H locs hP hS => ?_)
  refine gc_init (va_runI (As := [.int (cellv L xs 0), .int (cellv L xs 1)]) (rest := [.ref q2]) ⟨hx, hb, hml, hown', hts⟩ (kc_Mo l D ac q2 H.size (cellv L xs 0) (cellv L xs 1)) (cwI 2 hts (gG_N gw_805) rfl rfl rfl (hts _ (List.mem_cons_of_mem _ gw_12)) (hts _ (List.mem_cons_of_mem _ gw_803)) (hts _ (List.mem_cons_of_mem _ gw_804)) rfl (by decide +kernel) ⟨Nat.le_of_ble_eq_true rfl, Nat.le_of_ble_eq_true rfl⟩) (gc_pre hK hP) rfl rfl hl.1 rfl (lv_room (Nat.le_of_ble_eq_true rfl)) d_Law_law_32 ⟨Nat.le_of_ble_eq_true rfl, Nat.le_of_ble_eq_true rfl⟩) (fun v => moWs ac v.1 (moLim (cellv L xs 0)) (cellv L xs 1) v.2) (fun v t h => ⟨h.1, h.2.2⟩) hP hD hS hA (fun v H locs hv hP hD hS => ?_)
  obtain ⟨b2, f2⟩ := v
  obtain ⟨hb2, hf2⟩ := hv
  have hb2 : b2 0 = q2 := hb2
  refine lv_astore_n (lv' := [(2, .ref q2), (1, .ref q), (0, .ref b)]) hx hb d_Law_law_35 rfl hl (by decide) rfl (fun ls hl => ?_)
  refine W.widen (k := 120) (n := 122907) (by omega) (by omega) ?_
  refine lv_iconst (v := 1) hx hb d_Law_law_36 (by decide) ?_
  refine gc_newa (atype := .long) (ty := .long) (a0 := (1, .inr (.inl (fun _ => 0)))) (N' := 1) hx hb (hts _ (List.mem_cons_of_mem _ gw_1131)) rfl hK 3 rfl gc_uL hP hD hS hA (fun _ => rfl) (by decide) (by decide) (by decide) (Nat.le_of_ble_eq_true rfl) (Nat.le_of_ble_eq_true rfl) d_Law_law_37 (fun q3 H hP hD hS => ?_)
  refine lv_astore_n (lv' := [(3, .ref q3), (2, .ref q2), (1, .ref q), (0, .ref b)]) hx hb d_Law_law_39 rfl hl (by decide) rfl (fun ls hl => ?_)
  refine lv_iconst (v := 2) hx hb d_Law_law_40 (by decide) ?_
  refine lv_istore (lv' := [(4, .int 2), (3, .ref q3), (2, .ref q2), (1, .ref q), (0, .ref b)]) hx hb d_Law_law_41 hl (by decide) rfl (fun ls hl => ?_)
  refine W.widen (k := 121) (n := 122908) (by omega) (by omega) ?_
  obtain ⟨eM, hM8, hM9⟩ := gM_ok (cellv L xs 0)
  rw [eM] at hP hD
  obtain ⟨hWd, hOK, hfor⟩ := law_world (sz := s.heap.size) hg hP hD
  have hAb : ∀ z : Nat, z < s.heap.size → ¬ gA (gYo D ac a F b2 q3 (gM (cellv L xs 0))) s.heap.size z := fun z hz h => Nat.not_le.mpr hz (hfor z h)
  have hS2 : va_S (gA (gYo D ac a F b2 q3 (gM (cellv L xs 0))) s.heap.size) s.heap H locs := ⟨hS.1, fun z h1 h2 => hS.2.1 z h1 (Nat.not_le.mpr h1), fun l hl => Or.inr (hS.2.2 l hl)⟩
  have is : ∀ (t : Nat) (i : gI), gT i = t → i ∈ nmL → gis (gYo D ac a F b2 q3 (gM (cellv L xs 0))) t i := fun t i h1 h2 => ⟨h1, h2⟩
  refine mw_Law_loop (Y := gYo D ac a F b2 q3 (gM (cellv L xs 0))) ⟨hx, hb, hml, hown', hts, hr, hlocks, hK, hOK, gNs_of hts0, gTab_of hAb hts0 hgv, gxF_of hAb hts0 hgv⟩ hlt hX hbl (hAb b hbl) hfor 514 (0, 0) (30, 0) (60, 0) 2 (g0 (gM (cellv L xs 0)) (cellv L xs 1) u f f2) H locs ls 121 122908 (is 9 (0, 0) rfl (by decide +kernel)) (is 10 (30, 0) rfl (by decide +kernel)) (is 23 (60, 0) rfl (by decide +kernel)) (by omega) (by omega) (law_from_0 hL (gLen_ok hM8 hM9) hu hf hf2) hWd hS2 ?_
  have hl := lv_sub hl [4, 3, 2, 1, 0] (l' := [(0, .ref b), (1, .ref q), (2, .ref q2), (3, .ref q3), (4, .int 2)]) rfl
  rw [← ha, ← hb2] at hl
  exact hl
