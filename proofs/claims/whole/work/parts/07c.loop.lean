def wp_Law_loop (Ln : gI → Nat) (L : Nat) (xs : Nat → Int32) : Nat → gI → gI → gI → Int32 → gS → Prop
  | 0, _, _, _, _, _ => False
  | n43 + 1, x1, x2, x3, x4, S => ((((Int32.ofNat L) - 4) < x4) → (True)) ∧ ((¬ ((Int32.ofNat L) - 4) < x4) → (vp_in x4 L ∧ (((((xs x4.toNatClampNeg) &&& 15).toInt < 0 ∨ 15 < ((xs x4.toNatClampNeg) &&& 15).toInt) → (∀ v4_3 : Int32, v4_3 = x4 + 4 → (wp_Law_loop Ln L xs n43 x1 x2 x3 v4_3 S))) ∧ ((((xs x4.toNatClampNeg) &&& 15) = 0) → (vp_in (x4 + 1) L ∧ (vp_in (x4 + 2) L ∧ (vp_in (x4 + 3) L ∧ (wp_Law_feed Ln (fun r4 S5 => vp_in (x4 + 1) L ∧ (vp_in (x4 + 2) L ∧ (vp_in (x4 + 3) L ∧ (wp_Mo_feed Ln (fun r7 S6 => wp_Mo_thrown Ln (fun r9 S8 => ((r9 = r4) → (((¬ r4 = 0) → (∀ v4_12 : Int32, v4_12 = x4 + 4 → (wp_Law_loop Ln L xs n43 x1 x2 x3 v4_12 S8))) ∧ ((r4 = 0) → (vp_in 0 (Ln x3) ∧ ((((lg_cmp (S8.2 x3 (0 : Int32).toNatClampNeg) (r7.toInt64)) = 0) → (∀ v4_14 : Int32, v4_14 = x4 + 4 → (wp_Law_loop Ln L xs n43 x1 x2 x3 v4_14 S8))) ∧ ((¬ (lg_cmp (S8.2 x3 (0 : Int32).toNatClampNeg) (r7.toInt64)) = 0) → (False))))))) ∧ ((¬ r9 = r4) → (False))) x2 S6) x2 ((ju_lshl ((xs (x4 + 1).toNatClampNeg).toInt64) 32) ||| (((xs (x4 + 2).toNatClampNeg).toInt64) &&& (4294967295 : Int64))) (xs (x4 + 3).toNatClampNeg) S5)))) x1 ((ju_lshl ((xs (x4 + 1).toNatClampNeg).toInt64) 32) ||| (((xs (x4 + 2).toNatClampNeg).toInt64) &&& (4294967295 : Int64))) (xs (x4 + 3).toNatClampNeg) x3 S))))) ∧ ((((xs x4.toNatClampNeg) &&& 15) = 1) → (vp_in (x4 + 1) L ∧ (vp_in (x4 + 2) L ∧ (wp_Law_save Ln (fun r15 S16 => vp_in (x4 + 1) L ∧ (vp_in (x4 + 2) L ∧ (wp_Mo_save Ln (fun r18 S17 => wp_Mo_thrown Ln (fun r20 S19 => ((r20 = r15) → (((¬ r15 = 0) → (∀ v4_23 : Int32, v4_23 = x4 + 4 → (wp_Law_loop Ln L xs n43 x1 x2 x3 v4_23 S19))) ∧ ((r15 = 0) → (vp_in 0 (Ln x3) ∧ ((((lg_cmp (S19.2 x3 (0 : Int32).toNatClampNeg) (r18.toInt64)) = 0) → (∀ v4_25 : Int32, v4_25 = x4 + 4 → (wp_Law_loop Ln L xs n43 x1 x2 x3 v4_25 S19))) ∧ ((¬ (lg_cmp (S19.2 x3 (0 : Int32).toNatClampNeg) (r18.toInt64)) = 0) → (False))))))) ∧ ((¬ r20 = r15) → (False))) x2 S17) x2 (xs (x4 + 1).toNatClampNeg) (xs (x4 + 2).toNatClampNeg) S16))) x1 (xs (x4 + 1).toNatClampNeg) (xs (x4 + 2).toNatClampNeg) x3 S)))) ∧ ((((xs x4.toNatClampNeg) &&& 15) = 2) → (vp_in (x4 + 1) L ∧ (vp_in (x4 + 2) L ∧ (wp_Law_append Ln (fun r26 S27 => vp_in (x4 + 1) L ∧ (vp_in (x4 + 2) L ∧ (wp_Mo_append Ln (fun r29 S28 => wp_Mo_thrown Ln (fun r31 S30 => ((r31 = r26) → (((¬ r26 = 0) → (∀ v4_34 : Int32, v4_34 = x4 + 4 → (wp_Law_loop Ln L xs n43 x1 x2 x3 v4_34 S30))) ∧ ((r26 = 0) → (vp_in 0 (Ln x3) ∧ ((((lg_cmp (S30.2 x3 (0 : Int32).toNatClampNeg) (r29.toInt64)) = 0) → (∀ v4_36 : Int32, v4_36 = x4 + 4 → (wp_Law_loop Ln L xs n43 x1 x2 x3 v4_36 S30))) ∧ ((¬ (lg_cmp (S30.2 x3 (0 : Int32).toNatClampNeg) (r29.toInt64)) = 0) → (False))))))) ∧ ((¬ r31 = r26) → (False))) x2 S28) x2 (xs (x4 + 1).toNatClampNeg) (xs (x4 + 2).toNatClampNeg) S27))) x1 (xs (x4 + 1).toNatClampNeg) (xs (x4 + 2).toNatClampNeg) x3 S)))) ∧ ((((xs x4.toNatClampNeg) &&& 15) = 3) → (vp_in (x4 + 1) L ∧ (wp_Law_cutFrom Ln (fun r37 S38 => vp_in (x4 + 1) L ∧ (wp_Mo_cutFrom Ln (fun r40 S39 => wp_Mo_thrown Ln (fun r42 S41 => ((r42 = r37) → (((¬ r37 = 0) → (∀ v4_45 : Int32, v4_45 = x4 + 4 → (wp_Law_loop Ln L xs n43 x1 x2 x3 v4_45 S41))) ∧ ((r37 = 0) → (vp_in 0 (Ln x3) ∧ ((((lg_cmp (S41.2 x3 (0 : Int32).toNatClampNeg) (r40.toInt64)) = 0) → (∀ v4_47 : Int32, v4_47 = x4 + 4 → (wp_Law_loop Ln L xs n43 x1 x2 x3 v4_47 S41))) ∧ ((¬ (lg_cmp (S41.2 x3 (0 : Int32).toNatClampNeg) (r40.toInt64)) = 0) → (False))))))) ∧ ((¬ r42 = r37) → (False))) x2 S39) x2 (xs (x4 + 1).toNatClampNeg) S38)) x1 (xs (x4 + 1).toNatClampNeg) x3 S))) ∧ ((((xs x4.toNatClampNeg) &&& 15) = 4) → (vp_in (x4 + 1) L ∧ (vp_in (x4 + 2) L ∧ (wp_Law_compact Ln (fun r48 S49 => vp_in (x4 + 1) L ∧ (vp_in (x4 + 2) L ∧ (wp_Mo_compact Ln (fun r51 S50 => wp_Mo_thrown Ln (fun r53 S52 => ((r53 = r48) → (((¬ r48 = 0) → (∀ v4_56 : Int32, v4_56 = x4 + 4 → (wp_Law_loop Ln L xs n43 x1 x2 x3 v4_56 S52))) ∧ ((r48 = 0) → (vp_in 0 (Ln x3) ∧ ((((lg_cmp (S52.2 x3 (0 : Int32).toNatClampNeg) (r51.toInt64)) = 0) → (∀ v4_58 : Int32, v4_58 = x4 + 4 → (wp_Law_loop Ln L xs n43 x1 x2 x3 v4_58 S52))) ∧ ((¬ (lg_cmp (S52.2 x3 (0 : Int32).toNatClampNeg) (r51.toInt64)) = 0) → (False))))))) ∧ ((¬ r53 = r48) → (False))) x2 S50) x2 (xs (x4 + 1).toNatClampNeg) (xs (x4 + 2).toNatClampNeg) S49))) x1 (xs (x4 + 1).toNatClampNeg) (xs (x4 + 2).toNatClampNeg) x3 S)))) ∧ ((((xs x4.toNatClampNeg) &&& 15) = 5) → (vp_in (x4 + 1) L ∧ (vp_in (x4 + 2) L ∧ (vp_in (x4 + 3) L ∧ (wp_Law_take Ln (fun r59 S60 => vp_in (x4 + 1) L ∧ (vp_in (x4 + 2) L ∧ (vp_in (x4 + 3) L ∧ (wp_Mo_take Ln (fun r62 S61 => wp_Mo_thrown Ln (fun r64 S63 => ((r64 = r59) → (((¬ r59 = 0) → (∀ v4_67 : Int32, v4_67 = x4 + 4 → (wp_Law_loop Ln L xs n43 x1 x2 x3 v4_67 S63))) ∧ ((r59 = 0) → (vp_in 0 (Ln x3) ∧ ((((lg_cmp (S63.2 x3 (0 : Int32).toNatClampNeg) (r62.toInt64)) = 0) → (∀ v4_69 : Int32, v4_69 = x4 + 4 → (wp_Law_loop Ln L xs n43 x1 x2 x3 v4_69 S63))) ∧ ((¬ (lg_cmp (S63.2 x3 (0 : Int32).toNatClampNeg) (r62.toInt64)) = 0) → (False))))))) ∧ ((¬ r64 = r59) → (False))) x2 S61) x2 (xs (x4 + 1).toNatClampNeg) (xs (x4 + 2).toNatClampNeg) (xs (x4 + 3).toNatClampNeg) S60)))) x1 (xs (x4 + 1).toNatClampNeg) (xs (x4 + 2).toNatClampNeg) (xs (x4 + 3).toNatClampNeg) x3 S))))) ∧ ((((xs x4.toNatClampNeg) &&& 15) = 6) → (wp_LogDisk_sync Ln (fun r71 S70 => wp_Mo_sync Ln (fun r73 S72 => ((r71 = r73) → (∀ v4_75 : Int32, v4_75 = x4 + 4 → (wp_Law_loop Ln L xs n43 x1 x2 x3 v4_75 S72))) ∧ ((¬ r71 = r73) → (False))) x2 S70) x1 S)) ∧ ((((xs x4.toNatClampNeg) &&& 15) = 7) → (vp_in (x4 + 1) L ∧ (vp_in (x4 + 2) L ∧ (wp_Law_keep Ln (fun r76 S77 => vp_in (x4 + 1) L ∧ (vp_in (x4 + 2) L ∧ (wp_Mo_keep Ln (fun S78 => wp_Mo_thrown Ln (fun r80 S79 => ((r80 = r76) → (∀ v4_82 : Int32, v4_82 = x4 + 4 → (wp_Law_loop Ln L xs n43 x1 x2 x3 v4_82 S79))) ∧ ((¬ r80 = r76) → (False))) x2 S78) x2 (xs (x4 + 1).toNatClampNeg) (xs (x4 + 2).toNatClampNeg) S77))) x1 (xs (x4 + 1).toNatClampNeg) (xs (x4 + 2).toNatClampNeg) S)))) ∧ ((((xs x4.toNatClampNeg) &&& 15) = 8) → (vp_in (x4 + 1) L ∧ (vp_in (x4 + 2) L ∧ (wp_LogDisk_crash Ln (fun r84 S83 => vp_in (x4 + 1) L ∧ (vp_in (x4 + 2) L ∧ (wp_Mo_crash Ln (fun r86 S85 => ((r84 = r86) → (∀ v4_88 : Int32, v4_88 = x4 + 4 → (wp_Law_loop Ln L xs n43 x1 x2 x3 v4_88 S85))) ∧ ((¬ r84 = r86) → (False))) x2 ((ju_lshl ((xs (x4 + 1).toNatClampNeg).toInt64) 32) ||| (((xs (x4 + 2).toNatClampNeg).toInt64) &&& (4294967295 : Int64))) S83))) x1 ((ju_lshl ((xs (x4 + 1).toNatClampNeg).toInt64) 32) ||| (((xs (x4 + 2).toNatClampNeg).toInt64) &&& (4294967295 : Int64))) S)))) ∧ ((((xs x4.toNatClampNeg) &&& 15) = 9) → (vp_in (x4 + 1) L ∧ (wp_Law_state Ln (fun r89 S90 => vp_in (x4 + 1) L ∧ (wp_Mo_state Ln (fun r92 S91 => wp_Mo_thrown Ln (fun r94 S93 => ((r94 = r89) → (((¬ r89 = 0) → (∀ v4_97 : Int32, v4_97 = x4 + 4 → (wp_Law_loop Ln L xs n43 x1 x2 x3 v4_97 S93))) ∧ ((r89 = 0) → (vp_in 0 (Ln x3) ∧ ((((lg_cmp (S93.2 x3 (0 : Int32).toNatClampNeg) (r92.toInt64)) = 0) → (∀ v4_99 : Int32, v4_99 = x4 + 4 → (wp_Law_loop Ln L xs n43 x1 x2 x3 v4_99 S93))) ∧ ((¬ (lg_cmp (S93.2 x3 (0 : Int32).toNatClampNeg) (r92.toInt64)) = 0) → (False))))))) ∧ ((¬ r94 = r89) → (False))) x2 S91) x2 (xs (x4 + 1).toNatClampNeg) S90)) x1 (xs (x4 + 1).toNatClampNeg) x3 S))) ∧ ((((xs x4.toNatClampNeg) &&& 15) = 10) → (vp_in (x4 + 1) L ∧ (vp_in (x4 + 2) L ∧ (wp_Law_entry Ln (fun r100 S101 => vp_in (x4 + 1) L ∧ (vp_in (x4 + 2) L ∧ (wp_Mo_entry Ln (fun r103 S102 => wp_Mo_thrown Ln (fun r105 S104 => ((r105 = r100) → (((¬ r100 = 0) → (∀ v4_108 : Int32, v4_108 = x4 + 4 → (wp_Law_loop Ln L xs n43 x1 x2 x3 v4_108 S104))) ∧ ((r100 = 0) → (vp_in 0 (Ln x3) ∧ ((((lg_cmp (S104.2 x3 (0 : Int32).toNatClampNeg) (r103.toInt64)) = 0) → (∀ v4_110 : Int32, v4_110 = x4 + 4 → (wp_Law_loop Ln L xs n43 x1 x2 x3 v4_110 S104))) ∧ ((¬ (lg_cmp (S104.2 x3 (0 : Int32).toNatClampNeg) (r103.toInt64)) = 0) → (False))))))) ∧ ((¬ r105 = r100) → (False))) x2 S102) x2 (xs (x4 + 1).toNatClampNeg) (xs (x4 + 2).toNatClampNeg) S101))) x1 (xs (x4 + 1).toNatClampNeg) (xs (x4 + 2).toNatClampNeg) x3 S)))) ∧ ((((xs x4.toNatClampNeg) &&& 15) = 11) → (vp_in (x4 + 1) L ∧ (vp_in (x4 + 2) L ∧ (wp_Law_contentAt Ln (fun r111 S112 => vp_in (x4 + 1) L ∧ (vp_in (x4 + 2) L ∧ (wp_Mo_contentAt Ln (fun r114 S113 => wp_Mo_thrown Ln (fun r116 S115 => ((r116 = r111) → (((¬ r111 = 0) → (∀ v4_119 : Int32, v4_119 = x4 + 4 → (wp_Law_loop Ln L xs n43 x1 x2 x3 v4_119 S115))) ∧ ((r111 = 0) → (vp_in 0 (Ln x3) ∧ ((((lg_cmp (S115.2 x3 (0 : Int32).toNatClampNeg) (r114.toInt64)) = 0) → (∀ v4_121 : Int32, v4_121 = x4 + 4 → (wp_Law_loop Ln L xs n43 x1 x2 x3 v4_121 S115))) ∧ ((¬ (lg_cmp (S115.2 x3 (0 : Int32).toNatClampNeg) (r114.toInt64)) = 0) → (False))))))) ∧ ((¬ r116 = r111) → (False))) x2 S113) x2 (xs (x4 + 1).toNatClampNeg) (xs (x4 + 2).toNatClampNeg) S112))) x1 (xs (x4 + 1).toNatClampNeg) (xs (x4 + 2).toNatClampNeg) x3 S)))) ∧ ((((xs x4.toNatClampNeg) &&& 15) = 12) → (vp_in (x4 + 1) L ∧ (wp_Law_snapshotAt Ln (fun r122 S123 => vp_in (x4 + 1) L ∧ (wp_Mo_snapshotAt Ln (fun r125 S124 => wp_Mo_thrown Ln (fun r127 S126 => ((r127 = r122) → (((¬ r122 = 0) → (∀ v4_130 : Int32, v4_130 = x4 + 4 → (wp_Law_loop Ln L xs n43 x1 x2 x3 v4_130 S126))) ∧ ((r122 = 0) → (vp_in 0 (Ln x3) ∧ ((((lg_cmp (S126.2 x3 (0 : Int32).toNatClampNeg) (r125.toInt64)) = 0) → (∀ v4_132 : Int32, v4_132 = x4 + 4 → (wp_Law_loop Ln L xs n43 x1 x2 x3 v4_132 S126))) ∧ ((¬ (lg_cmp (S126.2 x3 (0 : Int32).toNatClampNeg) (r125.toInt64)) = 0) → (False))))))) ∧ ((¬ r127 = r122) → (False))) x2 S124) x2 (xs (x4 + 1).toNatClampNeg) S123)) x1 (xs (x4 + 1).toNatClampNeg) x3 S))) ∧ ((((xs x4.toNatClampNeg) &&& 15) = 13) → (vp_in (x4 + 1) L ∧ (vp_in (x4 + 2) L ∧ (wp_Law_segment Ln (fun r133 S134 => vp_in (x4 + 1) L ∧ (vp_in (x4 + 2) L ∧ (wp_Mo_segment Ln (fun r136 S135 => wp_Mo_thrown Ln (fun r138 S137 => ((r138 = r133) → (((¬ r133 = 0) → (∀ v4_141 : Int32, v4_141 = x4 + 4 → (wp_Law_loop Ln L xs n43 x1 x2 x3 v4_141 S137))) ∧ ((r133 = 0) → (vp_in 0 (Ln x3) ∧ ((((lg_cmp (S137.2 x3 (0 : Int32).toNatClampNeg) (r136.toInt64)) = 0) → (∀ v4_143 : Int32, v4_143 = x4 + 4 → (wp_Law_loop Ln L xs n43 x1 x2 x3 v4_143 S137))) ∧ ((¬ (lg_cmp (S137.2 x3 (0 : Int32).toNatClampNeg) (r136.toInt64)) = 0) → (False))))))) ∧ ((¬ r138 = r133) → (False))) x2 S135) x2 (xs (x4 + 1).toNatClampNeg) (xs (x4 + 2).toNatClampNeg) S134))) x1 (xs (x4 + 1).toNatClampNeg) (xs (x4 + 2).toNatClampNeg) x3 S)))) ∧ ((((xs x4.toNatClampNeg) &&& 15) = 14) → (vp_in (x4 + 1) L ∧ (vp_in (x4 + 2) L ∧ (wp_Law_file Ln (fun r144 S145 => vp_in (x4 + 1) L ∧ (vp_in (x4 + 2) L ∧ (wp_Mo_file Ln (fun r147 S146 => wp_Mo_thrown Ln (fun r149 S148 => ((r149 = r144) → (((¬ r144 = 0) → (∀ v4_152 : Int32, v4_152 = x4 + 4 → (wp_Law_loop Ln L xs n43 x1 x2 x3 v4_152 S148))) ∧ ((r144 = 0) → (vp_in 0 (Ln x3) ∧ ((((lg_cmp (S148.2 x3 (0 : Int32).toNatClampNeg) (r147.toInt64)) = 0) → (∀ v4_154 : Int32, v4_154 = x4 + 4 → (wp_Law_loop Ln L xs n43 x1 x2 x3 v4_154 S148))) ∧ ((¬ (lg_cmp (S148.2 x3 (0 : Int32).toNatClampNeg) (r147.toInt64)) = 0) → (False))))))) ∧ ((¬ r149 = r144) → (False))) x2 S146) x2 (xs (x4 + 1).toNatClampNeg) (xs (x4 + 2).toNatClampNeg) S145))) x1 (xs (x4 + 1).toNatClampNeg) (xs (x4 + 2).toNatClampNeg) x3 S)))) ∧ ((((xs x4.toNatClampNeg) &&& 15) = 15) → (vp_in (x4 + 1) L ∧ (vp_in (x4 + 2) L ∧ (wp_Law_byteAt Ln (fun r155 S156 => vp_in (x4 + 1) L ∧ (vp_in (x4 + 2) L ∧ (wp_Mo_byteAt Ln (fun r158 S157 => wp_Mo_thrown Ln (fun r160 S159 => ((r160 = r155) → (((¬ r155 = 0) → (∀ v4_163 : Int32, v4_163 = x4 + 4 → (wp_Law_loop Ln L xs n43 x1 x2 x3 v4_163 S159))) ∧ ((r155 = 0) → (vp_in 0 (Ln x3) ∧ ((((lg_cmp (S159.2 x3 (0 : Int32).toNatClampNeg) (r158.toInt64)) = 0) → (∀ v4_165 : Int32, v4_165 = x4 + 4 → (wp_Law_loop Ln L xs n43 x1 x2 x3 v4_165 S159))) ∧ ((¬ (lg_cmp (S159.2 x3 (0 : Int32).toNatClampNeg) (r158.toInt64)) = 0) → (False))))))) ∧ ((¬ r160 = r155) → (False))) x2 S157) x2 (xs (x4 + 1).toNatClampNeg) (xs (x4 + 2).toNatClampNeg) S156))) x1 (xs (x4 + 1).toNatClampNeg) (xs (x4 + 2).toNatClampNeg) x3 S)))))))
set_option maxHeartbeats 40000000 in
set_option maxRecDepth 100000 in
theorem mw_Law_loop {p : Program} {l : Launch} {e : Env} {s : State} {m : MethodId} {below : List Frame} {meth : Method} {c : Code} {Y : gY} {b L : Nat} {xs : Nat → Int32} (C : gCx p s m #[Value.ref b] meth c Y "LogDiskLaw" code 7 ret (Cond.tt :: gTb)) (hlt : l.stackTraces = false) (hX : va_X b L xs s s.heap) (hbl : b < s.heap.size) (hbA : ¬ gA Y s.heap.size b) (hfor : ∀ q, gA Y s.heap.size q → s.heap.size ≤ q) :
    ∀ (n : Nat) (x1 x2 x3 : gI) (x4 : Int32) (S : gS) (H : Heap) (locs : List Loc) (ls : Array Slot) (cells slots : Nat), gis Y 9 x1 → gis Y 10 x2 → gis Y 23 x3 → cells + n ≤ 600000 → slots + 6 * n ≤ 7000000 → wp_Law_loop (gLn Y) L xs n x1 x2 x3 x4 S → gWd Y S H → va_S (gA Y s.heap.size) s.heap H locs → lv_has ls 7 [(0, .ref b), (1, .ref (gad Y x1)), (2, .ref (gad Y x2)), (3, .ref (gad Y x3)), (4, .int x4)] → W p l e room_1 s m #[Value.ref b] below meth c H locs cells slots (lw_Z below #[Value.ref b] s) (F0 m 43 ls []) := by
  obtain ⟨hx, hb, hml, hown, hts, hr, hlocks, hK, hY, hSt⟩ := C
  intro n
  induction n with
  | zero =>
    intro x1 x2 x3 x4 S H locs ls cells slots hx1 hx2 hx3 hc1 hc2 hw
    exact False.elim hw
  | succ n ih =>
    intro x1 x2 x3 x4 S H locs ls cells slots hx1 hx2 hx3 hc1 hc2 hw hP hS hl
    unfold wp_Law_loop at hw
    refine lv_iload hx hb d_Law_law_43 (lv_at hl 4 rfl) ?_
    refine lv_aload_n hx hb d_Law_law_45 rfl (lv_at hl 0 rfl) ?_
    refine va_slen hx hb hX hbl hbA hS d_Law_law_46 ?_
    refine lv_iconst (v := 4) hx hb d_Law_law_47 (by decide) ?_
    refine lv_isub hx hb d_Law_law_48 ?_
    refine lv_icmp_gt (tgt := 1152) hx hb d_Law_law_49 (by decide) (fun c1 => ?_) (fun c1 => ?_)
    · replace hw := hw.1 c1
      refine lv_iconst (v := 1) hx hb d_Law_law_1152 (by decide) ?_
      refine va_forget (fun q hq => hfor _ (hS.2.2 q hq)) ?_
      refine W.widen (k := 601024) (n := 7293000) (by omega) (by omega) ?_
      exact lw_ret hx hb hr hlocks d_Law_law_1153
    · replace hw := hw.2 c1
      refine lv_aload_n hx hb d_Law_law_52 rfl (lv_at hl 0 rfl) ?_
      refine lv_iload hx hb d_Law_law_53 (lv_at hl 4 rfl) ?_
      obtain ⟨hin, hw⟩ := hw
      refine va_sld hx hb hX hbl hbA hS hin d_Law_law_55 ?_
      refine lv_bipush (v := 15) hx hb d_Law_law_56 (by decide) ?_
      refine lv_iand hx hb d_Law_law_58 ?_
      rcases g_sw_0_15 ((xs x4.toNatClampNeg) &&& 15) with c2 | c2 | c2 | c2 | c2 | c2 | c2 | c2 | c2 | c2 | c2 | c2 | c2 | c2 | c2 | c2 | c2
      · replace hw := hw.1 c2
        refine lv_tableOut (tgt := 1146) hx hb d_Law_law_59 c2 (by decide) ?_
        obtain ⟨v4_3, ev4_3⟩ : ∃ y : Int32, y = x4 + 4 := ⟨_, rfl⟩
        replace hw := hw v4_3 ev4_3
        refine lv_iinc (v := v4_3) (lv' := [(4, .int v4_3), (0, .ref b), (1, .ref (gad Y x1)), (2, .ref (gad Y x2)), (3, .ref (gad Y x3))]) hx hb d_Law_law_1146 hl (k := 4) rfl (by rw [ev4_3]; rfl) (by decide) rfl (fun ls hl => ?_)
        refine lv_goto (tgt := 43) hx hb d_Law_law_1149 (by decide) ?_
        exact ih x1 x2 x3 v4_3 S H locs ls _ _ hx1 hx2 hx3 (by omega) (by omega) hw hP hS (lv_sub hl [1, 2, 3, 4, 0] rfl)
      · replace hw := hw.2.1 c2
        rw [c2]
        refine lv_tableIn (tgt := 136) (off := 77) hx hb d_Law_law_59 (by decide) (by decide) (by decide) (by decide) ?_
        refine lv_aload_n hx hb d_Law_law_136 rfl (lv_at hl 1 rfl) ?_
        refine lv_aload_n hx hb d_Law_law_137 rfl (lv_at hl 0 rfl) ?_
        refine lv_iload hx hb d_Law_law_138 (lv_at hl 4 rfl) ?_
        refine lv_iconst (v := 1) hx hb d_Law_law_140 (by decide) ?_
        refine lv_iadd hx hb d_Law_law_141 ?_
        obtain ⟨hin, hw⟩ := hw
        refine va_sld hx hb hX hbl hbA hS hin d_Law_law_142 ?_
        refine lv_i2l hx hb d_Law_law_143 rfl ?_
        refine lv_bipush (v := 32) hx hb d_Law_law_144 (by decide) ?_
        refine lv_lshl hx hb d_Law_law_146 rfl ?_
        refine lv_aload_n hx hb d_Law_law_147 rfl (lv_at hl 0 rfl) ?_
        refine lv_iload hx hb d_Law_law_148 (lv_at hl 4 rfl) ?_
        refine lv_iconst (v := 2) hx hb d_Law_law_150 (by decide) ?_
        refine lv_iadd hx hb d_Law_law_151 ?_
        obtain ⟨hin, hw⟩ := hw
        refine va_sld hx hb hX hbl hbA hS hin d_Law_law_152 ?_
        refine lv_i2l hx hb d_Law_law_153 rfl ?_
        refine lv_ldc2 (v := 4294967295) hx hb hown (hts _ (List.mem_cons_of_mem _ gw_1130)) d_Law_law_154 ?_
        refine lv_land hx hb d_Law_law_157 ?_
        refine lv_lor hx hb d_Law_law_158 ?_
        refine lv_aload_n hx hb d_Law_law_159 rfl (lv_at hl 0 rfl) ?_
        refine lv_iload hx hb d_Law_law_160 (lv_at hl 4 rfl) ?_
        refine lv_iconst (v := 3) hx hb d_Law_law_162 (by decide) ?_
        refine lv_iadd hx hb d_Law_law_163 ?_
        obtain ⟨hin, hw⟩ := hw
        refine va_sld hx hb hX hbl hbA hS hin d_Law_law_164 ?_
        refine lv_aload_n hx hb d_Law_law_165 rfl (lv_at hl 3 rfl) ?_
        refine gx_helper (gx_runH (n := 4) (As := [.ref (gad Y x1), .long ((ju_lshl ((xs (x4 + 1).toNatClampNeg).toInt64) 32) ||| (((xs (x4 + 2).toNatClampNeg).toInt64) &&& (4294967295 : Int64))), .int (xs (x4 + 3).toNatClampNeg), .ref (gad Y x3)]) (rest := []) ⟨hx, hb, hml, hown, hts⟩ (k_Law_feed l hlt Y hY H.size x1 ((ju_lshl ((xs (x4 + 1).toNatClampNeg).toInt64) 32) ||| (((xs (x4 + 2).toNatClampNeg).toInt64) &&& (4294967295 : Int64))) (xs (x4 + 3).toNatClampNeg) x3 hx1 hx3 S _) rfl rfl (Nat.le_of_ble_eq_true rfl) (Nat.le_of_ble_eq_true rfl) (gG_S gw_425 gw_426 gw_0 gw_427) List.mem_cons_self (by decide +kernel) ⟨gPre_blind, g_pre hK hSt hS hP hw⟩ rfl rfl hl.1 rfl (lv_room (Nat.le_of_ble_eq_true rfl)) d_Law_law_166 ⟨by show _ ≤ 601024; omega, by show _ ≤ 7293000; omega⟩) hS (fun r4 S5 H locs hw hP hS => ?_)
        refine lv_istore (lv' := [(5, .int r4), (0, .ref b), (1, .ref (gad Y x1)), (2, .ref (gad Y x2)), (3, .ref (gad Y x3)), (4, .int x4)]) hx hb d_Law_law_169 hl (by decide) rfl (fun ls hl => ?_)
        refine lv_aload_n hx hb d_Law_law_171 rfl (lv_at hl 3 rfl) ?_
        refine lv_aload_n hx hb d_Law_law_172 rfl (lv_at hl 1 rfl) ?_
        refine lv_iload hx hb d_Law_law_173 (lv_at hl 5 rfl) ?_
        refine lv_iconst (v := 1) hx hb d_Law_law_175 (by decide) ?_
        refine lv_iadd hx hb d_Law_law_176 ?_
        obtain ⟨hin, hw⟩ := hw
        refine va_sld hx hb hX hbl hbA hS hin d_Law_law_177 ?_
        refine lv_i2l hx hb d_Law_law_178 rfl ?_
        refine lv_bipush (v := 32) hx hb d_Law_law_179 (by decide) ?_
        refine lv_lshl hx hb d_Law_law_181 rfl ?_
        refine lv_aload_n hx hb d_Law_law_182 rfl (lv_at hl 1 rfl) ?_
        refine lv_iload hx hb d_Law_law_183 (lv_at hl 5 rfl) ?_
        refine lv_iconst (v := 2) hx hb d_Law_law_185 (by decide) ?_
        refine lv_iadd hx hb d_Law_law_186 ?_
        obtain ⟨hin, hw⟩ := hw
        refine va_sld hx hb hX hbl hbA hS hin d_Law_law_187 ?_
        refine lv_i2l hx hb d_Law_law_188 rfl ?_
        refine lv_ldc2 (v := 4294967295) hx hb hown (hts _ (List.mem_cons_of_mem _ gw_1130)) d_Law_law_189 ?_
        refine lv_land hx hb d_Law_law_192 ?_
        refine lv_lor hx hb d_Law_law_193 ?_
        refine lv_aload_n hx hb d_Law_law_194 rfl (lv_at hl 1 rfl) ?_
        refine lv_iload hx hb d_Law_law_195 (lv_at hl 5 rfl) ?_
        refine lv_iconst (v := 3) hx hb d_Law_law_197 (by decide) ?_
        refine lv_iadd hx hb d_Law_law_198 ?_
        obtain ⟨hin, hw⟩ := hw
        refine va_sld hx hb hX hbl hbA hS hin d_Law_law_199 ?_
        refine g_calli (va_runV (As := [.long ((ju_lshl ((xs (x4 + 1).toNatClampNeg).toInt64) 32) ||| (((xs (x4 + 2).toNatClampNeg).toInt64) &&& (4294967295 : Int64))), .int (xs (x4 + 3).toNatClampNeg)]) (rest := []) ⟨hx, hb, hml, hown, hts⟩ (k_Mo_feed l Y hY H.size x2 ((ju_lshl ((xs (x4 + 1).toNatClampNeg).toInt64) 32) ||| (((xs (x4 + 2).toNatClampNeg).toInt64) &&& (4294967295 : Int64))) (xs (x4 + 3).toNatClampNeg) hx2 S5 _) (cwV 2 hts (gG_V gw_918 gw_919 gw_920 gw_12 gw_921) rfl rfl rfl (by decide +kernel) ⟨Nat.le_of_ble_eq_true rfl, Nat.le_of_ble_eq_true rfl⟩) ⟨gPre_blind, g_recv hK hP hx2 (gce_Mo hx2.1) rfl, g_pre hK hSt hS hP hw⟩ rfl rfl hl.1 rfl (lv_room (Nat.le_of_ble_eq_true rfl)) d_Law_law_200 ⟨by show _ ≤ 601024; omega, by show _ ≤ 7293000; omega⟩) hS (fun r7 S6 H locs hw hP hS => ?_)
        refine lv_istore (lv' := [(6, .int r7), (5, .int r4), (0, .ref b), (1, .ref (gad Y x1)), (2, .ref (gad Y x2)), (3, .ref (gad Y x3)), (4, .int x4)]) hx hb d_Law_law_203 hl (by decide) rfl (fun ls hl => ?_)
        refine lv_aload_n hx hb d_Law_law_205 rfl (lv_at hl 4 rfl) ?_
        refine g_calli (va_runV (As := []) (rest := []) ⟨hx, hb, hml, hown, hts⟩ (k_Mo_thrown l Y hY H.size x2 hx2 S6 _) (cwV 0 hts (gG_V gw_914 gw_915 gw_916 gw_12 gw_917) rfl rfl rfl (by decide +kernel) ⟨Nat.le_of_ble_eq_true rfl, Nat.le_of_ble_eq_true rfl⟩) ⟨gPre_blind, g_recv hK hP hx2 (gce_Mo hx2.1) rfl, g_pre hK hSt hS hP hw⟩ rfl rfl hl.1 rfl (lv_room (Nat.le_of_ble_eq_true rfl)) d_Law_law_206 ⟨by show _ ≤ 601024; omega, by show _ ≤ 7293000; omega⟩) hS (fun r9 S8 H locs hw hP hS => ?_)
        refine lv_iload hx hb d_Law_law_209 (lv_at hl 1 rfl) ?_
        refine lv_icmp_eq (tgt := 216) hx hb d_Law_law_211 (by decide) (fun c10 => ?_) (fun c10 => ?_)
        · replace hw := hw.1 c10
          refine lv_iload hx hb d_Law_law_216 (lv_at hl 1 rfl) ?_
          refine lv_if_ne (tgt := 233) hx hb d_Law_law_218 (by decide) (fun c11 => ?_) (fun c11 => ?_)
          · replace hw := hw.1 c11
            refine lv_goto (tgt := 1146) hx hb d_Law_law_233 (by decide) ?_
            obtain ⟨v4_12, ev4_12⟩ : ∃ y : Int32, y = x4 + 4 := ⟨_, rfl⟩
            replace hw := hw v4_12 ev4_12
            refine lv_iinc (v := v4_12) (lv' := [(4, .int v4_12), (6, .int r7), (5, .int r4), (0, .ref b), (1, .ref (gad Y x1)), (2, .ref (gad Y x2)), (3, .ref (gad Y x3))]) hx hb d_Law_law_1146 hl (k := 6) rfl (by rw [ev4_12]; rfl) (by decide) rfl (fun ls hl => ?_)
            refine lv_goto (tgt := 43) hx hb d_Law_law_1149 (by decide) ?_
            exact ih x1 x2 x3 v4_12 S8 H locs ls _ _ hx1 hx2 hx3 (by omega) (by omega) hw hP hS (lv_sub hl [3, 4, 5, 6, 0] rfl)
          · replace hw := hw.2 c11
            refine lv_aload_n hx hb d_Law_law_221 rfl (lv_at hl 5 rfl) ?_
            refine lv_iconst (v := 0) hx hb d_Law_law_222 (by decide) ?_
            obtain ⟨hin, hw⟩ := hw
            refine g_laload hx hb hK hP hx3 hin d_Law_law_223 ?_
            refine lv_iload hx hb d_Law_law_224 (lv_at hl 0 rfl) ?_
            refine lv_i2l hx hb d_Law_law_226 rfl ?_
            refine W.lcmp hx hb d_Law_law_227 ?_
            refine lv_if_eq (tgt := 233) hx hb d_Law_law_228 (by decide) (fun c13 => ?_) (fun c13 => ?_)
            · replace hw := hw.1 c13
              refine lv_goto (tgt := 1146) hx hb d_Law_law_233 (by decide) ?_
              obtain ⟨v4_14, ev4_14⟩ : ∃ y : Int32, y = x4 + 4 := ⟨_, rfl⟩
              replace hw := hw v4_14 ev4_14
              refine lv_iinc (v := v4_14) (lv' := [(4, .int v4_14), (6, .int r7), (5, .int r4), (0, .ref b), (1, .ref (gad Y x1)), (2, .ref (gad Y x2)), (3, .ref (gad Y x3))]) hx hb d_Law_law_1146 hl (k := 6) rfl (by rw [ev4_14]; rfl) (by decide) rfl (fun ls hl => ?_)
              refine lv_goto (tgt := 43) hx hb d_Law_law_1149 (by decide) ?_
              exact ih x1 x2 x3 v4_14 S8 H locs ls _ _ hx1 hx2 hx3 (by omega) (by omega) hw hP hS (lv_sub hl [3, 4, 5, 6, 0] rfl)
            · replace hw := hw.2 c13
              refine lv_iconst (v := 0) hx hb d_Law_law_231 (by decide) ?_
              exact hw.elim
        · replace hw := hw.2 c10
          refine lv_iconst (v := 0) hx hb d_Law_law_214 (by decide) ?_
          exact hw.elim
      · replace hw := hw.2.2.1 c2
        rw [c2]
        refine lv_tableIn (tgt := 236) (off := 177) hx hb d_Law_law_59 (by decide) (by decide) (by decide) (by decide) ?_
        refine lv_aload_n hx hb d_Law_law_236 rfl (lv_at hl 1 rfl) ?_
        refine lv_aload_n hx hb d_Law_law_237 rfl (lv_at hl 0 rfl) ?_
        refine lv_iload hx hb d_Law_law_238 (lv_at hl 4 rfl) ?_
        refine lv_iconst (v := 1) hx hb d_Law_law_240 (by decide) ?_
        refine lv_iadd hx hb d_Law_law_241 ?_
        obtain ⟨hin, hw⟩ := hw
        refine va_sld hx hb hX hbl hbA hS hin d_Law_law_242 ?_
        refine lv_aload_n hx hb d_Law_law_243 rfl (lv_at hl 0 rfl) ?_
        refine lv_iload hx hb d_Law_law_244 (lv_at hl 4 rfl) ?_
        refine lv_iconst (v := 2) hx hb d_Law_law_246 (by decide) ?_
        refine lv_iadd hx hb d_Law_law_247 ?_
        obtain ⟨hin, hw⟩ := hw
        refine va_sld hx hb hX hbl hbA hS hin d_Law_law_248 ?_
        refine lv_aload_n hx hb d_Law_law_249 rfl (lv_at hl 3 rfl) ?_
        refine gx_helper (gx_runH (n := 4) (As := [.ref (gad Y x1), .int (xs (x4 + 1).toNatClampNeg), .int (xs (x4 + 2).toNatClampNeg), .ref (gad Y x3)]) (rest := []) ⟨hx, hb, hml, hown, hts⟩ (k_Law_save l hlt Y hY H.size x1 (xs (x4 + 1).toNatClampNeg) (xs (x4 + 2).toNatClampNeg) x3 hx1 hx3 S _) rfl rfl (Nat.le_of_ble_eq_true rfl) (Nat.le_of_ble_eq_true rfl) (gG_S gw_519 gw_520 gw_0 gw_521) List.mem_cons_self (by decide +kernel) ⟨gPre_blind, g_pre hK hSt hS hP hw⟩ rfl rfl hl.1 rfl (lv_room (Nat.le_of_ble_eq_true rfl)) d_Law_law_250 ⟨by show _ ≤ 601024; omega, by show _ ≤ 7293000; omega⟩) hS (fun r15 S16 H locs hw hP hS => ?_)
        refine lv_istore (lv' := [(5, .int r15), (0, .ref b), (1, .ref (gad Y x1)), (2, .ref (gad Y x2)), (3, .ref (gad Y x3)), (4, .int x4)]) hx hb d_Law_law_253 hl (by decide) rfl (fun ls hl => ?_)
        refine lv_aload_n hx hb d_Law_law_255 rfl (lv_at hl 3 rfl) ?_
        refine lv_aload_n hx hb d_Law_law_256 rfl (lv_at hl 1 rfl) ?_
        refine lv_iload hx hb d_Law_law_257 (lv_at hl 5 rfl) ?_
        refine lv_iconst (v := 1) hx hb d_Law_law_259 (by decide) ?_
        refine lv_iadd hx hb d_Law_law_260 ?_
        obtain ⟨hin, hw⟩ := hw
        refine va_sld hx hb hX hbl hbA hS hin d_Law_law_261 ?_
        refine lv_aload_n hx hb d_Law_law_262 rfl (lv_at hl 1 rfl) ?_
        refine lv_iload hx hb d_Law_law_263 (lv_at hl 5 rfl) ?_
        refine lv_iconst (v := 2) hx hb d_Law_law_265 (by decide) ?_
        refine lv_iadd hx hb d_Law_law_266 ?_
        obtain ⟨hin, hw⟩ := hw
        refine va_sld hx hb hX hbl hbA hS hin d_Law_law_267 ?_
        refine g_calli (va_runV (As := [.int (xs (x4 + 1).toNatClampNeg), .int (xs (x4 + 2).toNatClampNeg)]) (rest := []) ⟨hx, hb, hml, hown, hts⟩ (k_Mo_save l Y hY H.size x2 (xs (x4 + 1).toNatClampNeg) (xs (x4 + 2).toNatClampNeg) hx2 S16 _) (cwV 2 hts (gG_V gw_933 gw_934 gw_935 gw_12 gw_936) rfl rfl rfl (by decide +kernel) ⟨Nat.le_of_ble_eq_true rfl, Nat.le_of_ble_eq_true rfl⟩) ⟨gPre_blind, g_recv hK hP hx2 (gce_Mo hx2.1) rfl, g_pre hK hSt hS hP hw⟩ rfl rfl hl.1 rfl (lv_room (Nat.le_of_ble_eq_true rfl)) d_Law_law_268 ⟨by show _ ≤ 601024; omega, by show _ ≤ 7293000; omega⟩) hS (fun r18 S17 H locs hw hP hS => ?_)
        refine lv_istore (lv' := [(6, .int r18), (5, .int r15), (0, .ref b), (1, .ref (gad Y x1)), (2, .ref (gad Y x2)), (3, .ref (gad Y x3)), (4, .int x4)]) hx hb d_Law_law_271 hl (by decide) rfl (fun ls hl => ?_)
        refine lv_aload_n hx hb d_Law_law_273 rfl (lv_at hl 4 rfl) ?_
        refine g_calli (va_runV (As := []) (rest := []) ⟨hx, hb, hml, hown, hts⟩ (k_Mo_thrown l Y hY H.size x2 hx2 S17 _) (cwV 0 hts (gG_V gw_914 gw_915 gw_916 gw_12 gw_917) rfl rfl rfl (by decide +kernel) ⟨Nat.le_of_ble_eq_true rfl, Nat.le_of_ble_eq_true rfl⟩) ⟨gPre_blind, g_recv hK hP hx2 (gce_Mo hx2.1) rfl, g_pre hK hSt hS hP hw⟩ rfl rfl hl.1 rfl (lv_room (Nat.le_of_ble_eq_true rfl)) d_Law_law_274 ⟨by show _ ≤ 601024; omega, by show _ ≤ 7293000; omega⟩) hS (fun r20 S19 H locs hw hP hS => ?_)
        refine lv_iload hx hb d_Law_law_277 (lv_at hl 1 rfl) ?_
        refine lv_icmp_eq (tgt := 284) hx hb d_Law_law_279 (by decide) (fun c21 => ?_) (fun c21 => ?_)
        · replace hw := hw.1 c21
          refine lv_iload hx hb d_Law_law_284 (lv_at hl 1 rfl) ?_
          refine lv_if_ne (tgt := 301) hx hb d_Law_law_286 (by decide) (fun c22 => ?_) (fun c22 => ?_)
          · replace hw := hw.1 c22
            refine lv_goto (tgt := 1146) hx hb d_Law_law_301 (by decide) ?_
            obtain ⟨v4_23, ev4_23⟩ : ∃ y : Int32, y = x4 + 4 := ⟨_, rfl⟩
            replace hw := hw v4_23 ev4_23
            refine lv_iinc (v := v4_23) (lv' := [(4, .int v4_23), (6, .int r18), (5, .int r15), (0, .ref b), (1, .ref (gad Y x1)), (2, .ref (gad Y x2)), (3, .ref (gad Y x3))]) hx hb d_Law_law_1146 hl (k := 6) rfl (by rw [ev4_23]; rfl) (by decide) rfl (fun ls hl => ?_)
            refine lv_goto (tgt := 43) hx hb d_Law_law_1149 (by decide) ?_
            exact ih x1 x2 x3 v4_23 S19 H locs ls _ _ hx1 hx2 hx3 (by omega) (by omega) hw hP hS (lv_sub hl [3, 4, 5, 6, 0] rfl)
          · replace hw := hw.2 c22
            refine lv_aload_n hx hb d_Law_law_289 rfl (lv_at hl 5 rfl) ?_
            refine lv_iconst (v := 0) hx hb d_Law_law_290 (by decide) ?_
            obtain ⟨hin, hw⟩ := hw
            refine g_laload hx hb hK hP hx3 hin d_Law_law_291 ?_
            refine lv_iload hx hb d_Law_law_292 (lv_at hl 0 rfl) ?_
            refine lv_i2l hx hb d_Law_law_294 rfl ?_
            refine W.lcmp hx hb d_Law_law_295 ?_
            refine lv_if_eq (tgt := 301) hx hb d_Law_law_296 (by decide) (fun c24 => ?_) (fun c24 => ?_)
            · replace hw := hw.1 c24
              refine lv_goto (tgt := 1146) hx hb d_Law_law_301 (by decide) ?_
              obtain ⟨v4_25, ev4_25⟩ : ∃ y : Int32, y = x4 + 4 := ⟨_, rfl⟩
              replace hw := hw v4_25 ev4_25
              refine lv_iinc (v := v4_25) (lv' := [(4, .int v4_25), (6, .int r18), (5, .int r15), (0, .ref b), (1, .ref (gad Y x1)), (2, .ref (gad Y x2)), (3, .ref (gad Y x3))]) hx hb d_Law_law_1146 hl (k := 6) rfl (by rw [ev4_25]; rfl) (by decide) rfl (fun ls hl => ?_)
              refine lv_goto (tgt := 43) hx hb d_Law_law_1149 (by decide) ?_
              exact ih x1 x2 x3 v4_25 S19 H locs ls _ _ hx1 hx2 hx3 (by omega) (by omega) hw hP hS (lv_sub hl [3, 4, 5, 6, 0] rfl)
            · replace hw := hw.2 c24
              refine lv_iconst (v := 0) hx hb d_Law_law_299 (by decide) ?_
              exact hw.elim
        · replace hw := hw.2 c21
          refine lv_iconst (v := 0) hx hb d_Law_law_282 (by decide) ?_
          exact hw.elim
      · replace hw := hw.2.2.2.1 c2
        rw [c2]
        refine lv_tableIn (tgt := 304) (off := 245) hx hb d_Law_law_59 (by decide) (by decide) (by decide) (by decide) ?_
        refine lv_aload_n hx hb d_Law_law_304 rfl (lv_at hl 1 rfl) ?_
        refine lv_aload_n hx hb d_Law_law_305 rfl (lv_at hl 0 rfl) ?_
        refine lv_iload hx hb d_Law_law_306 (lv_at hl 4 rfl) ?_
        refine lv_iconst (v := 1) hx hb d_Law_law_308 (by decide) ?_
        refine lv_iadd hx hb d_Law_law_309 ?_
        obtain ⟨hin, hw⟩ := hw
        refine va_sld hx hb hX hbl hbA hS hin d_Law_law_310 ?_
        refine lv_aload_n hx hb d_Law_law_311 rfl (lv_at hl 0 rfl) ?_
        refine lv_iload hx hb d_Law_law_312 (lv_at hl 4 rfl) ?_
        refine lv_iconst (v := 2) hx hb d_Law_law_314 (by decide) ?_
        refine lv_iadd hx hb d_Law_law_315 ?_
        obtain ⟨hin, hw⟩ := hw
        refine va_sld hx hb hX hbl hbA hS hin d_Law_law_316 ?_
        refine lv_aload_n hx hb d_Law_law_317 rfl (lv_at hl 3 rfl) ?_
        refine gx_helper (gx_runH (n := 4) (As := [.ref (gad Y x1), .int (xs (x4 + 1).toNatClampNeg), .int (xs (x4 + 2).toNatClampNeg), .ref (gad Y x3)]) (rest := []) ⟨hx, hb, hml, hown, hts⟩ (k_Law_append l hlt Y hY H.size x1 (xs (x4 + 1).toNatClampNeg) (xs (x4 + 2).toNatClampNeg) x3 hx1 hx3 S _) rfl rfl (Nat.le_of_ble_eq_true rfl) (Nat.le_of_ble_eq_true rfl) (gG_S gw_600 gw_601 gw_0 gw_602) List.mem_cons_self (by decide +kernel) ⟨gPre_blind, g_pre hK hSt hS hP hw⟩ rfl rfl hl.1 rfl (lv_room (Nat.le_of_ble_eq_true rfl)) d_Law_law_318 ⟨by show _ ≤ 601024; omega, by show _ ≤ 7293000; omega⟩) hS (fun r26 S27 H locs hw hP hS => ?_)
        refine lv_istore (lv' := [(5, .int r26), (0, .ref b), (1, .ref (gad Y x1)), (2, .ref (gad Y x2)), (3, .ref (gad Y x3)), (4, .int x4)]) hx hb d_Law_law_321 hl (by decide) rfl (fun ls hl => ?_)
        refine lv_aload_n hx hb d_Law_law_323 rfl (lv_at hl 3 rfl) ?_
        refine lv_aload_n hx hb d_Law_law_324 rfl (lv_at hl 1 rfl) ?_
        refine lv_iload hx hb d_Law_law_325 (lv_at hl 5 rfl) ?_
        refine lv_iconst (v := 1) hx hb d_Law_law_327 (by decide) ?_
        refine lv_iadd hx hb d_Law_law_328 ?_
        obtain ⟨hin, hw⟩ := hw
        refine va_sld hx hb hX hbl hbA hS hin d_Law_law_329 ?_
        refine lv_aload_n hx hb d_Law_law_330 rfl (lv_at hl 1 rfl) ?_
        refine lv_iload hx hb d_Law_law_331 (lv_at hl 5 rfl) ?_
        refine lv_iconst (v := 2) hx hb d_Law_law_333 (by decide) ?_
        refine lv_iadd hx hb d_Law_law_334 ?_
        obtain ⟨hin, hw⟩ := hw
        refine va_sld hx hb hX hbl hbA hS hin d_Law_law_335 ?_
        refine g_calli (va_runV (As := [.int (xs (x4 + 1).toNatClampNeg), .int (xs (x4 + 2).toNatClampNeg)]) (rest := []) ⟨hx, hb, hml, hown, hts⟩ (k_Mo_append l Y hY H.size x2 (xs (x4 + 1).toNatClampNeg) (xs (x4 + 2).toNatClampNeg) hx2 S27 _) (cwV 2 hts (gG_V gw_969 gw_970 gw_971 gw_12 gw_972) rfl rfl rfl (by decide +kernel) ⟨Nat.le_of_ble_eq_true rfl, Nat.le_of_ble_eq_true rfl⟩) ⟨gPre_blind, g_recv hK hP hx2 (gce_Mo hx2.1) rfl, g_pre hK hSt hS hP hw⟩ rfl rfl hl.1 rfl (lv_room (Nat.le_of_ble_eq_true rfl)) d_Law_law_336 ⟨by show _ ≤ 601024; omega, by show _ ≤ 7293000; omega⟩) hS (fun r29 S28 H locs hw hP hS => ?_)
        refine lv_istore (lv' := [(6, .int r29), (5, .int r26), (0, .ref b), (1, .ref (gad Y x1)), (2, .ref (gad Y x2)), (3, .ref (gad Y x3)), (4, .int x4)]) hx hb d_Law_law_339 hl (by decide) rfl (fun ls hl => ?_)
        refine lv_aload_n hx hb d_Law_law_341 rfl (lv_at hl 4 rfl) ?_
        refine g_calli (va_runV (As := []) (rest := []) ⟨hx, hb, hml, hown, hts⟩ (k_Mo_thrown l Y hY H.size x2 hx2 S28 _) (cwV 0 hts (gG_V gw_914 gw_915 gw_916 gw_12 gw_917) rfl rfl rfl (by decide +kernel) ⟨Nat.le_of_ble_eq_true rfl, Nat.le_of_ble_eq_true rfl⟩) ⟨gPre_blind, g_recv hK hP hx2 (gce_Mo hx2.1) rfl, g_pre hK hSt hS hP hw⟩ rfl rfl hl.1 rfl (lv_room (Nat.le_of_ble_eq_true rfl)) d_Law_law_342 ⟨by show _ ≤ 601024; omega, by show _ ≤ 7293000; omega⟩) hS (fun r31 S30 H locs hw hP hS => ?_)
        refine lv_iload hx hb d_Law_law_345 (lv_at hl 1 rfl) ?_
        refine lv_icmp_eq (tgt := 352) hx hb d_Law_law_347 (by decide) (fun c32 => ?_) (fun c32 => ?_)
        · replace hw := hw.1 c32
          refine lv_iload hx hb d_Law_law_352 (lv_at hl 1 rfl) ?_
          refine lv_if_ne (tgt := 369) hx hb d_Law_law_354 (by decide) (fun c33 => ?_) (fun c33 => ?_)
          · replace hw := hw.1 c33
            refine lv_goto (tgt := 1146) hx hb d_Law_law_369 (by decide) ?_
            obtain ⟨v4_34, ev4_34⟩ : ∃ y : Int32, y = x4 + 4 := ⟨_, rfl⟩
            replace hw := hw v4_34 ev4_34
            refine lv_iinc (v := v4_34) (lv' := [(4, .int v4_34), (6, .int r29), (5, .int r26), (0, .ref b), (1, .ref (gad Y x1)), (2, .ref (gad Y x2)), (3, .ref (gad Y x3))]) hx hb d_Law_law_1146 hl (k := 6) rfl (by rw [ev4_34]; rfl) (by decide) rfl (fun ls hl => ?_)
            refine lv_goto (tgt := 43) hx hb d_Law_law_1149 (by decide) ?_
            exact ih x1 x2 x3 v4_34 S30 H locs ls _ _ hx1 hx2 hx3 (by omega) (by omega) hw hP hS (lv_sub hl [3, 4, 5, 6, 0] rfl)
          · replace hw := hw.2 c33
            refine lv_aload_n hx hb d_Law_law_357 rfl (lv_at hl 5 rfl) ?_
            refine lv_iconst (v := 0) hx hb d_Law_law_358 (by decide) ?_
            obtain ⟨hin, hw⟩ := hw
            refine g_laload hx hb hK hP hx3 hin d_Law_law_359 ?_
            refine lv_iload hx hb d_Law_law_360 (lv_at hl 0 rfl) ?_
            refine lv_i2l hx hb d_Law_law_362 rfl ?_
            refine W.lcmp hx hb d_Law_law_363 ?_
            refine lv_if_eq (tgt := 369) hx hb d_Law_law_364 (by decide) (fun c35 => ?_) (fun c35 => ?_)
            · replace hw := hw.1 c35
              refine lv_goto (tgt := 1146) hx hb d_Law_law_369 (by decide) ?_
              obtain ⟨v4_36, ev4_36⟩ : ∃ y : Int32, y = x4 + 4 := ⟨_, rfl⟩
              replace hw := hw v4_36 ev4_36
              refine lv_iinc (v := v4_36) (lv' := [(4, .int v4_36), (6, .int r29), (5, .int r26), (0, .ref b), (1, .ref (gad Y x1)), (2, .ref (gad Y x2)), (3, .ref (gad Y x3))]) hx hb d_Law_law_1146 hl (k := 6) rfl (by rw [ev4_36]; rfl) (by decide) rfl (fun ls hl => ?_)
              refine lv_goto (tgt := 43) hx hb d_Law_law_1149 (by decide) ?_
              exact ih x1 x2 x3 v4_36 S30 H locs ls _ _ hx1 hx2 hx3 (by omega) (by omega) hw hP hS (lv_sub hl [3, 4, 5, 6, 0] rfl)
            · replace hw := hw.2 c35
              refine lv_iconst (v := 0) hx hb d_Law_law_367 (by decide) ?_
              exact hw.elim
        · replace hw := hw.2 c32
          refine lv_iconst (v := 0) hx hb d_Law_law_350 (by decide) ?_
          exact hw.elim
      · replace hw := hw.2.2.2.2.1 c2
        rw [c2]
        refine lv_tableIn (tgt := 372) (off := 313) hx hb d_Law_law_59 (by decide) (by decide) (by decide) (by decide) ?_
        refine lv_aload_n hx hb d_Law_law_372 rfl (lv_at hl 1 rfl) ?_
        refine lv_aload_n hx hb d_Law_law_373 rfl (lv_at hl 0 rfl) ?_
        refine lv_iload hx hb d_Law_law_374 (lv_at hl 4 rfl) ?_
        refine lv_iconst (v := 1) hx hb d_Law_law_376 (by decide) ?_
        refine lv_iadd hx hb d_Law_law_377 ?_
        obtain ⟨hin, hw⟩ := hw
        refine va_sld hx hb hX hbl hbA hS hin d_Law_law_378 ?_
        refine lv_aload_n hx hb d_Law_law_379 rfl (lv_at hl 3 rfl) ?_
        refine gx_helper (gx_runH (n := 3) (As := [.ref (gad Y x1), .int (xs (x4 + 1).toNatClampNeg), .ref (gad Y x3)]) (rest := []) ⟨hx, hb, hml, hown, hts⟩ (k_Law_cutFrom l hlt Y hY H.size x1 (xs (x4 + 1).toNatClampNeg) x3 hx1 hx3 S _) rfl rfl (Nat.le_of_ble_eq_true rfl) (Nat.le_of_ble_eq_true rfl) (gG_S gw_651 gw_652 gw_0 gw_653) List.mem_cons_self (by decide +kernel) ⟨gPre_blind, g_pre hK hSt hS hP hw⟩ rfl rfl hl.1 rfl (lv_room (Nat.le_of_ble_eq_true rfl)) d_Law_law_380 ⟨by show _ ≤ 601024; omega, by show _ ≤ 7293000; omega⟩) hS (fun r37 S38 H locs hw hP hS => ?_)
        refine lv_istore (lv' := [(5, .int r37), (0, .ref b), (1, .ref (gad Y x1)), (2, .ref (gad Y x2)), (3, .ref (gad Y x3)), (4, .int x4)]) hx hb d_Law_law_383 hl (by decide) rfl (fun ls hl => ?_)
        refine lv_aload_n hx hb d_Law_law_385 rfl (lv_at hl 3 rfl) ?_
        refine lv_aload_n hx hb d_Law_law_386 rfl (lv_at hl 1 rfl) ?_
        refine lv_iload hx hb d_Law_law_387 (lv_at hl 5 rfl) ?_
        refine lv_iconst (v := 1) hx hb d_Law_law_389 (by decide) ?_
        refine lv_iadd hx hb d_Law_law_390 ?_
        obtain ⟨hin, hw⟩ := hw
        refine va_sld hx hb hX hbl hbA hS hin d_Law_law_391 ?_
        refine g_calli (va_runV (As := [.int (xs (x4 + 1).toNatClampNeg)]) (rest := []) ⟨hx, hb, hml, hown, hts⟩ (k_Mo_cutFrom l Y hY H.size x2 (xs (x4 + 1).toNatClampNeg) hx2 S38 _) (cwV 1 hts (gG_V gw_993 gw_994 gw_995 gw_12 gw_996) rfl rfl rfl (by decide +kernel) ⟨Nat.le_of_ble_eq_true rfl, Nat.le_of_ble_eq_true rfl⟩) ⟨gPre_blind, g_recv hK hP hx2 (gce_Mo hx2.1) rfl, g_pre hK hSt hS hP hw⟩ rfl rfl hl.1 rfl (lv_room (Nat.le_of_ble_eq_true rfl)) d_Law_law_392 ⟨by show _ ≤ 601024; omega, by show _ ≤ 7293000; omega⟩) hS (fun r40 S39 H locs hw hP hS => ?_)
        refine lv_istore (lv' := [(6, .int r40), (5, .int r37), (0, .ref b), (1, .ref (gad Y x1)), (2, .ref (gad Y x2)), (3, .ref (gad Y x3)), (4, .int x4)]) hx hb d_Law_law_395 hl (by decide) rfl (fun ls hl => ?_)
        refine lv_aload_n hx hb d_Law_law_397 rfl (lv_at hl 4 rfl) ?_
        refine g_calli (va_runV (As := []) (rest := []) ⟨hx, hb, hml, hown, hts⟩ (k_Mo_thrown l Y hY H.size x2 hx2 S39 _) (cwV 0 hts (gG_V gw_914 gw_915 gw_916 gw_12 gw_917) rfl rfl rfl (by decide +kernel) ⟨Nat.le_of_ble_eq_true rfl, Nat.le_of_ble_eq_true rfl⟩) ⟨gPre_blind, g_recv hK hP hx2 (gce_Mo hx2.1) rfl, g_pre hK hSt hS hP hw⟩ rfl rfl hl.1 rfl (lv_room (Nat.le_of_ble_eq_true rfl)) d_Law_law_398 ⟨by show _ ≤ 601024; omega, by show _ ≤ 7293000; omega⟩) hS (fun r42 S41 H locs hw hP hS => ?_)
        refine lv_iload hx hb d_Law_law_401 (lv_at hl 1 rfl) ?_
        refine lv_icmp_eq (tgt := 408) hx hb d_Law_law_403 (by decide) (fun c43 => ?_) (fun c43 => ?_)
        · replace hw := hw.1 c43
          refine lv_iload hx hb d_Law_law_408 (lv_at hl 1 rfl) ?_
          refine lv_if_ne (tgt := 425) hx hb d_Law_law_410 (by decide) (fun c44 => ?_) (fun c44 => ?_)
          · replace hw := hw.1 c44
            refine lv_goto (tgt := 1146) hx hb d_Law_law_425 (by decide) ?_
            obtain ⟨v4_45, ev4_45⟩ : ∃ y : Int32, y = x4 + 4 := ⟨_, rfl⟩
            replace hw := hw v4_45 ev4_45
            refine lv_iinc (v := v4_45) (lv' := [(4, .int v4_45), (6, .int r40), (5, .int r37), (0, .ref b), (1, .ref (gad Y x1)), (2, .ref (gad Y x2)), (3, .ref (gad Y x3))]) hx hb d_Law_law_1146 hl (k := 6) rfl (by rw [ev4_45]; rfl) (by decide) rfl (fun ls hl => ?_)
            refine lv_goto (tgt := 43) hx hb d_Law_law_1149 (by decide) ?_
            exact ih x1 x2 x3 v4_45 S41 H locs ls _ _ hx1 hx2 hx3 (by omega) (by omega) hw hP hS (lv_sub hl [3, 4, 5, 6, 0] rfl)
          · replace hw := hw.2 c44
            refine lv_aload_n hx hb d_Law_law_413 rfl (lv_at hl 5 rfl) ?_
            refine lv_iconst (v := 0) hx hb d_Law_law_414 (by decide) ?_
            obtain ⟨hin, hw⟩ := hw
            refine g_laload hx hb hK hP hx3 hin d_Law_law_415 ?_
            refine lv_iload hx hb d_Law_law_416 (lv_at hl 0 rfl) ?_
            refine lv_i2l hx hb d_Law_law_418 rfl ?_
            refine W.lcmp hx hb d_Law_law_419 ?_
            refine lv_if_eq (tgt := 425) hx hb d_Law_law_420 (by decide) (fun c46 => ?_) (fun c46 => ?_)
            · replace hw := hw.1 c46
              refine lv_goto (tgt := 1146) hx hb d_Law_law_425 (by decide) ?_
              obtain ⟨v4_47, ev4_47⟩ : ∃ y : Int32, y = x4 + 4 := ⟨_, rfl⟩
              replace hw := hw v4_47 ev4_47
              refine lv_iinc (v := v4_47) (lv' := [(4, .int v4_47), (6, .int r40), (5, .int r37), (0, .ref b), (1, .ref (gad Y x1)), (2, .ref (gad Y x2)), (3, .ref (gad Y x3))]) hx hb d_Law_law_1146 hl (k := 6) rfl (by rw [ev4_47]; rfl) (by decide) rfl (fun ls hl => ?_)
              refine lv_goto (tgt := 43) hx hb d_Law_law_1149 (by decide) ?_
              exact ih x1 x2 x3 v4_47 S41 H locs ls _ _ hx1 hx2 hx3 (by omega) (by omega) hw hP hS (lv_sub hl [3, 4, 5, 6, 0] rfl)
            · replace hw := hw.2 c46
              refine lv_iconst (v := 0) hx hb d_Law_law_423 (by decide) ?_
              exact hw.elim
        · replace hw := hw.2 c43
          refine lv_iconst (v := 0) hx hb d_Law_law_406 (by decide) ?_
          exact hw.elim
      · replace hw := hw.2.2.2.2.2.1 c2
        rw [c2]
        refine lv_tableIn (tgt := 428) (off := 369) hx hb d_Law_law_59 (by decide) (by decide) (by decide) (by decide) ?_
        refine lv_aload_n hx hb d_Law_law_428 rfl (lv_at hl 1 rfl) ?_
        refine lv_aload_n hx hb d_Law_law_429 rfl (lv_at hl 0 rfl) ?_
        refine lv_iload hx hb d_Law_law_430 (lv_at hl 4 rfl) ?_
        refine lv_iconst (v := 1) hx hb d_Law_law_432 (by decide) ?_
        refine lv_iadd hx hb d_Law_law_433 ?_
        obtain ⟨hin, hw⟩ := hw
        refine va_sld hx hb hX hbl hbA hS hin d_Law_law_434 ?_
        refine lv_aload_n hx hb d_Law_law_435 rfl (lv_at hl 0 rfl) ?_
        refine lv_iload hx hb d_Law_law_436 (lv_at hl 4 rfl) ?_
        refine lv_iconst (v := 2) hx hb d_Law_law_438 (by decide) ?_
        refine lv_iadd hx hb d_Law_law_439 ?_
        obtain ⟨hin, hw⟩ := hw
        refine va_sld hx hb hX hbl hbA hS hin d_Law_law_440 ?_
        refine lv_aload_n hx hb d_Law_law_441 rfl (lv_at hl 3 rfl) ?_
        refine gx_helper (gx_runH (n := 4) (As := [.ref (gad Y x1), .int (xs (x4 + 1).toNatClampNeg), .int (xs (x4 + 2).toNatClampNeg), .ref (gad Y x3)]) (rest := []) ⟨hx, hb, hml, hown, hts⟩ (k_Law_compact l hlt Y hY H.size x1 (xs (x4 + 1).toNatClampNeg) (xs (x4 + 2).toNatClampNeg) x3 hx1 hx3 S _) rfl rfl (Nat.le_of_ble_eq_true rfl) (Nat.le_of_ble_eq_true rfl) (gG_S gw_675 gw_676 gw_0 gw_677) List.mem_cons_self (by decide +kernel) ⟨gPre_blind, g_pre hK hSt hS hP hw⟩ rfl rfl hl.1 rfl (lv_room (Nat.le_of_ble_eq_true rfl)) d_Law_law_442 ⟨by show _ ≤ 601024; omega, by show _ ≤ 7293000; omega⟩) hS (fun r48 S49 H locs hw hP hS => ?_)
        refine lv_istore (lv' := [(5, .int r48), (0, .ref b), (1, .ref (gad Y x1)), (2, .ref (gad Y x2)), (3, .ref (gad Y x3)), (4, .int x4)]) hx hb d_Law_law_445 hl (by decide) rfl (fun ls hl => ?_)
        refine lv_aload_n hx hb d_Law_law_447 rfl (lv_at hl 3 rfl) ?_
        refine lv_aload_n hx hb d_Law_law_448 rfl (lv_at hl 1 rfl) ?_
        refine lv_iload hx hb d_Law_law_449 (lv_at hl 5 rfl) ?_
        refine lv_iconst (v := 1) hx hb d_Law_law_451 (by decide) ?_
        refine lv_iadd hx hb d_Law_law_452 ?_
        obtain ⟨hin, hw⟩ := hw
        refine va_sld hx hb hX hbl hbA hS hin d_Law_law_453 ?_
        refine lv_aload_n hx hb d_Law_law_454 rfl (lv_at hl 1 rfl) ?_
        refine lv_iload hx hb d_Law_law_455 (lv_at hl 5 rfl) ?_
        refine lv_iconst (v := 2) hx hb d_Law_law_457 (by decide) ?_
        refine lv_iadd hx hb d_Law_law_458 ?_
        obtain ⟨hin, hw⟩ := hw
        refine va_sld hx hb hX hbl hbA hS hin d_Law_law_459 ?_
        refine g_calli (va_runV (As := [.int (xs (x4 + 1).toNatClampNeg), .int (xs (x4 + 2).toNatClampNeg)]) (rest := []) ⟨hx, hb, hml, hown, hts⟩ (k_Mo_compact l Y hY H.size x2 (xs (x4 + 1).toNatClampNeg) (xs (x4 + 2).toNatClampNeg) hx2 S49 _) (cwV 2 hts (gG_V gw_1009 gw_1010 gw_1011 gw_12 gw_1012) rfl rfl rfl (by decide +kernel) ⟨Nat.le_of_ble_eq_true rfl, Nat.le_of_ble_eq_true rfl⟩) ⟨gPre_blind, g_recv hK hP hx2 (gce_Mo hx2.1) rfl, g_pre hK hSt hS hP hw⟩ rfl rfl hl.1 rfl (lv_room (Nat.le_of_ble_eq_true rfl)) d_Law_law_460 ⟨by show _ ≤ 601024; omega, by show _ ≤ 7293000; omega⟩) hS (fun r51 S50 H locs hw hP hS => ?_)
        refine lv_istore (lv' := [(6, .int r51), (5, .int r48), (0, .ref b), (1, .ref (gad Y x1)), (2, .ref (gad Y x2)), (3, .ref (gad Y x3)), (4, .int x4)]) hx hb d_Law_law_463 hl (by decide) rfl (fun ls hl => ?_)
        refine lv_aload_n hx hb d_Law_law_465 rfl (lv_at hl 4 rfl) ?_
        refine g_calli (va_runV (As := []) (rest := []) ⟨hx, hb, hml, hown, hts⟩ (k_Mo_thrown l Y hY H.size x2 hx2 S50 _) (cwV 0 hts (gG_V gw_914 gw_915 gw_916 gw_12 gw_917) rfl rfl rfl (by decide +kernel) ⟨Nat.le_of_ble_eq_true rfl, Nat.le_of_ble_eq_true rfl⟩) ⟨gPre_blind, g_recv hK hP hx2 (gce_Mo hx2.1) rfl, g_pre hK hSt hS hP hw⟩ rfl rfl hl.1 rfl (lv_room (Nat.le_of_ble_eq_true rfl)) d_Law_law_466 ⟨by show _ ≤ 601024; omega, by show _ ≤ 7293000; omega⟩) hS (fun r53 S52 H locs hw hP hS => ?_)
        refine lv_iload hx hb d_Law_law_469 (lv_at hl 1 rfl) ?_
        refine lv_icmp_eq (tgt := 476) hx hb d_Law_law_471 (by decide) (fun c54 => ?_) (fun c54 => ?_)
        · replace hw := hw.1 c54
          refine lv_iload hx hb d_Law_law_476 (lv_at hl 1 rfl) ?_
          refine lv_if_ne (tgt := 493) hx hb d_Law_law_478 (by decide) (fun c55 => ?_) (fun c55 => ?_)
          · replace hw := hw.1 c55
            refine lv_goto (tgt := 1146) hx hb d_Law_law_493 (by decide) ?_
            obtain ⟨v4_56, ev4_56⟩ : ∃ y : Int32, y = x4 + 4 := ⟨_, rfl⟩
            replace hw := hw v4_56 ev4_56
            refine lv_iinc (v := v4_56) (lv' := [(4, .int v4_56), (6, .int r51), (5, .int r48), (0, .ref b), (1, .ref (gad Y x1)), (2, .ref (gad Y x2)), (3, .ref (gad Y x3))]) hx hb d_Law_law_1146 hl (k := 6) rfl (by rw [ev4_56]; rfl) (by decide) rfl (fun ls hl => ?_)
            refine lv_goto (tgt := 43) hx hb d_Law_law_1149 (by decide) ?_
            exact ih x1 x2 x3 v4_56 S52 H locs ls _ _ hx1 hx2 hx3 (by omega) (by omega) hw hP hS (lv_sub hl [3, 4, 5, 6, 0] rfl)
          · replace hw := hw.2 c55
            refine lv_aload_n hx hb d_Law_law_481 rfl (lv_at hl 5 rfl) ?_
            refine lv_iconst (v := 0) hx hb d_Law_law_482 (by decide) ?_
            obtain ⟨hin, hw⟩ := hw
            refine g_laload hx hb hK hP hx3 hin d_Law_law_483 ?_
            refine lv_iload hx hb d_Law_law_484 (lv_at hl 0 rfl) ?_
            refine lv_i2l hx hb d_Law_law_486 rfl ?_
            refine W.lcmp hx hb d_Law_law_487 ?_
            refine lv_if_eq (tgt := 493) hx hb d_Law_law_488 (by decide) (fun c57 => ?_) (fun c57 => ?_)
            · replace hw := hw.1 c57
              refine lv_goto (tgt := 1146) hx hb d_Law_law_493 (by decide) ?_
              obtain ⟨v4_58, ev4_58⟩ : ∃ y : Int32, y = x4 + 4 := ⟨_, rfl⟩
              replace hw := hw v4_58 ev4_58
              refine lv_iinc (v := v4_58) (lv' := [(4, .int v4_58), (6, .int r51), (5, .int r48), (0, .ref b), (1, .ref (gad Y x1)), (2, .ref (gad Y x2)), (3, .ref (gad Y x3))]) hx hb d_Law_law_1146 hl (k := 6) rfl (by rw [ev4_58]; rfl) (by decide) rfl (fun ls hl => ?_)
              refine lv_goto (tgt := 43) hx hb d_Law_law_1149 (by decide) ?_
              exact ih x1 x2 x3 v4_58 S52 H locs ls _ _ hx1 hx2 hx3 (by omega) (by omega) hw hP hS (lv_sub hl [3, 4, 5, 6, 0] rfl)
            · replace hw := hw.2 c57
              refine lv_iconst (v := 0) hx hb d_Law_law_491 (by decide) ?_
              exact hw.elim
        · replace hw := hw.2 c54
          refine lv_iconst (v := 0) hx hb d_Law_law_474 (by decide) ?_
          exact hw.elim
      · replace hw := hw.2.2.2.2.2.2.1 c2
        rw [c2]
        refine lv_tableIn (tgt := 496) (off := 437) hx hb d_Law_law_59 (by decide) (by decide) (by decide) (by decide) ?_
        refine lv_aload_n hx hb d_Law_law_496 rfl (lv_at hl 1 rfl) ?_
        refine lv_aload_n hx hb d_Law_law_497 rfl (lv_at hl 0 rfl) ?_
        refine lv_iload hx hb d_Law_law_498 (lv_at hl 4 rfl) ?_
        refine lv_iconst (v := 1) hx hb d_Law_law_500 (by decide) ?_
        refine lv_iadd hx hb d_Law_law_501 ?_
        obtain ⟨hin, hw⟩ := hw
        refine va_sld hx hb hX hbl hbA hS hin d_Law_law_502 ?_
        refine lv_aload_n hx hb d_Law_law_503 rfl (lv_at hl 0 rfl) ?_
        refine lv_iload hx hb d_Law_law_504 (lv_at hl 4 rfl) ?_
        refine lv_iconst (v := 2) hx hb d_Law_law_506 (by decide) ?_
        refine lv_iadd hx hb d_Law_law_507 ?_
        obtain ⟨hin, hw⟩ := hw
        refine va_sld hx hb hX hbl hbA hS hin d_Law_law_508 ?_
        refine lv_aload_n hx hb d_Law_law_509 rfl (lv_at hl 0 rfl) ?_
        refine lv_iload hx hb d_Law_law_510 (lv_at hl 4 rfl) ?_
        refine lv_iconst (v := 3) hx hb d_Law_law_512 (by decide) ?_
        refine lv_iadd hx hb d_Law_law_513 ?_
        obtain ⟨hin, hw⟩ := hw
        refine va_sld hx hb hX hbl hbA hS hin d_Law_law_514 ?_
        refine lv_aload_n hx hb d_Law_law_515 rfl (lv_at hl 3 rfl) ?_
        refine gx_helper (gx_runH (n := 5) (As := [.ref (gad Y x1), .int (xs (x4 + 1).toNatClampNeg), .int (xs (x4 + 2).toNatClampNeg), .int (xs (x4 + 3).toNatClampNeg), .ref (gad Y x3)]) (rest := []) ⟨hx, hb, hml, hown, hts⟩ (k_Law_take l hlt Y hY H.size x1 (xs (x4 + 1).toNatClampNeg) (xs (x4 + 2).toNatClampNeg) (xs (x4 + 3).toNatClampNeg) x3 hx1 hx3 S _) rfl rfl (Nat.le_of_ble_eq_true rfl) (Nat.le_of_ble_eq_true rfl) (gG_S gw_702 gw_703 gw_0 gw_704) List.mem_cons_self (by decide +kernel) ⟨gPre_blind, g_pre hK hSt hS hP hw⟩ rfl rfl hl.1 rfl (lv_room (Nat.le_of_ble_eq_true rfl)) d_Law_law_516 ⟨by show _ ≤ 601024; omega, by show _ ≤ 7293000; omega⟩) hS (fun r59 S60 H locs hw hP hS => ?_)
        refine lv_istore (lv' := [(5, .int r59), (0, .ref b), (1, .ref (gad Y x1)), (2, .ref (gad Y x2)), (3, .ref (gad Y x3)), (4, .int x4)]) hx hb d_Law_law_519 hl (by decide) rfl (fun ls hl => ?_)
        refine lv_aload_n hx hb d_Law_law_521 rfl (lv_at hl 3 rfl) ?_
        refine lv_aload_n hx hb d_Law_law_522 rfl (lv_at hl 1 rfl) ?_
        refine lv_iload hx hb d_Law_law_523 (lv_at hl 5 rfl) ?_
        refine lv_iconst (v := 1) hx hb d_Law_law_525 (by decide) ?_
        refine lv_iadd hx hb d_Law_law_526 ?_
        obtain ⟨hin, hw⟩ := hw
        refine va_sld hx hb hX hbl hbA hS hin d_Law_law_527 ?_
        refine lv_aload_n hx hb d_Law_law_528 rfl (lv_at hl 1 rfl) ?_
        refine lv_iload hx hb d_Law_law_529 (lv_at hl 5 rfl) ?_
        refine lv_iconst (v := 2) hx hb d_Law_law_531 (by decide) ?_
        refine lv_iadd hx hb d_Law_law_532 ?_
        obtain ⟨hin, hw⟩ := hw
        refine va_sld hx hb hX hbl hbA hS hin d_Law_law_533 ?_
        refine lv_aload_n hx hb d_Law_law_534 rfl (lv_at hl 1 rfl) ?_
        refine lv_iload hx hb d_Law_law_535 (lv_at hl 5 rfl) ?_
        refine lv_iconst (v := 3) hx hb d_Law_law_537 (by decide) ?_
        refine lv_iadd hx hb d_Law_law_538 ?_
        obtain ⟨hin, hw⟩ := hw
        refine va_sld hx hb hX hbl hbA hS hin d_Law_law_539 ?_
        refine g_calli (va_runV (As := [.int (xs (x4 + 1).toNatClampNeg), .int (xs (x4 + 2).toNatClampNeg), .int (xs (x4 + 3).toNatClampNeg)]) (rest := []) ⟨hx, hb, hml, hown, hts⟩ (k_Mo_take l Y hY H.size x2 (xs (x4 + 1).toNatClampNeg) (xs (x4 + 2).toNatClampNeg) (xs (x4 + 3).toNatClampNeg) hx2 S60 _) (cwV 3 hts (gG_V gw_1033 gw_1034 gw_1035 gw_12 gw_1036) rfl rfl rfl (by decide +kernel) ⟨Nat.le_of_ble_eq_true rfl, Nat.le_of_ble_eq_true rfl⟩) ⟨gPre_blind, g_recv hK hP hx2 (gce_Mo hx2.1) rfl, g_pre hK hSt hS hP hw⟩ rfl rfl hl.1 rfl (lv_room (Nat.le_of_ble_eq_true rfl)) d_Law_law_540 ⟨by show _ ≤ 601024; omega, by show _ ≤ 7293000; omega⟩) hS (fun r62 S61 H locs hw hP hS => ?_)
        refine lv_istore (lv' := [(6, .int r62), (5, .int r59), (0, .ref b), (1, .ref (gad Y x1)), (2, .ref (gad Y x2)), (3, .ref (gad Y x3)), (4, .int x4)]) hx hb d_Law_law_543 hl (by decide) rfl (fun ls hl => ?_)
        refine lv_aload_n hx hb d_Law_law_545 rfl (lv_at hl 4 rfl) ?_
        refine g_calli (va_runV (As := []) (rest := []) ⟨hx, hb, hml, hown, hts⟩ (k_Mo_thrown l Y hY H.size x2 hx2 S61 _) (cwV 0 hts (gG_V gw_914 gw_915 gw_916 gw_12 gw_917) rfl rfl rfl (by decide +kernel) ⟨Nat.le_of_ble_eq_true rfl, Nat.le_of_ble_eq_true rfl⟩) ⟨gPre_blind, g_recv hK hP hx2 (gce_Mo hx2.1) rfl, g_pre hK hSt hS hP hw⟩ rfl rfl hl.1 rfl (lv_room (Nat.le_of_ble_eq_true rfl)) d_Law_law_546 ⟨by show _ ≤ 601024; omega, by show _ ≤ 7293000; omega⟩) hS (fun r64 S63 H locs hw hP hS => ?_)
        refine lv_iload hx hb d_Law_law_549 (lv_at hl 1 rfl) ?_
        refine lv_icmp_eq (tgt := 556) hx hb d_Law_law_551 (by decide) (fun c65 => ?_) (fun c65 => ?_)
        · replace hw := hw.1 c65
          refine lv_iload hx hb d_Law_law_556 (lv_at hl 1 rfl) ?_
          refine lv_if_ne (tgt := 573) hx hb d_Law_law_558 (by decide) (fun c66 => ?_) (fun c66 => ?_)
          · replace hw := hw.1 c66
            refine lv_goto (tgt := 1146) hx hb d_Law_law_573 (by decide) ?_
            obtain ⟨v4_67, ev4_67⟩ : ∃ y : Int32, y = x4 + 4 := ⟨_, rfl⟩
            replace hw := hw v4_67 ev4_67
            refine lv_iinc (v := v4_67) (lv' := [(4, .int v4_67), (6, .int r62), (5, .int r59), (0, .ref b), (1, .ref (gad Y x1)), (2, .ref (gad Y x2)), (3, .ref (gad Y x3))]) hx hb d_Law_law_1146 hl (k := 6) rfl (by rw [ev4_67]; rfl) (by decide) rfl (fun ls hl => ?_)
            refine lv_goto (tgt := 43) hx hb d_Law_law_1149 (by decide) ?_
            exact ih x1 x2 x3 v4_67 S63 H locs ls _ _ hx1 hx2 hx3 (by omega) (by omega) hw hP hS (lv_sub hl [3, 4, 5, 6, 0] rfl)
          · replace hw := hw.2 c66
            refine lv_aload_n hx hb d_Law_law_561 rfl (lv_at hl 5 rfl) ?_
            refine lv_iconst (v := 0) hx hb d_Law_law_562 (by decide) ?_
            obtain ⟨hin, hw⟩ := hw
            refine g_laload hx hb hK hP hx3 hin d_Law_law_563 ?_
            refine lv_iload hx hb d_Law_law_564 (lv_at hl 0 rfl) ?_
            refine lv_i2l hx hb d_Law_law_566 rfl ?_
            refine W.lcmp hx hb d_Law_law_567 ?_
            refine lv_if_eq (tgt := 573) hx hb d_Law_law_568 (by decide) (fun c68 => ?_) (fun c68 => ?_)
            · replace hw := hw.1 c68
              refine lv_goto (tgt := 1146) hx hb d_Law_law_573 (by decide) ?_
              obtain ⟨v4_69, ev4_69⟩ : ∃ y : Int32, y = x4 + 4 := ⟨_, rfl⟩
              replace hw := hw v4_69 ev4_69
              refine lv_iinc (v := v4_69) (lv' := [(4, .int v4_69), (6, .int r62), (5, .int r59), (0, .ref b), (1, .ref (gad Y x1)), (2, .ref (gad Y x2)), (3, .ref (gad Y x3))]) hx hb d_Law_law_1146 hl (k := 6) rfl (by rw [ev4_69]; rfl) (by decide) rfl (fun ls hl => ?_)
              refine lv_goto (tgt := 43) hx hb d_Law_law_1149 (by decide) ?_
              exact ih x1 x2 x3 v4_69 S63 H locs ls _ _ hx1 hx2 hx3 (by omega) (by omega) hw hP hS (lv_sub hl [3, 4, 5, 6, 0] rfl)
            · replace hw := hw.2 c68
              refine lv_iconst (v := 0) hx hb d_Law_law_571 (by decide) ?_
              exact hw.elim
        · replace hw := hw.2 c65
          refine lv_iconst (v := 0) hx hb d_Law_law_554 (by decide) ?_
          exact hw.elim
      · replace hw := hw.2.2.2.2.2.2.2.1 c2
        rw [c2]
        refine lv_tableIn (tgt := 576) (off := 517) hx hb d_Law_law_59 (by decide) (by decide) (by decide) (by decide) ?_
        refine lv_aload_n hx hb d_Law_law_576 rfl (lv_at hl 1 rfl) ?_
        refine g_calli (va_runV (As := []) (rest := []) ⟨hx, hb, hml, hown, hts⟩ (k_LogDisk_sync l Y hY H.size x1 hx1 S _) (cwV 0 hts (gG_V gw_266 gw_267 gw_268 gw_1 gw_269) rfl rfl rfl (by decide +kernel) ⟨Nat.le_of_ble_eq_true rfl, Nat.le_of_ble_eq_true rfl⟩) ⟨gPre_blind, g_recv hK hP hx1 (gce_LogDisk hx1.1) rfl, g_pre hK hSt hS hP hw⟩ rfl rfl hl.1 rfl (lv_room (Nat.le_of_ble_eq_true rfl)) d_Law_law_577 ⟨by show _ ≤ 601024; omega, by show _ ≤ 7293000; omega⟩) hS (fun r71 S70 H locs hw hP hS => ?_)
        refine lv_aload_n hx hb d_Law_law_580 rfl (lv_at hl 2 rfl) ?_
        refine g_calli (va_runV (As := []) (rest := [.int r71]) ⟨hx, hb, hml, hown, hts⟩ (k_Mo_sync l Y hY H.size x2 hx2 S70 _) (cwV 0 hts (gG_V gw_1037 gw_1038 gw_1039 gw_12 gw_1040) rfl rfl rfl (by decide +kernel) ⟨Nat.le_of_ble_eq_true rfl, Nat.le_of_ble_eq_true rfl⟩) ⟨gPre_blind, g_recv hK hP hx2 (gce_Mo hx2.1) rfl, g_pre hK hSt hS hP hw⟩ rfl rfl hl.1 rfl (lv_room (Nat.le_of_ble_eq_true rfl)) d_Law_law_581 ⟨by show _ ≤ 601024; omega, by show _ ≤ 7293000; omega⟩) hS (fun r73 S72 H locs hw hP hS => ?_)
        refine lv_icmp_eq (tgt := 1146) hx hb d_Law_law_584 (by decide) (fun c74 => ?_) (fun c74 => ?_)
        · replace hw := hw.1 c74
          obtain ⟨v4_75, ev4_75⟩ : ∃ y : Int32, y = x4 + 4 := ⟨_, rfl⟩
          replace hw := hw v4_75 ev4_75
          refine lv_iinc (v := v4_75) (lv' := [(4, .int v4_75), (0, .ref b), (1, .ref (gad Y x1)), (2, .ref (gad Y x2)), (3, .ref (gad Y x3))]) hx hb d_Law_law_1146 hl (k := 4) rfl (by rw [ev4_75]; rfl) (by decide) rfl (fun ls hl => ?_)
          refine lv_goto (tgt := 43) hx hb d_Law_law_1149 (by decide) ?_
          exact ih x1 x2 x3 v4_75 S72 H locs ls _ _ hx1 hx2 hx3 (by omega) (by omega) hw hP hS (lv_sub hl [1, 2, 3, 4, 0] rfl)
        · replace hw := hw.2 c74
          refine lv_iconst (v := 0) hx hb d_Law_law_587 (by decide) ?_
          exact hw.elim
      · replace hw := hw.2.2.2.2.2.2.2.2.1 c2
        rw [c2]
        refine lv_tableIn (tgt := 589) (off := 530) hx hb d_Law_law_59 (by decide) (by decide) (by decide) (by decide) ?_
        refine lv_aload_n hx hb d_Law_law_589 rfl (lv_at hl 1 rfl) ?_
        refine lv_aload_n hx hb d_Law_law_590 rfl (lv_at hl 0 rfl) ?_
        refine lv_iload hx hb d_Law_law_591 (lv_at hl 4 rfl) ?_
        refine lv_iconst (v := 1) hx hb d_Law_law_593 (by decide) ?_
        refine lv_iadd hx hb d_Law_law_594 ?_
        obtain ⟨hin, hw⟩ := hw
        refine va_sld hx hb hX hbl hbA hS hin d_Law_law_595 ?_
        refine lv_aload_n hx hb d_Law_law_596 rfl (lv_at hl 0 rfl) ?_
        refine lv_iload hx hb d_Law_law_597 (lv_at hl 4 rfl) ?_
        refine lv_iconst (v := 2) hx hb d_Law_law_599 (by decide) ?_
        refine lv_iadd hx hb d_Law_law_600 ?_
        obtain ⟨hin, hw⟩ := hw
        refine va_sld hx hb hX hbl hbA hS hin d_Law_law_601 ?_
        refine gx_helper (gx_runH (n := 3) (As := [.ref (gad Y x1), .int (xs (x4 + 1).toNatClampNeg), .int (xs (x4 + 2).toNatClampNeg)]) (rest := []) ⟨hx, hb, hml, hown, hts⟩ (k_Law_keep l hlt Y hY H.size x1 (xs (x4 + 1).toNatClampNeg) (xs (x4 + 2).toNatClampNeg) hx1 S _) rfl rfl (Nat.le_of_ble_eq_true rfl) (Nat.le_of_ble_eq_true rfl) (gG_S gw_711 gw_712 gw_0 gw_713) List.mem_cons_self (by decide +kernel) ⟨gPre_blind, g_pre hK hSt hS hP hw⟩ rfl rfl hl.1 rfl (lv_room (Nat.le_of_ble_eq_true rfl)) d_Law_law_602 ⟨by show _ ≤ 601024; omega, by show _ ≤ 7293000; omega⟩) hS (fun r76 S77 H locs hw hP hS => ?_)
        refine lv_istore (lv' := [(5, .int r76), (0, .ref b), (1, .ref (gad Y x1)), (2, .ref (gad Y x2)), (3, .ref (gad Y x3)), (4, .int x4)]) hx hb d_Law_law_605 hl (by decide) rfl (fun ls hl => ?_)
        refine lv_aload_n hx hb d_Law_law_607 rfl (lv_at hl 3 rfl) ?_
        refine lv_aload_n hx hb d_Law_law_608 rfl (lv_at hl 1 rfl) ?_
        refine lv_iload hx hb d_Law_law_609 (lv_at hl 5 rfl) ?_
        refine lv_iconst (v := 1) hx hb d_Law_law_611 (by decide) ?_
        refine lv_iadd hx hb d_Law_law_612 ?_
        obtain ⟨hin, hw⟩ := hw
        refine va_sld hx hb hX hbl hbA hS hin d_Law_law_613 ?_
        refine lv_aload_n hx hb d_Law_law_614 rfl (lv_at hl 1 rfl) ?_
        refine lv_iload hx hb d_Law_law_615 (lv_at hl 5 rfl) ?_
        refine lv_iconst (v := 2) hx hb d_Law_law_617 (by decide) ?_
        refine lv_iadd hx hb d_Law_law_618 ?_
        obtain ⟨hin, hw⟩ := hw
        refine va_sld hx hb hX hbl hbA hS hin d_Law_law_619 ?_
        refine g_callv (va_runV (As := [.int (xs (x4 + 1).toNatClampNeg), .int (xs (x4 + 2).toNatClampNeg)]) (rest := []) ⟨hx, hb, hml, hown, hts⟩ (k_Mo_keep l Y hY H.size x2 (xs (x4 + 1).toNatClampNeg) (xs (x4 + 2).toNatClampNeg) hx2 S77 _) (cwV 2 hts (gG_V gw_1041 gw_1042 gw_1043 gw_12 gw_1044) rfl rfl rfl (by decide +kernel) ⟨Nat.le_of_ble_eq_true rfl, Nat.le_of_ble_eq_true rfl⟩) ⟨gPre_blind, g_recv hK hP hx2 (gce_Mo hx2.1) rfl, g_pre hK hSt hS hP hw⟩ rfl rfl hl.1 rfl (lv_room (Nat.le_of_ble_eq_true rfl)) d_Law_law_620 ⟨by show _ ≤ 601024; omega, by show _ ≤ 7293000; omega⟩) hS (fun S78 H locs hw hP hS => ?_)
        refine lv_aload_n hx hb d_Law_law_623 rfl (lv_at hl 3 rfl) ?_
        refine g_calli (va_runV (As := []) (rest := []) ⟨hx, hb, hml, hown, hts⟩ (k_Mo_thrown l Y hY H.size x2 hx2 S78 _) (cwV 0 hts (gG_V gw_914 gw_915 gw_916 gw_12 gw_917) rfl rfl rfl (by decide +kernel) ⟨Nat.le_of_ble_eq_true rfl, Nat.le_of_ble_eq_true rfl⟩) ⟨gPre_blind, g_recv hK hP hx2 (gce_Mo hx2.1) rfl, g_pre hK hSt hS hP hw⟩ rfl rfl hl.1 rfl (lv_room (Nat.le_of_ble_eq_true rfl)) d_Law_law_624 ⟨by show _ ≤ 601024; omega, by show _ ≤ 7293000; omega⟩) hS (fun r80 S79 H locs hw hP hS => ?_)
        refine lv_iload hx hb d_Law_law_627 (lv_at hl 0 rfl) ?_
        refine lv_icmp_eq (tgt := 634) hx hb d_Law_law_629 (by decide) (fun c81 => ?_) (fun c81 => ?_)
        · replace hw := hw.1 c81
          refine lv_goto (tgt := 1146) hx hb d_Law_law_634 (by decide) ?_
          obtain ⟨v4_82, ev4_82⟩ : ∃ y : Int32, y = x4 + 4 := ⟨_, rfl⟩
          replace hw := hw v4_82 ev4_82
          refine lv_iinc (v := v4_82) (lv' := [(4, .int v4_82), (5, .int r76), (0, .ref b), (1, .ref (gad Y x1)), (2, .ref (gad Y x2)), (3, .ref (gad Y x3))]) hx hb d_Law_law_1146 hl (k := 5) rfl (by rw [ev4_82]; rfl) (by decide) rfl (fun ls hl => ?_)
          refine lv_goto (tgt := 43) hx hb d_Law_law_1149 (by decide) ?_
          exact ih x1 x2 x3 v4_82 S79 H locs ls _ _ hx1 hx2 hx3 (by omega) (by omega) hw hP hS (lv_sub hl [2, 3, 4, 5, 0] rfl)
        · replace hw := hw.2 c81
          refine lv_iconst (v := 0) hx hb d_Law_law_632 (by decide) ?_
          exact hw.elim
      · replace hw := hw.2.2.2.2.2.2.2.2.2.1 c2
        rw [c2]
        refine lv_tableIn (tgt := 637) (off := 578) hx hb d_Law_law_59 (by decide) (by decide) (by decide) (by decide) ?_
        refine lv_aload_n hx hb d_Law_law_637 rfl (lv_at hl 1 rfl) ?_
        refine lv_aload_n hx hb d_Law_law_638 rfl (lv_at hl 0 rfl) ?_
        refine lv_iload hx hb d_Law_law_639 (lv_at hl 4 rfl) ?_
        refine lv_iconst (v := 1) hx hb d_Law_law_641 (by decide) ?_
        refine lv_iadd hx hb d_Law_law_642 ?_
        obtain ⟨hin, hw⟩ := hw
        refine va_sld hx hb hX hbl hbA hS hin d_Law_law_643 ?_
        refine lv_i2l hx hb d_Law_law_644 rfl ?_
        refine lv_bipush (v := 32) hx hb d_Law_law_645 (by decide) ?_
        refine lv_lshl hx hb d_Law_law_647 rfl ?_
        refine lv_aload_n hx hb d_Law_law_648 rfl (lv_at hl 0 rfl) ?_
        refine lv_iload hx hb d_Law_law_649 (lv_at hl 4 rfl) ?_
        refine lv_iconst (v := 2) hx hb d_Law_law_651 (by decide) ?_
        refine lv_iadd hx hb d_Law_law_652 ?_
        obtain ⟨hin, hw⟩ := hw
        refine va_sld hx hb hX hbl hbA hS hin d_Law_law_653 ?_
        refine lv_i2l hx hb d_Law_law_654 rfl ?_
        refine lv_ldc2 (v := 4294967295) hx hb hown (hts _ (List.mem_cons_of_mem _ gw_1130)) d_Law_law_655 ?_
        refine lv_land hx hb d_Law_law_658 ?_
        refine lv_lor hx hb d_Law_law_659 ?_
        refine g_calli (va_runV (As := [.long ((ju_lshl ((xs (x4 + 1).toNatClampNeg).toInt64) 32) ||| (((xs (x4 + 2).toNatClampNeg).toInt64) &&& (4294967295 : Int64)))]) (rest := []) ⟨hx, hb, hml, hown, hts⟩ (k_LogDisk_crash l Y hY H.size x1 ((ju_lshl ((xs (x4 + 1).toNatClampNeg).toInt64) 32) ||| (((xs (x4 + 2).toNatClampNeg).toInt64) &&& (4294967295 : Int64))) hx1 S _) (cwV 1 hts (gG_V gw_297 gw_298 gw_299 gw_1 gw_300) rfl rfl rfl (by decide +kernel) ⟨Nat.le_of_ble_eq_true rfl, Nat.le_of_ble_eq_true rfl⟩) ⟨gPre_blind, g_recv hK hP hx1 (gce_LogDisk hx1.1) rfl, g_pre hK hSt hS hP hw⟩ rfl rfl hl.1 rfl (lv_room (Nat.le_of_ble_eq_true rfl)) d_Law_law_660 ⟨by show _ ≤ 601024; omega, by show _ ≤ 7293000; omega⟩) hS (fun r84 S83 H locs hw hP hS => ?_)
        refine lv_aload_n hx hb d_Law_law_663 rfl (lv_at hl 2 rfl) ?_
        refine lv_aload_n hx hb d_Law_law_664 rfl (lv_at hl 0 rfl) ?_
        refine lv_iload hx hb d_Law_law_665 (lv_at hl 4 rfl) ?_
        refine lv_iconst (v := 1) hx hb d_Law_law_667 (by decide) ?_
        refine lv_iadd hx hb d_Law_law_668 ?_
        obtain ⟨hin, hw⟩ := hw
        refine va_sld hx hb hX hbl hbA hS hin d_Law_law_669 ?_
        refine lv_i2l hx hb d_Law_law_670 rfl ?_
        refine lv_bipush (v := 32) hx hb d_Law_law_671 (by decide) ?_
        refine lv_lshl hx hb d_Law_law_673 rfl ?_
        refine lv_aload_n hx hb d_Law_law_674 rfl (lv_at hl 0 rfl) ?_
        refine lv_iload hx hb d_Law_law_675 (lv_at hl 4 rfl) ?_
        refine lv_iconst (v := 2) hx hb d_Law_law_677 (by decide) ?_
        refine lv_iadd hx hb d_Law_law_678 ?_
        obtain ⟨hin, hw⟩ := hw
        refine va_sld hx hb hX hbl hbA hS hin d_Law_law_679 ?_
        refine lv_i2l hx hb d_Law_law_680 rfl ?_
        refine lv_ldc2 (v := 4294967295) hx hb hown (hts _ (List.mem_cons_of_mem _ gw_1130)) d_Law_law_681 ?_
        refine lv_land hx hb d_Law_law_684 ?_
        refine lv_lor hx hb d_Law_law_685 ?_
        refine g_calli (va_runV (As := [.long ((ju_lshl ((xs (x4 + 1).toNatClampNeg).toInt64) 32) ||| (((xs (x4 + 2).toNatClampNeg).toInt64) &&& (4294967295 : Int64)))]) (rest := [.int r84]) ⟨hx, hb, hml, hown, hts⟩ (k_Mo_crash l Y hY H.size x2 ((ju_lshl ((xs (x4 + 1).toNatClampNeg).toInt64) 32) ||| (((xs (x4 + 2).toNatClampNeg).toInt64) &&& (4294967295 : Int64))) hx2 S83 _) (cwV 1 hts (gG_V gw_1045 gw_1046 gw_1047 gw_12 gw_1048) rfl rfl rfl (by decide +kernel) ⟨Nat.le_of_ble_eq_true rfl, Nat.le_of_ble_eq_true rfl⟩) ⟨gPre_blind, g_recv hK hP hx2 (gce_Mo hx2.1) rfl, g_pre hK hSt hS hP hw⟩ rfl rfl hl.1 rfl (lv_room (Nat.le_of_ble_eq_true rfl)) d_Law_law_686 ⟨by show _ ≤ 601024; omega, by show _ ≤ 7293000; omega⟩) hS (fun r86 S85 H locs hw hP hS => ?_)
        refine lv_icmp_eq (tgt := 1146) hx hb d_Law_law_689 (by decide) (fun c87 => ?_) (fun c87 => ?_)
        · replace hw := hw.1 c87
          obtain ⟨v4_88, ev4_88⟩ : ∃ y : Int32, y = x4 + 4 := ⟨_, rfl⟩
          replace hw := hw v4_88 ev4_88
          refine lv_iinc (v := v4_88) (lv' := [(4, .int v4_88), (0, .ref b), (1, .ref (gad Y x1)), (2, .ref (gad Y x2)), (3, .ref (gad Y x3))]) hx hb d_Law_law_1146 hl (k := 4) rfl (by rw [ev4_88]; rfl) (by decide) rfl (fun ls hl => ?_)
          refine lv_goto (tgt := 43) hx hb d_Law_law_1149 (by decide) ?_
          exact ih x1 x2 x3 v4_88 S85 H locs ls _ _ hx1 hx2 hx3 (by omega) (by omega) hw hP hS (lv_sub hl [1, 2, 3, 4, 0] rfl)
        · replace hw := hw.2 c87
          refine lv_iconst (v := 0) hx hb d_Law_law_692 (by decide) ?_
          exact hw.elim
      · replace hw := hw.2.2.2.2.2.2.2.2.2.2.1 c2
        rw [c2]
        refine lv_tableIn (tgt := 694) (off := 635) hx hb d_Law_law_59 (by decide) (by decide) (by decide) (by decide) ?_
        refine lv_aload_n hx hb d_Law_law_694 rfl (lv_at hl 1 rfl) ?_
        refine lv_aload_n hx hb d_Law_law_695 rfl (lv_at hl 0 rfl) ?_
        refine lv_iload hx hb d_Law_law_696 (lv_at hl 4 rfl) ?_
        refine lv_iconst (v := 1) hx hb d_Law_law_698 (by decide) ?_
        refine lv_iadd hx hb d_Law_law_699 ?_
        obtain ⟨hin, hw⟩ := hw
        refine va_sld hx hb hX hbl hbA hS hin d_Law_law_700 ?_
        refine lv_aload_n hx hb d_Law_law_701 rfl (lv_at hl 3 rfl) ?_
        refine gx_helper (gx_runH (n := 3) (As := [.ref (gad Y x1), .int (xs (x4 + 1).toNatClampNeg), .ref (gad Y x3)]) (rest := []) ⟨hx, hb, hml, hown, hts⟩ (k_Law_state l hlt Y hY H.size x1 (xs (x4 + 1).toNatClampNeg) x3 hx1 hx3 S _) rfl rfl (Nat.le_of_ble_eq_true rfl) (Nat.le_of_ble_eq_true rfl) (gG_S gw_723 gw_724 gw_0 gw_725) List.mem_cons_self (by decide +kernel) ⟨gPre_blind, g_pre hK hSt hS hP hw⟩ rfl rfl hl.1 rfl (lv_room (Nat.le_of_ble_eq_true rfl)) d_Law_law_702 ⟨by show _ ≤ 601024; omega, by show _ ≤ 7293000; omega⟩) hS (fun r89 S90 H locs hw hP hS => ?_)
        refine lv_istore (lv' := [(5, .int r89), (0, .ref b), (1, .ref (gad Y x1)), (2, .ref (gad Y x2)), (3, .ref (gad Y x3)), (4, .int x4)]) hx hb d_Law_law_705 hl (by decide) rfl (fun ls hl => ?_)
        refine lv_aload_n hx hb d_Law_law_707 rfl (lv_at hl 3 rfl) ?_
        refine lv_aload_n hx hb d_Law_law_708 rfl (lv_at hl 1 rfl) ?_
        refine lv_iload hx hb d_Law_law_709 (lv_at hl 5 rfl) ?_
        refine lv_iconst (v := 1) hx hb d_Law_law_711 (by decide) ?_
        refine lv_iadd hx hb d_Law_law_712 ?_
        obtain ⟨hin, hw⟩ := hw
        refine va_sld hx hb hX hbl hbA hS hin d_Law_law_713 ?_
        refine g_calli (va_runV (As := [.int (xs (x4 + 1).toNatClampNeg)]) (rest := []) ⟨hx, hb, hml, hown, hts⟩ (k_Mo_state l Y hY H.size x2 (xs (x4 + 1).toNatClampNeg) hx2 S90 _) (cwV 1 hts (gG_V gw_1085 gw_1086 gw_1087 gw_12 gw_1088) rfl rfl rfl (by decide +kernel) ⟨Nat.le_of_ble_eq_true rfl, Nat.le_of_ble_eq_true rfl⟩) ⟨gPre_blind, g_recv hK hP hx2 (gce_Mo hx2.1) rfl, g_pre hK hSt hS hP hw⟩ rfl rfl hl.1 rfl (lv_room (Nat.le_of_ble_eq_true rfl)) d_Law_law_714 ⟨by show _ ≤ 601024; omega, by show _ ≤ 7293000; omega⟩) hS (fun r92 S91 H locs hw hP hS => ?_)
        refine lv_istore (lv' := [(6, .int r92), (5, .int r89), (0, .ref b), (1, .ref (gad Y x1)), (2, .ref (gad Y x2)), (3, .ref (gad Y x3)), (4, .int x4)]) hx hb d_Law_law_717 hl (by decide) rfl (fun ls hl => ?_)
        refine lv_aload_n hx hb d_Law_law_719 rfl (lv_at hl 4 rfl) ?_
        refine g_calli (va_runV (As := []) (rest := []) ⟨hx, hb, hml, hown, hts⟩ (k_Mo_thrown l Y hY H.size x2 hx2 S91 _) (cwV 0 hts (gG_V gw_914 gw_915 gw_916 gw_12 gw_917) rfl rfl rfl (by decide +kernel) ⟨Nat.le_of_ble_eq_true rfl, Nat.le_of_ble_eq_true rfl⟩) ⟨gPre_blind, g_recv hK hP hx2 (gce_Mo hx2.1) rfl, g_pre hK hSt hS hP hw⟩ rfl rfl hl.1 rfl (lv_room (Nat.le_of_ble_eq_true rfl)) d_Law_law_720 ⟨by show _ ≤ 601024; omega, by show _ ≤ 7293000; omega⟩) hS (fun r94 S93 H locs hw hP hS => ?_)
        refine lv_iload hx hb d_Law_law_723 (lv_at hl 1 rfl) ?_
        refine lv_icmp_eq (tgt := 730) hx hb d_Law_law_725 (by decide) (fun c95 => ?_) (fun c95 => ?_)
        · replace hw := hw.1 c95
          refine lv_iload hx hb d_Law_law_730 (lv_at hl 1 rfl) ?_
          refine lv_if_ne (tgt := 747) hx hb d_Law_law_732 (by decide) (fun c96 => ?_) (fun c96 => ?_)
          · replace hw := hw.1 c96
            refine lv_goto (tgt := 1146) hx hb d_Law_law_747 (by decide) ?_
            obtain ⟨v4_97, ev4_97⟩ : ∃ y : Int32, y = x4 + 4 := ⟨_, rfl⟩
            replace hw := hw v4_97 ev4_97
            refine lv_iinc (v := v4_97) (lv' := [(4, .int v4_97), (6, .int r92), (5, .int r89), (0, .ref b), (1, .ref (gad Y x1)), (2, .ref (gad Y x2)), (3, .ref (gad Y x3))]) hx hb d_Law_law_1146 hl (k := 6) rfl (by rw [ev4_97]; rfl) (by decide) rfl (fun ls hl => ?_)
            refine lv_goto (tgt := 43) hx hb d_Law_law_1149 (by decide) ?_
            exact ih x1 x2 x3 v4_97 S93 H locs ls _ _ hx1 hx2 hx3 (by omega) (by omega) hw hP hS (lv_sub hl [3, 4, 5, 6, 0] rfl)
          · replace hw := hw.2 c96
            refine lv_aload_n hx hb d_Law_law_735 rfl (lv_at hl 5 rfl) ?_
            refine lv_iconst (v := 0) hx hb d_Law_law_736 (by decide) ?_
            obtain ⟨hin, hw⟩ := hw
            refine g_laload hx hb hK hP hx3 hin d_Law_law_737 ?_
            refine lv_iload hx hb d_Law_law_738 (lv_at hl 0 rfl) ?_
            refine lv_i2l hx hb d_Law_law_740 rfl ?_
            refine W.lcmp hx hb d_Law_law_741 ?_
            refine lv_if_eq (tgt := 747) hx hb d_Law_law_742 (by decide) (fun c98 => ?_) (fun c98 => ?_)
            · replace hw := hw.1 c98
              refine lv_goto (tgt := 1146) hx hb d_Law_law_747 (by decide) ?_
              obtain ⟨v4_99, ev4_99⟩ : ∃ y : Int32, y = x4 + 4 := ⟨_, rfl⟩
              replace hw := hw v4_99 ev4_99
              refine lv_iinc (v := v4_99) (lv' := [(4, .int v4_99), (6, .int r92), (5, .int r89), (0, .ref b), (1, .ref (gad Y x1)), (2, .ref (gad Y x2)), (3, .ref (gad Y x3))]) hx hb d_Law_law_1146 hl (k := 6) rfl (by rw [ev4_99]; rfl) (by decide) rfl (fun ls hl => ?_)
              refine lv_goto (tgt := 43) hx hb d_Law_law_1149 (by decide) ?_
              exact ih x1 x2 x3 v4_99 S93 H locs ls _ _ hx1 hx2 hx3 (by omega) (by omega) hw hP hS (lv_sub hl [3, 4, 5, 6, 0] rfl)
            · replace hw := hw.2 c98
              refine lv_iconst (v := 0) hx hb d_Law_law_745 (by decide) ?_
              exact hw.elim
        · replace hw := hw.2 c95
          refine lv_iconst (v := 0) hx hb d_Law_law_728 (by decide) ?_
          exact hw.elim
      · replace hw := hw.2.2.2.2.2.2.2.2.2.2.2.1 c2
        rw [c2]
        refine lv_tableIn (tgt := 750) (off := 691) hx hb d_Law_law_59 (by decide) (by decide) (by decide) (by decide) ?_
        refine lv_aload_n hx hb d_Law_law_750 rfl (lv_at hl 1 rfl) ?_
        refine lv_aload_n hx hb d_Law_law_751 rfl (lv_at hl 0 rfl) ?_
        refine lv_iload hx hb d_Law_law_752 (lv_at hl 4 rfl) ?_
        refine lv_iconst (v := 1) hx hb d_Law_law_754 (by decide) ?_
        refine lv_iadd hx hb d_Law_law_755 ?_
        obtain ⟨hin, hw⟩ := hw
        refine va_sld hx hb hX hbl hbA hS hin d_Law_law_756 ?_
        refine lv_aload_n hx hb d_Law_law_757 rfl (lv_at hl 0 rfl) ?_
        refine lv_iload hx hb d_Law_law_758 (lv_at hl 4 rfl) ?_
        refine lv_iconst (v := 2) hx hb d_Law_law_760 (by decide) ?_
        refine lv_iadd hx hb d_Law_law_761 ?_
        obtain ⟨hin, hw⟩ := hw
        refine va_sld hx hb hX hbl hbA hS hin d_Law_law_762 ?_
        refine lv_aload_n hx hb d_Law_law_763 rfl (lv_at hl 3 rfl) ?_
        refine gx_helper (gx_runH (n := 4) (As := [.ref (gad Y x1), .int (xs (x4 + 1).toNatClampNeg), .int (xs (x4 + 2).toNatClampNeg), .ref (gad Y x3)]) (rest := []) ⟨hx, hb, hml, hown, hts⟩ (k_Law_entry l hlt Y hY H.size x1 (xs (x4 + 1).toNatClampNeg) (xs (x4 + 2).toNatClampNeg) x3 hx1 hx3 S _) rfl rfl (Nat.le_of_ble_eq_true rfl) (Nat.le_of_ble_eq_true rfl) (gG_S gw_739 gw_740 gw_0 gw_741) List.mem_cons_self (by decide +kernel) ⟨gPre_blind, g_pre hK hSt hS hP hw⟩ rfl rfl hl.1 rfl (lv_room (Nat.le_of_ble_eq_true rfl)) d_Law_law_764 ⟨by show _ ≤ 601024; omega, by show _ ≤ 7293000; omega⟩) hS (fun r100 S101 H locs hw hP hS => ?_)
        refine lv_istore (lv' := [(5, .int r100), (0, .ref b), (1, .ref (gad Y x1)), (2, .ref (gad Y x2)), (3, .ref (gad Y x3)), (4, .int x4)]) hx hb d_Law_law_767 hl (by decide) rfl (fun ls hl => ?_)
        refine lv_aload_n hx hb d_Law_law_769 rfl (lv_at hl 3 rfl) ?_
        refine lv_aload_n hx hb d_Law_law_770 rfl (lv_at hl 1 rfl) ?_
        refine lv_iload hx hb d_Law_law_771 (lv_at hl 5 rfl) ?_
        refine lv_iconst (v := 1) hx hb d_Law_law_773 (by decide) ?_
        refine lv_iadd hx hb d_Law_law_774 ?_
        obtain ⟨hin, hw⟩ := hw
        refine va_sld hx hb hX hbl hbA hS hin d_Law_law_775 ?_
        refine lv_aload_n hx hb d_Law_law_776 rfl (lv_at hl 1 rfl) ?_
        refine lv_iload hx hb d_Law_law_777 (lv_at hl 5 rfl) ?_
        refine lv_iconst (v := 2) hx hb d_Law_law_779 (by decide) ?_
        refine lv_iadd hx hb d_Law_law_780 ?_
        obtain ⟨hin, hw⟩ := hw
        refine va_sld hx hb hX hbl hbA hS hin d_Law_law_781 ?_
        refine g_calli (va_runV (As := [.int (xs (x4 + 1).toNatClampNeg), .int (xs (x4 + 2).toNatClampNeg)]) (rest := []) ⟨hx, hb, hml, hown, hts⟩ (k_Mo_entry l Y hY H.size x2 (xs (x4 + 1).toNatClampNeg) (xs (x4 + 2).toNatClampNeg) hx2 S101 _) (cwV 2 hts (gG_V gw_1089 gw_1090 gw_1091 gw_12 gw_1092) rfl rfl rfl (by decide +kernel) ⟨Nat.le_of_ble_eq_true rfl, Nat.le_of_ble_eq_true rfl⟩) ⟨gPre_blind, g_recv hK hP hx2 (gce_Mo hx2.1) rfl, g_pre hK hSt hS hP hw⟩ rfl rfl hl.1 rfl (lv_room (Nat.le_of_ble_eq_true rfl)) d_Law_law_782 ⟨by show _ ≤ 601024; omega, by show _ ≤ 7293000; omega⟩) hS (fun r103 S102 H locs hw hP hS => ?_)
        refine lv_istore (lv' := [(6, .int r103), (5, .int r100), (0, .ref b), (1, .ref (gad Y x1)), (2, .ref (gad Y x2)), (3, .ref (gad Y x3)), (4, .int x4)]) hx hb d_Law_law_785 hl (by decide) rfl (fun ls hl => ?_)
        refine lv_aload_n hx hb d_Law_law_787 rfl (lv_at hl 4 rfl) ?_
        refine g_calli (va_runV (As := []) (rest := []) ⟨hx, hb, hml, hown, hts⟩ (k_Mo_thrown l Y hY H.size x2 hx2 S102 _) (cwV 0 hts (gG_V gw_914 gw_915 gw_916 gw_12 gw_917) rfl rfl rfl (by decide +kernel) ⟨Nat.le_of_ble_eq_true rfl, Nat.le_of_ble_eq_true rfl⟩) ⟨gPre_blind, g_recv hK hP hx2 (gce_Mo hx2.1) rfl, g_pre hK hSt hS hP hw⟩ rfl rfl hl.1 rfl (lv_room (Nat.le_of_ble_eq_true rfl)) d_Law_law_788 ⟨by show _ ≤ 601024; omega, by show _ ≤ 7293000; omega⟩) hS (fun r105 S104 H locs hw hP hS => ?_)
        refine lv_iload hx hb d_Law_law_791 (lv_at hl 1 rfl) ?_
        refine lv_icmp_eq (tgt := 798) hx hb d_Law_law_793 (by decide) (fun c106 => ?_) (fun c106 => ?_)
        · replace hw := hw.1 c106
          refine lv_iload hx hb d_Law_law_798 (lv_at hl 1 rfl) ?_
          refine lv_if_ne (tgt := 815) hx hb d_Law_law_800 (by decide) (fun c107 => ?_) (fun c107 => ?_)
          · replace hw := hw.1 c107
            refine lv_goto (tgt := 1146) hx hb d_Law_law_815 (by decide) ?_
            obtain ⟨v4_108, ev4_108⟩ : ∃ y : Int32, y = x4 + 4 := ⟨_, rfl⟩
            replace hw := hw v4_108 ev4_108
            refine lv_iinc (v := v4_108) (lv' := [(4, .int v4_108), (6, .int r103), (5, .int r100), (0, .ref b), (1, .ref (gad Y x1)), (2, .ref (gad Y x2)), (3, .ref (gad Y x3))]) hx hb d_Law_law_1146 hl (k := 6) rfl (by rw [ev4_108]; rfl) (by decide) rfl (fun ls hl => ?_)
            refine lv_goto (tgt := 43) hx hb d_Law_law_1149 (by decide) ?_
            exact ih x1 x2 x3 v4_108 S104 H locs ls _ _ hx1 hx2 hx3 (by omega) (by omega) hw hP hS (lv_sub hl [3, 4, 5, 6, 0] rfl)
          · replace hw := hw.2 c107
            refine lv_aload_n hx hb d_Law_law_803 rfl (lv_at hl 5 rfl) ?_
            refine lv_iconst (v := 0) hx hb d_Law_law_804 (by decide) ?_
            obtain ⟨hin, hw⟩ := hw
            refine g_laload hx hb hK hP hx3 hin d_Law_law_805 ?_
            refine lv_iload hx hb d_Law_law_806 (lv_at hl 0 rfl) ?_
            refine lv_i2l hx hb d_Law_law_808 rfl ?_
            refine W.lcmp hx hb d_Law_law_809 ?_
            refine lv_if_eq (tgt := 815) hx hb d_Law_law_810 (by decide) (fun c109 => ?_) (fun c109 => ?_)
            · replace hw := hw.1 c109
              refine lv_goto (tgt := 1146) hx hb d_Law_law_815 (by decide) ?_
              obtain ⟨v4_110, ev4_110⟩ : ∃ y : Int32, y = x4 + 4 := ⟨_, rfl⟩
              replace hw := hw v4_110 ev4_110
              refine lv_iinc (v := v4_110) (lv' := [(4, .int v4_110), (6, .int r103), (5, .int r100), (0, .ref b), (1, .ref (gad Y x1)), (2, .ref (gad Y x2)), (3, .ref (gad Y x3))]) hx hb d_Law_law_1146 hl (k := 6) rfl (by rw [ev4_110]; rfl) (by decide) rfl (fun ls hl => ?_)
              refine lv_goto (tgt := 43) hx hb d_Law_law_1149 (by decide) ?_
              exact ih x1 x2 x3 v4_110 S104 H locs ls _ _ hx1 hx2 hx3 (by omega) (by omega) hw hP hS (lv_sub hl [3, 4, 5, 6, 0] rfl)
            · replace hw := hw.2 c109
              refine lv_iconst (v := 0) hx hb d_Law_law_813 (by decide) ?_
              exact hw.elim
        · replace hw := hw.2 c106
          refine lv_iconst (v := 0) hx hb d_Law_law_796 (by decide) ?_
          exact hw.elim
      · replace hw := hw.2.2.2.2.2.2.2.2.2.2.2.2.1 c2
        rw [c2]
        refine lv_tableIn (tgt := 818) (off := 759) hx hb d_Law_law_59 (by decide) (by decide) (by decide) (by decide) ?_
        refine lv_aload_n hx hb d_Law_law_818 rfl (lv_at hl 1 rfl) ?_
        refine lv_aload_n hx hb d_Law_law_819 rfl (lv_at hl 0 rfl) ?_
        refine lv_iload hx hb d_Law_law_820 (lv_at hl 4 rfl) ?_
        refine lv_iconst (v := 1) hx hb d_Law_law_822 (by decide) ?_
        refine lv_iadd hx hb d_Law_law_823 ?_
        obtain ⟨hin, hw⟩ := hw
        refine va_sld hx hb hX hbl hbA hS hin d_Law_law_824 ?_
        refine lv_aload_n hx hb d_Law_law_825 rfl (lv_at hl 0 rfl) ?_
        refine lv_iload hx hb d_Law_law_826 (lv_at hl 4 rfl) ?_
        refine lv_iconst (v := 2) hx hb d_Law_law_828 (by decide) ?_
        refine lv_iadd hx hb d_Law_law_829 ?_
        obtain ⟨hin, hw⟩ := hw
        refine va_sld hx hb hX hbl hbA hS hin d_Law_law_830 ?_
        refine lv_aload_n hx hb d_Law_law_831 rfl (lv_at hl 3 rfl) ?_
        refine gx_helper (gx_runH (n := 4) (As := [.ref (gad Y x1), .int (xs (x4 + 1).toNatClampNeg), .int (xs (x4 + 2).toNatClampNeg), .ref (gad Y x3)]) (rest := []) ⟨hx, hb, hml, hown, hts⟩ (k_Law_contentAt l hlt Y hY H.size x1 (xs (x4 + 1).toNatClampNeg) (xs (x4 + 2).toNatClampNeg) x3 hx1 hx3 S _) rfl rfl (Nat.le_of_ble_eq_true rfl) (Nat.le_of_ble_eq_true rfl) (gG_S gw_747 gw_748 gw_0 gw_749) List.mem_cons_self (by decide +kernel) ⟨gPre_blind, g_pre hK hSt hS hP hw⟩ rfl rfl hl.1 rfl (lv_room (Nat.le_of_ble_eq_true rfl)) d_Law_law_832 ⟨by show _ ≤ 601024; omega, by show _ ≤ 7293000; omega⟩) hS (fun r111 S112 H locs hw hP hS => ?_)
        refine lv_istore (lv' := [(5, .int r111), (0, .ref b), (1, .ref (gad Y x1)), (2, .ref (gad Y x2)), (3, .ref (gad Y x3)), (4, .int x4)]) hx hb d_Law_law_835 hl (by decide) rfl (fun ls hl => ?_)
        refine lv_aload_n hx hb d_Law_law_837 rfl (lv_at hl 3 rfl) ?_
        refine lv_aload_n hx hb d_Law_law_838 rfl (lv_at hl 1 rfl) ?_
        refine lv_iload hx hb d_Law_law_839 (lv_at hl 5 rfl) ?_
        refine lv_iconst (v := 1) hx hb d_Law_law_841 (by decide) ?_
        refine lv_iadd hx hb d_Law_law_842 ?_
        obtain ⟨hin, hw⟩ := hw
        refine va_sld hx hb hX hbl hbA hS hin d_Law_law_843 ?_
        refine lv_aload_n hx hb d_Law_law_844 rfl (lv_at hl 1 rfl) ?_
        refine lv_iload hx hb d_Law_law_845 (lv_at hl 5 rfl) ?_
        refine lv_iconst (v := 2) hx hb d_Law_law_847 (by decide) ?_
        refine lv_iadd hx hb d_Law_law_848 ?_
        obtain ⟨hin, hw⟩ := hw
        refine va_sld hx hb hX hbl hbA hS hin d_Law_law_849 ?_
        refine g_calli (va_runV (As := [.int (xs (x4 + 1).toNatClampNeg), .int (xs (x4 + 2).toNatClampNeg)]) (rest := []) ⟨hx, hb, hml, hown, hts⟩ (k_Mo_contentAt l Y hY H.size x2 (xs (x4 + 1).toNatClampNeg) (xs (x4 + 2).toNatClampNeg) hx2 S112 _) (cwV 2 hts (gG_V gw_1097 gw_1098 gw_1099 gw_12 gw_1100) rfl rfl rfl (by decide +kernel) ⟨Nat.le_of_ble_eq_true rfl, Nat.le_of_ble_eq_true rfl⟩) ⟨gPre_blind, g_recv hK hP hx2 (gce_Mo hx2.1) rfl, g_pre hK hSt hS hP hw⟩ rfl rfl hl.1 rfl (lv_room (Nat.le_of_ble_eq_true rfl)) d_Law_law_850 ⟨by show _ ≤ 601024; omega, by show _ ≤ 7293000; omega⟩) hS (fun r114 S113 H locs hw hP hS => ?_)
        refine lv_istore (lv' := [(6, .int r114), (5, .int r111), (0, .ref b), (1, .ref (gad Y x1)), (2, .ref (gad Y x2)), (3, .ref (gad Y x3)), (4, .int x4)]) hx hb d_Law_law_853 hl (by decide) rfl (fun ls hl => ?_)
        refine lv_aload_n hx hb d_Law_law_855 rfl (lv_at hl 4 rfl) ?_
        refine g_calli (va_runV (As := []) (rest := []) ⟨hx, hb, hml, hown, hts⟩ (k_Mo_thrown l Y hY H.size x2 hx2 S113 _) (cwV 0 hts (gG_V gw_914 gw_915 gw_916 gw_12 gw_917) rfl rfl rfl (by decide +kernel) ⟨Nat.le_of_ble_eq_true rfl, Nat.le_of_ble_eq_true rfl⟩) ⟨gPre_blind, g_recv hK hP hx2 (gce_Mo hx2.1) rfl, g_pre hK hSt hS hP hw⟩ rfl rfl hl.1 rfl (lv_room (Nat.le_of_ble_eq_true rfl)) d_Law_law_856 ⟨by show _ ≤ 601024; omega, by show _ ≤ 7293000; omega⟩) hS (fun r116 S115 H locs hw hP hS => ?_)
        refine lv_iload hx hb d_Law_law_859 (lv_at hl 1 rfl) ?_
        refine lv_icmp_eq (tgt := 866) hx hb d_Law_law_861 (by decide) (fun c117 => ?_) (fun c117 => ?_)
        · replace hw := hw.1 c117
          refine lv_iload hx hb d_Law_law_866 (lv_at hl 1 rfl) ?_
          refine lv_if_ne (tgt := 883) hx hb d_Law_law_868 (by decide) (fun c118 => ?_) (fun c118 => ?_)
          · replace hw := hw.1 c118
            refine lv_goto (tgt := 1146) hx hb d_Law_law_883 (by decide) ?_
            obtain ⟨v4_119, ev4_119⟩ : ∃ y : Int32, y = x4 + 4 := ⟨_, rfl⟩
            replace hw := hw v4_119 ev4_119
            refine lv_iinc (v := v4_119) (lv' := [(4, .int v4_119), (6, .int r114), (5, .int r111), (0, .ref b), (1, .ref (gad Y x1)), (2, .ref (gad Y x2)), (3, .ref (gad Y x3))]) hx hb d_Law_law_1146 hl (k := 6) rfl (by rw [ev4_119]; rfl) (by decide) rfl (fun ls hl => ?_)
            refine lv_goto (tgt := 43) hx hb d_Law_law_1149 (by decide) ?_
            exact ih x1 x2 x3 v4_119 S115 H locs ls _ _ hx1 hx2 hx3 (by omega) (by omega) hw hP hS (lv_sub hl [3, 4, 5, 6, 0] rfl)
          · replace hw := hw.2 c118
            refine lv_aload_n hx hb d_Law_law_871 rfl (lv_at hl 5 rfl) ?_
            refine lv_iconst (v := 0) hx hb d_Law_law_872 (by decide) ?_
            obtain ⟨hin, hw⟩ := hw
            refine g_laload hx hb hK hP hx3 hin d_Law_law_873 ?_
            refine lv_iload hx hb d_Law_law_874 (lv_at hl 0 rfl) ?_
            refine lv_i2l hx hb d_Law_law_876 rfl ?_
            refine W.lcmp hx hb d_Law_law_877 ?_
            refine lv_if_eq (tgt := 883) hx hb d_Law_law_878 (by decide) (fun c120 => ?_) (fun c120 => ?_)
            · replace hw := hw.1 c120
              refine lv_goto (tgt := 1146) hx hb d_Law_law_883 (by decide) ?_
              obtain ⟨v4_121, ev4_121⟩ : ∃ y : Int32, y = x4 + 4 := ⟨_, rfl⟩
              replace hw := hw v4_121 ev4_121
              refine lv_iinc (v := v4_121) (lv' := [(4, .int v4_121), (6, .int r114), (5, .int r111), (0, .ref b), (1, .ref (gad Y x1)), (2, .ref (gad Y x2)), (3, .ref (gad Y x3))]) hx hb d_Law_law_1146 hl (k := 6) rfl (by rw [ev4_121]; rfl) (by decide) rfl (fun ls hl => ?_)
              refine lv_goto (tgt := 43) hx hb d_Law_law_1149 (by decide) ?_
              exact ih x1 x2 x3 v4_121 S115 H locs ls _ _ hx1 hx2 hx3 (by omega) (by omega) hw hP hS (lv_sub hl [3, 4, 5, 6, 0] rfl)
            · replace hw := hw.2 c120
              refine lv_iconst (v := 0) hx hb d_Law_law_881 (by decide) ?_
              exact hw.elim
        · replace hw := hw.2 c117
          refine lv_iconst (v := 0) hx hb d_Law_law_864 (by decide) ?_
          exact hw.elim
      · replace hw := hw.2.2.2.2.2.2.2.2.2.2.2.2.2.1 c2
        rw [c2]
        refine lv_tableIn (tgt := 886) (off := 827) hx hb d_Law_law_59 (by decide) (by decide) (by decide) (by decide) ?_
        refine lv_aload_n hx hb d_Law_law_886 rfl (lv_at hl 1 rfl) ?_
        refine lv_aload_n hx hb d_Law_law_887 rfl (lv_at hl 0 rfl) ?_
        refine lv_iload hx hb d_Law_law_888 (lv_at hl 4 rfl) ?_
        refine lv_iconst (v := 1) hx hb d_Law_law_890 (by decide) ?_
        refine lv_iadd hx hb d_Law_law_891 ?_
        obtain ⟨hin, hw⟩ := hw
        refine va_sld hx hb hX hbl hbA hS hin d_Law_law_892 ?_
        refine lv_aload_n hx hb d_Law_law_893 rfl (lv_at hl 3 rfl) ?_
        refine gx_helper (gx_runH (n := 3) (As := [.ref (gad Y x1), .int (xs (x4 + 1).toNatClampNeg), .ref (gad Y x3)]) (rest := []) ⟨hx, hb, hml, hown, hts⟩ (k_Law_snapshotAt l hlt Y hY H.size x1 (xs (x4 + 1).toNatClampNeg) x3 hx1 hx3 S _) rfl rfl (Nat.le_of_ble_eq_true rfl) (Nat.le_of_ble_eq_true rfl) (gG_S gw_772 gw_773 gw_0 gw_774) List.mem_cons_self (by decide +kernel) ⟨gPre_blind, g_pre hK hSt hS hP hw⟩ rfl rfl hl.1 rfl (lv_room (Nat.le_of_ble_eq_true rfl)) d_Law_law_894 ⟨by show _ ≤ 601024; omega, by show _ ≤ 7293000; omega⟩) hS (fun r122 S123 H locs hw hP hS => ?_)
        refine lv_istore (lv' := [(5, .int r122), (0, .ref b), (1, .ref (gad Y x1)), (2, .ref (gad Y x2)), (3, .ref (gad Y x3)), (4, .int x4)]) hx hb d_Law_law_897 hl (by decide) rfl (fun ls hl => ?_)
        refine lv_aload_n hx hb d_Law_law_899 rfl (lv_at hl 3 rfl) ?_
        refine lv_aload_n hx hb d_Law_law_900 rfl (lv_at hl 1 rfl) ?_
        refine lv_iload hx hb d_Law_law_901 (lv_at hl 5 rfl) ?_
        refine lv_iconst (v := 1) hx hb d_Law_law_903 (by decide) ?_
        refine lv_iadd hx hb d_Law_law_904 ?_
        obtain ⟨hin, hw⟩ := hw
        refine va_sld hx hb hX hbl hbA hS hin d_Law_law_905 ?_
        refine g_calli (va_runV (As := [.int (xs (x4 + 1).toNatClampNeg)]) (rest := []) ⟨hx, hb, hml, hown, hts⟩ (k_Mo_snapshotAt l Y hY H.size x2 (xs (x4 + 1).toNatClampNeg) hx2 S123 _) (cwV 1 hts (gG_V gw_1101 gw_1102 gw_1103 gw_12 gw_1104) rfl rfl rfl (by decide +kernel) ⟨Nat.le_of_ble_eq_true rfl, Nat.le_of_ble_eq_true rfl⟩) ⟨gPre_blind, g_recv hK hP hx2 (gce_Mo hx2.1) rfl, g_pre hK hSt hS hP hw⟩ rfl rfl hl.1 rfl (lv_room (Nat.le_of_ble_eq_true rfl)) d_Law_law_906 ⟨by show _ ≤ 601024; omega, by show _ ≤ 7293000; omega⟩) hS (fun r125 S124 H locs hw hP hS => ?_)
        refine lv_istore (lv' := [(6, .int r125), (5, .int r122), (0, .ref b), (1, .ref (gad Y x1)), (2, .ref (gad Y x2)), (3, .ref (gad Y x3)), (4, .int x4)]) hx hb d_Law_law_909 hl (by decide) rfl (fun ls hl => ?_)
        refine lv_aload_n hx hb d_Law_law_911 rfl (lv_at hl 4 rfl) ?_
        refine g_calli (va_runV (As := []) (rest := []) ⟨hx, hb, hml, hown, hts⟩ (k_Mo_thrown l Y hY H.size x2 hx2 S124 _) (cwV 0 hts (gG_V gw_914 gw_915 gw_916 gw_12 gw_917) rfl rfl rfl (by decide +kernel) ⟨Nat.le_of_ble_eq_true rfl, Nat.le_of_ble_eq_true rfl⟩) ⟨gPre_blind, g_recv hK hP hx2 (gce_Mo hx2.1) rfl, g_pre hK hSt hS hP hw⟩ rfl rfl hl.1 rfl (lv_room (Nat.le_of_ble_eq_true rfl)) d_Law_law_912 ⟨by show _ ≤ 601024; omega, by show _ ≤ 7293000; omega⟩) hS (fun r127 S126 H locs hw hP hS => ?_)
        refine lv_iload hx hb d_Law_law_915 (lv_at hl 1 rfl) ?_
        refine lv_icmp_eq (tgt := 922) hx hb d_Law_law_917 (by decide) (fun c128 => ?_) (fun c128 => ?_)
        · replace hw := hw.1 c128
          refine lv_iload hx hb d_Law_law_922 (lv_at hl 1 rfl) ?_
          refine lv_if_ne (tgt := 939) hx hb d_Law_law_924 (by decide) (fun c129 => ?_) (fun c129 => ?_)
          · replace hw := hw.1 c129
            refine lv_goto (tgt := 1146) hx hb d_Law_law_939 (by decide) ?_
            obtain ⟨v4_130, ev4_130⟩ : ∃ y : Int32, y = x4 + 4 := ⟨_, rfl⟩
            replace hw := hw v4_130 ev4_130
            refine lv_iinc (v := v4_130) (lv' := [(4, .int v4_130), (6, .int r125), (5, .int r122), (0, .ref b), (1, .ref (gad Y x1)), (2, .ref (gad Y x2)), (3, .ref (gad Y x3))]) hx hb d_Law_law_1146 hl (k := 6) rfl (by rw [ev4_130]; rfl) (by decide) rfl (fun ls hl => ?_)
            refine lv_goto (tgt := 43) hx hb d_Law_law_1149 (by decide) ?_
            exact ih x1 x2 x3 v4_130 S126 H locs ls _ _ hx1 hx2 hx3 (by omega) (by omega) hw hP hS (lv_sub hl [3, 4, 5, 6, 0] rfl)
          · replace hw := hw.2 c129
            refine lv_aload_n hx hb d_Law_law_927 rfl (lv_at hl 5 rfl) ?_
            refine lv_iconst (v := 0) hx hb d_Law_law_928 (by decide) ?_
            obtain ⟨hin, hw⟩ := hw
            refine g_laload hx hb hK hP hx3 hin d_Law_law_929 ?_
            refine lv_iload hx hb d_Law_law_930 (lv_at hl 0 rfl) ?_
            refine lv_i2l hx hb d_Law_law_932 rfl ?_
            refine W.lcmp hx hb d_Law_law_933 ?_
            refine lv_if_eq (tgt := 939) hx hb d_Law_law_934 (by decide) (fun c131 => ?_) (fun c131 => ?_)
            · replace hw := hw.1 c131
              refine lv_goto (tgt := 1146) hx hb d_Law_law_939 (by decide) ?_
              obtain ⟨v4_132, ev4_132⟩ : ∃ y : Int32, y = x4 + 4 := ⟨_, rfl⟩
              replace hw := hw v4_132 ev4_132
              refine lv_iinc (v := v4_132) (lv' := [(4, .int v4_132), (6, .int r125), (5, .int r122), (0, .ref b), (1, .ref (gad Y x1)), (2, .ref (gad Y x2)), (3, .ref (gad Y x3))]) hx hb d_Law_law_1146 hl (k := 6) rfl (by rw [ev4_132]; rfl) (by decide) rfl (fun ls hl => ?_)
              refine lv_goto (tgt := 43) hx hb d_Law_law_1149 (by decide) ?_
              exact ih x1 x2 x3 v4_132 S126 H locs ls _ _ hx1 hx2 hx3 (by omega) (by omega) hw hP hS (lv_sub hl [3, 4, 5, 6, 0] rfl)
            · replace hw := hw.2 c131
              refine lv_iconst (v := 0) hx hb d_Law_law_937 (by decide) ?_
              exact hw.elim
        · replace hw := hw.2 c128
          refine lv_iconst (v := 0) hx hb d_Law_law_920 (by decide) ?_
          exact hw.elim
      · replace hw := hw.2.2.2.2.2.2.2.2.2.2.2.2.2.2.1 c2
        rw [c2]
        refine lv_tableIn (tgt := 942) (off := 883) hx hb d_Law_law_59 (by decide) (by decide) (by decide) (by decide) ?_
        refine lv_aload_n hx hb d_Law_law_942 rfl (lv_at hl 1 rfl) ?_
        refine lv_aload_n hx hb d_Law_law_943 rfl (lv_at hl 0 rfl) ?_
        refine lv_iload hx hb d_Law_law_944 (lv_at hl 4 rfl) ?_
        refine lv_iconst (v := 1) hx hb d_Law_law_946 (by decide) ?_
        refine lv_iadd hx hb d_Law_law_947 ?_
        obtain ⟨hin, hw⟩ := hw
        refine va_sld hx hb hX hbl hbA hS hin d_Law_law_948 ?_
        refine lv_aload_n hx hb d_Law_law_949 rfl (lv_at hl 0 rfl) ?_
        refine lv_iload hx hb d_Law_law_950 (lv_at hl 4 rfl) ?_
        refine lv_iconst (v := 2) hx hb d_Law_law_952 (by decide) ?_
        refine lv_iadd hx hb d_Law_law_953 ?_
        obtain ⟨hin, hw⟩ := hw
        refine va_sld hx hb hX hbl hbA hS hin d_Law_law_954 ?_
        refine lv_aload_n hx hb d_Law_law_955 rfl (lv_at hl 3 rfl) ?_
        refine gx_helper (gx_runH (n := 4) (As := [.ref (gad Y x1), .int (xs (x4 + 1).toNatClampNeg), .int (xs (x4 + 2).toNatClampNeg), .ref (gad Y x3)]) (rest := []) ⟨hx, hb, hml, hown, hts⟩ (k_Law_segment l hlt Y hY H.size x1 (xs (x4 + 1).toNatClampNeg) (xs (x4 + 2).toNatClampNeg) x3 hx1 hx3 S _) rfl rfl (Nat.le_of_ble_eq_true rfl) (Nat.le_of_ble_eq_true rfl) (gG_S gw_779 gw_780 gw_0 gw_781) List.mem_cons_self (by decide +kernel) ⟨gPre_blind, g_pre hK hSt hS hP hw⟩ rfl rfl hl.1 rfl (lv_room (Nat.le_of_ble_eq_true rfl)) d_Law_law_956 ⟨by show _ ≤ 601024; omega, by show _ ≤ 7293000; omega⟩) hS (fun r133 S134 H locs hw hP hS => ?_)
        refine lv_istore (lv' := [(5, .int r133), (0, .ref b), (1, .ref (gad Y x1)), (2, .ref (gad Y x2)), (3, .ref (gad Y x3)), (4, .int x4)]) hx hb d_Law_law_959 hl (by decide) rfl (fun ls hl => ?_)
        refine lv_aload_n hx hb d_Law_law_961 rfl (lv_at hl 3 rfl) ?_
        refine lv_aload_n hx hb d_Law_law_962 rfl (lv_at hl 1 rfl) ?_
        refine lv_iload hx hb d_Law_law_963 (lv_at hl 5 rfl) ?_
        refine lv_iconst (v := 1) hx hb d_Law_law_965 (by decide) ?_
        refine lv_iadd hx hb d_Law_law_966 ?_
        obtain ⟨hin, hw⟩ := hw
        refine va_sld hx hb hX hbl hbA hS hin d_Law_law_967 ?_
        refine lv_aload_n hx hb d_Law_law_968 rfl (lv_at hl 1 rfl) ?_
        refine lv_iload hx hb d_Law_law_969 (lv_at hl 5 rfl) ?_
        refine lv_iconst (v := 2) hx hb d_Law_law_971 (by decide) ?_
        refine lv_iadd hx hb d_Law_law_972 ?_
        obtain ⟨hin, hw⟩ := hw
        refine va_sld hx hb hX hbl hbA hS hin d_Law_law_973 ?_
        refine g_calli (va_runV (As := [.int (xs (x4 + 1).toNatClampNeg), .int (xs (x4 + 2).toNatClampNeg)]) (rest := []) ⟨hx, hb, hml, hown, hts⟩ (k_Mo_segment l Y hY H.size x2 (xs (x4 + 1).toNatClampNeg) (xs (x4 + 2).toNatClampNeg) hx2 S134 _) (cwV 2 hts (gG_V gw_1105 gw_1106 gw_1107 gw_12 gw_1108) rfl rfl rfl (by decide +kernel) ⟨Nat.le_of_ble_eq_true rfl, Nat.le_of_ble_eq_true rfl⟩) ⟨gPre_blind, g_recv hK hP hx2 (gce_Mo hx2.1) rfl, g_pre hK hSt hS hP hw⟩ rfl rfl hl.1 rfl (lv_room (Nat.le_of_ble_eq_true rfl)) d_Law_law_974 ⟨by show _ ≤ 601024; omega, by show _ ≤ 7293000; omega⟩) hS (fun r136 S135 H locs hw hP hS => ?_)
        refine lv_istore (lv' := [(6, .int r136), (5, .int r133), (0, .ref b), (1, .ref (gad Y x1)), (2, .ref (gad Y x2)), (3, .ref (gad Y x3)), (4, .int x4)]) hx hb d_Law_law_977 hl (by decide) rfl (fun ls hl => ?_)
        refine lv_aload_n hx hb d_Law_law_979 rfl (lv_at hl 4 rfl) ?_
        refine g_calli (va_runV (As := []) (rest := []) ⟨hx, hb, hml, hown, hts⟩ (k_Mo_thrown l Y hY H.size x2 hx2 S135 _) (cwV 0 hts (gG_V gw_914 gw_915 gw_916 gw_12 gw_917) rfl rfl rfl (by decide +kernel) ⟨Nat.le_of_ble_eq_true rfl, Nat.le_of_ble_eq_true rfl⟩) ⟨gPre_blind, g_recv hK hP hx2 (gce_Mo hx2.1) rfl, g_pre hK hSt hS hP hw⟩ rfl rfl hl.1 rfl (lv_room (Nat.le_of_ble_eq_true rfl)) d_Law_law_980 ⟨by show _ ≤ 601024; omega, by show _ ≤ 7293000; omega⟩) hS (fun r138 S137 H locs hw hP hS => ?_)
        refine lv_iload hx hb d_Law_law_983 (lv_at hl 1 rfl) ?_
        refine lv_icmp_eq (tgt := 990) hx hb d_Law_law_985 (by decide) (fun c139 => ?_) (fun c139 => ?_)
        · replace hw := hw.1 c139
          refine lv_iload hx hb d_Law_law_990 (lv_at hl 1 rfl) ?_
          refine lv_if_ne (tgt := 1007) hx hb d_Law_law_992 (by decide) (fun c140 => ?_) (fun c140 => ?_)
          · replace hw := hw.1 c140
            refine lv_goto (tgt := 1146) hx hb d_Law_law_1007 (by decide) ?_
            obtain ⟨v4_141, ev4_141⟩ : ∃ y : Int32, y = x4 + 4 := ⟨_, rfl⟩
            replace hw := hw v4_141 ev4_141
            refine lv_iinc (v := v4_141) (lv' := [(4, .int v4_141), (6, .int r136), (5, .int r133), (0, .ref b), (1, .ref (gad Y x1)), (2, .ref (gad Y x2)), (3, .ref (gad Y x3))]) hx hb d_Law_law_1146 hl (k := 6) rfl (by rw [ev4_141]; rfl) (by decide) rfl (fun ls hl => ?_)
            refine lv_goto (tgt := 43) hx hb d_Law_law_1149 (by decide) ?_
            exact ih x1 x2 x3 v4_141 S137 H locs ls _ _ hx1 hx2 hx3 (by omega) (by omega) hw hP hS (lv_sub hl [3, 4, 5, 6, 0] rfl)
          · replace hw := hw.2 c140
            refine lv_aload_n hx hb d_Law_law_995 rfl (lv_at hl 5 rfl) ?_
            refine lv_iconst (v := 0) hx hb d_Law_law_996 (by decide) ?_
            obtain ⟨hin, hw⟩ := hw
            refine g_laload hx hb hK hP hx3 hin d_Law_law_997 ?_
            refine lv_iload hx hb d_Law_law_998 (lv_at hl 0 rfl) ?_
            refine lv_i2l hx hb d_Law_law_1000 rfl ?_
            refine W.lcmp hx hb d_Law_law_1001 ?_
            refine lv_if_eq (tgt := 1007) hx hb d_Law_law_1002 (by decide) (fun c142 => ?_) (fun c142 => ?_)
            · replace hw := hw.1 c142
              refine lv_goto (tgt := 1146) hx hb d_Law_law_1007 (by decide) ?_
              obtain ⟨v4_143, ev4_143⟩ : ∃ y : Int32, y = x4 + 4 := ⟨_, rfl⟩
              replace hw := hw v4_143 ev4_143
              refine lv_iinc (v := v4_143) (lv' := [(4, .int v4_143), (6, .int r136), (5, .int r133), (0, .ref b), (1, .ref (gad Y x1)), (2, .ref (gad Y x2)), (3, .ref (gad Y x3))]) hx hb d_Law_law_1146 hl (k := 6) rfl (by rw [ev4_143]; rfl) (by decide) rfl (fun ls hl => ?_)
              refine lv_goto (tgt := 43) hx hb d_Law_law_1149 (by decide) ?_
              exact ih x1 x2 x3 v4_143 S137 H locs ls _ _ hx1 hx2 hx3 (by omega) (by omega) hw hP hS (lv_sub hl [3, 4, 5, 6, 0] rfl)
            · replace hw := hw.2 c142
              refine lv_iconst (v := 0) hx hb d_Law_law_1005 (by decide) ?_
              exact hw.elim
        · replace hw := hw.2 c139
          refine lv_iconst (v := 0) hx hb d_Law_law_988 (by decide) ?_
          exact hw.elim
      · replace hw := hw.2.2.2.2.2.2.2.2.2.2.2.2.2.2.2.1 c2
        rw [c2]
        refine lv_tableIn (tgt := 1010) (off := 951) hx hb d_Law_law_59 (by decide) (by decide) (by decide) (by decide) ?_
        refine lv_aload_n hx hb d_Law_law_1010 rfl (lv_at hl 1 rfl) ?_
        refine lv_aload_n hx hb d_Law_law_1011 rfl (lv_at hl 0 rfl) ?_
        refine lv_iload hx hb d_Law_law_1012 (lv_at hl 4 rfl) ?_
        refine lv_iconst (v := 1) hx hb d_Law_law_1014 (by decide) ?_
        refine lv_iadd hx hb d_Law_law_1015 ?_
        obtain ⟨hin, hw⟩ := hw
        refine va_sld hx hb hX hbl hbA hS hin d_Law_law_1016 ?_
        refine lv_aload_n hx hb d_Law_law_1017 rfl (lv_at hl 0 rfl) ?_
        refine lv_iload hx hb d_Law_law_1018 (lv_at hl 4 rfl) ?_
        refine lv_iconst (v := 2) hx hb d_Law_law_1020 (by decide) ?_
        refine lv_iadd hx hb d_Law_law_1021 ?_
        obtain ⟨hin, hw⟩ := hw
        refine va_sld hx hb hX hbl hbA hS hin d_Law_law_1022 ?_
        refine lv_aload_n hx hb d_Law_law_1023 rfl (lv_at hl 3 rfl) ?_
        refine gx_helper (gx_runH (n := 4) (As := [.ref (gad Y x1), .int (xs (x4 + 1).toNatClampNeg), .int (xs (x4 + 2).toNatClampNeg), .ref (gad Y x3)]) (rest := []) ⟨hx, hb, hml, hown, hts⟩ (k_Law_file l hlt Y hY H.size x1 (xs (x4 + 1).toNatClampNeg) (xs (x4 + 2).toNatClampNeg) x3 hx1 hx3 S _) rfl rfl (Nat.le_of_ble_eq_true rfl) (Nat.le_of_ble_eq_true rfl) (gG_S gw_787 gw_788 gw_0 gw_789) List.mem_cons_self (by decide +kernel) ⟨gPre_blind, g_pre hK hSt hS hP hw⟩ rfl rfl hl.1 rfl (lv_room (Nat.le_of_ble_eq_true rfl)) d_Law_law_1024 ⟨by show _ ≤ 601024; omega, by show _ ≤ 7293000; omega⟩) hS (fun r144 S145 H locs hw hP hS => ?_)
        refine lv_istore (lv' := [(5, .int r144), (0, .ref b), (1, .ref (gad Y x1)), (2, .ref (gad Y x2)), (3, .ref (gad Y x3)), (4, .int x4)]) hx hb d_Law_law_1027 hl (by decide) rfl (fun ls hl => ?_)
        refine lv_aload_n hx hb d_Law_law_1029 rfl (lv_at hl 3 rfl) ?_
        refine lv_aload_n hx hb d_Law_law_1030 rfl (lv_at hl 1 rfl) ?_
        refine lv_iload hx hb d_Law_law_1031 (lv_at hl 5 rfl) ?_
        refine lv_iconst (v := 1) hx hb d_Law_law_1033 (by decide) ?_
        refine lv_iadd hx hb d_Law_law_1034 ?_
        obtain ⟨hin, hw⟩ := hw
        refine va_sld hx hb hX hbl hbA hS hin d_Law_law_1035 ?_
        refine lv_aload_n hx hb d_Law_law_1036 rfl (lv_at hl 1 rfl) ?_
        refine lv_iload hx hb d_Law_law_1037 (lv_at hl 5 rfl) ?_
        refine lv_iconst (v := 2) hx hb d_Law_law_1039 (by decide) ?_
        refine lv_iadd hx hb d_Law_law_1040 ?_
        obtain ⟨hin, hw⟩ := hw
        refine va_sld hx hb hX hbl hbA hS hin d_Law_law_1041 ?_
        refine g_calli (va_runV (As := [.int (xs (x4 + 1).toNatClampNeg), .int (xs (x4 + 2).toNatClampNeg)]) (rest := []) ⟨hx, hb, hml, hown, hts⟩ (k_Mo_file l Y hY H.size x2 (xs (x4 + 1).toNatClampNeg) (xs (x4 + 2).toNatClampNeg) hx2 S145 _) (cwV 2 hts (gG_V gw_1109 gw_1110 gw_1111 gw_12 gw_1112) rfl rfl rfl (by decide +kernel) ⟨Nat.le_of_ble_eq_true rfl, Nat.le_of_ble_eq_true rfl⟩) ⟨gPre_blind, g_recv hK hP hx2 (gce_Mo hx2.1) rfl, g_pre hK hSt hS hP hw⟩ rfl rfl hl.1 rfl (lv_room (Nat.le_of_ble_eq_true rfl)) d_Law_law_1042 ⟨by show _ ≤ 601024; omega, by show _ ≤ 7293000; omega⟩) hS (fun r147 S146 H locs hw hP hS => ?_)
        refine lv_istore (lv' := [(6, .int r147), (5, .int r144), (0, .ref b), (1, .ref (gad Y x1)), (2, .ref (gad Y x2)), (3, .ref (gad Y x3)), (4, .int x4)]) hx hb d_Law_law_1045 hl (by decide) rfl (fun ls hl => ?_)
        refine lv_aload_n hx hb d_Law_law_1047 rfl (lv_at hl 4 rfl) ?_
        refine g_calli (va_runV (As := []) (rest := []) ⟨hx, hb, hml, hown, hts⟩ (k_Mo_thrown l Y hY H.size x2 hx2 S146 _) (cwV 0 hts (gG_V gw_914 gw_915 gw_916 gw_12 gw_917) rfl rfl rfl (by decide +kernel) ⟨Nat.le_of_ble_eq_true rfl, Nat.le_of_ble_eq_true rfl⟩) ⟨gPre_blind, g_recv hK hP hx2 (gce_Mo hx2.1) rfl, g_pre hK hSt hS hP hw⟩ rfl rfl hl.1 rfl (lv_room (Nat.le_of_ble_eq_true rfl)) d_Law_law_1048 ⟨by show _ ≤ 601024; omega, by show _ ≤ 7293000; omega⟩) hS (fun r149 S148 H locs hw hP hS => ?_)
        refine lv_iload hx hb d_Law_law_1051 (lv_at hl 1 rfl) ?_
        refine lv_icmp_eq (tgt := 1058) hx hb d_Law_law_1053 (by decide) (fun c150 => ?_) (fun c150 => ?_)
        · replace hw := hw.1 c150
          refine lv_iload hx hb d_Law_law_1058 (lv_at hl 1 rfl) ?_
          refine lv_if_ne (tgt := 1075) hx hb d_Law_law_1060 (by decide) (fun c151 => ?_) (fun c151 => ?_)
          · replace hw := hw.1 c151
            refine lv_goto (tgt := 1146) hx hb d_Law_law_1075 (by decide) ?_
            obtain ⟨v4_152, ev4_152⟩ : ∃ y : Int32, y = x4 + 4 := ⟨_, rfl⟩
            replace hw := hw v4_152 ev4_152
            refine lv_iinc (v := v4_152) (lv' := [(4, .int v4_152), (6, .int r147), (5, .int r144), (0, .ref b), (1, .ref (gad Y x1)), (2, .ref (gad Y x2)), (3, .ref (gad Y x3))]) hx hb d_Law_law_1146 hl (k := 6) rfl (by rw [ev4_152]; rfl) (by decide) rfl (fun ls hl => ?_)
            refine lv_goto (tgt := 43) hx hb d_Law_law_1149 (by decide) ?_
            exact ih x1 x2 x3 v4_152 S148 H locs ls _ _ hx1 hx2 hx3 (by omega) (by omega) hw hP hS (lv_sub hl [3, 4, 5, 6, 0] rfl)
          · replace hw := hw.2 c151
            refine lv_aload_n hx hb d_Law_law_1063 rfl (lv_at hl 5 rfl) ?_
            refine lv_iconst (v := 0) hx hb d_Law_law_1064 (by decide) ?_
            obtain ⟨hin, hw⟩ := hw
            refine g_laload hx hb hK hP hx3 hin d_Law_law_1065 ?_
            refine lv_iload hx hb d_Law_law_1066 (lv_at hl 0 rfl) ?_
            refine lv_i2l hx hb d_Law_law_1068 rfl ?_
            refine W.lcmp hx hb d_Law_law_1069 ?_
            refine lv_if_eq (tgt := 1075) hx hb d_Law_law_1070 (by decide) (fun c153 => ?_) (fun c153 => ?_)
            · replace hw := hw.1 c153
              refine lv_goto (tgt := 1146) hx hb d_Law_law_1075 (by decide) ?_
              obtain ⟨v4_154, ev4_154⟩ : ∃ y : Int32, y = x4 + 4 := ⟨_, rfl⟩
              replace hw := hw v4_154 ev4_154
              refine lv_iinc (v := v4_154) (lv' := [(4, .int v4_154), (6, .int r147), (5, .int r144), (0, .ref b), (1, .ref (gad Y x1)), (2, .ref (gad Y x2)), (3, .ref (gad Y x3))]) hx hb d_Law_law_1146 hl (k := 6) rfl (by rw [ev4_154]; rfl) (by decide) rfl (fun ls hl => ?_)
              refine lv_goto (tgt := 43) hx hb d_Law_law_1149 (by decide) ?_
              exact ih x1 x2 x3 v4_154 S148 H locs ls _ _ hx1 hx2 hx3 (by omega) (by omega) hw hP hS (lv_sub hl [3, 4, 5, 6, 0] rfl)
            · replace hw := hw.2 c153
              refine lv_iconst (v := 0) hx hb d_Law_law_1073 (by decide) ?_
              exact hw.elim
        · replace hw := hw.2 c150
          refine lv_iconst (v := 0) hx hb d_Law_law_1056 (by decide) ?_
          exact hw.elim
      · replace hw := hw.2.2.2.2.2.2.2.2.2.2.2.2.2.2.2.2 c2
        rw [c2]
        refine lv_tableIn (tgt := 1078) (off := 1019) hx hb d_Law_law_59 (by decide) (by decide) (by decide) (by decide) ?_
        refine lv_aload_n hx hb d_Law_law_1078 rfl (lv_at hl 1 rfl) ?_
        refine lv_aload_n hx hb d_Law_law_1079 rfl (lv_at hl 0 rfl) ?_
        refine lv_iload hx hb d_Law_law_1080 (lv_at hl 4 rfl) ?_
        refine lv_iconst (v := 1) hx hb d_Law_law_1082 (by decide) ?_
        refine lv_iadd hx hb d_Law_law_1083 ?_
        obtain ⟨hin, hw⟩ := hw
        refine va_sld hx hb hX hbl hbA hS hin d_Law_law_1084 ?_
        refine lv_aload_n hx hb d_Law_law_1085 rfl (lv_at hl 0 rfl) ?_
        refine lv_iload hx hb d_Law_law_1086 (lv_at hl 4 rfl) ?_
        refine lv_iconst (v := 2) hx hb d_Law_law_1088 (by decide) ?_
        refine lv_iadd hx hb d_Law_law_1089 ?_
        obtain ⟨hin, hw⟩ := hw
        refine va_sld hx hb hX hbl hbA hS hin d_Law_law_1090 ?_
        refine lv_aload_n hx hb d_Law_law_1091 rfl (lv_at hl 3 rfl) ?_
        refine gx_helper (gx_runH (n := 4) (As := [.ref (gad Y x1), .int (xs (x4 + 1).toNatClampNeg), .int (xs (x4 + 2).toNatClampNeg), .ref (gad Y x3)]) (rest := []) ⟨hx, hb, hml, hown, hts⟩ (k_Law_byteAt l hlt Y hY H.size x1 (xs (x4 + 1).toNatClampNeg) (xs (x4 + 2).toNatClampNeg) x3 hx1 hx3 S _) rfl rfl (Nat.le_of_ble_eq_true rfl) (Nat.le_of_ble_eq_true rfl) (gG_S gw_794 gw_795 gw_0 gw_796) List.mem_cons_self (by decide +kernel) ⟨gPre_blind, g_pre hK hSt hS hP hw⟩ rfl rfl hl.1 rfl (lv_room (Nat.le_of_ble_eq_true rfl)) d_Law_law_1092 ⟨by show _ ≤ 601024; omega, by show _ ≤ 7293000; omega⟩) hS (fun r155 S156 H locs hw hP hS => ?_)
        refine lv_istore (lv' := [(5, .int r155), (0, .ref b), (1, .ref (gad Y x1)), (2, .ref (gad Y x2)), (3, .ref (gad Y x3)), (4, .int x4)]) hx hb d_Law_law_1095 hl (by decide) rfl (fun ls hl => ?_)
        refine lv_aload_n hx hb d_Law_law_1097 rfl (lv_at hl 3 rfl) ?_
        refine lv_aload_n hx hb d_Law_law_1098 rfl (lv_at hl 1 rfl) ?_
        refine lv_iload hx hb d_Law_law_1099 (lv_at hl 5 rfl) ?_
        refine lv_iconst (v := 1) hx hb d_Law_law_1101 (by decide) ?_
        refine lv_iadd hx hb d_Law_law_1102 ?_
        obtain ⟨hin, hw⟩ := hw
        refine va_sld hx hb hX hbl hbA hS hin d_Law_law_1103 ?_
        refine lv_aload_n hx hb d_Law_law_1104 rfl (lv_at hl 1 rfl) ?_
        refine lv_iload hx hb d_Law_law_1105 (lv_at hl 5 rfl) ?_
        refine lv_iconst (v := 2) hx hb d_Law_law_1107 (by decide) ?_
        refine lv_iadd hx hb d_Law_law_1108 ?_
        obtain ⟨hin, hw⟩ := hw
        refine va_sld hx hb hX hbl hbA hS hin d_Law_law_1109 ?_
        refine g_calli (va_runV (As := [.int (xs (x4 + 1).toNatClampNeg), .int (xs (x4 + 2).toNatClampNeg)]) (rest := []) ⟨hx, hb, hml, hown, hts⟩ (k_Mo_byteAt l Y hY H.size x2 (xs (x4 + 1).toNatClampNeg) (xs (x4 + 2).toNatClampNeg) hx2 S156 _) (cwV 2 hts (gG_V gw_1113 gw_1114 gw_1115 gw_12 gw_1116) rfl rfl rfl (by decide +kernel) ⟨Nat.le_of_ble_eq_true rfl, Nat.le_of_ble_eq_true rfl⟩) ⟨gPre_blind, g_recv hK hP hx2 (gce_Mo hx2.1) rfl, g_pre hK hSt hS hP hw⟩ rfl rfl hl.1 rfl (lv_room (Nat.le_of_ble_eq_true rfl)) d_Law_law_1110 ⟨by show _ ≤ 601024; omega, by show _ ≤ 7293000; omega⟩) hS (fun r158 S157 H locs hw hP hS => ?_)
        refine lv_istore (lv' := [(6, .int r158), (5, .int r155), (0, .ref b), (1, .ref (gad Y x1)), (2, .ref (gad Y x2)), (3, .ref (gad Y x3)), (4, .int x4)]) hx hb d_Law_law_1113 hl (by decide) rfl (fun ls hl => ?_)
        refine lv_aload_n hx hb d_Law_law_1115 rfl (lv_at hl 4 rfl) ?_
        refine g_calli (va_runV (As := []) (rest := []) ⟨hx, hb, hml, hown, hts⟩ (k_Mo_thrown l Y hY H.size x2 hx2 S157 _) (cwV 0 hts (gG_V gw_914 gw_915 gw_916 gw_12 gw_917) rfl rfl rfl (by decide +kernel) ⟨Nat.le_of_ble_eq_true rfl, Nat.le_of_ble_eq_true rfl⟩) ⟨gPre_blind, g_recv hK hP hx2 (gce_Mo hx2.1) rfl, g_pre hK hSt hS hP hw⟩ rfl rfl hl.1 rfl (lv_room (Nat.le_of_ble_eq_true rfl)) d_Law_law_1116 ⟨by show _ ≤ 601024; omega, by show _ ≤ 7293000; omega⟩) hS (fun r160 S159 H locs hw hP hS => ?_)
        refine lv_iload hx hb d_Law_law_1119 (lv_at hl 1 rfl) ?_
        refine lv_icmp_eq (tgt := 1126) hx hb d_Law_law_1121 (by decide) (fun c161 => ?_) (fun c161 => ?_)
        · replace hw := hw.1 c161
          refine lv_iload hx hb d_Law_law_1126 (lv_at hl 1 rfl) ?_
          refine lv_if_ne (tgt := 1143) hx hb d_Law_law_1128 (by decide) (fun c162 => ?_) (fun c162 => ?_)
          · replace hw := hw.1 c162
            refine lv_goto (tgt := 1146) hx hb d_Law_law_1143 (by decide) ?_
            obtain ⟨v4_163, ev4_163⟩ : ∃ y : Int32, y = x4 + 4 := ⟨_, rfl⟩
            replace hw := hw v4_163 ev4_163
            refine lv_iinc (v := v4_163) (lv' := [(4, .int v4_163), (6, .int r158), (5, .int r155), (0, .ref b), (1, .ref (gad Y x1)), (2, .ref (gad Y x2)), (3, .ref (gad Y x3))]) hx hb d_Law_law_1146 hl (k := 6) rfl (by rw [ev4_163]; rfl) (by decide) rfl (fun ls hl => ?_)
            refine lv_goto (tgt := 43) hx hb d_Law_law_1149 (by decide) ?_
            exact ih x1 x2 x3 v4_163 S159 H locs ls _ _ hx1 hx2 hx3 (by omega) (by omega) hw hP hS (lv_sub hl [3, 4, 5, 6, 0] rfl)
          · replace hw := hw.2 c162
            refine lv_aload_n hx hb d_Law_law_1131 rfl (lv_at hl 5 rfl) ?_
            refine lv_iconst (v := 0) hx hb d_Law_law_1132 (by decide) ?_
            obtain ⟨hin, hw⟩ := hw
            refine g_laload hx hb hK hP hx3 hin d_Law_law_1133 ?_
            refine lv_iload hx hb d_Law_law_1134 (lv_at hl 0 rfl) ?_
            refine lv_i2l hx hb d_Law_law_1136 rfl ?_
            refine W.lcmp hx hb d_Law_law_1137 ?_
            refine lv_if_eq (tgt := 1143) hx hb d_Law_law_1138 (by decide) (fun c164 => ?_) (fun c164 => ?_)
            · replace hw := hw.1 c164
              refine lv_goto (tgt := 1146) hx hb d_Law_law_1143 (by decide) ?_
              obtain ⟨v4_165, ev4_165⟩ : ∃ y : Int32, y = x4 + 4 := ⟨_, rfl⟩
              replace hw := hw v4_165 ev4_165
              refine lv_iinc (v := v4_165) (lv' := [(4, .int v4_165), (6, .int r158), (5, .int r155), (0, .ref b), (1, .ref (gad Y x1)), (2, .ref (gad Y x2)), (3, .ref (gad Y x3))]) hx hb d_Law_law_1146 hl (k := 6) rfl (by rw [ev4_165]; rfl) (by decide) rfl (fun ls hl => ?_)
              refine lv_goto (tgt := 43) hx hb d_Law_law_1149 (by decide) ?_
              exact ih x1 x2 x3 v4_165 S159 H locs ls _ _ hx1 hx2 hx3 (by omega) (by omega) hw hP hS (lv_sub hl [3, 4, 5, 6, 0] rfl)
            · replace hw := hw.2 c164
              refine lv_iconst (v := 0) hx hb d_Law_law_1141 (by decide) ?_
              exact hw.elim
        · replace hw := hw.2 c161
          refine lv_iconst (v := 0) hx hb d_Law_law_1124 (by decide) ?_
          exact hw.elim
