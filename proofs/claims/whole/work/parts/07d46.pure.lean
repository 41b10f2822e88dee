theorem r_findSlots {Ln : gI → Nat} {M n bs nf us : Nat} {F : gF} {T : Nat → gFr} {ri : Nat → List Nat} {S : gS} {Q : gS → Prop} (hL : aL Ln M) (hD : rfD T nf us ri F S) (h3 : wR n bs F T ri) (hn : n ≤ 1000)
    (hq : ∀ S', loX S S' → (∀ i : gI, 30 < i.1 → S'.1 i = S.1 i) → (∀ k, k ≠ 19 → k ≠ 20 → k ≠ 21 → k ≠ 22 → k ≠ 28 → S'.1 (30, 0) k = S.1 (30, 0) k) → rV (vtS T F ri 2).1 (vtS T F ri 2).2.1 (vtS T F ri 2).2.2.1 (vtS T F ri 2).2.2.2.2 0 S' → Q S') : wp_Mo_findSlots Ln Q (30, 0) S := by
  have hnf := hD.1.1
  have hl := hD.lt
  unfold wp_Mo_findSlots
  rintro _ rfl _ rfl _ rfl _ rfl
  generalize hS1 : gset (gset (gset (gset S (30, 0) 19 0) (30, 0) 20 (-1)) (30, 0) 21 0) (30, 0) 22 0 = S1
  have o1 : ∀ i : gI, 30 < i.1 → S1.1 i = S.1 i := by
    intro i hi
    have hne : i ≠ (30, 0) := by rintro rfl; simp at hi
    rw [← hS1, gset_o hne, gset_o hne, gset_o hne, gset_o hne]
  have ok1 : ∀ k, k ≠ 19 → k ≠ 20 → k ≠ 21 → k ≠ 22 → k ≠ 28 → S1.1 (30, 0) k = S.1 (30, 0) k := by
    intro k a b c d _
    rw [← hS1, gset_n (Or.inr d), gset_n (Or.inr c), gset_n (Or.inr b), gset_n (Or.inr a)]
  have x1 : loX S S1 := by rw [← hS1]; exact (((loX.set (by simp)).tr (loX.set (by simp))).tr (loX.set (by simp))).tr (loX.set (by simp))
  have v1 : S1.1 (30, 0) 19 = 0 ∧ S1.1 (30, 0) 20 = -1 ∧ S1.1 (30, 0) 21 = nI 0 ∧ S1.1 (30, 0) 22 = nI 0 := by
    rw [← hS1]
    refine ⟨?_, ?_, ?_, ?_⟩ <;> simp only [gset_rd, Prod.mk.injEq, Nat.reduceEqDiff, and_false, and_self, if_false, if_true] <;> rfl
  have tb : ∀ f, f ≤ 2 → (vtS T F ri f).2.2.1 ≤ n := by
    intro f
    induction f with
    | zero => intro _; exact Nat.zero_le _
    | succ f ih =>
      intro hf
      have ih' := ih (by omega)
      show (if _ then _ else vtS T F ri f).2.2.1 ≤ n
      split
      · rename_i h
        rcases h3.2.1 f (by omega) (by omega) with e | ⟨j, t, e1, e2, e3, e4, e5⟩
        · have := rfW_le (T := T) (l := ri f) (s := F.sz f)
          rw [e] at this
          have h0 : ([] : List Nat).length = 0 := rfl
          rw [e] at h
          omega
        · rw [e1]
          show ((T j).a).toNatClampNeg ≤ n
          rw [e3, nI_clamp (by omega)]; exact e5
      · exact ih'
  refine pk_loop (fun fu f S' => wp_Mo_findSlots_22 Ln Q fu (30, 0) (nI f) S') (fun f S' => f ≤ 2 ∧ loX S S' ∧ (∀ i : gI, 30 < i.1 → S'.1 i = S.1 i) ∧ (∀ k, k ≠ 19 → k ≠ 20 → k ≠ 21 → k ≠ 22 → k ≠ 28 → S'.1 (30, 0) k = S.1 (30, 0) k) ∧ S'.1 (30, 0) 19 = (vtS T F ri f).1 ∧ S'.1 (30, 0) 20 = (vtS T F ri f).2.1 ∧ S'.1 (30, 0) 21 = nI (vtS T F ri f).2.2.1 ∧ S'.1 (30, 0) 22 = nI (vtS T F ri f).2.2.2.2) 2 0 S1 (Nat.zero_le _) ⟨by omega, x1, o1, ok1, v1⟩ ?_ ?_
  · rintro m S' ⟨-, hx, h1, hk, v19, v20, v21, v22⟩
    unfold wp_Mo_findSlots_22
    refine br_t (by decide) ?_
    rintro _ rfl
    refine hq _ (hx.tr (loX.set (by simp))) (fun i hi => ?_) (fun k a b c d e => ?_) ⟨?_, ?_, ?_, ?_, ?_⟩
    · rw [gset_o (by rintro rfl; simp at hi)]; exact h1 i hi
    · rw [gset_n (Or.inr e)]; exact hk k a b c d e
    · rw [gset_n (Or.inr (by omega))]; exact v19
    · rw [gset_n (Or.inr (by omega))]; exact v20
    · rw [gset_n (Or.inr (by omega))]; exact v21
    · rw [gset_n (Or.inr (by omega))]; exact v22
    · rw [gset_s]; rfl
  · rintro m f S' hf ⟨-, hx, h1, hk, v19, v20, v21, v22⟩ ih
    have hD' : rfD T nf us ri F S' := rfD_of (fun i a b => h1 i (by omega)) (hk 3 (by omega) (by omega) (by omega) (by omega) (by omega)) (hk 11 (by omega) (by omega) (by omega) (by omega) (by omega)) hD
    have hvt : vtS T F ri (f + 1) = if 0 < rfW T (ri f) (F.sz f) ∧ (vtS T F ri f).2.2.1 < ((T ((ri f).getD 0 0)).a).toNatClampNeg then ((T ((ri f).getD 0 0)).b, (T ((ri f).getD 0 0)).c, ((T ((ri f).getD 0 0)).a).toNatClampNeg, nI f, f) else vtS T F ri f := rfl
    have skip : ¬ (0 < rfW T (ri f) (F.sz f) ∧ (vtS T F ri f).2.2.1 < ((T ((ri f).getD 0 0)).a).toNatClampNeg) → wp_Mo_findSlots_103 Ln (fun z0 z1 zS => wp_Mo_findSlots_22 Ln Q m z0 z1 zS) Q (30, 0) (nI f) S' := by
      intro hno
      unfold wp_Mo_findSlots_103
      rintro _ rfl
      rw [nI_1]
      refine ih S' ⟨by omega, hx, h1, hk, ?_⟩
      rw [hvt, if_neg hno]
      exact ⟨v19, v20, v21, v22⟩
    unfold wp_Mo_findSlots_22
    refine br_f (nI_ge (b := 2) hf (by omega)) (rf_whole hL.2.1 hD' (by omega) rfl ?_)
    have hwl := rfW_le (T := T) (l := ri f) (s := F.sz f)
    have hr330 := (hD'.2.1 f (by omega)).1
    refine pk_le (rfW T (ri f) (F.sz f)) 0 (fun h => skip (by omega)) (fun hpos => ?_) rfl rfl (by omega) (by omega)
    obtain ⟨r1, r2, r3, r4⟩ := rf_row hD' (show f < 32 by omega) (show 0 < (ri f).length by omega)
    rw [Nat.add_zero] at r1
    obtain ⟨j, t, e1, e2, e3, e4, e5⟩ : ∃ j t, ri f = [j] ∧ (T j).so = 0 ∧ (T j).a = nI t ∧ 1 ≤ t ∧ t ≤ n := by
      rcases h3.2.1 f (by omega) (by omega) with e | e
      · rw [e] at hwl hpos
        have h0 : ([] : List Nat).length = 0 := rfl
        omega
      · exact e
    have ej : (ri f).getD 0 0 = j := by rw [e1]; rfl
    rw [ej] at r1 r2
    have htb := tb f (by omega)
    obtain ⟨q1, q2, q3, q4, q5⟩ := rf_fr hD'.1 r2
    have hin : vp_in (nI j) 2200 := vp_in_nI (by omega) (by omega)
    have hin2 : vp_in (nI (330 * f)) 10560 := vp_in_nI (by omega) (by omega)
    rw [show grf (30, 0) 12 = (38, 0) from rfl, show grf (30, 0) 5 = (32, 0) from rfl, show grf (30, 0) 6 = (33, 0) from rfl, show grf (30, 0) 7 = (34, 0) from rfl, hL.2.1.2.2.1, hL.2.1.1 32 (by omega) (by omega), hL.2.1.1 33 (by omega) (by omega), hL.2.1.1 34 (by omega) (by omega), show (330 : Int32) = nI 330 from rfl, pk_mul, nI_clamp (by omega), r1, nI_clamp (by omega), q2, v21, e3]
    refine ⟨hin2, hin, pk_le t (vtS T F ri f).2.2.1 (fun h => skip (by rw [ej, e3, nI_clamp (by omega)]; omega)) (fun h => ⟨hin2, ?_⟩) rfl rfl (by omega) (by omega)⟩
    rintro _ rfl
    rw [nI_clamp (by omega), q2]
    refine ⟨hin, ?_⟩
    rintro _ rfl
    rw [gset_o (by simp), q3]
    refine ⟨hin, ?_⟩
    rintro _ rfl
    rw [gset_o (by simp), gset_o (by simp), q4]
    refine ⟨hin, ?_⟩
    rintro _ rfl _ rfl
    unfold wp_Mo_findSlots_103
    rintro _ rfl
    rw [nI_1]
    refine ih _ ⟨by omega, (((hx.tr (loX.set (by simp))).tr (loX.set (by simp))).tr (loX.set (by simp))).tr (loX.set (by simp)), fun i hi => ?_, fun k a b c d e => ?_, ?_⟩
    · have hne : i ≠ (30, 0) := by rintro rfl; simp at hi
      rw [gset_o hne, gset_o hne, gset_o hne, gset_o hne]; exact h1 i hi
    · rw [gset_n (Or.inr d), gset_n (Or.inr b), gset_n (Or.inr a), gset_n (Or.inr c)]; exact hk k a b c d e
    · rw [hvt, if_pos (by rw [ej, e3, nI_clamp (by omega)]; omega), ej]
      refine ⟨?_, ?_, ?_, ?_⟩
      · rw [gset_n (Or.inr (by omega)), gset_n (Or.inr (by omega)), gset_s]
      · rw [gset_n (Or.inr (by omega)), gset_s]
      · rw [gset_n (Or.inr (by omega)), gset_n (Or.inr (by omega)), gset_n (Or.inr (by omega)), gset_s, e3, nI_clamp (by omega)]
      · rw [gset_s]
/-! the snapshot that is found: the one that was -/
abbrev gSn : Type := Int32 × Nat × Int32 × Int32
def snS (fc : Int32) (T : Nat → gFr) (ri : Nat → List Nat) : Nat → gSn
  | 0 => (-1, 0, 0, fc)
  | k + 1 => if 0 < (ri (2 + k)).length ∧ (snS fc T ri k).2.1 < ((T ((ri (2 + k)).getD 0 0)).a).toNatClampNeg then (nI (2 + k), ((T ((ri (2 + k)).getD 0 0)).a).toNatClampNeg, (T ((ri (2 + k)).getD 0 0)).b, (T ((ri (2 + k)).getD 0 0)).c) else snS fc T ri k
theorem sn_eq {sf : Int32} {bs : Nat} {bt cd fc : Int32} {F : gF} {T : Nat → gFr} {ri : Nat → List Nat} (h : wS sf bs bt cd fc F T ri) (hb : bs < 2 ^ 31) : snS fc T ri 2 = (sf, bs, bt, cd) := by
  have u1 : snS fc T ri 1 = if 0 < (ri 2).length ∧ 0 < ((T ((ri 2).getD 0 0)).a).toNatClampNeg then (nI 2, ((T ((ri 2).getD 0 0)).a).toNatClampNeg, (T ((ri 2).getD 0 0)).b, (T ((ri 2).getD 0 0)).c) else (-1, 0, 0, fc) := rfl
  have u2 : snS fc T ri 2 = if 0 < (ri 3).length ∧ (snS fc T ri 1).2.1 < ((T ((ri 3).getD 0 0)).a).toNatClampNeg then (nI 3, ((T ((ri 3).getD 0 0)).a).toNatClampNeg, (T ((ri 3).getD 0 0)).b, (T ((ri 3).getD 0 0)).c) else snS fc T ri 1 := rfl
  have l0 : ([] : List Nat).length = 0 := rfl
  have l1 : ∀ j : Nat, ([j] : List Nat).length = 1 := fun _ => rfl
  have g1 : ∀ j : Nat, ([j] : List Nat).getD 0 0 = j := fun _ => rfl
  rcases h.2 with ⟨a1, a2, a3, a4, a5, a6⟩ | ⟨s, o, j, b1, b2, b3, b4, b5, b6, b7, b8, b9⟩
  · rw [u2, u1, a5, a6, l0, if_neg (by omega), if_neg (by omega), a1, a2, a3, a4]
  · rcases b1 with ⟨rfl, rfl⟩ | ⟨rfl, rfl⟩
    · rw [b3, l1, g1, b5, nI_clamp hb, if_pos ⟨by omega, b8⟩] at u1
      rw [u2, u1]
      rcases b9 with c | ⟨q, b, c1, c2, c3, c4, c5⟩
      · rw [c, l0, if_neg (by omega), b2, b6, b7]
      · rw [c1, l1, g1, c3, nI_clamp (by omega), if_neg (by show ¬ (0 < 1 ∧ bs < b); omega), b2, b6, b7]
    · rw [u2, b3, l1, g1, b5, nI_clamp hb, u1]
      rcases b9 with c | ⟨q, b, c1, c2, c3, c4, c5⟩
      · rw [c, l0, if_neg (show ¬ (0 < 0 ∧ _) by omega), if_pos ⟨by omega, b8⟩, b2, b6, b7]
      · rw [c1, l1, g1, c3, nI_clamp (by omega), if_pos (show 0 < 1 ∧ 0 < b by omega), if_pos ⟨by omega, c5⟩, b2, b6, b7]
theorem sn_file {sf : Int32} {bs : Nat} {bt cd fc : Int32} {F : gF} {T : Nat → gFr} {ri : Nat → List Nat} (h : wS sf bs bt cd fc F T ri) {f : Nat} (h2 : 2 ≤ f) (h4 : f < 4) : (ri f = [] ∧ F.1 f = []) ∨ ∃ j b, ri f = [j] ∧ (T j).so = 1 ∧ (T j).a = nI b ∧ b ≤ bs ∧ F.1 f = frE (T j) := by
  obtain ⟨-, -, -, e, -⟩ := h.1 f h2 h4
  have one : ∀ j, ri f = [j] → F.1 f = frE (T j) := fun j hj => by rw [e, hj, rfC_one]
  have nil : ri f = [] → F.1 f = [] := fun hj => by rw [e, hj, rfC_nil]
  rcases h.2 with ⟨a1, a2, a3, a4, a5, a6⟩ | ⟨s, o, j, b1, b2, b3, b4, b5, b6, b7, b8, b9⟩
  · have : ri f = [] := by
      rcases (show f = 2 ∨ f = 3 by omega) with z | z
      · rw [z]; exact a5
      · rw [z]; exact a6
    exact Or.inl ⟨this, nil this⟩
  · by_cases z : f = s
    · subst z
      exact Or.inr ⟨j, bs, b3, b4, b5, Nat.le_refl _, one j b3⟩
    · have z' : f = o := by omega
      subst z'
      rcases b9 with c | ⟨q, b, c1, c2, c3, c4, c5⟩
      · exact Or.inl ⟨c, nil c⟩
      · exact Or.inr ⟨q, b, c1, c2, c3, by omega, one q c1⟩
theorem sn_b {sf : Int32} {bs : Nat} {bt cd fc : Int32} {F : gF} {T : Nat → gFr} {ri : Nat → List Nat} (h : wS sf bs bt cd fc F T ri) (hb : bs < 2 ^ 31) : ∀ k, k ≤ 2 → (snS fc T ri k).2.1 ≤ bs
  | 0, _ => Nat.zero_le _
  | k + 1, hk => by
    have ih := sn_b h hb k (by omega)
    show (if _ then _ else snS fc T ri k).2.1 ≤ bs
    split
    · rename_i hh
      rcases sn_file h (f := 2 + k) (by omega) (by omega) with ⟨e, -⟩ | ⟨j, b, e1, e2, e3, e4, -⟩
      · rw [e] at hh
        have l0 : ([] : List Nat).length = 0 := rfl
        omega
      · rw [e1]
        show ((T j).a).toNatClampNeg ≤ bs
        rw [e3, nI_clamp (by omega)]; exact e4
    · exact ih
theorem c_findSnapshot {Ln : gI → Nat} {M : Nat} {F : gF} {T : Nat → gFr} {ri : Nat → List Nat} {sf : Int32} {bs : Nat} {bt cd fc : Int32} {la di : Nat} {S : gS} {Q : gS → Prop} (hL : aL Ln M) (hd : dk M F S) (hM : cM fc la di S) (h4 : wS sf bs bt cd fc F T ri) (hP : ∀ c, c < 32 → rfP T (ri c) (F.1 c)) (hb : bs < 2 ^ 30)
    (hq : ∀ S', (∀ i : gI, i.1 ≠ 17 → S'.1 i = S.1 i) → S'.2 = S.2 → cS sf bs bt cd S' → Q S') : wp_LogDisk_findSnapshot Ln Q (0, 0) S := by
  unfold wp_LogDisk_findSnapshot wp_Snapshot_set
  rw [show grf (0, 0) 6 = (17, 0) from rfl, hM.1]
  rintro _ rfl _ rfl _ rfl _ rfl
  generalize hS1 : gset (gset (gset (gset S (17, 0) 0 (-1)) (17, 0) 1 0) (17, 0) 2 0) (17, 0) 3 fc = S1
  have o1 : ∀ i : gI, i.1 ≠ 17 → S1.1 i = S.1 i := by
    intro i hi
    have hne : i ≠ (17, 0) := by rintro rfl; simp at hi
    rw [← hS1, gset_o hne, gset_o hne, gset_o hne, gset_o hne]
  have hS : cS (-1) 0 0 fc S1 := by
    rw [← hS1]
    refine ⟨?_, ?_, ?_, ?_⟩ <;> simp only [gset_rd, Prod.mk.injEq, Nat.reduceEqDiff, and_false, and_self, if_false, if_true] <;> rfl
  have fin := sn_eq h4 (by omega)
  have key := pk_loop (fun fu k S' => wp_LogDisk_findSnapshot_16 Ln Q fu (0, 0) (nI (2 + k)) S') (fun k S' => k ≤ 2 ∧ (∀ i : gI, i.1 ≠ 17 → S'.1 i = S.1 i) ∧ S'.2 = S.2 ∧ cS (snS fc T ri k).1 (snS fc T ri k).2.1 (snS fc T ri k).2.2.1 (snS fc T ri k).2.2.2 S') 2 0 S1 (Nat.zero_le _) ⟨by omega, o1, by rw [← hS1]; rfl, hS⟩ ?_ ?_
  · exact key
  · rintro m S' ⟨-, h1, h2, hs⟩
    unfold wp_LogDisk_findSnapshot_16
    rw [fin] at hs
    exact br_t (by decide) (hq S' h1 h2 hs)
  · rintro m k S' hk ⟨-, h1, h2, hs⟩ ih
    have hd' : dk M F S' := dk_of (fun i a b => h1 i (by omega)) hd
    have hsn : snS fc T ri (k + 1) = if 0 < (ri (2 + k)).length ∧ (snS fc T ri k).2.1 < ((T ((ri (2 + k)).getD 0 0)).a).toNatClampNeg then (nI (2 + k), ((T ((ri (2 + k)).getD 0 0)).a).toNatClampNeg, (T ((ri (2 + k)).getD 0 0)).b, (T ((ri (2 + k)).getD 0 0)).c) else snS fc T ri k := rfl
    have next : ∀ S2, (∀ i : gI, i.1 ≠ 17 → S2.1 i = S.1 i) → S2.2 = S.2 → cS (snS fc T ri (k + 1)).1 (snS fc T ri (k + 1)).2.1 (snS fc T ri (k + 1)).2.2.1 (snS fc T ri (k + 1)).2.2.2 S2 → wp_LogDisk_findSnapshot_90 Ln (fun z0 z1 zS => wp_LogDisk_findSnapshot_16 Ln Q m z0 z1 zS) Q (0, 0) (nI (2 + k)) S2 := by
      intro S2 a b c
      unfold wp_LogDisk_findSnapshot_90
      rintro _ rfl
      rw [nI_1, show 2 + k + 1 = 2 + (k + 1) by omega]
      exact ih S2 ⟨by omega, a, b, c⟩
    unfold wp_LogDisk_findSnapshot_16
    refine br_f (nI_ge (b := 4) (show 2 + k < 4 by omega) (by omega)) ?_
    rw [show grf (0, 0) 1 = (10, 0) from rfl, hL.2.2.1, nI_clamp (by omega), show grf (10, 0) (2 + k) = (1, 2 + k) from rfl]
    refine ⟨vp_in_nI (by omega) (by omega), ?_⟩
    have hPf := hP (2 + k) (by omega)
    have hz0 : (0 : Int32) = nI (rfC T ((ri (2 + k)).take 0)).length := by rw [List.take_zero, rfC_nil]; rfl
    rcases sn_file h4 (f := 2 + k) (by omega) (by omega) with ⟨e, e'⟩ | ⟨j, b, e1, e2, e3, e4, e5⟩
    · have l0 : ([] : List Nat).length = 0 := rfl
      have w0 : rfW T (ri (2 + k)) (F.sz (2 + k)) = 0 := by have := rfW_le (T := T) (l := ri (2 + k)) (s := F.sz (2 + k)); rw [e] at this ⊢; omega
      refine c_unwhole hL.1 hd' (by omega) hPf (fun k hk => ?_) (fun k hk => ?_) (by rw [w0]; exact hz0) (cr_f (by decide) (next S' h1 h2 ?_) |> fun h => ⟨h.2, h.1⟩)
      · rw [e] at hk; exact absurd hk (Nat.not_lt_zero _)
      · rw [e] at hk; exact absurd hk (Nat.not_lt_zero _)
      · rw [hsn, if_neg (by rw [e]; omega)]; exact hs
    · have hlen : (ri (2 + k)).length = 1 := by rw [e1]; rfl
      have ej : (ri (2 + k)).getD 0 0 = j := by rw [e1]; rfl
      have hp12 : (frP (T j)).length = 12 := by rw [frP_len, if_neg (by omega), if_pos e2]
      have hE20 : 20 ≤ (frE (T j)).length := by rw [frE_len, hp12]; omega
      have w1 : 0 < rfW T (ri (2 + k)) (F.sz (2 + k)) := by
        unfold rfW
        rw [if_pos]
        · omega
        · rw [e1, rfC_one]
          show _ ≤ (F.1 (2 + k)).length
          rw [e5]; exact Nat.le_refl _
      refine c_whole (k := 0) hL.1 hd' (by omega) hPf (fun q hq => ?_) w1 hz0 ?_
      · have hq0 : q = 0 := by omega
        subst hq0
        rw [ej, hp12]; omega
      rw [ej, hp12]
      refine br_t rfl ?_
      obtain ⟨b1, b2, b3⟩ := frP_1 e2
      refine dk_number (a := 8) (n := 4) hL.1 hd' (by omega) rfl rfl (by omega) (by omega) ?_
      rw [lN_i, le4i (a := (T j).a) (fun q hq => by rw [e5]; exact b1 q hq), e3]
      rintro _ rfl
      have hsb := sn_b h4 (by omega) k (by omega)
      rw [show grf (0, 0) 6 = (17, 0) from rfl, hs.2.1]
      refine pk_le b (snS fc T ri k).2.1 (fun h => next S' h1 h2 ?_) (fun h => ?_) rfl rfl (by omega) (by omega)
      · rw [hsn, if_neg (by rw [ej, e3, nI_clamp (by omega)]; omega)]; exact hs
      · refine dk_number (a := 12) (n := 4) hL.1 hd' (by omega) rfl rfl (by omega) (by omega) ?_
        rw [lN_i, le4i (a := (T j).b) (fun q hq => by rw [e5]; exact b2 q hq)]
        rintro _ rfl
        refine dk_number (a := 16) (n := 4) hL.1 hd' (by omega) rfl rfl (by omega) (by omega) ?_
        rw [lN_i, le4i (a := (T j).c) (fun q hq => by rw [e5]; exact b3 q hq)]
        unfold wp_Snapshot_set
        rintro _ rfl _ rfl _ rfl _ rfl
        refine next _ (fun i hi => ?_) h2 ?_
        · have hne : i ≠ (17, 0) := by rintro rfl; simp at hi
          rw [gset_o hne, gset_o hne, gset_o hne, gset_o hne]; exact h1 i hi
        · rw [hsn, if_pos (by rw [ej, e3, nI_clamp (by omega)]; omega), ej, e3, nI_clamp (by omega)]
          refine ⟨?_, ?_, ?_, ?_⟩ <;> simp only [gset_rd, Prod.mk.injEq, Nat.reduceEqDiff, and_false, and_self, if_false, if_true]
theorem r_findSnapshot {Ln : gI → Nat} {M nf us : Nat} {F : gF} {T : Nat → gFr} {ri : Nat → List Nat} {sf : Int32} {bs : Nat} {bt cd fc : Int32} {S : gS} {Q : gS → Prop} (hL : aL Ln M) (hD : rfD T nf us ri F S) (hfc : S.1 (30, 0) 2 = fc) (h4 : wS sf bs bt cd fc F T ri) (hb : bs < 2 ^ 30)
    (hq : ∀ S', loX S S' → (∀ i : gI, 30 < i.1 → S'.1 i = S.1 i) → (∀ k, k ≠ 23 → k ≠ 24 → k ≠ 25 → k ≠ 26 → S'.1 (30, 0) k = S.1 (30, 0) k) → rS sf bs bt cd S' → Q S') : wp_Mo_findSnapshot Ln Q (30, 0) S := by
  have hnf := hD.1.1
  unfold wp_Mo_findSnapshot
  rintro _ rfl _ rfl
  have e2 : (gset (gset S (30, 0) 23 0) (30, 0) 24 0).1 (30, 0) 2 = fc := by rw [gset_n (Or.inr (by omega)), gset_n (Or.inr (by omega))]; exact hfc
  rw [e2]
  rintro _ rfl _ rfl
  generalize hS1 : gset (gset (gset (gset S (30, 0) 23 0) (30, 0) 24 0) (30, 0) 25 fc) (30, 0) 26 (-1) = S1
  have o1 : ∀ i : gI, 30 < i.1 → S1.1 i = S.1 i := by
    intro i hi
    have hne : i ≠ (30, 0) := by rintro rfl; simp at hi
    rw [← hS1, gset_o hne, gset_o hne, gset_o hne, gset_o hne]
  have ok1 : ∀ k, k ≠ 23 → k ≠ 24 → k ≠ 25 → k ≠ 26 → S1.1 (30, 0) k = S.1 (30, 0) k := by
    intro k a b c d
    rw [← hS1, gset_n (Or.inr d), gset_n (Or.inr c), gset_n (Or.inr b), gset_n (Or.inr a)]
  have x1 : loX S S1 := by rw [← hS1]; exact (((loX.set (by simp)).tr (loX.set (by simp))).tr (loX.set (by simp))).tr (loX.set (by simp))
  have v1 : rS (-1) 0 0 fc S1 := by
    rw [← hS1]
    refine ⟨?_, ?_, ?_, ?_⟩ <;> simp only [gset_rd, Prod.mk.injEq, Nat.reduceEqDiff, and_false, and_self, if_false, if_true] <;> rfl
  have fin := sn_eq h4 (by omega)
  have key := pk_loop (fun fu k S' => wp_Mo_findSnapshot_25 Ln Q fu (30, 0) (nI (2 + k)) S') (fun k S' => k ≤ 2 ∧ loX S S' ∧ (∀ i : gI, 30 < i.1 → S'.1 i = S.1 i) ∧ (∀ k, k ≠ 23 → k ≠ 24 → k ≠ 25 → k ≠ 26 → S'.1 (30, 0) k = S.1 (30, 0) k) ∧ rS (snS fc T ri k).1 (snS fc T ri k).2.1 (snS fc T ri k).2.2.1 (snS fc T ri k).2.2.2 S') 2 0 S1 (Nat.zero_le _) ⟨by omega, x1, o1, ok1, v1⟩ ?_ ?_
  · exact key
  · rintro m S' ⟨-, hx, h1, hk, hs⟩
    unfold wp_Mo_findSnapshot_25
    rw [fin] at hs
    exact br_t (by decide) (hq S' hx h1 hk hs)
  · rintro m k S' hk2 ⟨-, hx, h1, hk, hs⟩ ih
    have hD' : rfD T nf us ri F S' := rfD_of (fun i a b => h1 i (by omega)) (hk 3 (by omega) (by omega) (by omega) (by omega)) (hk 11 (by omega) (by omega) (by omega) (by omega)) hD
    have hsn : snS fc T ri (k + 1) = if 0 < (ri (2 + k)).length ∧ (snS fc T ri k).2.1 < ((T ((ri (2 + k)).getD 0 0)).a).toNatClampNeg then (nI (2 + k), ((T ((ri (2 + k)).getD 0 0)).a).toNatClampNeg, (T ((ri (2 + k)).getD 0 0)).b, (T ((ri (2 + k)).getD 0 0)).c) else snS fc T ri k := rfl
    have skip : ¬ (0 < (ri (2 + k)).length ∧ (snS fc T ri k).2.1 < ((T ((ri (2 + k)).getD 0 0)).a).toNatClampNeg) → wp_Mo_findSnapshot_106 Ln (fun z0 z1 zS => wp_Mo_findSnapshot_25 Ln Q m z0 z1 zS) Q (30, 0) (nI (2 + k)) S' := by
      intro hno
      unfold wp_Mo_findSnapshot_106
      rintro _ rfl
      rw [nI_1, show 2 + k + 1 = 2 + (k + 1) by omega]
      refine ih S' ⟨by omega, hx, h1, hk, ?_⟩
      rw [hsn, if_neg hno]; exact hs
    unfold wp_Mo_findSnapshot_25
    refine br_f (nI_ge (b := 4) (show 2 + k < 4 by omega) (by omega)) (rf_whole hL.2.1 hD' (by omega) rfl ?_)
    have hwl := rfW_le (T := T) (l := ri (2 + k)) (s := F.sz (2 + k))
    rcases sn_file h4 (f := 2 + k) (by omega) (by omega) with ⟨e, e'⟩ | ⟨j, b, g1, g2, g3, g4, g5⟩
    · have l0 : (ri (2 + k)).length = 0 := by rw [e]; rfl
      refine br_t (nI_le (b := 0) (by omega) (by omega)) (skip (by omega))
    · have hlen : (ri (2 + k)).length = 1 := by rw [g1]; rfl
      have ej : (ri (2 + k)).getD 0 0 = j := by rw [g1]; rfl
      have w1 : 0 < rfW T (ri (2 + k)) (F.sz (2 + k)) := by
        unfold rfW
        rw [if_pos]
        · omega
        · rw [g1, rfC_one]
          show _ ≤ (F.1 (2 + k)).length
          rw [g5]; exact Nat.le_refl _
      refine br_f (nI_nle w1 (by omega)) ?_
      obtain ⟨r1, r2, r3, r4⟩ := rf_row hD' (show 2 + k < 32 by omega) (show 0 < (ri (2 + k)).length by omega)
      rw [Nat.add_zero, ej] at r1
      rw [ej] at r2
      have hsb := sn_b h4 (by omega) k (by omega)
      obtain ⟨q1, q2, q3, q4, q5⟩ := rf_fr hD'.1 r2
      have hin : vp_in (nI j) 2200 := vp_in_nI (by omega) (by omega)
      have hin2 : vp_in (nI (330 * (2 + k))) 10560 := vp_in_nI (by omega) (by omega)
      rw [show grf (30, 0) 12 = (38, 0) from rfl, show grf (30, 0) 5 = (32, 0) from rfl, show grf (30, 0) 6 = (33, 0) from rfl, show grf (30, 0) 7 = (34, 0) from rfl, hL.2.1.2.2.1, hL.2.1.1 32 (by omega) (by omega), hL.2.1.1 33 (by omega) (by omega), hL.2.1.1 34 (by omega) (by omega), show (330 : Int32) = nI 330 from rfl, pk_mul, nI_clamp (by omega), r1, nI_clamp (by omega), q2, hs.2.1, g3]
      refine ⟨hin2, hin, pk_le b (snS fc T ri k).2.1 (fun h => skip (by rw [ej, g3, nI_clamp (by omega)]; omega)) (fun h => ⟨hin2, ?_⟩) rfl rfl (by omega) (by omega)⟩
      rintro _ rfl
      rw [nI_clamp (by omega), q2]
      refine ⟨hin, ?_⟩
      rintro _ rfl
      rw [gset_o (by simp), q3]
      refine ⟨hin, ?_⟩
      rintro _ rfl
      rw [gset_o (by simp), gset_o (by simp), q4]
      refine ⟨hin, ?_⟩
      rintro _ rfl _ rfl
      unfold wp_Mo_findSnapshot_106
      rintro _ rfl
      rw [nI_1, show 2 + k + 1 = 2 + (k + 1) by omega]
      refine ih _ ⟨by omega, (((hx.tr (loX.set (by simp))).tr (loX.set (by simp))).tr (loX.set (by simp))).tr (loX.set (by simp)), fun i hi => ?_, fun q a b c d => ?_, ?_⟩
      · have hne : i ≠ (30, 0) := by rintro rfl; simp at hi
        rw [gset_o hne, gset_o hne, gset_o hne, gset_o hne]; exact h1 i hi
      · rw [gset_n (Or.inr d), gset_n (Or.inr c), gset_n (Or.inr b), gset_n (Or.inr a)]; exact hk q a b c d
      · rw [hsn, if_pos (by rw [ej, g3, nI_clamp (by omega)]; omega), ej, g3, nI_clamp (by omega)]
        refine ⟨?_, ?_, ?_, ?_⟩ <;> simp only [gset_rd, Prod.mk.injEq, Nat.reduceEqDiff, and_false, and_self, if_false, if_true]
