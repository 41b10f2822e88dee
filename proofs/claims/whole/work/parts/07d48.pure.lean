/-- cells that reading a segment leaves as they were -/
def rdX (S S' : gS) : Prop := S'.2 = S.2 ∧ ∀ i : gI, i.1 = 0 ∨ 10 ≤ i.1 → ¬ (22 ≤ i.1 ∧ i.1 ≤ 26) → S'.1 i = S.1 i
theorem rdX.rf (S : gS) : rdX S S := ⟨rfl, fun _ _ _ => rfl⟩
theorem rdX.tr {S S1 S2 : gS} (a : rdX S S1) (b : rdX S1 S2) : rdX S S2 := ⟨b.1.trans a.1, fun i h h2 => (b.2 i h h2).trans (a.2 i h h2)⟩
theorem dkX.rd {S S' : gS} (h : dkX S S') : rdX S S' := ⟨h.1, fun i hi _ => h.2 i hi⟩
theorem rdX.hi {S S' : gS} (h : rdX S S') : hiX S S' := fun i hi => h.2 i (by omega) (by omega)
theorem c_entrySet {Ln : gI → Nat} {M : Nat} {S : gS} {i f st by_ : Nat} {te ki : Int32} {v w x y : Int32} {Q : gS → Prop} (hL : aL Ln M) (hi : i < 2 ^ 30) (hv : v = nI i) (hw : w = nI f) (hx : x = nI st) (hy : y = nI by_)
    (hq : ∀ S', S'.2 = S.2 → (∀ j : gI, ¬ (22 ≤ j.1 ∧ j.1 ≤ 26) → S'.1 j = S.1 j) → cE1 (f, st, te, ki, by_) i S' → (∀ k s, 22 ≤ k → k ≤ 26 → s ≠ i % 301 → S'.1 (k, 0) s = S.1 (k, 0) s) → Q S') : wp_Entries_set Ln Q (21, 0) v w x te ki y S := by
  subst hv hw hx hy
  have l := hL.2.2.2.2.2.2.2.2.2
  unfold wp_Entries_set
  refine c_slot rfl (by omega) ?_
  rw [show grf (21, 0) 0 = (22, 0) from rfl, show grf (21, 0) 1 = (23, 0) from rfl, show grf (21, 0) 2 = (24, 0) from rfl, show grf (21, 0) 3 = (25, 0) from rfl, show grf (21, 0) 4 = (26, 0) from rfl, l 22 (by omega) (by omega), l 23 (by omega) (by omega), l 24 (by omega) (by omega), l 25 (by omega) (by omega), l 26 (by omega) (by omega), nI_clamp (by omega)]
  have hin : vp_in (nI (i % 301)) 301 := vp_in_nI (by omega) (by omega)
  refine ⟨hin, ?_⟩
  rintro _ rfl
  refine ⟨hin, ?_⟩
  rintro _ rfl
  refine ⟨hin, ?_⟩
  rintro _ rfl
  refine ⟨hin, ?_⟩
  rintro _ rfl
  refine ⟨hin, ?_⟩
  rintro _ rfl
  refine hq _ rfl (fun j hj => ?_) ?_ (fun k s a b hs => ?_)
  · rw [gset_o (by rintro rfl; simp at hj), gset_o (by rintro rfl; simp at hj), gset_o (by rintro rfl; simp at hj), gset_o (by rintro rfl; simp at hj), gset_o (by rintro rfl; simp at hj)]
  · unfold cE1
    simp only [gset_rd, Prod.mk.injEq, Nat.reduceEqDiff, false_and, if_false, true_and, and_self, if_true]
  · rw [gset_n (Or.inr hs), gset_n (Or.inr hs), gset_n (Or.inr hs), gset_n (Or.inr hs), gset_n (Or.inr hs)]
theorem c_read {Ln : gI → Nat} {M n : Nat} {F : gF} {T : Nat → gFr} {ri : Nat → List Nat} {S : gS} {D : List Nat} {sf bt cd : Int32} {bs f : Nat} {v : Int32} {Q : Int32 → gS → Prop} (hL : aL Ln M) (h : wL n bs F T ri) (hd : dk M (ctF T F ri D) S) (hS : cS sf bs bt cd S) (hf4 : 4 ≤ f) (hf : f < 16) (hD : f ∉ D) (hw : 0 < sgW T F ri f) (hv : v = nI f)
    (hq : ∀ S', rdX S S' → dk M (ctF T F ri (D ++ [f])) S' → (∀ i, bs ≤ i → sgI T ri f ≤ i → i ≤ sgE T F ri f → i + 2 ≤ sgI T ri f + sgW T F ri f → cE1 (sgN T ri f i) i S') → (∀ i, bs ≤ i → i ≤ bs + 300 → i < sgI T ri f → ∀ e, cE1 e i S → cE1 e i S') → Q (nI (sgE T F ri f)) S') : wp_LogDisk_readSegment Ln Q (0, 0) v S := by
  subst hv
  have hbs := h.2.2.2.2
  obtain ⟨f1, f2, f3, f4, f5, f6⟩ := sg_facts h hf4 hf hw
  obtain ⟨v1, v2, v3, v4, v5, v6⟩ := sg_view h D hf
  obtain ⟨s1, s2⟩ := sg_one h D hf4 hf
  obtain ⟨x1, x2, x3⟩ := ct_out (T := T) (F := F) (ri := ri) D F ri hD
  have hrow : ctR T F ri D f = ri f := x3
  have hcon : (ctF T F ri D).1 f = F.1 f := x1
  have hsz : (ctF T F ri D).sz f = F.sz f := congrArg List.length hcon
  rw [hrow] at v1 v2 v3 v5 v6 s1 s2
  rw [hcon] at v1
  have hFs : F.sz f ≤ 25600 := by have := (dk_sz hd hL.1.2.1 (show f < 32 by omega)).2; rw [hsz] at this; exact this
  have hlen330 : (rfC T ((ri f).take (sgW T F ri f))).length ≤ F.sz f := rfW_size v1
  unfold wp_LogDisk_readSegment
  rw [show grf (0, 0) 1 = (10, 0) from rfl, hL.2.2.1, nI_clamp (by omega), show grf (10, 0) f = (1, f) from rfl]
  refine ⟨vp_in_nI (by omega) (by omega), c_segFirst hL h hd hf4 hf (fun _ => ?_) (fun z => by omega)⟩
  rw [show (1 : Int32) = nI 1 from rfl, pk_sub f3]
  rintro _ rfl
  have hso0 : (T ((ri f).getD 0 0)).so = 2 := (f5 0 f1).1
  have h24 : (rfC T ((ri f).take 1)).length = 24 := by
    have := rfC_take (T := T) f1
    rw [show 0 + 1 = 1 from rfl] at this
    rw [this, List.take_zero, rfC_nil, List.nil_append, frE_len, frP_len, if_neg (by omega), if_neg (by omega), if_pos hso0, if_neg (by omega)]
  have mono : ∀ k, k ≤ sgW T F ri f → (rfC T ((ri f).take k)).length ≤ F.sz f := by
    intro k hk
    have a : (ri f).take k = ((ri f).take (sgW T F ri f)).take k := by rw [List.take_take, Nat.min_eq_left hk]
    have := (rfC_pre T ((ri f).take (sgW T F ri f)) k).length_le
    rw [← a] at this
    omega
  have hsg := sg_len (h.1.2.2.1 f (by omega) (by omega)).1
  have h1025 : sgW T F ri f ≤ 1024 := by
    have := hsg (sgW T F ri f) f2
    omega
  have key := pk_loop (fun fu k S' => wp_LogDisk_readSegment_21 Ln Q fu (0, 0) (nI f) (1, f) (nI (sgI T ri f - 1 + k)) (nI (rfC T ((ri f).take (k + 1))).length) (nI k) S')
    (fun k S' => rdX S S' ∧ dk M (ctF T F ri D) S' ∧ (∀ i, bs ≤ i → sgI T ri f ≤ i → i < sgI T ri f + k → cE1 (sgN T ri f i) i S') ∧ (∀ i, bs ≤ i → i ≤ bs + 300 → i < sgI T ri f → ∀ e, cE1 e i S → cE1 e i S')) (sgW T F ri f - 1) 0 S (Nat.zero_le _) ⟨rdX.rf S, hd, fun i a b c => by omega, fun i _ _ _ e he => he⟩ ?_ ?_
  · rw [h24] at key
    exact key
  · rintro m S' ⟨hx, hd', hE, hO⟩
    have e124 : wp_LogDisk_readSegment_124 Ln Q (1, f) (nI (sgI T ri f - 1 + (sgW T F ri f - 1))) (nI (rfC T ((ri f).take (sgW T F ri f - 1 + 1))).length) S' := by
      unfold wp_LogDisk_readSegment_124
      rw [show sgW T F ri f - 1 + 1 = sgW T F ri f by omega]
      refine dk_cutTo hL.1 hd' hf rfl (by omega) ?_ ?_
      · show (ctF T F ri D).2.2.1 f ≤ ((ctF T F ri D).1 f).length
        rw [show (ctF T F ri D).2.2.1 f = F.2.2.1 f from x2, hcon]
        exact h.1.1 f hf
      · intro S2 hd2 hx2
        rw [show sgI T ri f - 1 + (sgW T F ri f - 1) = sgE T F ri f by unfold sgE; omega]
        refine hq S2 (hx.tr hx2.rd) (by rw [ctF_snoc]; exact hd2) (fun i a b c d => ?_) (fun i a b c e he => ?_)
        · have := hE i a b (by omega)
          unfold cE1 at this ⊢
          rw [hx2.2 (22, 0) (by simp), hx2.2 (23, 0) (by simp), hx2.2 (24, 0) (by simp), hx2.2 (25, 0) (by simp), hx2.2 (26, 0) (by simp)]
          exact this
        · have := hO i a b c e he
          unfold cE1 at this ⊢
          rw [hx2.2 (22, 0) (by simp), hx2.2 (23, 0) (by simp), hx2.2 (24, 0) (by simp), hx2.2 (25, 0) (by simp), hx2.2 (26, 0) (by simp)]
          exact this
    unfold wp_LogDisk_readSegment_21
    refine br_f (nI_ge (b := 1025) (by omega) (by omega)) ?_
    rw [← hcon] at v1
    refine c_unwhole (l := ri f) hL.1 hd' hf v1 s1 s2 ?_ (br_f (by decide) e124)
    rw [v2, show sgW T F ri f - 1 + 1 = sgW T F ri f by omega]
  · rintro m k S' hk ⟨hx, hd', hE, hO⟩ ih
    have hk1 : k + 1 < sgW T F ri f := by omega
    have hkl : k + 1 < (ri f).length := by omega
    obtain ⟨g1, g2⟩ := f5 (k + 1) hkl
    rw [if_neg (by omega)] at g1
    rw [show sgI T ri f + (k + 1 - 1) = sgI T ri f + k by omega] at g2
    generalize hr : T ((ri f).getD (k + 1) 0) = r at *
    have hp : (frP r).length = 17 + r.d.length := by rw [frP_len, if_neg (by omega), if_neg (by omega), if_neg (by omega)]
    have hEl : (frE r).length = 25 + r.d.length := by rw [frE_len, hp, if_neg (by omega)]; omega
    have hnext : (rfC T ((ri f).take (k + 1 + 1))).length = (rfC T ((ri f).take (k + 1))).length + (25 + r.d.length) := by rw [rfC_take hkl, List.length_append, hr, hEl]
    have hin := mono (k + 1 + 1) (by omega)
    have v1' : rfP T (ri f) ((ctF T F ri D).1 f) := by rw [hcon]; exact v1
    have at_ : ∀ q, q < 25 + r.d.length → ((ctF T F ri D).1 f).getD ((rfC T ((ri f).take (k + 1))).length + q) 0 = (frE r).getD q 0 := by
      intro q hq
      have := rfP_at v1' (k := k + 1) hkl (j := q) (by rw [hr, hEl]; exact hq) (by rw [hcon]; show _ < F.sz f; omega)
      rw [hr] at this
      exact this
    have hdl : r.d.length < 2 ^ 20 := by
      have := s1 (k + 1) hkl
      rw [hr, hp] at this
      omega
    unfold wp_LogDisk_readSegment_21
    refine br_f (nI_ge (b := 1025) (by omega) (by omega)) ?_
    refine c_whole (k := k + 1) (l := ri f) hL.1 hd' hf v1' s1 (by rw [v2]; exact hk1) rfl ?_
    rw [hr, hp]
    refine br_t (nI_le (a := 17) (by omega) (by omega)) ?_
    rw [nI_1, show sgI T ri f - 1 + k + 1 = sgI T ri f + k by omega]
    rintro _ rfl
    have next : ∀ S2, rdX S S2 → dk M (ctF T F ri D) S2 → (∀ i, bs ≤ i → sgI T ri f ≤ i → i < sgI T ri f + (k + 1) → cE1 (sgN T ri f i) i S2) → (∀ i, bs ≤ i → i ≤ bs + 300 → i < sgI T ri f → ∀ e, cE1 e i S → cE1 e i S2) → wp_LogDisk_readSegment_108 Ln (fun z0 z1 z2 z3 z4 z5 zS => wp_LogDisk_readSegment_21 Ln Q m z0 z1 z2 z3 z4 z5 zS) Q (0, 0) (nI f) (1, f) (nI (sgI T ri f + k)) (nI (rfC T ((ri f).take (k + 1))).length) (nI k) (nI (17 + r.d.length)) S2 := by
      intro S2 a b c d
      unfold wp_LogDisk_readSegment_108
      rw [show (8 : Int32) = nI 8 from rfl, nI_add, nI_add, nI_1]
      rintro _ rfl _ rfl
      have := ih S2 ⟨a, b, c, d⟩
      rw [hnext] at this
      rw [show 8 + (17 + r.d.length) = 25 + r.d.length by omega, show sgI T ri f + k = sgI T ri f - 1 + (k + 1) by omega]
      exact this
    rw [show grf (0, 0) 6 = (17, 0) from rfl, hx.2 (17, 0) (by simp) (by simp), hS.2.1]
    refine pk_lt (sgI T ri f + k) bs (fun hlt => next S' hx hd' (fun i a b c => ?_) hO) (fun hge => ?_) rfl rfl (by omega) (by omega)
    · by_cases e : i = sgI T ri f + k
      · omega
      · exact hE i a b (by omega)
    · obtain ⟨-, b2⟩ := frP_a (r := r) (by omega)
      have b3 := frP_c3 g1
      rw [show (8 : Int32) = nI 8 from rfl, nI_add, nI_add]
      refine dk_number (n := 8) hL.1 hd' hf rfl rfl (by omega) (by omega) ?_
      rw [lN_i, le8i (a := r.b) (fun q hq => by rw [show (rfC T ((ri f).take (k + 1))).length + 8 + 8 + q = (rfC T ((ri f).take (k + 1))).length + (16 + q) by omega, at_ _ (by omega)]; exact b2 q hq)]
      rintro _ rfl
      rw [show (16 : Int32) = nI 16 from rfl, nI_add]
      refine dk_read hL.1 hd' hf rfl (by omega) ?_
      rw [show (rfC T ((ri f).take (k + 1))).length + 8 + 16 = (rfC T ((ri f).take (k + 1))).length + 24 by omega, at_ 24 (by omega), b3, show grf (0, 0) 8 = (21, 0) from rfl, show (17 : Int32) = nI 17 from rfl, pk_sub (by omega), show 17 + r.d.length - 17 = r.d.length by omega]
      have hc : nI (dkBy r.c.toInt64 0) = r.c := by
        obtain ⟨q, q1, q2⟩ := (h.2.2.2.1 f (k + 1) (by omega) hkl).2 (by rw [hr]; exact g1)
        rw [hr] at q2
        rw [q2, nI_l (by omega)]
        have e2 : ∀ n, (lN n).toBitVec.toNat = n % 2 ^ 64 := fun n => BitVec.toNat_ofNat n 64
        unfold dkBy
        rw [e2]
        congr 1
        simp
        omega
      rw [hc]
      refine c_entrySet (i := sgI T ri f + k) hL (by omega) rfl rfl rfl rfl ?_
      intro S2 z2 zo zc zs
      have hx2 : rdX S S2 := hx.tr ⟨z2, fun j hj h22 => zo j h22⟩
      refine next S2 hx2 (dk_of (fun i a b => zo i (by omega)) hd') (fun i a b c => ?_) (fun i a b c e he => ?_)
      · by_cases e : i = sgI T ri f + k
        · subst e
          have : sgN T ri f (sgI T ri f + k) = (f, (rfC T ((ri f).take (k + 1))).length, r.b, r.c, r.d.length) := by
            unfold sgN
            rw [show sgI T ri f + k + 1 - sgI T ri f = k + 1 by omega, hr]
          rw [this]; exact zc
        · have hm : i % 301 ≠ (sgI T ri f + k) % 301 := by omega
          have := hE i a b (by omega)
          unfold cE1 at this ⊢
          rw [zs 22 _ (by omega) (by omega) hm, zs 23 _ (by omega) (by omega) hm, zs 24 _ (by omega) (by omega) hm, zs 25 _ (by omega) (by omega) hm, zs 26 _ (by omega) (by omega) hm]
          exact this
      · have hm : i % 301 ≠ (sgI T ri f + k) % 301 := by omega
        have := hO i a b c e he
        unfold cE1 at this ⊢
        rw [zs 22 _ (by omega) (by omega) hm, zs 23 _ (by omega) (by omega) hm, zs 24 _ (by omega) (by omega) hm, zs 25 _ (by omega) (by omega) hm, zs 26 _ (by omega) (by omega) hm]
        exact this
