/-! sync -/
def dkF_sy (F : gF) : Nat → gF
  | 0 => F
  | k + 1 => dkF_st (dkF_sy F k) k
def riSy (ri : Nat → List Nat) : Nat → Nat → List Nat
  | 0 => ri
  | k + 1 => va_up (riSy ri k) (16 + k) (riSy ri k k)
theorem dkF_sy_lo {F : gF} : ∀ k, k ≤ 16 → ∀ c, c < 16 → (dkF_sy F k).1 c = F.1 c ∧ (dkF_sy F k).2.1 c = F.2.1 c
  | 0, _, _, _ => ⟨rfl, rfl⟩
  | k + 1, hk, c, hc => by
    obtain ⟨a, b⟩ := dkF_sy_lo k (by omega) c hc
    exact ⟨(va_up_ne _ _ (by omega)).trans a, (va_up_ne _ _ (by omega)).trans b⟩
theorem riSy_lo {ri : Nat → List Nat} : ∀ k, k ≤ 16 → ∀ c, c < 16 → riSy ri k c = ri c
  | 0, _, _, _ => rfl
  | k + 1, hk, c, hc => (va_up_ne _ _ (by omega)).trans (riSy_lo k (by omega) c hc)
theorem dkF_sy_hi {F : gF} : ∀ k, k ≤ 16 → ∀ f, f < k → (dkF_sy F k).1 (16 + f) = F.1 f ∧ (dkF_sy F k).2.1 (16 + f) = F.2.1 f ∧ (dkF_sy F k).2.2.1 f = F.sz f
  | 0, _, _, h => by omega
  | k + 1, hk, f, hf => by
    by_cases e : f = k
    · subst e
      obtain ⟨a, b⟩ := dkF_sy_lo (F := F) f (by omega) f (by omega)
      refine ⟨(va_up_self _ _ _).trans a, (va_up_self _ _ _).trans b, (va_up_self _ _ _).trans ?_⟩
      exact congrArg List.length a
    · obtain ⟨a, b, c⟩ := dkF_sy_hi (F := F) k (by omega) f (by omega)
      exact ⟨(va_up_ne _ _ (by omega)).trans a, (va_up_ne _ _ (by omega)).trans b, (va_up_ne _ _ (by omega)).trans c⟩
theorem riSy_hi {ri : Nat → List Nat} : ∀ k, k ≤ 16 → ∀ f, f < k → riSy ri k (16 + f) = ri f
  | 0, _, _, h => by omega
  | k + 1, hk, f, hf => by
    by_cases e : f = k
    · subst e
      exact (va_up_self _ _ _).trans (riSy_lo f (by omega) f (by omega))
    · exact (va_up_ne _ _ (by omega)).trans (riSy_hi k (by omega) f (by omega))
theorem dkF_sy_all {F : gF} {c : Nat} (hc : c < 32) : (dkF_sy F 16).1 c = F.1 (c % 16) ∧ (dkF_sy F 16).2.1 c = F.2.1 (c % 16) := by
  by_cases e : c < 16
  · rw [Nat.mod_eq_of_lt e]; exact dkF_sy_lo 16 (by omega) c e
  · obtain ⟨f, rfl⟩ : ∃ f, c = 16 + f := ⟨c - 16, by omega⟩
    rw [show (16 + f) % 16 = f by omega]
    exact ⟨(dkF_sy_hi 16 (by omega) f (by omega)).1, (dkF_sy_hi 16 (by omega) f (by omega)).2.1⟩
theorem riSy_all {ri : Nat → List Nat} {c : Nat} (hc : c < 32) : riSy ri 16 c = ri (c % 16) := by
  by_cases e : c < 16
  · rw [Nat.mod_eq_of_lt e]; exact riSy_lo 16 (by omega) c e
  · obtain ⟨f, rfl⟩ : ∃ f, c = 16 + f := ⟨c - 16, by omega⟩
    rw [show (16 + f) % 16 = f by omega]
    exact riSy_hi 16 (by omega) f (by omega)
theorem wO.of {bs la : Nat} {F F' : gF} {T : Nat → gFr} {ri ri' : Nat → List Nat} {od : List Nat} {fo : Nat → Nat} (h1 : ∀ f, 4 ≤ f → f < 16 → ri' f = ri f) (h2 : ∀ f, 4 ≤ f → f < 16 → F'.1 f = F.1 f) (h3 : ∀ f, 4 ≤ f → f < 16 → F'.2.1 f = F.2.1 f) (h : wO bs la F T ri od fo) : wO bs la F' T ri' od fo := by
  obtain ⟨a1, a2, a3, a4, a5, a6, a7, a8⟩ := h
  refine ⟨a1, a2, a3, fun k hk => ?_, fun k hk => ?_, a6, fun hk => ?_, fun f hf4 hf hne => ?_⟩
  · have := a2 k hk
    rw [h1 _ this.1 this.2, h2 _ this.1 this.2, show F'.th (od.getD k 0) = F.th (od.getD k 0) from h3 _ this.1 this.2]
    exact a4 k hk
  · rw [h1 _ (a2 k (by omega)).1 (a2 k (by omega)).2]; exact a5 k hk
  · rw [h1 _ (a2 (od.length - 1) (by omega)).1 (a2 (od.length - 1) (by omega)).2]; exact a7 hk
  · rw [h1 f hf4 hf, show F'.th f = F.th f from h3 f hf4 hf]; exact a8 f hf4 hf hne
theorem wE.of {bs la : Nat} {T : Nat → gFr} {ri ri' : Nat → List Nat} {od : List Nat} {fo : Nat → Nat} {en : Nat → Nat} {ei : Nat → gEi} (h1 : ∀ f, 4 ≤ f → f < 16 → ri' f = ri f) (h2 : ∀ k, k < od.length → 4 ≤ od.getD k 0 ∧ od.getD k 0 < 16) (h : wE bs la T ri od fo en ei) : wE bs la T ri' od fo en ei := by
  intro i hi1 hi2
  obtain ⟨q, k, b1, b2, b3, b4, b5, b6⟩ := h i hi1 hi2
  refine ⟨q, k, b1, b2, ?_⟩
  rw [h1 _ (h2 q b1).1 (h2 q b1).2]
  exact ⟨b3, b4, b5, b6⟩
theorem cX_files {M : Nat} {fc : Int32} {F F' : gF} {tp : List Nat} {tm vo : Int32} {ti : Nat} {vf : Int32} {fh : Nat} {sf : Int32} {bs : Nat} {bt cd : Int32} {la di : Nat} {od : List Nat} {fo : Nat → Nat} {ei : Nat → gEi} {kp : Nat → Int32} {S S' : gS}
    (h2 : S'.2 = S.2) (h : ∀ i : gI, i.1 = 0 ∨ 10 ≤ i.1 → i.1 < 30 → i.1 ≠ 14 → i.1 ≠ 15 → S'.1 i = S.1 i) (hd : dk M F' S') (p : cl M fc F tp tm vo ti vf fh sf bs bt cd la di od fo ei kp S) : cl M fc F' tp tm vo ti vf fh sf bs bt cd la di od fo ei kp S' := by
  obtain ⟨p1, p2, p3, p4, p5, p6, p7, p8⟩ := p
  exact ⟨hd, p2.of (h _ (by simp) (by simp) (by simp) (by simp)) (h _ (by simp) (by simp) (by simp) (by simp)), p3.of (h _ (by simp) (by simp) (by simp) (by simp)) h2, p4.of (h _ (by simp) (by simp) (by simp) (by simp)), p5.of (h _ (by simp) (by simp) (by simp) (by simp)), p6.of (h _ (by simp) (by simp) (by simp) (by simp)) (h _ (by simp) (by simp) (by simp) (by simp)) (h _ (by simp) (by simp) (by simp) (by simp)), p7.of (fun k a b => h _ (by simp; omega) (by simp; omega) (by simp; omega) (by simp; omega)), p8.of (h _ (by simp) (by simp) (by simp) (by simp))⟩
theorem dkX.fi {S S' : gS} (h : dkX S S') : ∀ i : gI, i.1 = 0 ∨ 10 ≤ i.1 → i.1 < 30 → i.1 ≠ 14 → i.1 ≠ 15 → S'.1 i = S.1 i := fun i hi _ _ _ => h.2 i hi
theorem c_file {Ln : gI → Nat} {M : Nat} {S : gS} {f : Nat} {v : Int32} {P : gI → Prop} (hL : aL Ln M) (hv : v = nI f) (hf : f < 16) (hp : P (1, f)) : vp_in v (Ln (grf (0, 0) 1)) ∧ P (grf (grf (0, 0) 1) v.toNatClampNeg) := by
  subst hv
  rw [show grf (0, 0) 1 = (10, 0) from rfl, hL.2.2.1, nI_clamp (by omega)]
  exact ⟨vp_in_nI (by omega) (by omega), hp⟩
theorem c_syncFiles {Ln : gI → Nat} {M : Nat} {F : gF} {S : gS} {Q : gS → Prop} (hL : aL Ln M) (hd : dk M F S) (hq : ∀ S1, dkX S S1 → dk M (dkF_sy F 16) S1 → Q (gset (gset S1 (16, 0) 4 0) (0, 0) 11 0)) : wp_LogDisk_syncFiles Ln Q (0, 0) S := by
  unfold wp_LogDisk_syncFiles
  refine pk_loop (fun fu k S' => wp_LogDisk_syncFiles_2 Ln Q fu (0, 0) (nI k) S') (fun k S' => k ≤ 16 ∧ dkX S S' ∧ dk M (dkF_sy F k) S') 16 0 S (Nat.zero_le _) ⟨by omega, dkX.rf S, hd⟩ ?_ ?_
  · rintro m S' ⟨-, hx, hd'⟩
    unfold wp_LogDisk_syncFiles_2
    refine br_t (by decide) ?_
    rintro _ rfl _ rfl
    exact hq S' hx hd'
  · rintro m k S' hk ⟨-, hx, hd'⟩ ih
    unfold wp_LogDisk_syncFiles_2
    refine br_f (nI_ge (b := 16) hk (by omega)) (c_file (P := fun g => wp_DiskFile_settle Ln (fun S5 => ∀ v1_6 : Int32, v1_6 = nI k + 1 → wp_LogDisk_syncFiles_2 Ln Q m (0, 0) v1_6 S5) g S') (S := S') hL rfl hk ?_)
    refine dk_settle hL.1 hd' hk ?_
    intro S2 hd2 hx2
    rintro _ rfl
    rw [nI_1]
    exact ih S2 ⟨by omega, hx.tr hx2, hd2⟩
theorem r_syncFiles {Ln : gI → Nat} {T : Nat → gFr} {nf us : Nat} {ri : Nat → List Nat} {F : gF} {S : gS} {x : Int32} {Q : Int32 → gS → Prop} (hL : rfL Ln) (hD : rfD T nf us ri F S) (hx : x = 0 ∨ x = 1)
    (hq : ∀ S1, rX S S1 → rfD T nf us (riSy ri 16) (dkF_sy F 16) S1 → Q x (gset (gset S1 (30, 0) 29 0) (30, 0) 28 0)) : ∃ m, wp_Mo_sync_12 Ln Q m (30, 0) x 0 S := by
  refine pk_loop (fun fu k S' => wp_Mo_sync_12 Ln Q fu (30, 0) x (nI k) S') (fun k S' => k ≤ 16 ∧ rX S S' ∧ rfD T nf us (riSy ri k) (dkF_sy F k) S') 16 0 S (Nat.zero_le _) ⟨by omega, rX.rf S, hD⟩ ?_ ?_
  · rintro m S' ⟨-, hx', hd'⟩
    unfold wp_Mo_sync_12
    refine br_t (by decide) ?_
    rintro _ rfl _ rfl
    exact ⟨hx, hq S' hx' hd'⟩
  · rintro m k S' hk ⟨-, hx', hd'⟩ ih
    unfold wp_Mo_sync_12
    refine br_f (nI_ge (b := 16) hk (by omega)) (rf_settle hL hd' hk rfl ?_)
    intro S2 hx2 hd2
    rintro _ rfl
    rw [nI_1]
    exact ih S2 ⟨by omega, hx'.tr hx2, hd2⟩
theorem wR.sy {n bs : Nat} {F : gF} {T : Nat → gFr} {ri : Nat → List Nat} (h : wR n bs F T ri) : wR n bs (dkF_sy F 16) T (riSy ri 16) := by
  obtain ⟨a1, a2, a3, a4, a5⟩ := h
  refine ⟨fun f hf => ?_, fun c hc h2 => ?_, fun c hc h4 => ?_, fun c d k q hc hd => ?_, fun c k q hc => ?_⟩
  · show (dkF_sy F 16).2.2.1 f ≤ ((dkF_sy F 16).1 f).length
    rw [(dkF_sy_hi 16 (by omega) f hf).2.2, (dkF_sy_lo 16 (by omega) f hf).1]
    exact Nat.le_refl _
  · rw [riSy_all hc]
    exact a2 (c % 16) (by omega) (by omega)
  · rw [riSy_all hc, (dkF_sy_all hc).2]
    exact a3 (c % 16) (by omega) (by omega)
  · rw [riSy_all hc, riSy_all hd]
    intro h1 h2 h3
    have := a4 (c % 16) (d % 16) k q (by omega) (by omega) h1 h2 h3
    omega
  · rw [riSy_all hc]
    exact a5 (c % 16) k q (by omega)
theorem wS.sy {sf : Int32} {bs : Nat} {bt cd fc : Int32} {F : gF} {T : Nat → gFr} {ri : Nat → List Nat} (h : wS sf bs bt cd fc F T ri) : wS sf bs bt cd fc (dkF_sy F 16) T (riSy ri 16) := by
  obtain ⟨a, b⟩ := h
  refine ⟨fun f h2 h4 => ?_, ?_⟩
  · show riSy ri 16 (16 + f) = riSy ri 16 f ∧ (dkF_sy F 16).1 (16 + f) = (dkF_sy F 16).1 f ∧ (dkF_sy F 16).2.1 (16 + f) = (dkF_sy F 16).2.1 f ∧ _ ∧ (dkF_sy F 16).2.2.1 f = ((dkF_sy F 16).1 f).length
    rw [riSy_hi 16 (by omega) f (by omega), riSy_lo 16 (by omega) f (by omega), (dkF_sy_hi 16 (by omega) f (by omega)).1, (dkF_sy_hi 16 (by omega) f (by omega)).2.1, (dkF_sy_hi 16 (by omega) f (by omega)).2.2, (dkF_sy_lo 16 (by omega) f (by omega)).1, (dkF_sy_lo 16 (by omega) f (by omega)).2]
    exact ⟨rfl, rfl, rfl, (a f h2 h4).2.2.2.1, rfl⟩
  · rw [riSy_lo 16 (by omega) 2 (by omega), riSy_lo 16 (by omega) 3 (by omega)]
    rcases b with b | ⟨s, o, j, b1, b2⟩
    · exact Or.inl b
    · refine Or.inr ⟨s, o, j, b1, ?_⟩
      rw [riSy_lo 16 (by omega) s (by omega), riSy_lo 16 (by omega) o (by omega)]
      exact b2
theorem p_sync {Ln : gI → Nat} {n : Nat} {S : gS} {K : gS → Prop} (h : INV Ln n S) (hn : n < 513) (hK : ∀ S', INV Ln (n + 1) S' → K S') :
    wp_LogDisk_sync Ln (fun r71 S70 => wp_Mo_sync Ln (fun r73 S72 => ((r71 = r73) → (K S72)) ∧ ((¬ r71 = r73) → (False))) (30, 0) S70) (0, 0) S := by
  obtain ⟨M, fc, F, tp, tm, vo, ti, vf, fh, sf, bs, bt, cd, la, di, od, fo, ei, kp, sl, T, nf, us, ri, en, hL, hc, hr, h1, h2, h3, h4, h5, h6⟩ := h
  unfold wp_LogDisk_sync
  rw [hc.2.2.2.2.1.2.2]
  rintro _ rfl
  refine c_syncFiles hL hc.1 ?_
  intro S1 hx1 hd1
  refine ⟨nI_cases h2.2.2.2.1, ?_⟩
  unfold wp_Mo_sync
  rintro _ rfl
  have hr1 : rl M fc F tp tm vo ti sl fh sf bs bt cd la di od kp T nf us ri en (gset (gset (gset S1 (16, 0) 4 0) (0, 0) 11 0) (30, 0) 0 0) := (rl.hi ((hx1.hi.tr (hiX.set (by simp))).tr (hiX.set (by simp))) hr).thr
  rw [hr1.2.2.2.2.1.2.2.2]
  rintro _ rfl
  refine r_syncFiles hL.2.1 hr1.1 (nI_cases h2.2.2.2.1) ?_
  intro S2 hx2 hD2
  refine ⟨fun _ => hK _ ⟨M, fc, dkF_sy F 16, tp, tm, vo, ti, vf, 0, sf, bs, bt, cd, la, 0, od, fo, ei, kp, sl, T, nf, us, riSy ri 16, en, hL, ?_, ?_, h1.up hn, ?_, h3.sy.up, h4.sy, h5.of (fun f _ hf => riSy_lo 16 (by omega) f hf) (fun f _ hf => (dkF_sy_lo 16 (by omega) f hf).1) (fun f _ hf => (dkF_sy_lo 16 (by omega) f hf).2), h6.of (fun f _ hf => riSy_lo 16 (by omega) f hf) h5.2.1⟩, fun z => absurd rfl z⟩
  · refine cl.lo (S := gset (gset S1 (16, 0) 4 0) (0, 0) 11 0) ((((loX.set (by simp)).tr hx2.lo).tr (loX.set (by simp))).tr (loX.set (by simp))) ?_
    obtain ⟨p1, p2, p3, p4, p5, p6, p7, p8⟩ := cX_files hx1.1 hx1.fi hd1 hc
    have o : ∀ i : gI, i.1 ≠ 16 → i.1 ≠ 0 → (gset (gset S1 (16, 0) 4 0) (0, 0) 11 0).1 i = S1.1 i := fun i hi h0 => by rw [gset_o (by rintro rfl; simp at h0), gset_o (by rintro rfl; simp at hi)]
    refine ⟨dk_of (fun i a b => o i (by omega) (by omega)) p1, p2.of (o _ (by simp) (by simp)) (o _ (by simp) (by simp)), ?_, p4.of (o _ (by simp) (by simp)), ?_, p6.of (o _ (by simp) (by simp)) (o _ (by simp) (by simp)) (o _ (by simp) (by simp)), p7.of (fun k a b => o _ (by simp; omega) (by simp; omega)), p8.of (o _ (by simp) (by simp))⟩
    · obtain ⟨q1, q2, q3, q4, q5⟩ := p3
      refine ⟨?_, ?_, q3, ?_, ?_⟩ <;> simp only [gset_rd, Prod.mk.injEq, Nat.reduceEqDiff, false_and, and_false, if_false, true_and, if_true]
      · exact q1
      · exact q2
      · exact q4
      · rfl
    · obtain ⟨q1, q2, q3⟩ := p5
      refine ⟨?_, ?_, ?_⟩ <;> simp only [gset_rd, Prod.mk.injEq, Nat.reduceEqDiff, false_and, and_false, if_false, true_and, if_true]
      · exact q1
      · exact q2
      · rfl
  · obtain ⟨p1, p2, p3, p4, p5, p6, p7, p8⟩ := hr1
    have o2 : ∀ i : gI, i.1 = 30 ∨ 43 < i.1 → S2.1 i = (gset (gset (gset S1 (16, 0) 4 0) (0, 0) 11 0) (30, 0) 0 0).1 i := fun i hi => hx2.2 i (by omega)
    refine ⟨rfD_of (fun i a b => ?_) ?_ ?_ hD2, ?_, ?_, ?_, ?_, ?_, ?_, ?_⟩
    · rw [gset_o (by rintro rfl; simp at a), gset_o (by rintro rfl; simp at a)]
    · rw [gset_n (Or.inr (by omega)), gset_n (Or.inr (by omega))]
    · rw [gset_n (Or.inr (by omega)), gset_n (Or.inr (by omega))]
    · unfold rT rfB at *; simp only [gset_rd, Prod.mk.injEq, Nat.reduceEqDiff, false_and, and_false, if_false, true_and]; rw [o2 (30, 0) (by simp), o2 (47, 0) (by simp)]; exact p2
    · unfold rV at *; simp only [gset_rd, Prod.mk.injEq, Nat.reduceEqDiff, false_and, and_false, if_false, true_and, if_true]; rw [o2 (30, 0) (by simp)]; exact ⟨p3.1, p3.2.1, p3.2.2.1, p3.2.2.2.1, rfl⟩
    · unfold rS at *; simp only [gset_rd, Prod.mk.injEq, Nat.reduceEqDiff, false_and, and_false, if_false, true_and]; rw [o2 (30, 0) (by simp)]; exact p4
    · unfold rM at *; simp only [gset_rd, Prod.mk.injEq, Nat.reduceEqDiff, false_and, and_false, if_false, true_and, if_true]; rw [o2 (30, 0) (by simp)]; exact ⟨p5.1, p5.2.1, p5.2.2.1, rfl⟩
    · unfold rG at *; simp only [gset_rd, Prod.mk.injEq, Nat.reduceEqDiff, false_and, and_false, if_false, true_and]; rw [o2 (30, 0) (by simp), o2 (45, 0) (by simp)]; exact p6
    · unfold rE at *; simp only [gset_rd, Prod.mk.injEq, Nat.reduceEqDiff, false_and, and_false, if_false, true_and]; rw [o2 (46, 0) (by simp)]; exact p7
    · unfold rK at *; simp only [gset_rd, Prod.mk.injEq, Nat.reduceEqDiff, false_and, and_false, if_false, true_and]; rw [o2 (44, 0) (by simp)]; exact p8
  · obtain ⟨a, b, c, d, e⟩ := h2
    refine ⟨?_, b, by omega, by omega, e⟩
    rcases a with ⟨a1, a2, a3⟩ | a
    · exact Or.inl ⟨a1, a2, rfl⟩
    · exact Or.inr a
