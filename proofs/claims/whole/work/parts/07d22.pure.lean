/-! What holds of the ghosts -/
def sgOK (T : Nat → gFr) (b : Nat) (l : List Nat) : Prop := l = [] ∨ ∃ fi, 1 ≤ fi ∧ fi + l.length ≤ b ∧ ∀ k, k < l.length → (T (l.getD k 0)).so = (if k = 0 then 2 else 3) ∧ (T (l.getD k 0)).a = nI (fi + (k - 1))
def wN (n nf us : Nat) (tp : List Nat) (ti la bs : Nat) : Prop := n ≤ 513 ∧ nf ≤ 2 * n ∧ us + tp.length ≤ 8 * n ∧ ti ≤ n ∧ la ≤ 1000000 + 300 * n ∧ bs ≤ la ∧ la ≤ bs + 300
def wV (vf : Int32) (sl fh di : Nat) (kp : Nat → Int32) : Prop := ((vf = -1 ∧ sl = 0 ∧ fh = 0) ∨ vf = nI sl) ∧ sl ≤ 1 ∧ fh ≤ 1 ∧ di ≤ 1 ∧ ∀ f, f < 16 → kp f = -1 ∨ ∃ k, k < 2 ^ 31 ∧ kp f = nI k
def wR (n bs : Nat) (F : gF) (T : Nat → gFr) (ri : Nat → List Nat) : Prop :=
  (∀ f, f < 16 → F.lo f ≤ F.sz f) ∧ (∀ c, c < 32 → c % 16 < 2 → ri c = [] ∨ ∃ j t, ri c = [j] ∧ (T j).so = 0 ∧ (T j).a = nI t ∧ 1 ≤ t ∧ t ≤ n) ∧ (∀ c, c < 32 → 4 ≤ c % 16 → sgOK T (bs + 302) (ri c) ∧ (ri c ≠ [] → F.2.1 c = 1)) ∧
  (∀ c d k q, c < 32 → d < 32 → k < (ri c).length → q < (ri d).length → (ri c).getD k 0 = (ri d).getD q 0 → c % 16 = d % 16) ∧ (∀ c k q, c < 32 → k < q → q < (ri c).length → (ri c).getD k 0 < (ri c).getD q 0)
def wS (sf : Int32) (bs : Nat) (bt cd fc : Int32) (F : gF) (T : Nat → gFr) (ri : Nat → List Nat) : Prop :=
  (∀ f, 2 ≤ f → f < 4 → ri (16 + f) = ri f ∧ F.1 (16 + f) = F.1 f ∧ F.th (16 + f) = F.th f ∧ F.1 f = rfC T (ri f) ∧ F.lo f = F.sz f) ∧
  ((sf = -1 ∧ bs = 0 ∧ bt = 0 ∧ cd = fc ∧ ri 2 = [] ∧ ri 3 = []) ∨
    ∃ s o j, (s = 2 ∧ o = 3 ∨ s = 3 ∧ o = 2) ∧ sf = nI s ∧ ri s = [j] ∧ (T j).so = 1 ∧ (T j).a = nI bs ∧ (T j).b = bt ∧ (T j).c = cd ∧ 1 ≤ bs ∧ (ri o = [] ∨ ∃ q b, ri o = [q] ∧ (T q).so = 1 ∧ (T q).a = nI b ∧ 1 ≤ b ∧ b < bs))
def wO (bs la : Nat) (F : gF) (T : Nat → gFr) (ri : Nat → List Nat) (od : List Nat) (fo : Nat → Nat) : Prop :=
  od.length ≤ 12 ∧ (∀ k, k < od.length → 4 ≤ od.getD k 0 ∧ od.getD k 0 < 16) ∧ (∀ k q, k < q → q < od.length → od.getD k 0 ≠ od.getD q 0) ∧
  (∀ k, k < od.length → 0 < (ri (od.getD k 0)).length ∧ F.1 (od.getD k 0) = rfC T (ri (od.getD k 0)) ∧ (T ((ri (od.getD k 0)).getD 0 0)).a = nI (fo (od.getD k 0)) ∧ 1 ≤ fo (od.getD k 0) ∧ fo (od.getD k 0) + (ri (od.getD k 0)).length ≤ bs + 302 ∧ F.th (od.getD k 0) = 1) ∧
  (∀ k, k + 1 < od.length → fo (od.getD (k + 1) 0) = fo (od.getD k 0) + ((ri (od.getD k 0)).length - 1)) ∧
  (od.length = 0 → la = bs) ∧ (0 < od.length → fo (od.getD 0 0) ≤ bs + 1 ∧ la + 1 = fo (od.getD (od.length - 1) 0) + ((ri (od.getD (od.length - 1) 0)).length - 1)) ∧
  (∀ f, 4 ≤ f → f < 16 → (∀ k, k < od.length → od.getD k 0 ≠ f) → F.th f = 0 ∧ ri f = [])
def wE (bs la : Nat) (T : Nat → gFr) (ri : Nat → List Nat) (od : List Nat) (fo : Nat → Nat) (en : Nat → Nat) (ei : Nat → gEi) : Prop :=
  ∀ i, bs < i → i ≤ la → ∃ q k, q < od.length ∧ 1 ≤ k ∧ k < (ri (od.getD q 0)).length ∧ i = fo (od.getD q 0) + (k - 1) ∧ en i = (ri (od.getD q 0)).getD k 0 ∧
    ei i = (od.getD q 0, (rfC T ((ri (od.getD q 0)).take k)).length, (T (en i)).b, (T (en i)).c, (T (en i)).d.length)
def INV (Ln : gI → Nat) (n : Nat) (S : gS) : Prop :=
  ∃ M fc F tp tm vo ti vf fh sf bs bt cd la di od fo ei kp sl T nf us ri en, aL Ln M ∧ cl M fc F tp tm vo ti vf fh sf bs bt cd la di od fo ei kp S ∧ rl M fc F tp tm vo ti sl fh sf bs bt cd la di od kp T nf us ri en S ∧
    wN n nf us tp ti la bs ∧ wV vf sl fh di kp ∧ wR n bs F T ri ∧ wS sf bs bt cd fc F T ri ∧ wO bs la F T ri od fo ∧ wE bs la T ri od fo en ei
/-- how a pair of calls is compared -/
def pQ (Ln : gI → Nat) (K : gS → Prop) (r4 : Int32) (r7 : Int32) (S6 : gS) : Prop :=
  wp_Mo_thrown Ln (fun r9 S8 => ((r9 = r4) → (((¬ r4 = 0) → (K S8)) ∧ ((r4 = 0) → (vp_in 0 (Ln (60, 0)) ∧ ((((lg_cmp (S8.2 (60, 0) (0 : Int32).toNatClampNeg) (r7.toInt64)) = 0) → (K S8)) ∧ ((¬ (lg_cmp (S8.2 (60, 0) (0 : Int32).toNatClampNeg) (r7.toInt64)) = 0) → (False))))))) ∧ ((¬ r9 = r4) → (False))) (30, 0) S6
theorem pQ_ok {Ln : gI → Nat} {M : Nat} {K : gS → Prop} {r : Int32} {S : gS} (hL : aL Ln M) (h : S.1 (30, 0) 0 = 0) (h2 : S.2 (60, 0) 0 = r.toInt64) (hk : K S) : pQ Ln K 0 r S := by
  unfold pQ wp_Mo_thrown
  rw [h]
  dsimp only
  rw [show (0 : Int32).toNatClampNeg = 0 from rfl, h2, hL.2.2.2.2.2.2.2.2.1]
  refine ⟨fun _ => ⟨fun z => absurd rfl z, fun _ => ⟨vp_in_nI (n := 0) (by omega) (by omega), fun _ => hk, fun z => absurd (lg_cmp_0.2 rfl) z⟩⟩, fun z => absurd rfl z⟩
theorem pQ_ex {Ln : gI → Nat} {K : gS → Prop} {r c : Int32} {S : gS} (h : S.1 (30, 0) 0 = c) (hc : c ≠ 0) (hk : K S) : pQ Ln K c r S := by
  unfold pQ wp_Mo_thrown
  rw [h]
  exact ⟨fun _ => ⟨fun _ => hk, fun z => absurd z hc⟩, fun z => absurd rfl z⟩
theorem out_s (S : gS) (v : Int64) : (gsetL S (60, 0) (0 : Int32).toNatClampNeg v).2 (60, 0) 0 = v := by
  show (if ((60, 0) : gI) = (60, 0) ∧ 0 = (0 : Int32).toNatClampNeg then v else S.2 (60, 0) 0) = v
  exact if_pos ⟨rfl, rfl⟩
theorem in_60 {Ln : gI → Nat} {M : Nat} (hL : aL Ln M) : vp_in 0 (Ln (60, 0)) := by rw [hL.2.2.2.2.2.2.2.2.1]; exact vp_in_nI (n := 0) (by omega) (by omega)
theorem rl.thr {M : Nat} {fc : Int32} {F : gF} {tp : List Nat} {tm vo : Int32} {ti sl fh : Nat} {sf : Int32} {bs : Nat} {bt cd : Int32} {la di : Nat} {od : List Nat} {kp : Nat → Int32} {T : Nat → gFr} {nf us : Nat} {ri : Nat → List Nat} {en : Nat → Nat} {S : gS} {v : Int32}
    (p : rl M fc F tp tm vo ti sl fh sf bs bt cd la di od kp T nf us ri en S) : rl M fc F tp tm vo ti sl fh sf bs bt cd la di od kp T nf us ri en (gset S (30, 0) 0 v) := by
  obtain ⟨p1, p2, p3, p4, p5, p6, p7, p8⟩ := p
  refine ⟨rfD_of (fun i h1 h2 => gset_o (by rintro rfl; simp at h1)) (gset_n (Or.inr (by omega))) (gset_n (Or.inr (by omega))) p1, ?_, ?_, ?_, ?_, ?_, ?_, ?_⟩
  · unfold rT rfB at p2 ⊢; simp only [gset_rd, Prod.mk.injEq, Nat.reduceEqDiff, false_and, and_false, if_false, true_and]; exact p2
  · unfold rV at p3 ⊢; simp only [gset_rd, Prod.mk.injEq, Nat.reduceEqDiff, false_and, and_false, if_false, true_and]; exact p3
  · unfold rS at p4 ⊢; simp only [gset_rd, Prod.mk.injEq, Nat.reduceEqDiff, false_and, and_false, if_false, true_and]; exact p4
  · unfold rM at p5 ⊢; simp only [gset_rd, Prod.mk.injEq, Nat.reduceEqDiff, false_and, and_false, if_false, true_and]; exact p5
  · unfold rG at p6 ⊢; simp only [gset_rd, Prod.mk.injEq, Nat.reduceEqDiff, false_and, and_false, if_false, true_and]; exact p6
  · unfold rE at p7 ⊢; simp only [gset_rd, Prod.mk.injEq, Nat.reduceEqDiff, false_and, and_false, if_false, true_and]; exact p7
  · unfold rK at p8 ⊢; simp only [gset_rd, Prod.mk.injEq, Nat.reduceEqDiff, false_and, and_false, if_false, true_and]; exact p8
theorem wN.up {n nf us : Nat} {tp : List Nat} {ti la bs : Nat} (h : wN n nf us tp ti la bs) (hn : n < 513) : wN (n + 1) nf us tp ti la bs := by
  unfold wN at *; omega
theorem wR.up {n bs : Nat} {F : gF} {T : Nat → gFr} {ri : Nat → List Nat} (h : wR n bs F T ri) : wR (n + 1) bs F T ri := by
  obtain ⟨a, b, c⟩ := h
  refine ⟨a, fun d hd h2 => ?_, c⟩
  rcases b d hd h2 with e | ⟨j, t, e1, e2, e3, e4, e5⟩
  · exact Or.inl e
  · exact Or.inr ⟨j, t, e1, e2, e3, e4, by omega⟩
/-! feed -/
theorem p_feed {Ln : gI → Nat} {n : Nat} {S : gS} {K : gS → Prop} {x : Int64} {w : Int32} (h : INV Ln n S) (hn : n < 513) (hK : ∀ S', INV Ln (n + 1) S' → K S') :
    wp_Law_feed Ln (fun r4 S5 => wp_Mo_feed Ln (fun r7 S6 => pQ Ln K r4 r7 S6) (30, 0) x w S5) (0, 0) x w (60, 0) S := by
  obtain ⟨M, fc, F, tp, tm, vo, ti, vf, fh, sf, bs, bt, cd, la, di, od, fo, ei, kp, sl, T, nf, us, ri, en, hL, hc, hr, h1, h2, h3, h4, h5, h6⟩ := h
  have same : ∀ S' : gS, cl M fc F tp tm vo ti vf fh sf bs bt cd la di od fo ei kp S' → rl M fc F tp tm vo ti sl fh sf bs bt cd la di od kp T nf us ri en S' → K S' := fun S' a b => hK S' ⟨M, fc, F, tp, tm, vo, ti, vf, fh, sf, bs, bt, cd, la, di, od, fo, ei, kp, sl, T, nf, us, ri, en, hL, a, b, h1.up hn, h2, h3.up, h4, h5, h6⟩
  have bad : ∀ c : Int32, c ≠ 0 → pQ Ln K c 0 (gset (gset S (30, 0) 0 0) (30, 0) 0 c) := fun c hc0 => pQ_ex (gset_s _ _ _ _) hc0 (same _ (cl.lo ((loX.set (by simp)).tr (loX.set (by simp))) hc) hr.thr.thr)
  unfold wp_Law_feed
  refine c_feed hL hc.2.1 (fun h => Or.inl ⟨rfl, ?_⟩) (fun m e hm1 hm8 h => Or.inr ⟨rfl, ?_⟩) (fun m S1 e hm1 hm8 hle hT ho h2' => ⟨in_60 hL, ?_⟩)
  · refine r_feed hL hr.2.1 (fun _ => bad 1 (by decide)) (fun m e hm1 hm8 _ => ?_) (fun m S' e hm1 hm8 => ?_)
    · subst e; rcases h with h | h
      · exact absurd h (nI_nlt (b := 1) hm1 (by omega))
      · exact absurd h (nI_nlt (a := 8) hm8 (by omega))
    · subst e; rcases h with h | h
      · exact absurd h (nI_nlt (b := 1) hm1 (by omega))
      · exact absurd h (nI_nlt (a := 8) hm8 (by omega))
  · subst e
    refine r_feed hL hr.2.1 (fun h' => ?_) (fun m _ _ _ _ => bad 2 (by decide)) (fun m' S' e' _ _ hle => ?_)
    · rcases h' with h' | h'
      · exact absurd h' (nI_nlt (b := 1) hm1 (by omega))
      · exact absurd h' (nI_nlt (a := 8) hm8 (by omega))
    · rw [nI_eq (by omega) (by omega)] at e'; omega
  · rintro _ rfl
    subst e
    have hc1 : cl M fc F (tp ++ dkBs x m) tm vo ti vf fh sf bs bt cd la di od fo ei kp S1 := by
      obtain ⟨p1, p2, p3, p4, p5, p6, p7, p8⟩ := hc
      exact ⟨dk_of (fun i a b => ho i (by omega) (by omega)) p1, hT, p3.of (ho _ (by simp) (by simp)) h2', p4.of (ho _ (by simp) (by simp)), p5.of (ho _ (by simp) (by simp)), p6.of (ho _ (by simp) (by simp)) (ho _ (by simp) (by simp)) (ho _ (by simp) (by simp)), p7.of (fun k a b => ho _ (by simp; omega) (by simp; omega)), p8.of (ho _ (by simp) (by simp))⟩
    have hr1 : rl M fc F tp tm vo ti sl fh sf bs bt cd la di od kp T nf us ri en (gsetL S1 (60, 0) (0 : Int32).toNatClampNeg (nI (tp.length + m)).toInt64) := rl.hi (fun i hi => ho i (by omega) (by omega)) hr
    refine r_feed hL hr1.2.1 (fun h' => ?_) (fun m' e' _ _ hgt => ?_) (fun m' S2 e' _ _ _ hT2 ht ho2 ho3 h22 => ?_)
    · rcases h' with h' | h'
      · exact absurd h' (nI_nlt (b := 1) hm1 (by omega))
      · exact absurd h' (nI_nlt (a := 8) hm8 (by omega))
    · rw [nI_eq (by omega) (by omega)] at e'; omega
    · rw [nI_eq (by omega) (by omega)] at e'
      subst e'
      refine pQ_ok hL ht (by rw [h22]; exact out_s _ _) (hK S2 ⟨M, fc, F, tp ++ dkBs x m, tm, vo, ti, vf, fh, sf, bs, bt, cd, la, di, od, fo, ei, kp, sl, T, nf, us, ri, en, hL, cl.lo ⟨h22, fun i hi => ho2 i (by omega) (by omega)⟩ hc1.out, ?_, ?_, h2, h3.up, h4, h5, h6⟩)
      · obtain ⟨p1, p2, p3, p4, p5, p6, p7, p8⟩ := hr1
        refine ⟨rfD_of (fun i h1 h2 => ho2 i (by omega) (by omega)) (ho3 3 (by omega) (by omega)) (ho3 11 (by omega) (by omega)) p1, hT2, ?_, ?_, ?_, ?_, ?_, ?_⟩
        · unfold rV; rw [ho3 19 (by omega) (by omega), ho3 20 (by omega) (by omega), ho3 21 (by omega) (by omega), ho3 22 (by omega) (by omega), ho3 28 (by omega) (by omega)]; exact p3
        · unfold rS; rw [ho3 26 (by omega) (by omega), ho3 23 (by omega) (by omega), ho3 24 (by omega) (by omega), ho3 25 (by omega) (by omega)]; exact p4
        · unfold rM; rw [ho3 1 (by omega) (by omega), ho3 2 (by omega) (by omega), ho3 27 (by omega) (by omega), ho3 29 (by omega) (by omega)]; exact p5
        · unfold rG; rw [ho3 30 (by omega) (by omega), ho2 (45, 0) (by simp) (by simp)]; exact p6
        · unfold rE; rw [ho2 (46, 0) (by simp) (by simp)]; exact p7
        · unfold rK; rw [ho2 (44, 0) (by simp) (by simp)]; exact p8
      · unfold wN at h1 ⊢; rw [List.length_append, dkBs_len]; omega
