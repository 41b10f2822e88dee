/-! frames that are added: what the old ones say stays -/
theorem mem_lt {l : List Nat} {nf : Nat} (h : ∀ k, k < l.length → l.getD k 0 < nf) {j : Nat} (hj : j ∈ l) : j < nf := by
  obtain ⟨i, hi, rfl⟩ := List.mem_iff_getElem.mp hj
  have := h i hi
  rw [List.getD_eq_getElem?_getD, List.getElem?_eq_getElem hi] at this
  exact this
theorem rfC_nil (T : Nat → gFr) : rfC T [] = [] := List.flatMap_nil
theorem rfC_cons (T : Nat → gFr) (a : Nat) (l : List Nat) : rfC T (a :: l) = frE (T a) ++ rfC T l := List.flatMap_cons
theorem rfC_T {T T' : Nat → gFr} : ∀ {l : List Nat}, (∀ j, j ∈ l → T' j = T j) → rfC T' l = rfC T l
  | [], _ => (rfC_nil T').trans (rfC_nil T).symm
  | a :: l, h => by
    have e1 := rfC_cons T' a l
    have e2 := rfC_cons T a l
    have e3 := rfC_T (l := l) (fun j hj => h j (List.mem_cons_of_mem a hj))
    have e4 := h a List.mem_cons_self
    rw [e1, e2, e3, e4]
def rlt (nf : Nat) (ri : Nat → List Nat) : Prop := ∀ c, c < 32 → ∀ k, k < (ri c).length → (ri c).getD k 0 < nf
theorem rfD.lt {T : Nat → gFr} {nf us : Nat} {ri : Nat → List Nat} {F : gF} {S : gS} (hD : rfD T nf us ri F S) : rlt nf ri := fun c hc k hk => (rf_row hD hc hk).2.1
theorem rlt.T {nf : Nat} {ri : Nat → List Nat} {T T' : Nat → gFr} (h : rlt nf ri) (hT : ∀ j, j < nf → T' j = T j) {c : Nat} (hc : c < 32) (n : Nat) : rfC T' ((ri c).take n) = rfC T ((ri c).take n) :=
  rfC_T fun j hj => hT j (mem_lt (h c hc) (List.mem_of_mem_take hj))
theorem rlt.T' {nf : Nat} {ri : Nat → List Nat} {T T' : Nat → gFr} (h : rlt nf ri) (hT : ∀ j, j < nf → T' j = T j) {c : Nat} (hc : c < 32) : rfC T' (ri c) = rfC T (ri c) :=
  rfC_T fun j hj => hT j (mem_lt (h c hc) hj)
theorem rfD.mk {T T' : Nat → gFr} {nf nf' us us' : Nat} {ri : Nat → List Nat} {F : gF} {S S' : gS} (hD : rfD T nf us ri F S) (hx : mX S S') (hT' : rfT T' nf' us' S') (hn : nf ≤ nf') (hT : ∀ j, j < nf → T' j = T j) : rfD T' nf' us' ri F S' := by
  have hlt := hD.lt
  obtain ⟨h1, hR, ⟨f1, f2⟩, hP⟩ := hD
  refine ⟨hT', ?_, ⟨?_, ?_⟩, ?_⟩
  · intro c hc
    rw [hx.2.1 (39, 0) (by simp), hx.2.1 (38, 0) (by simp)]
    obtain ⟨a, b, d⟩ := hR c hc
    exact ⟨a, b, fun k hk => ⟨(d k hk).1, Nat.lt_of_lt_of_le (d k hk).2 hn⟩⟩
  · intro c hc
    rw [hx.2.1 (40, 0) (by simp), hx.2.1 (41, 0) (by simp)]
    exact f1 c hc
  · intro f hf
    rw [hx.2.1 (42, 0) (by simp), hx.2.1 (43, 0) (by simp)]
    exact f2 f hf
  · intro c hc
    obtain ⟨a, b⟩ := hP c hc
    unfold rfP
    rw [hlt.T' hT hc]
    refine ⟨a, fun n hn => ?_⟩
    rw [hlt.T hT hc]
    exact b n hn
theorem sgOK.T {T T' : Nat → gFr} {b nf : Nat} {l : List Nat} (hl : ∀ k, k < l.length → l.getD k 0 < nf) (hT : ∀ j, j < nf → T' j = T j) (h : sgOK T b l) : sgOK T' b l := by
  rcases h with h | ⟨fi, h1, h2, h3⟩
  · exact Or.inl h
  · exact Or.inr ⟨fi, h1, h2, fun k hk => by rw [hT _ (hl k hk)]; exact h3 k hk⟩
theorem one_lt {nf : Nat} {ri : Nat → List Nat} (h : rlt nf ri) {c j : Nat} (hc : c < 32) (e : ri c = [j]) : j < nf := by
  have := h c hc 0 (by rw [e]; exact Nat.one_pos)
  rw [e] at this
  exact this
theorem wR.T {n bs nf : Nat} {F : gF} {T T' : Nat → gFr} {ri : Nat → List Nat} (hl : rlt nf ri) (hT : ∀ j, j < nf → T' j = T j) (h : wR n bs F T ri) : wR n bs F T' ri := by
  obtain ⟨a1, a2, a3, a4⟩ := h
  refine ⟨a1, fun c hc h2 => ?_, fun c hc h4 => ⟨(a3 c hc h4).1.T (hl c hc) hT, (a3 c hc h4).2⟩, a4⟩
  rcases a2 c hc h2 with e | ⟨j, t, e1, e2⟩
  · exact Or.inl e
  · refine Or.inr ⟨j, t, e1, ?_⟩
    rw [hT j (one_lt hl hc e1)]
    exact e2
theorem wS.T {sf : Int32} {bs nf : Nat} {bt cd fc : Int32} {F : gF} {T T' : Nat → gFr} {ri : Nat → List Nat} (hl : rlt nf ri) (hT : ∀ j, j < nf → T' j = T j) (h : wS sf bs bt cd fc F T ri) : wS sf bs bt cd fc F T' ri := by
  obtain ⟨a, b⟩ := h
  refine ⟨fun f h2 h4 => ?_, ?_⟩
  · rw [hl.T' hT (show f < 32 by omega)]; exact a f h2 h4
  · rcases b with b | ⟨s, o, j, b1, b2, b3, b4, b5, b6, b7, b8, b9⟩
    · exact Or.inl b
    · refine Or.inr ⟨s, o, j, b1, b2, b3, ?_⟩
      rw [hT j (one_lt hl (show s < 32 by omega) b3)]
      refine ⟨b4, b5, b6, b7, b8, ?_⟩
      rcases b9 with b9 | ⟨q, b, c1, c2⟩
      · exact Or.inl b9
      · refine Or.inr ⟨q, b, c1, ?_⟩
        rw [hT q (one_lt hl (show o < 32 by omega) c1)]
        exact c2
theorem wO.T {bs la nf : Nat} {F : gF} {T T' : Nat → gFr} {ri : Nat → List Nat} {od : List Nat} {fo : Nat → Nat} (hl : rlt nf ri) (hT : ∀ j, j < nf → T' j = T j) (h : wO bs la F T ri od fo) : wO bs la F T' ri od fo := by
  obtain ⟨a1, a2, a3, a4, a5⟩ := h
  refine ⟨a1, a2, a3, fun k hk => ?_, a5⟩
  have hf := (a2 k hk).2
  obtain ⟨b1, b2, b3⟩ := a4 k hk
  rw [hl.T' hT (show od.getD k 0 < 32 by omega), hT _ (hl _ (show od.getD k 0 < 32 by omega) 0 b1)]
  exact ⟨b1, b2, b3⟩
theorem wE.T {bs la nf : Nat} {T T' : Nat → gFr} {ri : Nat → List Nat} {od : List Nat} {fo : Nat → Nat} {en : Nat → Nat} {ei : Nat → gEi} (hl : rlt nf ri) (hT : ∀ j, j < nf → T' j = T j) (ho : ∀ k, k < od.length → 4 ≤ od.getD k 0 ∧ od.getD k 0 < 16) (h : wE bs la T ri od fo en ei) : wE bs la T' ri od fo en ei := by
  intro i h1 h2
  obtain ⟨q, k, b1, b2, b3, b4, b5, b6⟩ := h i h1 h2
  have hf := (ho q b1).2
  refine ⟨q, k, b1, b2, b3, b4, b5, ?_⟩
  rw [hl.T hT (show od.getD q 0 < 32 by omega), hT (en i) (by rw [b5]; exact hl _ (by omega) k b3)]
  exact b6
/-- files and the frame as they may change, the rest not -/
def dfX (S S' : gS) : Prop := S'.2 = S.2 ∧ ∀ i : gI, i.1 = 0 ∨ 10 ≤ i.1 → i.1 ≠ 14 → i.1 ≠ 15 → S'.1 i = S.1 i
theorem dfX.rf (S : gS) : dfX S S := ⟨rfl, fun _ _ _ _ => rfl⟩
theorem dfX.tr {S S1 S2 : gS} (a : dfX S S1) (b : dfX S1 S2) : dfX S S2 := ⟨b.1.trans a.1, fun i h h1 h2 => (b.2 i h h1 h2).trans (a.2 i h h1 h2)⟩
theorem dkX.df {S S' : gS} (h : dkX S S') : dfX S S' := ⟨h.1, fun i h1 _ _ => h.2 i h1⟩
theorem fX.df {S S' : gS} (h : fX S S') : dfX S S' := ⟨h.1, fun i _ h1 h2 => h.2 i h1 h2⟩
theorem dfX.hi {S S' : gS} (h : dfX S S') : hiX S S' := fun i hi => h.2 i (by omega) (by omega) (by omega)
theorem fX.dk {M : Nat} {F : gF} {S S' : gS} (h : fX S S') (hd : dk M F S) : dk M F S' := dk_of (fun i h1 h2 => h.2 i (by omega) (by omega)) hd
theorem dfX.cl {M : Nat} {fc : Int32} {F F' : gF} {tp : List Nat} {tm vo : Int32} {ti : Nat} {vf : Int32} {fh : Nat} {sf : Int32} {bs : Nat} {bt cd : Int32} {la di : Nat} {od : List Nat} {fo : Nat → Nat} {ei : Nat → gEi} {kp : Nat → Int32} {S S' : gS}
    (h : dfX S S') (hd : dk M F' S') (p : cl M fc F tp tm vo ti vf fh sf bs bt cd la di od fo ei kp S) : cl M fc F' tp tm vo ti vf fh sf bs bt cd la di od fo ei kp S' := cX_files h.1 (fun i h1 _ h2 h3 => h.2 i h1 h2 h3) hd p
theorem dkU_ct0 {M : Nat} {F : gF} {f : Nat} {S S' : gS} (h : dk M F S) (h' : dk M (dkF_ct F f 0) S') (hf : f < 16) : dkU M (dkF_ct F f 0) = dkU M F + (dkP (F.sz f) - F.sh f) ∧ (dkF_ct F f 0).sz f = 0 ∧ (dkF_ct F f 0).sh f = 0 := by
  have a := (dk_uc h).2
  have b := (dk_uc h').2
  have hl := dk_low h hf
  have e0 : (dkF_ct F f 0).sz f = 0 := by
    show (va_up F.1 f ((F.1 f).take 0) f).length = 0
    rw [va_up_self, List.take_zero]; rfl
  have e1 : (dkF_ct F f 0).sh f = 0 := by
    show va_up F.2.2.2 f (min (F.sh f) (dkP 0)) f = 0
    rw [va_up_self, dkP_0, Nat.min_zero]
  have e2 : (dkF_ct F f 0).sz (16 + f) = F.sz (16 + f) := congrArg List.length (va_up_ne _ _ (by omega))
  refine ⟨?_, e0, e1⟩
  have hsum := dkSum_u (g := dkW F) (g' := dkW (dkF_ct F f 0)) 16 hf ?_
  · have w1 : dkW (dkF_ct F f 0) f = dkP (F.sz (16 + f)) := by unfold dkW; rw [e0, e1, e2, dkP_0]; omega
    have w2 : dkW F f = dkP (F.sz f) + dkP (F.sz (16 + f)) - F.sh f := rfl
    rw [w1, w2] at hsum
    omega
  · intro g hg hg2
    unfold dkW
    rw [show (dkF_ct F f 0).sz g = F.sz g from congrArg List.length (va_up_ne _ _ hg2), show (dkF_ct F f 0).sz (16 + g) = F.sz (16 + g) from congrArg List.length (va_up_ne _ _ (by omega)), show (dkF_ct F f 0).sh g = F.sh g from va_up_ne _ _ hg2]
/-! save -/
def vnx (sl fh : Nat) : Nat := if fh = 0 then 1 - sl else sl
theorem c_nextVote {Ln : gI → Nat} {tm vo vf : Int32} {ti sl fh di : Nat} {kp : Nat → Int32} {S : gS} {Q : Int32 → gS → Prop} (hV : cV tm vo ti vf fh S) (hw : wV vf sl fh di kp) (hq : Q (nI (vnx sl fh)) S) : wp_Vote_nextFile Ln Q (16, 0) S := by
  obtain ⟨a, b, c, d, -⟩ := hw
  unfold vnx at hq
  unfold wp_Vote_nextFile
  rw [hV.2.2.2.1, hV.2.2.2.2]
  rcases a with ⟨a1, a2, a3⟩ | a
  · rw [a1]
    refine cr_t rfl ?_
    rw [a2, a3] at hq
    exact hq
  · rw [a]
    refine cr_f (fun z => ?_) ?_
    · have : (nI sl).toInt = (-1 : Int32).toInt := by rw [z]
      rw [nI_toInt (by omega)] at this
      have : (-1 : Int32).toInt = -1 := by decide
      omega
    · refine pk_eq fh 0 (fun h => ?_) (fun h => ?_) rfl rfl (by omega) (by omega)
      · rw [if_pos h] at hq
        rw [show (1 : Int32) = nI 1 from rfl, pk_sub b]; exact hq
      · rw [if_neg h] at hq; exact hq
theorem c_writeVote {Ln : gI → Nat} {M : Nat} {F : gF} {tm vo : Int32} {ti fh f : Nat} {S : gS} {Q : gS → Prop} (hL : aL Ln M) (hd : dk M F S) (hV : cV tm vo ti (nI f) fh S) (ht : ti < 2 ^ 31) (hf : f < 16) (hlo : F.lo f ≤ F.sz f) (hroom : 1 ≤ dkU M F + (dkP (F.sz f) - F.sh f))
    (hq : ∀ S', dfX S S' → dk M (dkF_wr (dkF_ct F f 0) f (frE (0, nI ti, tm, vo, []))) S' → Q S') : wp_LogDisk_writeVote Ln Q (0, 0) S := by
  have l15 := hL.2.2.2.2.2.1
  unfold wp_LogDisk_writeVote
  rw [show grf (0, 0) 4 = (14, 0) from rfl, show grf (0, 0) 5 = (16, 0) from rfl, show grf (14, 0) 0 = (15, 0) from rfl]
  refine fr_begin ?_
  intro S1 x1 m1
  refine fr_add (n := 8) l15 rfl (by omega) m1 (by simp) ?_
  intro S2 x2 m2
  refine fr_add (n := 8) l15 rfl (by omega) m2 (by simp [dkBs_len]) ?_
  intro S3 x3 m3
  refine fr_add (n := 8) l15 rfl (by omega) m3 (by simp [dkBs_len]) ?_
  intro S4 x4 m4
  have hx : fX S S4 := ((x1.tr x2).tr x3).tr x4
  refine fr_close l15 m4 (by simp [dkBs_len]) ?_
  intro S5 x5 m5 m6
  have hx5 : fX S S5 := hx.tr x5
  have e1 : S1.2 (16, 0) 2 = lN ti := by rw [x1.1]; exact hV.2.2.1
  have e2 : S2.1 (16, 0) 0 = tm := by rw [(x1.tr x2).2 _ (by simp) (by simp)]; exact hV.1
  have e3 : S3.1 (16, 0) 1 = vo := by rw [((x1.tr x2).tr x3).2 _ (by simp) (by simp)]; exact hV.2.1
  have e5 : S5.1 (16, 0) 3 = nI f := by rw [hx5.2 _ (by simp) (by simp)]; exact hV.2.2.2.1
  rw [e5]
  refine c_file (P := fun g => wp_DiskFile_cutTo Ln _ g 0 S5) (S := S5) hL rfl hf ?_
  refine dk_cutTo (n := 0) hL.1 (hx5.dk hd) hf rfl (by omega) hlo ?_
  intro S7 hd7 hx7
  have e7 : S7.1 (16, 0) 3 = nI f := by rw [hx7.2 _ (by simp)]; exact e5
  rw [e7]
  refine c_file (P := fun g => wp_DiskFile_write Ln _ g _ _ S7) (S := S7) hL rfl hf ?_
  obtain ⟨u1, u2, u3⟩ := dkU_ct0 (hx5.dk hd) hd7 hf
  have hE : frE (0, nI ti, tm, vo, []) = frH ((([] ++ dkBs (S1.2 (16, 0) 2) 8) ++ dkBs ((S2.1 (16, 0) 0).toInt64) 8) ++ dkBs ((S3.1 (16, 0) 1).toInt64) 8) := by
    rw [e1, e2, e3]
    unfold frE
    have : frP (0, nI ti, tm, vo, []) = (([] ++ dkBs (lN ti) 8) ++ dkBs (tm.toInt64) 8) ++ dkBs (vo.toInt64) 8 := by
      unfold frP
      rw [if_pos rfl, List.nil_append, List.append_assoc]
      show dkBs (nI ti).toInt64 8 ++ _ = _
      rw [nI_l ht]
    rw [this, if_neg (show ¬ (0 : Nat) = 1 by omega), List.append_nil]
  rw [← hE] at m5 m6
  have hlen : (frE (0, nI ti, tm, vo, [])).length = 32 := by rw [frE_len, frP_len]; rfl
  rw [hlen] at m5 m6
  refine dk_write (n := 32) (bs := frE (0, nI ti, tm, vo, [])) hL.1 hd7 hf (by simp) hlen ?_ (by omega) (by rw [l15]; omega) (by rw [l15]; omega) ?_ ?_ ?_ ?_
  · rw [hx7.2 _ (by simp)]; exact m5
  · intro i hi
    rw [hx7.2 _ (by simp)]
    exact m6 i hi
  · rw [u2]; decide
  · intro _
    unfold dkNd
    rw [u2, u3, u1, if_neg (by omega)]
    show dkP (0 + 32) - dkP 0 + 0 ≤ _
    have : dkP (0 + 32) - dkP 0 + 0 = 1 := by decide
    omega
  · intro S9 hx9 hd9
    exact hq S9 (hx5.df.tr (hx7.df.tr hx9.df)) hd9
