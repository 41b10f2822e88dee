/-! segments that are removed from behind -/
def rmF (F : gF) (od : List Nat) : Nat → gF
  | 0 => F
  | j + 1 => dkF_rm (rmF F od j) (od.getD (od.length - 1 - j) 0)
def rmR (ri : Nat → List Nat) (od : List Nat) : Nat → Nat → List Nat
  | 0 => ri
  | j + 1 => va_up (rmR ri od j) (od.getD (od.length - 1 - j) 0) []
theorem rm_out {F : gF} {ri : Nat → List Nat} {od : List Nat} {c : Nat} : ∀ j, j ≤ od.length → (∀ t, od.length - j ≤ t → t < od.length → od.getD t 0 ≠ c) → (rmF F od j).1 c = F.1 c ∧ (rmF F od j).2.1 c = F.2.1 c ∧ (rmF F od j).2.2.1 c = F.2.2.1 c ∧ (rmF F od j).2.2.2 c = F.2.2.2 c ∧ rmR ri od j c = ri c
  | 0, _, _ => ⟨rfl, rfl, rfl, rfl, rfl⟩
  | j + 1, hj, h => by
    obtain ⟨a, b, d, e, g⟩ := rm_out (F := F) (ri := ri) j (by omega) (fun t h1 h2 => h t (by omega) h2)
    have hne : c ≠ od.getD (od.length - 1 - j) 0 := Ne.symm (h _ (by omega) (by omega))
    exact ⟨(va_up_ne _ _ hne).trans a, (va_up_ne _ _ hne).trans b, (va_up_ne _ _ hne).trans d, (va_up_ne _ _ hne).trans e, (va_up_ne _ _ hne).trans g⟩
theorem rm_in {F : gF} {ri : Nat → List Nat} {od : List Nat} {t : Nat} : ∀ j, j ≤ od.length → od.length - j ≤ t → t < od.length → (rmF F od j).1 (od.getD t 0) = [] ∧ (rmF F od j).2.1 (od.getD t 0) = 0 ∧ (rmF F od j).2.2.1 (od.getD t 0) = 0 ∧ rmR ri od j (od.getD t 0) = []
  | 0, _, h1, h2 => by omega
  | j + 1, hj, h1, h2 => by
    by_cases e : od.getD t 0 = od.getD (od.length - 1 - j) 0
    · rw [e]
      exact ⟨va_up_self _ _ _, va_up_self _ _ _, va_up_self _ _ _, va_up_self _ _ _⟩
    · have ht : od.length - j ≤ t := by
        rcases Nat.lt_or_ge t (od.length - j) with z | z
        · have : t = od.length - 1 - j := by omega
          rw [this] at e
          exact absurd rfl e
        · exact z
      obtain ⟨a, b, c, d⟩ := rm_in (F := F) (ri := ri) j (by omega) ht h2
      exact ⟨(va_up_ne _ _ e).trans a, (va_up_ne _ _ e).trans b, (va_up_ne _ _ e).trans c, (va_up_ne _ _ e).trans d⟩
theorem rm_hi {F : gF} {ri : Nat → List Nat} {od : List Nat} (ho : ∀ k, k < od.length → 4 ≤ od.getD k 0 ∧ od.getD k 0 < 16) {j c : Nat} (hj : j ≤ od.length) (hc : c < 4 ∨ 16 ≤ c) : (rmF F od j).1 c = F.1 c ∧ (rmF F od j).2.1 c = F.2.1 c ∧ (rmF F od j).2.2.1 c = F.2.2.1 c ∧ (rmF F od j).2.2.2 c = F.2.2.2 c ∧ rmR ri od j c = ri c :=
  rm_out j hj (fun t _ h2 => by have := ho t h2; omega)
theorem cG.take {od : List Nat} {fo : Nat → Nat} {S : gS} {m : Nat} (h : cG od fo S) (hm : m ≤ od.length) : cG (od.take m) fo (gset S (18, 0) 2 (nI m)) := by
  have hl : (od.take m).length = m := by rw [List.length_take]; omega
  refine ⟨by rw [gset_s, hl], fun k hk => ?_⟩
  rw [hl] at hk
  rw [gset_o (by simp), gset_o (by simp), List.getD_eq_getElem?_getD, List.getElem?_take_of_lt hk, ← List.getD_eq_getElem?_getD]
  exact h.2 k (by omega)
theorem getD_take {l : List Nat} {m k : Nat} (h : k < m) : (l.take m).getD k 0 = l.getD k 0 := by
  rw [List.getD_eq_getElem?_getD, List.getElem?_take_of_lt h, ← List.getD_eq_getElem?_getD]
theorem c_cutLoop {Ln : gI → Nat} {M : Nat} {fc : Int32} {F : gF} {tp : List Nat} {tm vo : Int32} {ti : Nat} {vf : Int32} {fh : Nat} {sf : Int32} {bs : Nat} {bt cd : Int32} {la di : Nat} {od : List Nat} {fo : Nat → Nat} {ei : Nat → gEi} {kp : Nat → Int32} {S : gS} {i : Nat} {x g : Int32} {Q : Int32 → gS → Prop} {X : String → gS → Prop}
    (hL : aL Ln M) (hc : cl M fc F tp tm vo ti vf fh sf bs bt cd la di od fo ei kp S) (h12 : od.length ≤ 12) (ho : ∀ k, k < od.length → 4 ≤ od.getD k 0 ∧ od.getD k 0 < 16) (hfo : ∀ k, k < od.length → fo (od.getD k 0) < 2 ^ 30) (hi : i < 2 ^ 30) (hx : x = nI od.length - 1)
    (hq : ∀ S' j, j ≤ od.length → (∀ t, od.length - j ≤ t → t < od.length → i ≤ fo (od.getD t 0)) → (j = od.length ∨ fo (od.getD (od.length - 1 - j) 0) < i) → hiX S S' → cl M fc (rmF F od j) tp tm vo ti vf fh sf bs bt cd la di (od.take (od.length - j)) fo ei kp S' → wp_LogDisk_cutFrom_90 Ln Q X (0, 0) (nI i) g S') :
    ∃ m, wp_LogDisk_cutFrom_37 Ln Q X m (0, 0) (nI i) g x S := by
  subst hx
  have key := lp2 (fun m (j : Nat) S' => wp_LogDisk_cutFrom_37 Ln Q X m (0, 0) (nI i) g (nI (od.length - j) - 1) S')
    (fun j S' => j ≤ od.length ∧ (∀ t, od.length - j ≤ t → t < od.length → i ≤ fo (od.getD t 0)) ∧ hiX S S' ∧ cl M fc (rmF F od j) tp tm vo ti vf fh sf bs bt cd la di (od.take (od.length - j)) fo ei kp S') (fun j _ => od.length - j) ?_ 0 S ⟨Nat.zero_le _, fun t a b => by omega, hiX.rf S, by rw [Nat.sub_zero, List.take_length]; exact hc⟩
  · exact key
  · rintro m j S' ⟨hj, hall, hxx, hcl⟩ ih
    unfold wp_LogDisk_cutFrom_37
    rcases Nat.eq_or_lt_of_le hj with e | hlt
    · rw [e, Nat.sub_self]
      exact br_t (by decide) (hq S' j hj hall (Or.inl e) hxx hcl)
    · have e1 : nI (od.length - j) - 1 = nI (od.length - 1 - j) := by
        rw [show (1 : Int32) = nI 1 from rfl, pk_sub (by omega)]; congr 1; omega
      rw [e1]
      refine br_f (nI_pos (by omega)) ?_
      obtain ⟨p1, p2, p3, p4, p5, p6, p7, p8⟩ := id hcl
      have hl : (od.take (od.length - j)).length = od.length - j := by rw [List.length_take]; omega
      have hg := p6.2 (od.length - 1 - j) (by rw [hl]; omega)
      rw [getD_take (by omega)] at hg
      have hof := ho (od.length - 1 - j) (by omega)
      have hfo' := hfo (od.length - 1 - j) (by omega)
      rw [show grf (0, 0) 7 = (18, 0) from rfl, show grf (18, 0) 0 = (19, 0) from rfl, show grf (18, 0) 1 = (20, 0) from rfl, hL.2.2.2.2.2.2.1, hL.2.2.2.2.2.2.2.1, nI_clamp (by omega), hg.1, hg.2]
      refine ⟨vp_in_nI (by omega) (by omega), pk_lt (fo (od.getD (od.length - 1 - j) 0)) i (fun hlt2 => hq S' j hj hall (Or.inr hlt2) hxx hcl) (fun hge => ⟨vp_in_nI (by omega) (by omega), ?_⟩) rfl rfl (by omega) (by omega)⟩
      refine c_file (P := fun g => wp_DiskFile_remove Ln _ g S') (S := S') hL rfl hof.2 ?_
      refine dk_remove hL.1 p1 hof.2 ?_
      intro S2 hd2 hx2
      rintro _ rfl
      have e18 : S2.1 (18, 0) 2 - 1 = nI (od.length - (j + 1)) := by
        rw [hx2.2 _ (by simp), p6.1, hl, show (1 : Int32) = nI 1 from rfl, pk_sub (by omega)]; congr 1
      rw [e18]
      rintro _ rfl
      have e2 : nI (od.length - 1 - j) + (-1) = nI (od.length - (j + 1)) - 1 := by
        rw [← Int32.sub_eq_add_neg]; congr 2; omega
      rw [e2]
      refine ih (j + 1) _ ⟨by omega, fun t h1 h2 => ?_, (hxx.tr hx2.hi).tr (hiX.set (by simp)), ?_⟩ (by omega)
      · by_cases e : t = od.length - 1 - j
        · subst e; exact hge
        · exact hall t (by omega) h2
      · obtain ⟨r1, r2, r3, r4, r5, r6, r7, r8⟩ := cX_files hx2.1 hx2.fi hd2 hcl
        have o : ∀ i : gI, i.1 ≠ 18 → (gset S2 (18, 0) 2 (nI (od.length - (j + 1)))).1 i = S2.1 i := fun i hi => gset_o (by rintro rfl; simp at hi)
        refine ⟨dk_of (fun i a b => o i (by omega)) r1, r2.of (o _ (by simp)) (o _ (by simp)), r3.of (o _ (by simp)) rfl, r4.of (o _ (by simp)), r5.of (o _ (by simp)), ?_, r7.of (fun k a b => o _ (by simp; omega)), r8.of (o _ (by simp))⟩
        have := r6.take (m := od.length - (j + 1)) (by rw [hl]; omega)
        rw [List.take_take, Nat.min_eq_left (by omega)] at this
        exact this
theorem r_cutLoop {Ln : gI → Nat} {M : Nat} {fc : Int32} {F : gF} {tp : List Nat} {tm vo : Int32} {ti sl fh : Nat} {sf : Int32} {bs : Nat} {bt cd : Int32} {la di : Nat} {od : List Nat} {kp : Nat → Int32} {T : Nat → gFr} {nf us : Nat} {ri : Nat → List Nat} {en : Nat → Nat} {fo : Nat → Nat} {S : gS} {i : Nat} {g : Int32} {Q : Int32 → gS → Prop}
    (hL : aL Ln M) (hr : rl M fc F tp tm vo ti sl fh sf bs bt cd la di od kp T nf us ri en S) (h5 : wO bs la F T ri od fo) (hbs : bs < 2 ^ 29) (hi : i < 2 ^ 30)
    (hq : ∀ S' j, j ≤ od.length → (∀ t, od.length - j ≤ t → t < od.length → i ≤ fo (od.getD t 0)) → (j = od.length ∨ fo (od.getD (od.length - 1 - j) 0) < i) → loX S S' → S'.1 (30, 0) 0 = S.1 (30, 0) 0 → rl M fc (rmF F od j) tp tm vo ti sl fh sf bs bt cd la di (od.take (od.length - j)) kp T nf us (rmR ri od j) en S' → wp_Mo_cutFrom_91 Ln Q (30, 0) (nI i) g S') :
    ∃ m, wp_Mo_cutFrom_37 Ln Q m (30, 0) (nI i) g S := by
  have h12 := h5.1
  have ho := h5.2.1
  have key := lp2 (fun m (j : Nat) S' => wp_Mo_cutFrom_37 Ln Q m (30, 0) (nI i) g S')
    (fun j S' => j ≤ od.length ∧ (∀ t, od.length - j ≤ t → t < od.length → i ≤ fo (od.getD t 0)) ∧ loX S S' ∧ S'.1 (30, 0) 0 = S.1 (30, 0) 0 ∧ rl M fc (rmF F od j) tp tm vo ti sl fh sf bs bt cd la di (od.take (od.length - j)) kp T nf us (rmR ri od j) en S') (fun j _ => od.length - j) ?_ 0 S ⟨Nat.zero_le _, fun t a b => by omega, loX.rf S, rfl, by rw [Nat.sub_zero, List.take_length]; exact hr⟩
  · exact key
  · rintro m j S' ⟨hj, hall, hxx, ht0, hrl⟩ ih
    obtain ⟨p1, p2, p3, p4, p5, p6, p7, p8⟩ := id hrl
    have hl : (od.take (od.length - j)).length = od.length - j := by rw [List.length_take]; omega
    unfold wp_Mo_cutFrom_37
    rw [p6.1, hl]
    refine pk_le (od.length - j) 0 (fun h => hq S' j hj hall (Or.inl (by omega)) hxx ht0 hrl) (fun hpos => ?_) rfl rfl (by omega) (by omega)
    have hg := p6.2 (od.length - 1 - j) (by rw [hl]; omega)
    rw [getD_take (by omega)] at hg
    have hof := ho (od.length - 1 - j) (by omega)
    obtain ⟨o1, o2, o3, o4, o5, o6⟩ := h5.2.2.2.1 (od.length - 1 - j) (by omega)
    have hrow : rmR ri od j (od.getD (od.length - 1 - j) 0) = ri (od.getD (od.length - 1 - j) 0) := (rm_out (F := F) j hj (fun t a b z => by
      rcases Nat.lt_trichotomy t (od.length - 1 - j) with y | y | y
      · omega
      · omega
      · exact h5.2.2.1 _ t y b z.symm)).2.2.2.2
    rw [show (1 : Int32) = nI 1 from rfl, pk_sub (by omega), show grf (30, 0) 31 = (45, 0) from rfl, hL.2.1.2.2.2.2.2.2.2.2.2.1, nI_clamp (by omega), show od.length - j - 1 = od.length - 1 - j by omega, hg]
    refine ⟨vp_in_nI (by omega) (by omega), rf_firstOf hL.2.1 p1 (by omega) rfl (by rw [hrow]; exact o1) ?_⟩
    rw [hrow, o3]
    refine pk_lt (fo (od.getD (od.length - 1 - j) 0)) i (fun hlt => hq S' j hj hall (Or.inr hlt) hxx ht0 hrl) (fun hge => ?_) rfl rfl (by omega) (by omega)
    rw [p6.1, hl, pk_sub (by omega), nI_clamp (by omega), show od.length - j - 1 = od.length - 1 - j by omega, hg]
    refine ⟨vp_in_nI (by omega) (by omega), rf_remove hL.2.1 p1 hof.2 rfl ?_⟩
    intro S2 hx2 hD2
    rintro _ rfl
    have e30 : S2.1 (30, 0) 30 - nI 1 = nI (od.length - (j + 1)) := by
      rw [hx2.2 _ (by simp), p6.1, hl, pk_sub (by omega)]; congr 1
    rw [e30]
    have o : ∀ k, k ≠ 30 → (gset S2 (30, 0) 30 (nI (od.length - (j + 1)))).1 (30, 0) k = S'.1 (30, 0) k := fun k hk => by rw [gset_n (Or.inr hk), hx2.2 _ (by simp)]
    have oh : ∀ i : gI, 43 < i.1 → (gset S2 (30, 0) 30 (nI (od.length - (j + 1)))).1 i = S'.1 i := fun i hi => by rw [gset_o (by rintro rfl; simp at hi), hx2.2 _ (by omega)]
    refine ih (j + 1) _ ⟨by omega, fun t h1 h2 => ?_, (hxx.tr hx2.lo).tr (loX.set (by simp)), (o 0 (by omega)).trans ht0, ?_⟩ (by omega)
    · by_cases e : t = od.length - 1 - j
      · subst e; exact hge
      · exact hall t (by omega) h2
    · refine ⟨rfD_of (fun i a b => gset_o (by rintro rfl; simp at a)) (gset_n (Or.inr (by omega))) (gset_n (Or.inr (by omega))) hD2, ?_, ?_, ?_, ?_, ⟨?_, ?_⟩, ?_, ?_⟩
      · unfold rT rfB; rw [o 33 (by omega), oh (47, 0) (by simp)]; exact p2
      · unfold rV; rw [o 19 (by omega), o 20 (by omega), o 21 (by omega), o 22 (by omega), o 28 (by omega)]; exact p3
      · unfold rS; rw [o 26 (by omega), o 23 (by omega), o 24 (by omega), o 25 (by omega)]; exact p4
      · unfold rM; rw [o 1 (by omega), o 2 (by omega), o 27 (by omega), o 29 (by omega)]; exact p5
      · rw [gset_s, List.length_take]; congr 1; omega
      · intro k hk
        rw [List.length_take] at hk
        rw [oh (45, 0) (by simp), getD_take (by omega)]
        have := p6.2 k (by rw [hl]; omega)
        rw [getD_take (by omega)] at this
        exact this
      · unfold rE; rw [oh (46, 0) (by simp)]; exact p7
      · unfold rK; rw [oh (44, 0) (by simp)]; exact p8
