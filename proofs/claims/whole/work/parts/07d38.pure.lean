/-! segments that are removed from the front -/
def drF (F : gF) (od : List Nat) : Nat → gF
  | 0 => F
  | g + 1 => dkF_rm (drF F od g) (od.getD g 0)
def drR (ri : Nat → List Nat) (od : List Nat) : Nat → Nat → List Nat
  | 0 => ri
  | g + 1 => va_up (drR ri od g) (od.getD g 0) []
theorem dr_out {F : gF} {ri : Nat → List Nat} {od : List Nat} {c : Nat} : ∀ g, (∀ t, t < g → od.getD t 0 ≠ c) → (drF F od g).1 c = F.1 c ∧ (drF F od g).2.1 c = F.2.1 c ∧ (drF F od g).2.2.1 c = F.2.2.1 c ∧ (drF F od g).2.2.2 c = F.2.2.2 c ∧ drR ri od g c = ri c
  | 0, _ => ⟨rfl, rfl, rfl, rfl, rfl⟩
  | g + 1, h => by
    obtain ⟨a, b, d, e, f⟩ := dr_out (F := F) (ri := ri) g (fun t ht => h t (by omega))
    have hne : c ≠ od.getD g 0 := Ne.symm (h g (by omega))
    exact ⟨(va_up_ne _ _ hne).trans a, (va_up_ne _ _ hne).trans b, (va_up_ne _ _ hne).trans d, (va_up_ne _ _ hne).trans e, (va_up_ne _ _ hne).trans f⟩
theorem dr_in {F : gF} {ri : Nat → List Nat} {od : List Nat} {t : Nat} : ∀ g, t < g → (drF F od g).1 (od.getD t 0) = [] ∧ (drF F od g).2.1 (od.getD t 0) = 0 ∧ (drF F od g).2.2.1 (od.getD t 0) = 0 ∧ drR ri od g (od.getD t 0) = []
  | 0, h => by omega
  | g + 1, h => by
    by_cases e : od.getD t 0 = od.getD g 0
    · rw [e]
      exact ⟨va_up_self _ _ _, va_up_self _ _ _, va_up_self _ _ _, va_up_self _ _ _⟩
    · have ht : t < g := by
        rcases Nat.lt_or_ge t g with z | z
        · exact z
        · rw [show t = g by omega] at e; exact absurd rfl e
      obtain ⟨a, b, c, d⟩ := dr_in (F := F) (ri := ri) g ht
      exact ⟨(va_up_ne _ _ e).trans a, (va_up_ne _ _ e).trans b, (va_up_ne _ _ e).trans c, (va_up_ne _ _ e).trans d⟩
theorem getD_drop {l : List Nat} {g k : Nat} : (l.drop g).getD k 0 = l.getD (g + k) 0 := by
  rw [List.getD_eq_getElem?_getD, List.getElem?_drop, ← List.getD_eq_getElem?_getD]
theorem c_dropFront {Ln : gI → Nat} {M : Nat} {od : List Nat} {fo : Nat → Nat} {S : gS} {g : Nat} {v : Int32} {Q : gS → Prop} (hL : aL Ln M) (hG : cG od fo S) (h12 : od.length ≤ 12) (hg : g ≤ od.length) (hv : v = nI g)
    (hq : ∀ S', (∀ i : gI, i.1 ≠ 18 → i.1 ≠ 19 → i.1 ≠ 20 → S'.1 i = S.1 i) → S'.2 = S.2 → cG (od.drop g) fo S' → Q S') : wp_Segments_dropFront Ln Q (18, 0) v S := by
  subst hv
  obtain ⟨g1, g2⟩ := hG
  unfold wp_Segments_dropFront
  refine pk_loop (fun fu k S' => wp_Segments_dropFront_2 Ln Q fu (18, 0) (nI g) (nI k) S') (fun k S' => g ≤ k ∧ (∀ i : gI, i.1 ≠ 19 → i.1 ≠ 20 → S'.1 i = S.1 i) ∧ S'.2 = S.2 ∧ ∀ t, t < od.length → S'.1 (19, 0) t = nI (od.getD (if t + g < k then t + g else t) 0) ∧ S'.1 (20, 0) t = nI (fo (od.getD (if t + g < k then t + g else t) 0))) od.length g S hg ⟨Nat.le_refl _, fun _ _ _ => rfl, rfl, fun t ht => ?_⟩ ?_ ?_
  · rw [if_neg (by omega)]; exact g2 t ht
  · rintro m S' ⟨-, ho, h2, ht⟩
    unfold wp_Segments_dropFront_2
    rw [ho (18, 0) (by simp) (by simp), g1, pk_sub hg]
    refine br_t (nI_le (Nat.le_refl _) (by omega)) ?_
    rintro _ rfl
    refine hq _ (fun i a b c => ?_) h2 ⟨?_, fun k hk => ?_⟩
    · rw [gset_o (by rintro rfl; simp at a)]; exact ho i b c
    · rw [gset_s, List.length_drop]
    · rw [List.length_drop] at hk
      rw [gset_o (by simp), gset_o (by simp), getD_drop]
      have := ht k (by omega)
      rw [if_pos (by omega)] at this
      rw [show g + k = k + g by omega]
      exact this
  · rintro m k S' hk ⟨hgk, ho, h2, ht⟩ ih
    unfold wp_Segments_dropFront_2
    obtain ⟨a1, a2⟩ := ht k hk
    rw [if_neg (by omega)] at a1 a2
    rw [ho (18, 0) (by simp) (by simp), g1, show grf (18, 0) 0 = (19, 0) from rfl, show grf (18, 0) 1 = (20, 0) from rfl, hL.2.2.2.2.2.2.1, hL.2.2.2.2.2.2.2.1, pk_sub hgk, nI_clamp (by omega), nI_clamp (by omega), a1]
    have i1 : vp_in (nI k) 12 := vp_in_nI (by omega) (by omega)
    have i2 : vp_in (nI (k - g)) 12 := vp_in_nI (by omega) (by omega)
    refine br_f (nI_ge hk (by omega)) ⟨i1, i2, ?_⟩
    rintro _ rfl
    rw [gset_o (by simp), a2]
    refine ⟨i1, i2, ?_⟩
    rintro _ rfl _ rfl
    rw [nI_1]
    refine ih _ ⟨by omega, fun i a b => ?_, h2, fun t htl => ?_⟩
    · rw [gset_o (by rintro rfl; simp at b), gset_o (by rintro rfl; simp at a)]; exact ho i a b
    · simp only [gset_rd, Prod.mk.injEq, Nat.reduceEqDiff, false_and, if_false, true_and]
      by_cases e : t = k - g
      · subst e
        rw [if_pos rfl, if_pos rfl, if_pos (by omega), show k - g + g = k by omega]
        exact ⟨rfl, rfl⟩
      · rw [if_neg e, if_neg e]
        have := ht t htl
        by_cases e2 : t + g < k
        · rw [if_pos e2] at this; rw [if_pos (by omega)]; exact this
        · rw [if_neg e2] at this; rw [if_neg (by omega)]; exact this
theorem c_endedBy {Ln : gI → Nat} {M : Nat} {od : List Nat} {fo : Nat → Nat} {S : gS} {nb : Nat} {v : Int32} {Q : Int32 → gS → Prop} (hL : aL Ln M) (hG : cG od fo S) (h12 : od.length ≤ 12) (h0 : 0 < od.length) (hfo : ∀ k, k < od.length → fo (od.getD k 0) < 2 ^ 30) (hnb : nb < 2 ^ 30) (hv : v = nI nb)
    (hq : ∀ g, g < od.length → (∀ t, 1 ≤ t → t ≤ g → fo (od.getD t 0) ≤ nb + 1) → (g + 1 = od.length ∨ nb + 1 < fo (od.getD (g + 1) 0)) → Q (nI g) S) : wp_Segments_endedBy Ln Q (18, 0) v S := by
  subst hv
  obtain ⟨g1, g2⟩ := hG
  unfold wp_Segments_endedBy
  have key := pk_loop (fun fu k S' => wp_Segments_endedBy_4 Ln Q fu (18, 0) (nI nb) (nI (k - 1)) (nI k) S') (fun k S' => S' = S ∧ 1 ≤ k ∧ ∀ t, 1 ≤ t → t < k → fo (od.getD t 0) ≤ nb + 1) od.length 1 S (by omega) ⟨rfl, by omega, fun t a b => by omega⟩ ?_ ?_
  · exact key
  · rintro m _ ⟨rfl, h1, ht⟩
    unfold wp_Segments_endedBy_4
    rw [g1]
    exact br_t (nI_le (Nat.le_refl _) (by omega)) (hq (od.length - 1) (by omega) (fun t a b => ht t a (by omega)) (Or.inl (by omega)))
  · rintro m k _ hk ⟨rfl, h1, ht⟩ ih
    unfold wp_Segments_endedBy_4
    have hf := hfo k hk
    rw [g1, show grf (18, 0) 1 = (20, 0) from rfl, hL.2.2.2.2.2.2.2.1, nI_clamp (by omega), (g2 k hk).2, nI_1]
    refine br_f (nI_ge hk (by omega)) ⟨vp_in_nI (by omega) (by omega), pk_lt (nb + 1) (fo (od.getD k 0)) (fun h => hq (k - 1) (by omega) (fun t a b => ht t a (by omega)) (Or.inr (by rw [show k - 1 + 1 = k by omega]; exact h))) (fun h => ?_) rfl rfl (by omega) (by omega)⟩
    rintro _ rfl _ rfl
    rw [nI_1, nI_1, show k - 1 + 1 = k + 1 - 1 by omega]
    refine ih _ ⟨rfl, by omega, fun t a b => ?_⟩
    by_cases e : t = k
    · subst e; exact h
    · exact ht t a (by omega)
/-- how many segments go: all, or those that end by the new base -/
def gnP (la nb : Nat) (od : List Nat) (fo : Nat → Nat) (g : Nat) : Prop :=
  (la = nb ∧ g = od.length) ∨ (nb < la ∧ g < od.length ∧ (∀ t, 1 ≤ t → t ≤ g → fo (od.getD t 0) ≤ nb + 1) ∧ (g + 1 = od.length ∨ nb + 1 < fo (od.getD (g + 1) 0)))
theorem c_drop {Ln : gI → Nat} {M : Nat} {fc : Int32} {F : gF} {tp : List Nat} {tm vo : Int32} {ti : Nat} {vf : Int32} {fh : Nat} {sf : Int32} {nb : Nat} {bt cd : Int32} {la di : Nat} {od : List Nat} {fo : Nat → Nat} {ei : Nat → gEi} {kp : Nat → Int32} {S : gS} {Q : gS → Prop}
    (hL : aL Ln M) (hc : cl M fc F tp tm vo ti vf fh sf nb bt cd la di od fo ei kp S) (h12 : od.length ≤ 12) (ho : ∀ k, k < od.length → 4 ≤ od.getD k 0 ∧ od.getD k 0 < 16) (hfo : ∀ k, k < od.length → fo (od.getD k 0) < 2 ^ 30) (hnb : nb < 2 ^ 30) (hla : la < 2 ^ 30) (hle : nb ≤ la) (hpos : nb < la → 0 < od.length)
    (hq : ∀ S' g, gnP la nb od fo g → hiX S S' → cl M fc (drF F od g) tp tm vo ti vf fh sf nb bt cd la di (od.drop g) fo ei kp S' → Q S') : wp_LogDisk_dropSegments Ln Q (0, 0) S := by
  obtain ⟨p1, p2, p3, p4, p5, p6, p7, p8⟩ := id hc
  have e38 : ∀ g, g ≤ od.length → gnP la nb od fo g → wp_LogDisk_dropSegments_38 Ln Q (0, 0) (nI g) S := by
    intro g hg hgp
    unfold wp_LogDisk_dropSegments_38
    refine pk_loop (fun fu k S' => wp_LogDisk_dropSegments_41 Ln Q fu (0, 0) (nI g) (nI k) S') (fun k S' => dkX S S' ∧ dk M (drF F od k) S') g 0 S (Nat.zero_le _) ⟨dkX.rf S, p1⟩ ?_ ?_
    · rintro m S' ⟨hx, hd⟩
      unfold wp_LogDisk_dropSegments_41
      refine br_t (nI_le (Nat.le_refl _) (by omega)) ?_
      obtain ⟨r1, r2, r3, r4, r5, r6, r7, r8⟩ := cX_files hx.1 hx.fi hd hc
      rw [show grf (0, 0) 7 = (18, 0) from rfl]
      refine c_dropFront hL r6 h12 hg rfl ?_
      intro S2 o2 o22 g2
      refine hq S2 g hgp (hx.hi.tr (fun i hi => o2 i (by omega) (by omega) (by omega))) ⟨dk_of (fun i a b => o2 i (by omega) (by omega) (by omega)) r1, r2.of (o2 _ (by simp) (by simp) (by simp)) (o2 _ (by simp) (by simp) (by simp)), r3.of (o2 _ (by simp) (by simp) (by simp)) o22, r4.of (o2 _ (by simp) (by simp) (by simp)), r5.of (o2 _ (by simp) (by simp) (by simp)), g2, r7.of (fun k a b => o2 _ (by simp; omega) (by simp; omega) (by simp; omega)), r8.of (o2 _ (by simp) (by simp) (by simp))⟩
    · rintro m k S' hk ⟨hx, hd⟩ ih
      unfold wp_LogDisk_dropSegments_41
      have hof := ho k (by omega)
      rw [show grf (0, 0) 7 = (18, 0) from rfl, show grf (18, 0) 0 = (19, 0) from rfl, hL.2.2.2.2.2.2.1, nI_clamp (by omega), hx.2 (19, 0) (by simp), (p6.2 k (by omega)).1]
      refine br_f (nI_ge hk (by omega)) ⟨vp_in_nI (by omega) (by omega), c_file (P := fun g => wp_DiskFile_remove Ln _ g S') (S := S') hL rfl hof.2 (dk_remove hL.1 hd hof.2 ?_)⟩
      intro S2 hd2 hx2
      rintro _ rfl
      rw [nI_1]
      exact ih S2 ⟨hx.tr hx2, hd2⟩
  unfold wp_LogDisk_dropSegments
  rw [p5.2.1, show grf (0, 0) 6 = (17, 0) from rfl, p4.2.1, show grf (0, 0) 7 = (18, 0) from rfl, p6.1]
  refine (pk_eq la nb (fun h => e38 od.length (Nat.le_refl _) (Or.inl ⟨h, rfl⟩)) (fun h => ?_) rfl rfl (by omega) (by omega)) |> fun h => ⟨h.2, h.1⟩
  refine c_endedBy hL p6 h12 (hpos (by omega)) hfo hnb rfl ?_
  intro g a b c
  exact e38 g (by omega) (Or.inr ⟨by omega, a, b, c⟩)
