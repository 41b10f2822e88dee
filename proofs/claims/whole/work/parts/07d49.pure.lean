def srN (p : Nat → Bool) : Nat → Nat → Nat
  | _, 0 => 16
  | k, n + 1 => if p k then k else srN p (k + 1) n
theorem srN_ok {p : Nat → Bool} : ∀ n k, k + n = 16 → (srN p k n = 16 ∧ ∀ f, k ≤ f → f < 16 → p f = false) ∨ (k ≤ srN p k n ∧ srN p k n < 16 ∧ p (srN p k n) = true)
  | 0, k, h => Or.inl ⟨rfl, fun f a b => by omega⟩
  | n + 1, k, h => by
    show ((if p k then k else srN p (k + 1) n) = 16 ∧ _) ∨ (k ≤ (if p k then k else srN p (k + 1) n) ∧ (if p k then k else srN p (k + 1) n) < 16 ∧ p (if p k then k else srN p (k + 1) n) = true)
    by_cases e : p k = true
    · rw [if_pos e]; exact Or.inr ⟨Nat.le_refl _, by omega, e⟩
    · rw [if_neg e]
      rcases srN_ok (p := p) n (k + 1) (by omega) with ⟨a, b⟩ | ⟨a, b, c⟩
      · refine Or.inl ⟨a, fun f h1 h2 => ?_⟩
        by_cases e2 : f = k
        · subst e2; exact Bool.eq_false_iff.mpr e
        · exact b f (by omega) h2
      · exact Or.inr ⟨by omega, b, c⟩
def nxP (T : Nat → gFr) (F : gF) (ri : Nat → List Nat) (e : Nat) (tm : Int32) (f : Nat) : Bool := decide (0 < sgW T F ri f ∧ sgI T ri f = e + 1 ∧ sgB T ri f = tm)
def nxN (T : Nat → gFr) (F : gF) (ri : Nat → List Nat) (t : Nat) : Nat := srN (nxP T F ri (sgE T F ri t) (sgT T F ri t)) 4 12
def chn (T : Nat → gFr) (F : gF) (ri : Nat → List Nat) : Nat → Nat → List Nat
  | 0, t => [t]
  | n + 1, t => if 2 ≤ sgW T F ri t ∧ nxN T F ri t < 16 then t :: chn T F ri n (nxN T F ri t) else [t]
/-- a chain of segments -/
def chO (bs t0 : Nat) (T : Nat → gFr) (F : gF) (ri : Nat → List Nat) (D : List Nat) : Prop :=
  (∀ k, k < D.length → 4 ≤ D.getD k 0 ∧ D.getD k 0 < 16 ∧ 0 < sgW T F ri (D.getD k 0)) ∧ (∀ k, k + 1 < D.length → 2 ≤ sgW T F ri (D.getD k 0) ∧ sgI T ri (D.getD (k + 1) 0) = sgE T F ri (D.getD k 0) + 1 ∧ D.getD (k + 1) 0 = nxN T F ri (D.getD k 0)) ∧ (0 < D.length → sgI T ri (D.getD 0 0) ≤ bs + 1 ∧ bs ≤ sgE T F ri (D.getD 0 0) ∧ D.getD 0 0 = t0)
theorem nx_ok {T : Nat → gFr} {F : gF} {ri : Nat → List Nat} {t : Nat} (h : nxN T F ri t < 16) : 4 ≤ nxN T F ri t ∧ 0 < sgW T F ri (nxN T F ri t) ∧ sgI T ri (nxN T F ri t) = sgE T F ri t + 1 ∧ sgB T ri (nxN T F ri t) = sgT T F ri t := by
  rcases srN_ok (p := nxP T F ri (sgE T F ri t) (sgT T F ri t)) 12 4 rfl with ⟨a, -⟩ | ⟨a, b, c⟩
  · unfold nxN at h; omega
  · have := of_decide_eq_true c
    exact ⟨a, this⟩
theorem ch_b {n bs t0 : Nat} {F : gF} {T : Nat → gFr} {ri : Nat → List Nat} (h : wL n bs F T ri) {D : List Nat} (hD : chO bs t0 T F ri D) : ∀ {k : Nat}, k < D.length → bs ≤ sgE T F ri (D.getD k 0)
  | 0, hk => (hD.2.2 (by omega)).2.1
  | k + 1, hk => by
    have ih := ch_b h hD (k := k) (by omega)
    obtain ⟨a', b', c'⟩ := hD.1 (k + 1) (by omega)
    obtain ⟨e1, e2, -⟩ := hD.2.1 k (by omega)
    have g3 := (sg_facts h a' b' c').2.2.1
    unfold sgE at *
    omega
theorem ch_step {n bs t0 : Nat} {F : gF} {T : Nat → gFr} {ri : Nat → List Nat} (h : wL n bs F T ri) {D : List Nat} (hD : chO bs t0 T F ri D) {k : Nat} (hk : k + 1 < D.length) : sgI T ri (D.getD k 0) < sgI T ri (D.getD (k + 1) 0) := by
  obtain ⟨a, b, c⟩ := hD.1 k (by omega)
  obtain ⟨e1, e2, -⟩ := hD.2.1 k hk
  have f3 := (sg_facts h a b c).2.2.1
  unfold sgE at *
  omega
theorem ch_mono {n bs t0 : Nat} {F : gF} {T : Nat → gFr} {ri : Nat → List Nat} (h : wL n bs F T ri) {D : List Nat} (hD : chO bs t0 T F ri D) : ∀ d k, k + d + 1 < D.length → sgI T ri (D.getD k 0) < sgI T ri (D.getD (k + d + 1) 0)
  | 0, k, hk => ch_step h hD hk
  | d + 1, k, hk => by
    have h1 := ch_mono h hD d k (by omega)
    have h2 := ch_step h hD (k := k + d + 1) (by omega)
    rw [show k + (d + 1) + 1 = k + d + 1 + 1 by omega]
    omega
theorem ch_lt {n bs t0 : Nat} {F : gF} {T : Nat → gFr} {ri : Nat → List Nat} (h : wL n bs F T ri) {D : List Nat} (hD : chO bs t0 T F ri D) {k q : Nat} (hk : k < q) (hq : q < D.length) : sgI T ri (D.getD k 0) < sgI T ri (D.getD q 0) := by
  have := ch_mono h hD (q - k - 1) k (by omega)
  rw [show k + (q - k - 1) + 1 = q by omega] at this
  exact this
theorem ch_ne {n bs t0 : Nat} {F : gF} {T : Nat → gFr} {ri : Nat → List Nat} (h : wL n bs F T ri) {D : List Nat} (hD : chO bs t0 T F ri D) {k q : Nat} (hk : k < q) (hq : q < D.length) : D.getD k 0 ≠ D.getD q 0 := fun e => by
  have := ch_lt h hD hk hq
  rw [e] at this
  omega
theorem ch_new {n bs t0 : Nat} {F : gF} {T : Nat → gFr} {ri : Nat → List Nat} (h : wL n bs F T ri) {D : List Nat} {t : Nat} (hD : chO bs t0 T F ri (D ++ [t])) (h2 : 2 ≤ sgW T F ri t) (hx : nxN T F ri t < 16) : chO bs t0 T F ri (D ++ [t] ++ [nxN T F ri t]) ∧ nxN T F ri t ∉ D ++ [t] := by
  obtain ⟨x1, x2, x3, x4⟩ := nx_ok hx
  have hlen : (D ++ [t]).length = D.length + 1 := by rw [List.length_append]; rfl
  have hlt : (D ++ [t]).getD D.length 0 = t := getD_snoc_r
  have hE : sgI T ri t < sgI T ri (nxN T F ri t) := by
    obtain ⟨a, b, c⟩ := hD.1 D.length (by omega)
    rw [hlt] at a b c
    have f3 := (sg_facts h a b c).2.2.1
    unfold sgE at x3
    omega
  refine ⟨⟨fun k hk => ?_, fun k hk => ?_, fun _ => ?_⟩, fun hm => ?_⟩
  · rw [List.length_append, hlen] at hk
    by_cases e : k = D.length + 1
    · rw [e, ← hlen, getD_snoc_r]; exact ⟨x1, hx, x2⟩
    · rw [getD_snoc_l (by rw [hlen]; have : ([nxN T F ri t] : List Nat).length = 1 := rfl; omega)]
      exact hD.1 k (by rw [hlen]; have : ([nxN T F ri t] : List Nat).length = 1 := rfl; omega)
  · rw [List.length_append, hlen] at hk
    have l1 : ([nxN T F ri t] : List Nat).length = 1 := rfl
    have g1 : (D ++ [t] ++ [nxN T F ri t]).getD k 0 = (D ++ [t]).getD k 0 := getD_snoc_l (by rw [hlen]; omega)
    rw [g1]
    by_cases e : k = D.length
    · have g2 : (D ++ [t] ++ [nxN T F ri t]).getD (k + 1) 0 = nxN T F ri t := by rw [show k + 1 = (D ++ [t]).length by omega]; exact getD_snoc_r
      rw [g2, e, hlt]
      exact ⟨h2, x3, rfl⟩
    · have g2 : (D ++ [t] ++ [nxN T F ri t]).getD (k + 1) 0 = (D ++ [t]).getD (k + 1) 0 := getD_snoc_l (by rw [hlen]; omega)
      rw [g2]
      exact hD.2.1 k (by rw [hlen]; omega)
  · rw [getD_snoc_l (by omega)]
    exact hD.2.2 (by omega)
  · obtain ⟨i, hi, e⟩ := List.mem_iff_getElem.mp hm
    rw [← getD_get hi] at e
    by_cases z : i = D.length
    · rw [z, hlt] at e
      rw [← e] at hE; omega
    · have := ch_lt h hD (show i < D.length by omega) (by omega)
      rw [e, hlt] at this
      omega
def eiD (T : Nat → gFr) (F : gF) (ri : Nat → List Nat) (D : List Nat) : Nat → gEi := D.foldl (fun g f => fun i => if sgI T ri f ≤ i ∧ i + 2 ≤ sgI T ri f + sgW T F ri f then sgN T ri f i else g i) (fun _ => (0, 0, 0, 0, 0))
def enD (T : Nat → gFr) (F : gF) (ri : Nat → List Nat) (D : List Nat) : Nat → Nat := D.foldl (fun g f => fun i => if sgI T ri f ≤ i ∧ i + 2 ≤ sgI T ri f + sgW T F ri f then (ri f).getD (i + 1 - sgI T ri f) 0 else g i) (fun _ => 0)
theorem eiD_snoc {T : Nat → gFr} {F : gF} {ri : Nat → List Nat} {D : List Nat} {f i : Nat} : eiD T F ri (D ++ [f]) i = if sgI T ri f ≤ i ∧ i + 2 ≤ sgI T ri f + sgW T F ri f then sgN T ri f i else eiD T F ri D i := by
  unfold eiD; rw [List.foldl_append]; rfl
theorem enD_snoc {T : Nat → gFr} {F : gF} {ri : Nat → List Nat} {D : List Nat} {f i : Nat} : enD T F ri (D ++ [f]) i = if sgI T ri f ≤ i ∧ i + 2 ≤ sgI T ri f + sgW T F ri f then (ri f).getD (i + 1 - sgI T ri f) 0 else enD T F ri D i := by
  unfold enD; rw [List.foldl_append]; rfl
/-- the entries that are known: from the first segment's first to the last one's last -/
def evD (bs : Nat) (T : Nat → gFr) (F : gF) (ri : Nat → List Nat) (D : List Nat) (t : Nat) (S : gS) : Prop := ∀ i, bs ≤ i → sgI T ri ((D ++ [t]).getD 0 0) ≤ i → i ≤ sgE T F ri t → cE1 (eiD T F ri (D ++ [t]) i) i S
theorem c_segmentBehind {Ln : gI → Nat} {M n bs : Nat} {F : gF} {T : Nat → gFr} {ri : Nat → List Nat} {S : gS} {D : List Nat} {e : Nat} {v tm : Int32} {Q : Int32 → gS → Prop} (hL : aL Ln M) (h : wL n bs F T ri) (hd : dk M (ctF T F ri D) S) (hv : v = nI e) (he : e < 2 ^ 30)
    (h1 : ∀ f, srN (nxP T F ri e tm) 4 12 = f → f < 16 → Q (nI f) S) (h0 : srN (nxP T F ri e tm) 4 12 = 16 → Q (-1 : Int32) S) : wp_LogDisk_segmentBehind Ln Q (0, 0) v tm S := by
  subst hv
  unfold wp_LogDisk_segmentBehind
  have key := pk_loop (fun fu k S' => wp_LogDisk_segmentBehind_2 Ln Q fu (0, 0) (nI e) tm (nI (4 + k)) S') (fun k S' => S' = S ∧ k ≤ 12 ∧ srN (nxP T F ri e tm) 4 12 = srN (nxP T F ri e tm) (4 + k) (12 - k)) 12 0 S (Nat.zero_le _) ⟨rfl, by omega, rfl⟩ ?_ ?_
  · exact key
  · rintro m _ ⟨rfl, -, hs⟩
    unfold wp_LogDisk_segmentBehind_2
    exact br_t (by decide) (h0 (by rw [hs]; rfl))
  · rintro m k S1 hk ⟨e1, -, hs⟩ ih
    rw [e1]
    have step : srN (nxP T F ri e tm) (4 + k) (12 - k) = if nxP T F ri e tm (4 + k) = true then 4 + k else srN (nxP T F ri e tm) (4 + k + 1) (12 - (k + 1)) := by
      rw [show 12 - k = (12 - (k + 1)) + 1 by omega]; rfl
    have next : ¬ (0 < sgW T F ri (4 + k) ∧ sgI T ri (4 + k) = e + 1 ∧ sgB T ri (4 + k) = tm) → wp_LogDisk_segmentBehind_38 Ln (fun z0 z1 z2 z3 zS => wp_LogDisk_segmentBehind_2 Ln Q m z0 z1 z2 z3 zS) Q (0, 0) (nI e) tm (nI (4 + k)) S := by
      intro hno
      unfold wp_LogDisk_segmentBehind_38
      rintro _ rfl
      rw [nI_1, show 4 + k + 1 = 4 + (k + 1) by omega]
      refine ih S ⟨rfl, by omega, ?_⟩
      rw [hs, step, if_neg]
      · rw [show 4 + k + 1 = 4 + (k + 1) by omega]
      · intro z; exact hno (of_decide_eq_true z)
    unfold wp_LogDisk_segmentBehind_2
    refine br_f (nI_ge (b := 16) (show 4 + k < 16 by omega) (by omega)) ?_
    rw [show grf (0, 0) 1 = (10, 0) from rfl, hL.2.2.1, nI_clamp (by omega), show grf (10, 0) (4 + k) = (1, 4 + k) from rfl, nI_1]
    refine ⟨vp_in_nI (by omega) (by omega), c_segFirst hL h hd (by omega) (by omega) (fun hw => ?_) (fun hw => ?_)⟩
    · have hf6 := (sg_facts h (show 4 ≤ 4 + k by omega) (by omega) hw).2.2.2.2.2
      refine (pk_eq (sgI T ri (4 + k)) (e + 1) (fun hi => ⟨vp_in_nI (by omega) (by omega), c_termB hL h hd (by omega) (by omega) hw ⟨fun hne => next (fun z => hne z.2.2), fun heq => ?_⟩⟩) (fun hi => next (fun z => hi z.2.1)) rfl rfl (by omega) (by omega)) |> fun h => ⟨h.2, h.1⟩
      refine h1 (4 + k) ?_ (by omega)
      rw [hs, step, if_pos]
      exact decide_eq_true ⟨hw, hi, heq⟩
    · refine cr_f (fun z => ?_) (next (fun z => by omega))
      have : (-1 : Int32).toInt = (nI (e + 1)).toInt := by rw [z]
      rw [nI_toInt (by omega)] at this
      have : (-1 : Int32).toInt = -1 := by decide
      omega
theorem c_follow {Ln : gI → Nat} {M n t0 : Nat} {F : gF} {T : Nat → gFr} {ri : Nat → List Nat} {sf bt cd fc : Int32} {bs di : Nat} {S0 : gS} {Q : gS → Prop} (hL : aL Ln M) (h : wL n bs F T ri)
    (hq : ∀ S' D t, chO bs t0 T F ri (D ++ [t]) → (2 ≤ sgW T F ri t → nxN T F ri t = 16) → S'.2 = S0.2 → (∀ i : gI, i.1 = 0 ∨ 10 ≤ i.1 → ¬ (18 ≤ i.1 ∧ i.1 ≤ 26) → i.1 ≠ 0 → S'.1 i = S0.1 i) → dk M (ctF T F ri (D ++ [t])) S' → cS sf bs bt cd S' → cM fc (sgE T F ri t) di S' → cG (D ++ [t]) (sgI T ri) S' → evD bs T F ri D t S' → Q S') :
    ∀ m D t S, D.length + m = 12 → chO bs t0 T F ri (D ++ [t]) → S.2 = S0.2 → (∀ i : gI, i.1 = 0 ∨ 10 ≤ i.1 → ¬ (18 ≤ i.1 ∧ i.1 ≤ 26) → i.1 ≠ 0 → S.1 i = S0.1 i) → dk M (ctF T F ri (D ++ [t])) S → cS sf bs bt cd S → (∃ la, cM fc la di S) → cG D (sgI T ri) S → evD bs T F ri D t S → wp_LogDisk_followSegments_8 Ln Q (m + 1) (0, 0) (nI t) (nI (sgE T F ri t)) (nI D.length) S
  | 0, D, t, S, hm, hC, _, _, _, _, _, _, _ => by
    exfalso
    have hlen : (D ++ [t]).length = D.length + 1 := by rw [List.length_append]; rfl
    have := od_lt (od := D) (f := t) (fun k hk => by have := hC.1 k (by omega); rw [getD_snoc_l hk] at this; exact ⟨this.1, this.2.1⟩) (fun k q hkq hq => by have := ch_ne h hC hkq (by omega); rw [getD_snoc_l (by omega), getD_snoc_l hq] at this; exact this) (by have := hC.1 D.length (by omega); rw [getD_snoc_r] at this; exact ⟨this.1, this.2.1⟩) (fun k hk => by have := ch_ne h hC hk (by omega); rw [getD_snoc_l hk, getD_snoc_r] at this; exact this)
    omega
  | m + 1, D, t, S, hm, hC, h2, ho, hd, hS, ⟨la, hM⟩, hG, hE => by
    have hlen : (D ++ [t]).length = D.length + 1 := by rw [List.length_append]; rfl
    have hbs := h.2.2.2.2
    obtain ⟨t1, t2, t3⟩ := hC.1 D.length (by omega)
    rw [getD_snoc_r] at t1 t2 t3
    obtain ⟨f1, f2, f3, f4, f5, f6⟩ := sg_facts h t1 t2 t3
    have hne : ∀ k, k < D.length → D.getD k 0 ≠ t := fun k hk => by have := ch_ne h hC hk (by omega); rw [getD_snoc_l hk, getD_snoc_r] at this; exact this
    have hEb : sgE T F ri t < 2 ^ 29 := by unfold sgE; omega
    unfold wp_LogDisk_followSegments_8
    refine br_f (nI_ge (b := 12) (show D.length < 12 by omega) (by omega)) ?_
    rw [show grf (0, 0) 1 = (10, 0) from rfl, hL.2.2.1, nI_clamp (by omega), show grf (10, 0) t = (1, t) from rfl]
    refine ⟨vp_in_nI (by omega) (by omega), c_segFirst hL h hd t1 t2 (fun _ => ?_) (fun z => by omega)⟩
    rw [show grf (0, 0) 7 = (18, 0) from rfl]
    refine c_segAdd hL hG (by omega) hne rfl rfl ?_
    intro S1 o1 o12 g1
    have hg1 : cG (D ++ [t]) (sgI T ri) S1 := by
      have : va_up (sgI T ri) t (sgI T ri t) = sgI T ri := va_up_id _ _
      rw [this] at g1; exact g1
    rintro _ rfl
    have o2 : ∀ i : gI, i.1 ≠ 0 → i.1 ≠ 18 → i.1 ≠ 19 → i.1 ≠ 20 → (gset S1 (0, 0) 10 (nI (sgE T F ri t))).1 i = S.1 i := fun i h0 a b c => by rw [gset_o (by rintro rfl; simp at h0)]; exact o1 i a b c
    have hS2 : cS sf bs bt cd (gset S1 (0, 0) 10 (nI (sgE T F ri t))) := hS.of (o2 _ (by simp) (by simp) (by simp) (by simp))
    have hM2 : cM fc (sgE T F ri t) di (gset S1 (0, 0) 10 (nI (sgE T F ri t))) := by
      have := hM.of (S' := S1) (o1 _ (by simp) (by simp) (by simp))
      refine ⟨?_, ?_, ?_⟩
      · rw [gset_n (Or.inr (by omega))]; exact this.1
      · rw [gset_s]
      · rw [gset_n (Or.inr (by omega))]; exact this.2.2
    have hG2 : cG (D ++ [t]) (sgI T ri) (gset S1 (0, 0) 10 (nI (sgE T F ri t))) := hg1.of (gset_o (by simp)) (gset_o (by simp)) (gset_o (by simp))
    have hd2 : dk M (ctF T F ri (D ++ [t])) (gset S1 (0, 0) 10 (nI (sgE T F ri t))) := dk_of (fun i a b => o2 i (by omega) (by omega) (by omega) (by omega)) hd
    have hE2 : evD bs T F ri D t (gset S1 (0, 0) 10 (nI (sgE T F ri t))) := by
      intro i a b c
      have := hE i a b c
      unfold cE1 at this ⊢
      rw [o2 (22, 0) (by simp) (by simp) (by simp) (by simp), o2 (23, 0) (by simp) (by simp) (by simp) (by simp), o2 (24, 0) (by simp) (by simp) (by simp) (by simp), o2 (25, 0) (by simp) (by simp) (by simp) (by simp), o2 (26, 0) (by simp) (by simp) (by simp) (by simp)]
      exact this
    have hf2 : ∀ i : gI, i.1 = 0 ∨ 10 ≤ i.1 → ¬ (18 ≤ i.1 ∧ i.1 ≤ 26) → i.1 ≠ 0 → (gset S1 (0, 0) 10 (nI (sgE T F ri t))).1 i = S0.1 i := fun i a b c => (o2 i c (by omega) (by omega) (by omega)).trans (ho i a b c)
    refine pk_le (sgI T ri t) (sgE T F ri t) (fun hle => ?_) (fun hgt => hq _ D t hC (fun z => ?_) (o12.trans h2) hf2 hd2 hS2 hM2 hG2 hE2) rfl rfl (by omega) (by omega)
    · have hw2 : 2 ≤ sgW T F ri t := by unfold sgE at hle; omega
      have hbe := ch_b h hC (show D.length < (D ++ [t]).length by omega)
      rw [getD_snoc_r] at hbe
      have hfirst : sgI T ri ((D ++ [t]).getD 0 0) ≤ sgE T F ri t := by
        rcases Nat.eq_zero_or_pos D.length with z | z
        · have : D = [] := List.eq_nil_of_length_eq_zero z
          subst this
          exact hle
        · have := ch_lt h hC z (show D.length < (D ++ [t]).length by omega)
          rw [show (D ++ [t]).getD D.length 0 = t from getD_snoc_r] at this
          omega
      have hev := hE2 (sgE T F ri t) hbe hfirst (Nat.le_refl _)
      refine c_slot rfl (by omega) ?_
      rw [show grf (0, 0) 8 = (21, 0) from rfl, show grf (21, 0) 2 = (24, 0) from rfl, hL.2.2.2.2.2.2.2.2.2 24 (by omega) (by omega), nI_clamp (by omega), hev.2.2.1]
      refine ⟨vp_in_nI (by omega) (by omega), ?_⟩
      have htm : (eiD T F ri (D ++ [t]) (sgE T F ri t)).2.2.1 = sgT T F ri t := by
        rw [eiD_snoc, if_pos (by unfold sgE at *; omega)]
        show (T ((ri t).getD (sgE T F ri t + 1 - sgI T ri t) 0)).b = _
        unfold sgT sgE
        rw [show sgI T ri t + sgW T F ri t - 2 + 1 - sgI T ri t = sgW T F ri t - 1 by omega]
      rw [htm]
      refine c_segmentBehind hL h hd2 rfl (by omega) (fun u hu hu16 => ?_) (fun h16 => ?_)
      · have hun : nxN T F ri t = u := hu
        have hx : nxN T F ri t < 16 := by omega
        obtain ⟨hC2, hnew⟩ := ch_new h hC hw2 hx
        obtain ⟨x1, x2, x3, x4⟩ := nx_ok hx
        rw [hun] at hC2 hnew x1 x2 x3 x4
        refine cr_f (fun z => ?_) ?_
        · have : (nI u).toInt = (-1 : Int32).toInt := by rw [z]
          rw [nI_toInt (by omega)] at this
          have : (-1 : Int32).toInt = -1 := by decide
          omega
        refine c_read hL h hd2 hS2 x1 hu16 hnew x2 rfl ?_
        intro S3 hx3 hd3 hE3 hO3
        rintro _ rfl
        rw [nI_1, ← hlen]
        have := c_follow hL h hq m (D ++ [t]) u S3 (by rw [hlen]; omega) hC2 (hx3.1.trans (o12.trans h2)) (fun i a b c => (hx3.2 i a (by omega)).trans (hf2 i a b c)) hd3 (hS2.of (hx3.2 _ (by simp) (by simp))) ⟨_, hM2.of (hx3.2 _ (by simp) (by simp))⟩ (hG2.of (hx3.2 _ (by simp) (by simp)) (hx3.2 _ (by simp) (by simp)) (hx3.2 _ (by simp) (by simp))) ?_
        · exact this
        · intro i a b c
          rw [getD_snoc_l (by omega)] at b
          rw [eiD_snoc]
          obtain ⟨u1, u2, u3, u4, u5, u6⟩ := sg_facts h x1 hu16 x2
          by_cases e : sgI T ri u ≤ i
          · have hi2 : i + 2 ≤ sgI T ri u + sgW T F ri u := by unfold sgE at c; omega
            rw [if_pos ⟨e, hi2⟩]
            exact hE3 i a e c hi2
          · rw [if_neg (by omega)]
            refine hO3 i a (by omega) (by omega) _ (hE2 i a b (by omega))
      · refine cr_t rfl (hq _ D t hC (fun _ => h16) (o12.trans h2) hf2 hd2 hS2 hM2 hG2 hE2)
    · unfold sgE at hgt; omega

theorem ch_uniq {n bs t0 : Nat} {F : gF} {T : Nat → gFr} {ri : Nat → List Nat} {D E : List Nat} (hD : chO bs t0 T F ri D) (hE : chO bs t0 T F ri E) (d0 : 0 < D.length) (e0 : 0 < E.length) (dT : 2 ≤ sgW T F ri (D.getD (D.length - 1) 0) → nxN T F ri (D.getD (D.length - 1) 0) = 16) (eT : 2 ≤ sgW T F ri (E.getD (E.length - 1) 0) → nxN T F ri (E.getD (E.length - 1) 0) = 16) : D = E := by
  have eqk : ∀ k, k < D.length → k < E.length → D.getD k 0 = E.getD k 0 := by
    intro k
    induction k with
    | zero => intro _ _; rw [(hD.2.2 d0).2.2, (hE.2.2 e0).2.2]
    | succ k ih =>
      intro h1 h2
      rw [(hD.2.1 k h1).2.2, (hE.2.1 k h2).2.2, ih (by omega) (by omega)]
  have hlen : D.length = E.length := by
    rcases Nat.lt_trichotomy D.length E.length with z | z | z
    · exfalso
      have e := eqk (D.length - 1) (by omega) (by omega)
      obtain ⟨a, b, c⟩ := hE.2.1 (D.length - 1) (by omega)
      rw [← e] at a c
      have := dT a
      have := (hE.1 (D.length - 1 + 1) (by omega)).2.1
      omega
    · exact z
    · exfalso
      have e := eqk (E.length - 1) (by omega) (by omega)
      obtain ⟨a, b, c⟩ := hD.2.1 (E.length - 1) (by omega)
      rw [e] at a c
      have := eT a
      have := (hD.1 (E.length - 1 + 1) (by omega)).2.1
      omega
  refine List.ext_getElem hlen (fun k h1 h2 => ?_)
  have := eqk k h1 h2
  rw [getD_get h1, getD_get h2] at this
  exact this
