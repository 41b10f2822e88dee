/-- files that were cut or removed from behind: 'L t' frames of segment t stay, for t < m -/
theorem wf_back {n : Nat} {F F2 : gF} {bs la i m : Nat} {L : Nat → Nat} {T : Nat → gFr} {ri ri2 : Nat → List Nat} {od : List Nat} {fo : Nat → Nat} {en : Nat → Nat} {ei : Nat → gEi} {sf bt cd fc : Int32}
    (h3 : wR n bs F T ri) (h4 : wS sf bs bt cd fc F T ri) (h5 : wO bs la F T ri od fo) (h6 : wE bs la T ri od fo en ei) (hm : m ≤ od.length) (hib : bs < i) (hil : i ≤ la)
    (ha : ∀ c, c < 4 ∨ 16 ≤ c → F2.1 c = F.1 c ∧ F2.2.1 c = F.2.1 c ∧ F2.2.2.1 c = F.2.2.1 c ∧ ri2 c = ri c)
    (hb : ∀ t, m ≤ t → t < od.length → F2.1 (od.getD t 0) = [] ∧ F2.2.1 (od.getD t 0) = 0 ∧ F2.2.2.1 (od.getD t 0) = 0 ∧ ri2 (od.getD t 0) = [])
    (hcc : ∀ t, t < m → ri2 (od.getD t 0) = (ri (od.getD t 0)).take (L t) ∧ 1 ≤ L t ∧ L t ≤ (ri (od.getD t 0)).length ∧ F2.1 (od.getD t 0) = rfC T (ri2 (od.getD t 0)) ∧ F2.2.1 (od.getD t 0) = 1 ∧ F2.2.2.1 (od.getD t 0) ≤ F2.sz (od.getD t 0) ∧ (t + 1 < m → L t = (ri (od.getD t 0)).length))
    (hd : 0 < m → i = fo (od.getD (m - 1) 0) + (L (m - 1) - 1)) (hd0 : m = 0 → i = bs + 1)
    (he : ∀ f, 4 ≤ f → f < 16 → (∀ t, t < od.length → od.getD t 0 ≠ f) → F2.1 f = F.1 f ∧ F2.2.1 f = F.2.1 f ∧ F2.2.2.1 f = F.2.2.1 f ∧ ri2 f = ri f)
    (hf : ∀ q k, q < od.length → 1 ≤ k → k < (ri (od.getD q 0)).length → fo (od.getD q 0) + (k - 1) < i → q < m ∧ k < L q) :
    wR n bs F2 T ri2 ∧ wS sf bs bt cd fc F2 T ri2 ∧ wO bs (i - 1) F2 T ri2 (od.take m) fo ∧ wE bs (i - 1) T ri2 (od.take m) fo en ei := by
  have hl : (od.take m).length = m := by rw [List.length_take]; omega
  -- each row is a beginning of the old one
  have pre : ∀ c, c < 32 → ∃ p, ri2 c = (ri c).take p := by
    intro c hc
    by_cases e : c < 4 ∨ 16 ≤ c
    · exact ⟨(ri c).length, by rw [(ha c e).2.2.2, List.take_length]⟩
    · by_cases e2 : ∃ t, t < od.length ∧ od.getD t 0 = c
      · obtain ⟨t, ht, rfl⟩ := e2
        by_cases e3 : t < m
        · exact ⟨L t, (hcc t e3).1⟩
        · exact ⟨0, by rw [(hb t (by omega) ht).2.2.2, List.take_zero]⟩
      · have := (he c (by omega) (by omega) (fun t ht z => e2 ⟨t, ht, z⟩)).2.2.2
        exact ⟨(ri c).length, by rw [this, List.take_length]⟩
  have pat : ∀ c k, c < 32 → k < (ri2 c).length → k < (ri c).length ∧ (ri2 c).getD k 0 = (ri c).getD k 0 := by
    intro c k hc hk
    obtain ⟨p, hp⟩ := pre c hc
    rw [hp] at hk ⊢
    rw [List.length_take] at hk
    exact ⟨by omega, getD_take (by omega)⟩
  obtain ⟨a1, a2, a3, a4, a5⟩ := h3
  obtain ⟨b1, b2, b3, b4, b5, b6, b7, b8⟩ := h5
  refine ⟨⟨fun f hf' => ?_, fun c hc h2 => ?_, fun c hc hc4 => ?_, fun c d k q hc hd hk hq e => ?_, fun c k q hc hkq hq => ?_⟩, ⟨fun f h2 hf4 => ?_, ?_⟩, ⟨by omega, fun k hk => ?_, fun k q hkq hq => ?_, fun k hk => ?_, fun k hk => ?_, fun z => ?_, fun z => ?_, fun f hf4 hf' hne => ?_⟩, fun i' h1 h2 => ?_⟩
  · show F2.2.2.1 f ≤ (F2.1 f).length
    by_cases e : f < 4
    · rw [(ha f (Or.inl e)).1, (ha f (Or.inl e)).2.2.1]; exact a1 f hf'
    · by_cases e2 : ∃ t, t < od.length ∧ od.getD t 0 = f
      · obtain ⟨t, ht, rfl⟩ := e2
        by_cases e3 : t < m
        · exact (hcc t e3).2.2.2.2.2.1
        · rw [(hb t (by omega) ht).2.2.1]; exact Nat.zero_le _
      · have := he f (by omega) hf' (fun t ht z => e2 ⟨t, ht, z⟩)
        rw [this.1, this.2.2.1]; exact a1 f hf'
  · rw [(ha c (by omega)).2.2.2]; exact a2 c hc h2
  · obtain ⟨p, hp⟩ := pre c hc
    refine ⟨?_, fun hne => ?_⟩
    rotate_left
    · by_cases e : c < 4 ∨ 16 ≤ c
      · rw [(ha c e).2.2.2] at hne; rw [(ha c e).2.1]; exact (a3 c hc hc4).2 hne
      · by_cases e2 : ∃ t, t < od.length ∧ od.getD t 0 = c
        · obtain ⟨t, ht, rfl⟩ := e2
          by_cases e3 : t < m
          · exact (hcc t e3).2.2.2.2.1
          · exact absurd (hb t (by omega) ht).2.2.2 hne
        · have := he c (by omega) (by omega) (fun t ht z => e2 ⟨t, ht, z⟩)
          rw [this.2.2.2] at hne; rw [this.2.1]; exact (a3 c hc hc4).2 hne
    rw [hp]
    rcases (a3 c hc hc4).1 with e | ⟨fi, c1, c2, c3⟩
    · rw [e, List.take_nil]; exact Or.inl rfl
    · refine Or.inr ⟨fi, c1, ?_, fun k hk => ?_⟩
      · rw [List.length_take]; omega
      · rw [List.length_take] at hk
        rw [getD_take (by omega)]
        exact c3 k (by omega)
  · obtain ⟨k1, k2⟩ := pat c k hc hk
    obtain ⟨q1, q2⟩ := pat d q hd hq
    rw [k2, q2] at e
    exact a4 c d k q hc hd k1 q1 e
  · obtain ⟨q1, q2⟩ := pat c q hc hq
    obtain ⟨k1, k2⟩ := pat c k hc (by omega)
    rw [k2, q2]
    exact a5 c k q hc hkq q1
  · show ri2 (16 + f) = ri2 f ∧ F2.1 (16 + f) = F2.1 f ∧ F2.2.1 (16 + f) = F2.2.1 f ∧ F2.1 f = rfC T (ri2 f) ∧ F2.2.2.1 f = (F2.1 f).length
    obtain ⟨x1, x2, x3, x4⟩ := ha f (Or.inl hf4)
    obtain ⟨y1, y2, y3, y4⟩ := ha (16 + f) (Or.inr (by omega))
    rw [x1, x2, x3, x4, y1, y2, y4]
    exact h4.1 f h2 hf4
  · rw [(ha 2 (by omega)).2.2.2, (ha 3 (by omega)).2.2.2]
    rcases h4.2 with b | ⟨s, o, j, c1, c2⟩
    · exact Or.inl b
    · refine Or.inr ⟨s, o, j, c1, ?_⟩
      rw [(ha s (by omega)).2.2.2, (ha o (by omega)).2.2.2]
      exact c2
  · rw [hl] at hk
    rw [getD_take hk]; exact b2 k (by omega)
  · rw [hl] at hq
    rw [getD_take (by omega), getD_take (by omega)]; exact b3 k q hkq (by omega)
  · rw [hl] at hk
    rw [getD_take hk]
    obtain ⟨c1, c2, c3, c4, c5, c6, c7⟩ := hcc k hk
    obtain ⟨d1, d2, d3, d4, d5, d6⟩ := b4 k (by omega)
    have hlen : (ri2 (od.getD k 0)).length = L k := by rw [c1, List.length_take]; omega
    refine ⟨by omega, c4, ?_, d4, by omega, c5⟩
    rw [(pat _ 0 (by have := b2 k (by omega); omega) (by omega)).2]
    exact d3
  · rw [hl] at hk
    rw [getD_take hk, getD_take (by omega)]
    obtain ⟨c1, c2, c3, c4, c5, c6, c7⟩ := hcc k (by omega)
    rw [c1, c7 hk, List.take_length]
    exact b5 k (by omega)
  · rw [hl] at z
    have := hd0 z
    omega
  · rw [hl] at z ⊢
    have hd' := hd z
    obtain ⟨c1, c2, c3, c4, c5, c6, c7⟩ := hcc (m - 1) (by omega)
    rw [getD_take z, getD_take (by omega), c1, List.length_take, Nat.min_eq_left c3]
    exact ⟨(b7 (by omega)).1, by omega⟩
  · by_cases e2 : ∃ t, t < od.length ∧ od.getD t 0 = f
    · obtain ⟨t, ht, rfl⟩ := e2
      by_cases e3 : t < m
      · exact absurd (getD_take e3) (hne t (by rw [hl]; exact e3))
      · exact ⟨(hb t (by omega) ht).2.1, (hb t (by omega) ht).2.2.2⟩
    · obtain ⟨x1, x2, x3, x4⟩ := he f hf4 hf' (fun t ht z => e2 ⟨t, ht, z⟩)
      rw [x4, show F2.th f = F.th f from x2]
      exact b8 f hf4 hf' (fun t ht z => e2 ⟨t, ht, z⟩)
  · obtain ⟨q, k, c1, c2, c3, c4, c5, c6⟩ := h6 i' h1 (by omega)
    obtain ⟨d1, d2⟩ := hf q k c1 c2 c3 (by omega)
    have r1 := (hcc q d1).1
    refine ⟨q, k, by rw [hl]; exact d1, c2, ?_⟩
    rw [getD_take d1, r1, List.length_take, getD_take d2, List.take_take, Nat.min_eq_left (show k ≤ L q by omega)]
    exact ⟨by omega, c4, c5, c6⟩
theorem fo_mono {bs la : Nat} {F : gF} {T : Nat → gFr} {ri : Nat → List Nat} {od : List Nat} {fo : Nat → Nat} (h5 : wO bs la F T ri od fo) : ∀ d t, t + d < od.length → fo (od.getD t 0) ≤ fo (od.getD (t + d) 0)
  | 0, t, _ => Nat.le_refl _
  | d + 1, t, h => by
    have h1 := fo_mono h5 d t (by omega)
    have h2 := h5.2.2.2.2.1 (t + d) (by omega)
    rw [show t + (d + 1) = t + d + 1 by omega, h2]
    omega
