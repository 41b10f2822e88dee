theorem rfP.cut {T : Nat → gFr} {l bs : List Nat} (h : rfP T l bs) {n : Nat} (hn : n ≤ bs.length) : rfP T (l.take (cutM T l n)) (bs.take n) := by
  obtain ⟨a1, a2, a3⟩ := cutM_ok T l n
  have hlen : (bs.take n).length = n := by rw [List.length_take]; exact Nat.min_eq_left hn
  refine ⟨List.prefix_of_prefix_length_le ((List.take_prefix _ _).trans h.1) (rfC_pre T _ _) ?_, fun j hj => ?_⟩
  · rw [hlen]
    rcases a2 with e | e
    · rw [e, List.take_length]
      exact Nat.le_trans hn h.1.length_le
    · exact e
  · rw [List.length_take] at hj
    rw [hlen, List.take_take, Nat.min_eq_left (by omega)]
    exact a3 j (by omega)
/-- after the files crashed -/
theorem wf_crash {n bs nf us : Nat} {F : gF} {T : Nat → gFr} {ri : Nat → List Nat} {kp : Nat → Int32} {r : Int64} {sf bt cd fc : Int32} {S : gS} (hD : rfD T nf us ri F S) (h3 : wR n bs F T ri) (h4 : wS sf bs bt cd fc F T ri) :
    wR n bs (crF F kp r 16) T (crR T F ri kp r 16) ∧ wS sf bs bt cd fc (crF F kp r 16) T (crR T F ri kp r 16) ∧ rlt nf (crR T F ri kp r 16) ∧ (∀ c, c < 32 → rfP T (crR T F ri kp r 16 c) ((crF F kp r 16).1 c)) ∧ (∀ f, f < 16 → (crF F kp r 16).lo f = (crF F kp r 16).sz f ∧ (crF F kp r 16).th f ≤ 1) := by
  have hP := hD.2.2.2
  have hl := hD.lt
  obtain ⟨a1, a2, a3, a4, a5⟩ := h3
  have ev : ∀ c, c < 32 → (crF F kp r 16).1 c = flC F (c % 16) (kkN kp r F (c % 16)) ∧ (crF F kp r 16).2.1 c = flT F (c % 16) (kkN kp r F (c % 16)) ∧ crR T F ri kp r 16 c = flL T F ri (c % 16) (kkN kp r F (c % 16)) := by
    intro c hc
    obtain ⟨x1, x2, x3, x4, x5, x6, x7⟩ := cr_in (T := T) (F := F) (ri := ri) (kp := kp) (r := r) (show c % 16 < 16 by omega) 16 (by omega) (by omega)
    by_cases e : c < 16
    · rw [Nat.mod_eq_of_lt e] at *; exact ⟨x1, x3, x6⟩
    · have e2 : 16 + c % 16 = c := by omega
      rw [e2] at x2 x4 x7
      exact ⟨x2, x4, x7⟩
  -- a row is a beginning of an old one of the file
  have pre : ∀ f k, f < 16 → ∃ c p, c < 32 ∧ c % 16 = f ∧ flL T F ri f k = (ri c).take p := by
    intro f k hf
    unfold flL
    split
    · exact ⟨16 + f, (ri (16 + f)).length, by omega, by omega, by rw [List.take_length]⟩
    · split
      · exact ⟨f, _, by omega, by omega, rfl⟩
      · exact ⟨f, (ri f).length, by omega, by omega, by rw [List.take_length]⟩
  have row : ∀ c, c < 32 → ∃ d p, d < 32 ∧ d % 16 = c % 16 ∧ crR T F ri kp r 16 c = (ri d).take p := by
    intro c hc
    rw [(ev c hc).2.2]
    exact pre _ _ (by omega)
  have pat : ∀ d p k, k < ((ri d).take p).length → k < (ri d).length ∧ ((ri d).take p).getD k 0 = (ri d).getD k 0 := by
    intro d p k hk
    rw [List.length_take] at hk
    exact ⟨by omega, getD_take (by omega)⟩
  have rP : ∀ f k, f < 16 → rfP T (flL T F ri f k) (flC F f k) := by
    intro f k hf
    unfold flL flC
    split
    · exact hP (16 + f) (by omega)
    · split
      · rename_i h
        exact (hP f (by omega)).cut (Nat.le_of_lt h)
      · exact hP f (by omega)
  have snap : ∀ f, 2 ≤ f → f < 4 → ∀ k, flC F f k = F.1 f ∧ flT F f k = F.th f ∧ flL T F ri f k = ri f := by
    intro f h2 hf4 k
    obtain ⟨b1, b2, b3, b4, b5⟩ := h4.1 f h2 hf4
    unfold flC flT flL
    split
    · exact ⟨b2, b3, b1⟩
    · rw [if_neg (by omega), if_neg (by omega)]
      exact ⟨rfl, rfl, rfl⟩
  have evs : ∀ f, 2 ≤ f → f < 4 → (crF F kp r 16).1 f = F.1 f ∧ (crF F kp r 16).2.1 f = F.2.1 f ∧ crR T F ri kp r 16 f = ri f ∧ (crF F kp r 16).1 (16 + f) = F.1 f ∧ (crF F kp r 16).2.1 (16 + f) = F.2.1 f ∧ crR T F ri kp r 16 (16 + f) = ri f := by
    intro f h2 hf4
    obtain ⟨x1, x2, x3⟩ := ev f (by omega)
    obtain ⟨y1, y2, y3⟩ := ev (16 + f) (by omega)
    rw [Nat.mod_eq_of_lt (by omega)] at x1 x2 x3
    rw [show (16 + f) % 16 = f by omega] at y1 y2 y3
    obtain ⟨z1, z2, z3⟩ := snap f h2 hf4 (kkN kp r F f)
    exact ⟨x1.trans z1, x2.trans z2, x3.trans z3, y1.trans z1, y2.trans z2, y3.trans z3⟩
  have lo : ∀ f, f < 16 → (crF F kp r 16).lo f = (crF F kp r 16).sz f := by
    intro f hf
    obtain ⟨x1, x2, x3, x4, x5, x6, x7⟩ := cr_in (T := T) (F := F) (ri := ri) (kp := kp) (r := r) hf 16 (by omega) (by omega)
    show (crF F kp r 16).2.2.1 f = ((crF F kp r 16).1 f).length
    rw [x5, x1]
  refine ⟨⟨fun f hf => Nat.le_of_eq (lo f hf), fun c hc h2 => ?_, fun c hc hc4 => ?_, fun c d k q hc hd hk hq e => ?_, fun c k q hc hkq hq => ?_⟩, ⟨fun f h2 hf4 => ?_, ?_⟩, fun c hc k hk => ?_, fun c hc => ?_, fun f hf => ⟨lo f hf, ?_⟩⟩
  · obtain ⟨d, p, d1, d2, d3⟩ := row c hc
    rw [d3]
    rcases a2 d d1 (by omega) with e | ⟨j, t, e1, e2⟩
    · rw [e, List.take_nil]; exact Or.inl rfl
    · rw [e1]
      rcases Nat.eq_zero_or_pos p with z | z
      · rw [z, List.take_zero]; exact Or.inl rfl
      · rw [List.take_of_length_le (by show 1 ≤ p; omega)]
        exact Or.inr ⟨j, t, rfl, e2⟩
  · refine ⟨?_, fun hne => ?_⟩
    rotate_left
    · obtain ⟨x1, x2, x3⟩ := ev c hc
      rw [x2]
      rw [x3] at hne
      unfold flL at hne
      unfold flT
      split at hne
      · rename_i h0
        rw [if_pos h0]; exact (a3 (16 + c % 16) (by omega) (by omega)).2 hne
      · rename_i h0
        rw [if_neg h0]
        refine (a3 (c % 16) (by omega) (by omega)).2 (fun z => ?_)
        split at hne
        · rw [z, List.take_nil] at hne; exact hne rfl
        · exact hne z
    obtain ⟨d, p, d1, d2, d3⟩ := row c hc
    rw [d3]
    rcases (a3 d d1 (by omega)).1 with e | ⟨fi, c1, c2, c3⟩
    · rw [e, List.take_nil]; exact Or.inl rfl
    · refine Or.inr ⟨fi, c1, by rw [List.length_take]; omega, fun k hk => ?_⟩
      obtain ⟨k1, k2⟩ := pat d p k hk
      rw [k2]; exact c3 k k1
  · obtain ⟨c', p, d1, d2, d3⟩ := row c hc
    obtain ⟨d', p', g1, g2, g3⟩ := row d hd
    rw [d3] at hk e
    rw [g3] at hq e
    obtain ⟨k1, k2⟩ := pat c' p k hk
    obtain ⟨q1, q2⟩ := pat d' p' q hq
    rw [k2, q2] at e
    have := a4 c' d' k q d1 g1 k1 q1 e
    omega
  · obtain ⟨d, p, d1, d2, d3⟩ := row c hc
    rw [d3] at hq ⊢
    obtain ⟨q1, q2⟩ := pat d p q hq
    obtain ⟨k1, k2⟩ := pat d p k (by omega)
    rw [k2, q2]
    exact a5 d k q d1 hkq q1
  · obtain ⟨x1, x2, x3, x4, x5, x6⟩ := evs f h2 hf4
    show crR T F ri kp r 16 (16 + f) = crR T F ri kp r 16 f ∧ (crF F kp r 16).1 (16 + f) = (crF F kp r 16).1 f ∧ (crF F kp r 16).2.1 (16 + f) = (crF F kp r 16).2.1 f ∧ (crF F kp r 16).1 f = rfC T (crR T F ri kp r 16 f) ∧ _
    rw [x1, x2, x3, x4, x5, x6]
    exact ⟨rfl, rfl, rfl, (h4.1 f h2 hf4).2.2.2.1, lo f (by omega)⟩
  · rw [(evs 2 (by omega) (by omega)).2.2.1, (evs 3 (by omega) (by omega)).2.2.1]
    rcases h4.2 with b | ⟨s, o, j, c1, c2⟩
    · exact Or.inl b
    · refine Or.inr ⟨s, o, j, c1, ?_⟩
      rw [(evs s (by omega) (by omega)).2.2.1, (evs o (by omega) (by omega)).2.2.1]
      exact c2
  · obtain ⟨d, p, d1, d2, d3⟩ := row c hc
    rw [d3] at hk ⊢
    obtain ⟨k1, k2⟩ := pat d p k hk
    rw [k2]; exact hl d d1 k k1
  · obtain ⟨x1, x2, x3⟩ := ev c hc
    rw [x1, x3]
    exact rP _ _ (by omega)
  · show (crF F kp r 16).2.1 f ≤ 1
    rw [(ev f (by omega)).2.1, Nat.mod_eq_of_lt hf]
    unfold flT
    split
    · exact (hD.2.2.1.1 (16 + f) (by omega)).2.1
    · exact (hD.2.2.1.1 f (by omega)).2.1
/-! the vote that is found -/
abbrev gVt : Type := Int32 × Int32 × Nat × Int32 × Nat
def vtS (T : Nat → gFr) (F : gF) (ri : Nat → List Nat) : Nat → gVt
  | 0 => (0, -1, 0, -1, 0)
  | f + 1 => if 0 < rfW T (ri f) (F.sz f) ∧ (vtS T F ri f).2.2.1 < ((T ((ri f).getD 0 0)).a).toNatClampNeg then ((T ((ri f).getD 0 0)).b, (T ((ri f).getD 0 0)).c, ((T ((ri f).getD 0 0)).a).toNatClampNeg, nI f, f) else vtS T F ri f
theorem c_findVote {Ln : gI → Nat} {M n bs nf us : Nat} {F : gF} {T : Nat → gFr} {ri : Nat → List Nat} {S S0 : gS} {Q : gS → Prop} (hL : aL Ln M) (hd : dk M F S) (hT : rfT T nf us S0) (hl : rlt nf ri) (h3 : wR n bs F T ri) (hP : ∀ c, c < 32 → rfP T (ri c) (F.1 c)) (hn : n ≤ 1000)
    (hq : ∀ S', (∀ i : gI, i.1 ≠ 16 → S'.1 i = S.1 i) → (∀ i : gI, i ≠ (16, 0) → S'.2 i = S.2 i) → cV (vtS T F ri 2).1 (vtS T F ri 2).2.1 (vtS T F ri 2).2.2.1 (vtS T F ri 2).2.2.2.1 0 S' → Q S') : wp_LogDisk_findVote Ln Q (0, 0) S := by
  have hnf := hT.1
  unfold wp_LogDisk_findVote wp_Vote_forget wp_Vote_set
  rw [show grf (0, 0) 5 = (16, 0) from rfl]
  rintro _ rfl _ rfl _ rfl _ rfl _ rfl
  generalize hS1 : gset (gset (gset (gsetL (gset S (16, 0) 3 (-1)) (16, 0) 2 0) (16, 0) 0 0) (16, 0) 1 (-1)) (16, 0) 4 0 = S1
  have o1 : ∀ i : gI, i.1 ≠ 16 → S1.1 i = S.1 i := by
    intro i hi
    have hne : i ≠ (16, 0) := by rintro rfl; simp at hi
    rw [← hS1, gset_o hne, gset_o hne, gset_o hne]
    show (gset S (16, 0) 3 (-1)).1 i = _
    rw [gset_o hne]
  have o12 : ∀ i : gI, i ≠ (16, 0) → S1.2 i = S.2 i := by
    intro i hi
    rw [← hS1]
    show (fun n => if i = (16, 0) ∧ n = 2 then _ else S.2 i n) = _
    funext n
    exact if_neg (fun z => hi z.1)
  have hV1 : cV 0 (-1) 0 (-1) 0 S1 := by
    rw [← hS1]
    refine ⟨?_, ?_, ?_, ?_, ?_⟩
    · rw [gset_n (Or.inr (by omega)), gset_n (Or.inr (by omega)), gset_s]
    · rw [gset_n (Or.inr (by omega)), gset_s]
    · exact gsetL_s (gset S (16, 0) 3 (-1)) (16, 0) 2 0
    · rw [gset_n (Or.inr (by omega)), gset_n (Or.inr (by omega)), gset_n (Or.inr (by omega))]
      exact gset_s S (16, 0) 3 (-1)
    · rw [gset_s]; rfl
  have tb : ∀ f, f ≤ 2 → (vtS T F ri f).2.2.1 ≤ n := by
    intro f
    induction f with
    | zero => intro _; exact Nat.zero_le _
    | succ f ih =>
      intro hf
      have ih' := ih (by omega)
      show (if _ then _ else vtS T F ri f).2.2.1 ≤ n
      split
      · rename_i h
        rcases h3.2.1 f (by omega) (by omega) with e | ⟨j, t, e1, e2, e3, e4, e5⟩
        · have := rfW_le (T := T) (l := ri f) (s := F.sz f)
          rw [e] at this
          have h0 : ([] : List Nat).length = 0 := rfl
          rw [e] at h
          omega
        · rw [e1]
          show ((T j).a).toNatClampNeg ≤ n
          rw [e3, nI_clamp (by omega)]; exact e5
      · exact ih'
  have key := pk_loop (fun fu f S' => wp_LogDisk_findVote_9 Ln Q fu (0, 0) (nI f) S') (fun f S' => f ≤ 2 ∧ (∀ i : gI, i.1 ≠ 16 → S'.1 i = S.1 i) ∧ (∀ i : gI, i ≠ (16, 0) → S'.2 i = S.2 i) ∧ cV (vtS T F ri f).1 (vtS T F ri f).2.1 (vtS T F ri f).2.2.1 (vtS T F ri f).2.2.2.1 0 S') 2 0 S1 (Nat.zero_le _) ⟨by omega, o1, o12, hV1⟩ ?_ ?_
  · exact key
  · rintro m S' ⟨-, h1, h2, hV⟩
    unfold wp_LogDisk_findVote_9
    exact br_t (by decide) (hq S' h1 h2 hV)
  · rintro m f S' hf ⟨-, h1, h2, hV⟩ ih
    have hd' : dk M F S' := dk_of (fun i a b => h1 i (by omega)) hd
    have hsz := (dk_sz hd' hL.1.2.1 (show f < 32 by omega)).2
    have hvt : vtS T F ri (f + 1) = if 0 < rfW T (ri f) (F.sz f) ∧ (vtS T F ri f).2.2.1 < ((T ((ri f).getD 0 0)).a).toNatClampNeg then ((T ((ri f).getD 0 0)).b, (T ((ri f).getD 0 0)).c, ((T ((ri f).getD 0 0)).a).toNatClampNeg, nI f, f) else vtS T F ri f := rfl
    have next : ∀ S2, (∀ i : gI, i.1 ≠ 16 → S2.1 i = S.1 i) → (∀ i : gI, i ≠ (16, 0) → S2.2 i = S.2 i) → cV (vtS T F ri (f + 1)).1 (vtS T F ri (f + 1)).2.1 (vtS T F ri (f + 1)).2.2.1 (vtS T F ri (f + 1)).2.2.2.1 0 S2 → wp_LogDisk_findVote_82 Ln (fun z0 z1 zS => wp_LogDisk_findVote_9 Ln Q m z0 z1 zS) Q (0, 0) (nI f) S2 := by
      intro S2 a b c
      unfold wp_LogDisk_findVote_82
      rintro _ rfl
      rw [nI_1]
      exact ih S2 ⟨by omega, a, b, c⟩
    unfold wp_LogDisk_findVote_9
    refine br_f (nI_ge (b := 2) hf (by omega)) ?_
    rw [show grf (0, 0) 1 = (10, 0) from rfl, hL.2.2.1, nI_clamp (by omega), show grf (10, 0) f = (1, f) from rfl]
    refine ⟨vp_in_nI (by omega) (by omega), ?_⟩
    have hPf := hP f (by omega)
    have hz0 : (0 : Int32) = nI (rfC T ((ri f).take 0)).length := by rw [List.take_zero, rfC_nil]; rfl
    rcases h3.2.1 f (by omega) (by omega) with e | ⟨j, t, e1, e2, e3, e4, e5⟩
    · have w0 : rfW T (ri f) (F.sz f) = 0 := by have := rfW_le (T := T) (l := ri f) (s := F.sz f); rw [e] at this ⊢; have h0 : ([] : List Nat).length = 0 := rfl; omega
      refine c_unwhole hL.1 hd' (by omega) hPf (fun k hk => ?_) (fun k hk => ?_) (by rw [w0]; exact hz0) (cr_f (by decide) (next S' h1 h2 ?_) |> fun h => ⟨h.2, h.1⟩)
      · rw [e] at hk; exact absurd hk (Nat.not_lt_zero _)
      · rw [e] at hk; exact absurd hk (Nat.not_lt_zero _)
      · rw [hvt, if_neg (by omega)]; exact hV
    · have hlen : (ri f).length = 1 := by rw [e1]; rfl
      have ej : (ri f).getD 0 0 = j := by rw [e1]; rfl
      have hjn : j < nf := one_lt hl (show f < 32 by omega) e1
      have hp24 : (frP (T j)).length = 24 := by rw [frP_len, if_pos e2]
      have hE32 : (frE (T j)).length = 32 := by rw [frE_len, hp24, if_neg (by omega)]
      have hlk : ∀ k, k < (ri f).length → (frP (T ((ri f).getD k 0))).length < 2 ^ 20 := by
        intro k hk
        have hk0 : k = 0 := by omega
        subst hk0
        rw [ej, hp24]; omega
      have hsk : ∀ k, k < (ri f).length → (T ((ri f).getD k 0)).so ≠ 1 := by
        intro k hk
        have hk0 : k = 0 := by omega
        subst hk0
        rw [ej]; omega
      rcases Nat.eq_zero_or_pos (rfW T (ri f) (F.sz f)) with w0 | w1
      · refine c_unwhole hL.1 hd' (by omega) hPf hlk hsk (by rw [w0]; exact hz0) (cr_f (by decide) (next S' h1 h2 ?_) |> fun h => ⟨h.2, h.1⟩)
        rw [hvt, if_neg (by omega)]; exact hV
      · refine c_whole (k := 0) hL.1 hd' (by omega) hPf hlk w1 hz0 ?_
        have hin := (rfW_in hPf w1).2
        rw [show 0 + 1 = 1 from rfl, List.take_of_length_le (by omega), e1, rfC_one, hE32] at hin
        have at_ : ∀ q, q < 32 → (F.1 f).getD q 0 = (frE (T j)).getD q 0 := by
          intro q hq
          have := rfP_at hPf (k := 0) (by omega) (j := q) (by rw [ej]; omega) (by rw [List.take_zero, rfC_nil]; show 0 + q < _; omega)
          rw [List.take_zero, rfC_nil, ej] at this
          have h0 : ([] : List Nat).length + q = q := Nat.zero_add q
          rw [h0] at this
          exact this
        rw [ej, hp24]
        refine br_t rfl ?_
        obtain ⟨b1, b2⟩ := frP_a (r := T j) (by omega)
        have b3 := frP_c0 e2
        refine dk_number (a := 8) (n := 8) hL.1 hd' (by omega) rfl rfl (by omega) (by omega) ?_
        have g8 : lN (dkLE (F.1 f) 8 8) = lN t := by
          rw [le8 (x := (T j).a.toInt64) (fun q hq => by rw [at_ _ (by omega)]; exact b1 q hq), e3, nI_l (by omega)]
        rw [g8, show grf (0, 0) 5 = (16, 0) from rfl, hV.2.2.1]
        have htb := tb f (by omega)
        have hcmp : lg_cmp (lN t) (lN (vtS T F ri f).2.2.1) ≤ 0 ↔ t ≤ (vtS T F ri f).2.2.1 := by
          unfold lg_cmp
          by_cases h1 : (vtS T F ri f).2.2.1 < t
          · rw [if_pos (show lN t > lN (vtS T F ri f).2.2.1 from (pk_lLT (by omega) (by omega)).2 h1)]
            exact ⟨fun z => absurd z (by decide), fun z => by omega⟩
          · rw [if_neg (show ¬ lN t > lN (vtS T F ri f).2.2.1 from fun z => h1 ((pk_lLT (by omega) (by omega)).1 z))]
            refine ⟨fun _ => by omega, fun _ => ?_⟩
            split <;> decide
        rw [hcmp]
        refine ⟨fun hle => next S' h1 h2 ?_, fun hlt => ?_⟩
        · rw [hvt, if_neg (by rw [ej, e3, nI_clamp (by omega)]; omega)]; exact hV
        · refine dk_number (a := 16) (n := 8) hL.1 hd' (by omega) rfl rfl (by omega) (by omega) ?_
          refine dk_number (a := 24) (n := 8) hL.1 hd' (by omega) rfl rfl (by omega) (by omega) ?_
          rw [lN_i, lN_i, le8i (a := (T j).b) (fun q hq => by rw [at_ _ (by omega)]; exact b2 q hq), le8i (a := (T j).c) (fun q hq => by rw [at_ _ (by omega)]; exact b3 q hq)]
          unfold wp_Vote_set
          rintro _ rfl _ rfl _ rfl _ rfl
          refine next _ (fun i hi => ?_) (fun i hi => ?_) ?_
          · have hne : i ≠ (16, 0) := by rintro rfl; simp at hi
            rw [gset_o hne, gset_o hne]
            show (gset S' (16, 0) 3 (nI f)).1 i = _
            rw [gset_o hne]; exact h1 i hi
          · show (fun n => if i = (16, 0) ∧ n = 2 then _ else S'.2 i n) = _
            rw [← h2 i hi]
            funext n
            exact if_neg (fun z => hi z.1)
          · rw [hvt, if_pos (by rw [ej, e3, nI_clamp (by omega)]; omega), ej]
            refine ⟨?_, ?_, ?_, ?_, ?_⟩
            · rw [gset_n (Or.inr (by omega)), gset_s]
            · rw [gset_s]
            · rw [e3, nI_clamp (by omega)]
              exact gsetL_s (gset S' (16, 0) 3 (nI f)) (16, 0) 2 (lN t)
            · rw [gset_n (Or.inr (by omega)), gset_n (Or.inr (by omega))]
              exact gset_s S' (16, 0) 3 (nI f)
            · rw [gset_n (Or.inr (by omega)), gset_n (Or.inr (by omega))]
              show (gset S' (16, 0) 3 (nI f)).1 (16, 0) 4 = _
              rw [gset_n (Or.inr (by omega))]; exact hV.2.2.2.2
