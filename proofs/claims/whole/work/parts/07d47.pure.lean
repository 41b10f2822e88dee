/-! the log that is found: what a file says -/
def sgW (T : Nat → gFr) (F : gF) (ri : Nat → List Nat) (f : Nat) : Nat := rfW T (ri f) (F.sz f)
def sgI (T : Nat → gFr) (ri : Nat → List Nat) (f : Nat) : Nat := ((T ((ri f).getD 0 0)).a).toNatClampNeg
def sgB (T : Nat → gFr) (ri : Nat → List Nat) (f : Nat) : Int32 := (T ((ri f).getD 0 0)).b
def sgE (T : Nat → gFr) (F : gF) (ri : Nat → List Nat) (f : Nat) : Nat := sgI T ri f + sgW T F ri f - 2
def sgZ (T : Nat → gFr) (F : gF) (ri : Nat → List Nat) (f : Nat) : Nat := (rfC T ((ri f).take (sgW T F ri f))).length
def sgT (T : Nat → gFr) (F : gF) (ri : Nat → List Nat) (f : Nat) : Int32 := (T ((ri f).getD (sgW T F ri f - 1) 0)).b
/-- an entry of a file -/
def sgN (T : Nat → gFr) (ri : Nat → List Nat) (f i : Nat) : gEi := (f, (rfC T ((ri f).take (i + 1 - sgI T ri f))).length, (T ((ri f).getD (i + 1 - sgI T ri f) 0)).b, (T ((ri f).getD (i + 1 - sgI T ri f) 0)).c, (T ((ri f).getD (i + 1 - sgI T ri f) 0)).d.length)
def ctF (T : Nat → gFr) (F : gF) (ri : Nat → List Nat) (D : List Nat) : gF := D.foldl (fun G f => dkF_ct G f (sgZ T F ri f)) F
def ctR (T : Nat → gFr) (F : gF) (ri : Nat → List Nat) (D : List Nat) : Nat → List Nat := D.foldl (fun r f => va_up r f ((ri f).take (sgW T F ri f))) ri
theorem ctF_snoc {T : Nat → gFr} {F : gF} {ri : Nat → List Nat} {D : List Nat} {f : Nat} : ctF T F ri (D ++ [f]) = dkF_ct (ctF T F ri D) f (sgZ T F ri f) := by
  unfold ctF; rw [List.foldl_append]; rfl
theorem ctR_snoc {T : Nat → gFr} {F : gF} {ri : Nat → List Nat} {D : List Nat} {f : Nat} : ctR T F ri (D ++ [f]) = va_up (ctR T F ri D) f ((ri f).take (sgW T F ri f)) := by
  unfold ctR; rw [List.foldl_append]; rfl
theorem ct_out {T : Nat → gFr} {F : gF} {ri : Nat → List Nat} {c : Nat} : ∀ (D : List Nat) (G : gF) (R : Nat → List Nat), c ∉ D → (D.foldl (fun G f => dkF_ct G f (sgZ T F ri f)) G).1 c = G.1 c ∧ (D.foldl (fun G f => dkF_ct G f (sgZ T F ri f)) G).2.2.1 c = G.2.2.1 c ∧ (D.foldl (fun r f => va_up r f ((ri f).take (sgW T F ri f))) R) c = R c
  | [], _, _, _ => ⟨rfl, rfl, rfl⟩
  | a :: D, G, R, h => by
    have hne : c ≠ a := fun e => h (by rw [e]; exact List.mem_cons_self)
    have hD : c ∉ D := fun e => h (List.mem_cons_of_mem a e)
    obtain ⟨x, y, z⟩ := ct_out D (dkF_ct G a (sgZ T F ri a)) (va_up R a ((ri a).take (sgW T F ri a))) hD
    exact ⟨x.trans (va_up_ne _ _ hne), y.trans (va_up_ne _ _ hne), z.trans (va_up_ne _ _ hne)⟩
theorem ct_th {T : Nat → gFr} {F : gF} {ri : Nat → List Nat} : ∀ (D : List Nat) (G : gF), (D.foldl (fun G f => dkF_ct G f (sgZ T F ri f)) G).2.1 = G.2.1
  | [], _ => rfl
  | a :: D, G => ct_th D (dkF_ct G a (sgZ T F ri a))
theorem ct_in {T : Nat → gFr} {F : gF} {ri : Nat → List Nat} {c : Nat} : ∀ (D : List Nat) (G : gF) (R : Nat → List Nat), (G.1 c = F.1 c ∨ G.1 c = (F.1 c).take (sgZ T F ri c)) → c ∈ D → (D.foldl (fun G f => dkF_ct G f (sgZ T F ri f)) G).1 c = (F.1 c).take (sgZ T F ri c) ∧ (D.foldl (fun r f => va_up r f ((ri f).take (sgW T F ri f))) R) c = (ri c).take (sgW T F ri c)
  | [], _, _, _, h => by cases h
  | a :: D, G, R, h0, h => by
    by_cases e : c = a
    · subst e
      have e1 : (dkF_ct G c (sgZ T F ri c)).1 c = (F.1 c).take (sgZ T F ri c) := by
        show va_up G.1 c ((G.1 c).take (sgZ T F ri c)) c = _
        rw [va_up_self]
        rcases h0 with z | z
        · rw [z]
        · rw [z, List.take_take, Nat.min_self]
      by_cases hD : c ∈ D
      · exact ct_in D _ _ (Or.inr e1) hD
      · obtain ⟨x, y, z⟩ := ct_out (T := T) (F := F) (ri := ri) D (dkF_ct G c (sgZ T F ri c)) (va_up R c ((ri c).take (sgW T F ri c))) hD
        exact ⟨x.trans e1, z.trans (va_up_self _ _ _)⟩
    · have hD : c ∈ D := by
        rcases List.mem_cons.mp h with z | z
        · exact absurd z e
        · exact z
      refine ct_in D _ _ ?_ hD
      show va_up G.1 a _ c = _ ∨ va_up G.1 a _ c = _
      rw [va_up_ne _ _ e]
      exact h0
/-- what holds of the files when the log is looked for -/
def wL (n bs : Nat) (F : gF) (T : Nat → gFr) (ri : Nat → List Nat) : Prop :=
  wR n bs F T ri ∧ (∀ c, c < 32 → rfP T (ri c) (F.1 c)) ∧ (∀ f, f < 16 → F.lo f = F.sz f ∧ F.th f ≤ 1) ∧ (∀ c k, c < 32 → k < (ri c).length → (frP (T ((ri c).getD k 0))).length < 2 ^ 20 ∧ ((T ((ri c).getD k 0)).so = 3 → ∃ q, q ≤ 2 ∧ (T ((ri c).getD k 0)).c = nI q)) ∧ bs < 2 ^ 21
theorem sg_facts {n bs : Nat} {F : gF} {T : Nat → gFr} {ri : Nat → List Nat} (h : wL n bs F T ri) {f : Nat} (hf4 : 4 ≤ f) (hf : f < 16) (hw : 0 < sgW T F ri f) : 0 < (ri f).length ∧ sgW T F ri f ≤ (ri f).length ∧ 1 ≤ sgI T ri f ∧ sgI T ri f + (ri f).length ≤ bs + 302 ∧ (∀ k, k < (ri f).length → (T ((ri f).getD k 0)).so = (if k = 0 then 2 else 3) ∧ (T ((ri f).getD k 0)).a = nI (sgI T ri f + (k - 1))) ∧ sgI T ri f < 2 ^ 22 := by
  have hl := rfW_le (T := T) (l := ri f) (s := F.sz f)
  have hl' : sgW T F ri f ≤ (ri f).length := hl
  have hbs := h.2.2.2.2
  rcases (h.1.2.2.1 f (by omega) (by omega)).1 with e | ⟨fi, c1, c2, c3⟩
  · rw [e] at hl'
    have : ([] : List Nat).length = 0 := rfl
    omega
  · have e : sgI T ri f = fi := by
      unfold sgI
      rw [(c3 0 (by omega)).2, nI_clamp (by omega)]
      omega
    rw [e]
    exact ⟨by omega, hl', c1, c2, c3, by omega⟩
/-- the files as they are now, some of them cut -/
theorem sg_view {n bs : Nat} {F : gF} {T : Nat → gFr} {ri : Nat → List Nat} (h : wL n bs F T ri) (D : List Nat) {f : Nat} (hf : f < 16) :
    rfP T (ctR T F ri D f) ((ctF T F ri D).1 f) ∧ rfW T (ctR T F ri D f) ((ctF T F ri D).sz f) = sgW T F ri f ∧ (∀ k, k < sgW T F ri f → (ctR T F ri D f).getD k 0 = (ri f).getD k 0 ∧ (ctR T F ri D f).take (k + 1) = (ri f).take (k + 1)) ∧ (∃ p, ctR T F ri D f = (ri f).take p) ∧ sgW T F ri f ≤ (ctR T F ri D f).length ∧ (∀ k, k ≤ sgW T F ri f → (ctR T F ri D f).take k = (ri f).take k) := by
  have hP := h.2.1 f (by omega)
  have hwl : sgW T F ri f ≤ (ri f).length := rfW_le
  by_cases hD : f ∈ D
  · obtain ⟨x, y⟩ := ct_in (T := T) (F := F) (ri := ri) D F ri (Or.inl rfl) hD
    have x' : (ctF T F ri D).1 f = rfC T ((ri f).take (sgW T F ri f)) := by
      refine x.trans ?_
      obtain ⟨t, ht⟩ := hP.1
      obtain ⟨u, hu⟩ := rfC_pre T (ri f) (sgW T F ri f)
      have hz : sgZ T F ri f ≤ (F.1 f).length := rfW_size hP
      have : (F.1 f).take (sgZ T F ri f) = (rfC T (ri f)).take (sgZ T F ri f) := by rw [← ht, List.take_append_of_le_length hz]
      rw [this, ← hu]
      unfold sgZ
      rw [List.take_append_of_le_length (Nat.le_refl _), List.take_length]
    have y' : ctR T F ri D f = (ri f).take (sgW T F ri f) := y
    rw [x', y']
    have hlen : ((ri f).take (sgW T F ri f)).length = sgW T F ri f := by rw [List.length_take]; omega
    refine ⟨⟨List.prefix_refl _, fun m hm => ?_⟩, ?_, fun k hk => ⟨getD_take hk, ?_⟩, ⟨_, rfl⟩, by omega, fun k hk => ?_⟩
    · have hm' : m < sgW T F ri f := by omega
      rw [List.take_take, Nat.min_eq_left (by omega)]
      exact rfC_lt' T hm' hwl
    · show rfW T _ ((ctF T F ri D).1 f).length = _
      rw [x']
      unfold rfW
      rw [if_pos (Nat.le_refl _), hlen]
    · rw [List.take_take, Nat.min_eq_left (by omega)]
    · rw [List.take_take, Nat.min_eq_left hk]
  · obtain ⟨x, y, z⟩ := ct_out (T := T) (F := F) (ri := ri) D F ri hD
    have x' : (ctF T F ri D).1 f = F.1 f := x
    have z' : ctR T F ri D f = ri f := z
    rw [x', z']
    refine ⟨hP, ?_, fun k hk => ⟨rfl, rfl⟩, ⟨(ri f).length, by rw [List.take_length]⟩, hwl, fun k hk => rfl⟩
    show rfW T _ ((ctF T F ri D).1 f).length = _
    rw [x']
    rfl
theorem sg_one {n bs : Nat} {F : gF} {T : Nat → gFr} {ri : Nat → List Nat} (h : wL n bs F T ri) (D : List Nat) {f : Nat} (hf4 : 4 ≤ f) (hf : f < 16) : (∀ k, k < (ctR T F ri D f).length → (frP (T ((ctR T F ri D f).getD k 0))).length < 2 ^ 20) ∧ (∀ k, k < (ctR T F ri D f).length → (T ((ctR T F ri D f).getD k 0)).so ≠ 1) := by
  obtain ⟨-, -, -, ⟨p, hp⟩, -⟩ := sg_view h D hf
  rw [hp]
  have pat : ∀ k, k < ((ri f).take p).length → k < (ri f).length ∧ ((ri f).take p).getD k 0 = (ri f).getD k 0 := by
    intro k hk
    rw [List.length_take] at hk
    exact ⟨by omega, getD_take (by omega)⟩
  refine ⟨fun k hk => ?_, fun k hk => ?_⟩
  · obtain ⟨k1, k2⟩ := pat k hk
    rw [k2]; exact (h.2.2.2.1 f k (by omega) k1).1
  · obtain ⟨k1, k2⟩ := pat k hk
    rw [k2]
    rcases (h.1.2.2.1 f (by omega) (by omega)).1 with e | ⟨fi, c1, c2, c3⟩
    · rw [e] at k1; exact absurd k1 (Nat.not_lt_zero _)
    · have := (c3 k k1).1
      split at this <;> omega
theorem c_segFirst {Ln : gI → Nat} {M n bs : Nat} {F : gF} {T : Nat → gFr} {ri : Nat → List Nat} {S : gS} {D : List Nat} {f : Nat} {Q : Int32 → gS → Prop} (hL : aL Ln M) (h : wL n bs F T ri) (hd : dk M (ctF T F ri D) S) (hf4 : 4 ≤ f) (hf : f < 16)
    (h1 : 0 < sgW T F ri f → Q (nI (sgI T ri f)) S) (h0 : sgW T F ri f = 0 → Q (-1 : Int32) S) : wp_DiskFile_segmentFirst Ln Q (1, f) S := by
  obtain ⟨v1, v2, v3, v4, v5, v6⟩ := sg_view h D hf
  obtain ⟨s1, s2⟩ := sg_one h D hf4 hf
  unfold wp_DiskFile_segmentFirst
  have hz0 : ∀ l : List Nat, (0 : Int32) = nI (rfC T (l.take 0)).length := fun l => by rw [List.take_zero, rfC_nil]; rfl
  rcases Nat.eq_zero_or_pos (sgW T F ri f) with e | e
  · exact c_unwhole hL.1 hd hf v1 s1 s2 (by rw [v2, e]; exact hz0 _) (cr_f (by decide) (h0 e))
  · obtain ⟨f1, f2, f3, f4, f5, f6⟩ := sg_facts h hf4 hf e
    have e0 := (v3 0 e).1
    have hso : (T ((ri f).getD 0 0)).so = 2 := (f5 0 f1).1
    have hp : (frP (T ((ri f).getD 0 0))).length = 16 := by rw [frP_len, if_neg (by omega), if_neg (by omega), if_pos hso]
    have hE : (frE (T ((ri f).getD 0 0))).length = 24 := by rw [frE_len, hp, if_neg (by omega)]
    refine c_whole (k := 0) hL.1 hd hf v1 s1 (by rw [v2]; exact e) (hz0 _) ?_
    rw [e0, hp]
    refine cr_t rfl ?_
    refine dk_number (a := 8) (n := 8) hL.1 hd hf rfl rfl (by omega) (by omega) ?_
    have hin := (rfW_in v1 (k := 0) (by show 0 < rfW T _ ((ctF T F ri D).sz f); rw [v2]; exact e)).2
    rw [(v3 0 e).2, show 0 + 1 = 1 from rfl] at hin
    have h24 : (rfC T ((ri f).take 1)).length = 24 := by
      have := rfC_take (T := T) f1
      rw [show 0 + 1 = 1 from rfl] at this
      rw [this, List.take_zero, rfC_nil, List.nil_append, hE]
    rw [h24] at hin
    rw [lN_i, le8i (a := (T ((ri f).getD 0 0)).a) (fun q hq => ?_)]
    · have ha := (f5 0 f1).2
      rw [show sgI T ri f + (0 - 1) = sgI T ri f by omega] at ha
      rw [ha]; exact h1 e
    · have := rfP_at v1 (k := 0) (by omega) (j := 8 + q) (by rw [e0, hE]; omega) (by rw [List.take_zero, rfC_nil]; show 0 + (8 + q) < _; omega)
      rw [List.take_zero, rfC_nil, e0] at this
      have h00 : ([] : List Nat).length + (8 + q) = 8 + q := Nat.zero_add _
      rw [h00] at this
      rw [this]
      exact (frP_a (r := T ((ri f).getD 0 0)) (by omega)).1 q hq
theorem c_termB {Ln : gI → Nat} {M n bs : Nat} {F : gF} {T : Nat → gFr} {ri : Nat → List Nat} {S : gS} {D : List Nat} {f : Nat} {Q : Int32 → gS → Prop} (hL : aL Ln M) (h : wL n bs F T ri) (hd : dk M (ctF T F ri D) S) (hf4 : 4 ≤ f) (hf : f < 16) (e : 0 < sgW T F ri f)
    (h1 : Q (sgB T ri f) S) : wp_DiskFile_termBefore Ln Q (1, f) S := by
  obtain ⟨v1, v2, v3, v4, v5, v6⟩ := sg_view h D hf
  obtain ⟨f1, f2, f3, f4, f5, f6⟩ := sg_facts h hf4 hf e
  have e0 := (v3 0 e).1
  have hso : (T ((ri f).getD 0 0)).so = 2 := (f5 0 f1).1
  have hp : (frP (T ((ri f).getD 0 0))).length = 16 := by rw [frP_len, if_neg (by omega), if_neg (by omega), if_pos hso]
  have hE : (frE (T ((ri f).getD 0 0))).length = 24 := by rw [frE_len, hp, if_neg (by omega)]
  have hin := (rfW_in v1 (k := 0) (by show 0 < rfW T _ ((ctF T F ri D).sz f); rw [v2]; exact e)).2
  rw [(v3 0 e).2, show 0 + 1 = 1 from rfl] at hin
  have h24 : (rfC T ((ri f).take 1)).length = 24 := by
    have := rfC_take (T := T) f1
    rw [show 0 + 1 = 1 from rfl] at this
    rw [this, List.take_zero, rfC_nil, List.nil_append, hE]
  rw [h24] at hin
  refine dk_termBefore hL.1 hd hf ?_
  rw [le8i (a := (T ((ri f).getD 0 0)).b) (fun q hq => ?_)]
  · exact h1
  · have := rfP_at v1 (k := 0) (by omega) (j := 16 + q) (by rw [e0, hE]; omega) (by rw [List.take_zero, rfC_nil]; show 0 + (16 + q) < _; omega)
    rw [List.take_zero, rfC_nil, e0] at this
    have h00 : ([] : List Nat).length + (16 + q) = 16 + q := Nat.zero_add _
    rw [h00] at this
    rw [this]
    exact (frP_a (r := T ((ri f).getD 0 0)) (by omega)).2 q hq
/-- the first segment: the file, and its first number -/
def fsS (bs : Nat) (T : Nat → gFr) (F : gF) (ri : Nat → List Nat) : Nat → Int32 × Nat
  | 0 => (-1, 0)
  | k + 1 => if 0 < sgW T F ri (4 + k) ∧ (fsS bs T F ri k).2 < sgI T ri (4 + k) ∧ sgI T ri (4 + k) ≤ bs + 1 then (nI (4 + k), sgI T ri (4 + k)) else fsS bs T F ri k
theorem fs_ok {n bs : Nat} {F : gF} {T : Nat → gFr} {ri : Nat → List Nat} (h : wL n bs F T ri) : ∀ k, k ≤ 12 → (fsS bs T F ri k = (-1, 0)) ∨ ∃ f, 4 ≤ f ∧ f < 4 + k ∧ fsS bs T F ri k = (nI f, sgI T ri f) ∧ 0 < sgW T F ri f ∧ sgI T ri f ≤ bs + 1
  | 0, _ => Or.inl rfl
  | k + 1, hk => by
    have e : fsS bs T F ri (k + 1) = if 0 < sgW T F ri (4 + k) ∧ (fsS bs T F ri k).2 < sgI T ri (4 + k) ∧ sgI T ri (4 + k) ≤ bs + 1 then (nI (4 + k), sgI T ri (4 + k)) else fsS bs T F ri k := rfl
    rw [e]
    split
    · rename_i hh
      exact Or.inr ⟨4 + k, by omega, by omega, rfl, hh.1, hh.2.2⟩
    · rcases fs_ok h k (by omega) with z | ⟨f, a, b, c⟩
      · exact Or.inl z
      · exact Or.inr ⟨f, a, by omega, c⟩
theorem c_firstSegment {Ln : gI → Nat} {M n : Nat} {F : gF} {T : Nat → gFr} {ri : Nat → List Nat} {S : gS} {sf bt cd : Int32} {bs : Nat} {Q : Int32 → gS → Prop} (hL : aL Ln M) (h : wL n bs F T ri) (hd : dk M F S) (hS : cS sf bs bt cd S)
    (hq : Q (fsS bs T F ri 12).1 S) : wp_LogDisk_firstSegment Ln Q (0, 0) S := by
  have hbs := h.2.2.2.2
  unfold wp_LogDisk_firstSegment
  have key := pk_loop (fun fu k S' => wp_LogDisk_firstSegment_6 Ln Q fu (0, 0) (fsS bs T F ri k).1 (nI (fsS bs T F ri k).2) (nI (4 + k)) S') (fun k S' => k ≤ 12 ∧ S' = S) 12 0 S (Nat.zero_le _) ⟨by omega, rfl⟩ ?_ ?_
  · exact key
  · rintro m _ ⟨-, rfl⟩
    unfold wp_LogDisk_firstSegment_6
    exact br_t (by decide) hq
  · rintro m k _ hk ⟨-, rfl⟩ ih
    have ih2 := ih _ ⟨by omega, rfl⟩
    have e : fsS bs T F ri (k + 1) = if 0 < sgW T F ri (4 + k) ∧ (fsS bs T F ri k).2 < sgI T ri (4 + k) ∧ sgI T ri (4 + k) ≤ bs + 1 then (nI (4 + k), sgI T ri (4 + k)) else fsS bs T F ri k := rfl
    have hgb : (fsS bs T F ri k).2 ≤ bs + 1 := by
      rcases fs_ok h k (by omega) with z | ⟨f, a, b, c, d, g⟩
      · rw [z]; exact Nat.zero_le _
      · rw [c]; exact g
    unfold wp_LogDisk_firstSegment_6 wp_LogDisk_firstSegment_48
    refine br_f (nI_ge (b := 16) (show 4 + k < 16 by omega) (by omega)) ?_
    rw [show grf (0, 0) 1 = (10, 0) from rfl, hL.2.2.1, nI_clamp (by omega), show grf (10, 0) (4 + k) = (1, 4 + k) from rfl, nI_1, show 4 + k + 1 = 4 + (k + 1) by omega]
    refine ⟨vp_in_nI (by omega) (by omega), ?_⟩
    refine c_segFirst (D := []) hL h hd (by omega) (by omega) (fun hw => ?_) (fun hw => ?_)
    · have hf6 := (sg_facts h (show 4 ≤ 4 + k by omega) (by omega) hw).2.2.2.2.2
      rw [show grf (0, 0) 6 = (17, 0) from rfl, hS.2.1, nI_1]
      refine pk_le (sgI T ri (4 + k)) (fsS bs T F ri k).2 (fun h1 => ?_) (fun h1 => pk_lt (bs + 1) (sgI T ri (4 + k)) (fun h2 => ?_) (fun h2 => ?_) rfl rfl (by omega) (by omega)) rfl rfl (by omega) (by omega)
      · rintro _ rfl
        rw [e, if_neg (by omega)] at ih2; exact ih2
      · rintro _ rfl
        rw [e, if_neg (by omega)] at ih2; exact ih2
      · rintro _ rfl
        rw [e, if_pos ⟨hw, h1, h2⟩] at ih2; exact ih2
    · refine br_t ?_ ?_
      · rw [i32_le, nI_toInt (by omega)]
        have : (-1 : Int32).toInt = -1 := by decide
        omega
      · rintro _ rfl
        rw [e, if_neg (by omega)] at ih2; exact ih2
