/-! a crash: the files -/
def cutM (T : Nat → gFr) : List Nat → Nat → Nat
  | [], _ => 0
  | a :: l, n => if n = 0 then 0 else 1 + cutM T l (n - (frE (T a)).length)
theorem cutM_ok (T : Nat → gFr) : ∀ (l : List Nat) (n : Nat), cutM T l n ≤ l.length ∧ (cutM T l n = l.length ∨ n ≤ (rfC T (l.take (cutM T l n))).length) ∧ ∀ j, j < cutM T l n → (rfC T (l.take j)).length < n
  | [], n => ⟨Nat.le_refl _, Or.inl rfl, fun j hj => absurd hj (Nat.not_lt_zero j)⟩
  | a :: l, n => by
    by_cases e : n = 0
    · have : cutM T (a :: l) n = 0 := if_pos e
      rw [this]
      exact ⟨Nat.zero_le _, Or.inr (by omega), fun j hj => absurd hj (Nat.not_lt_zero j)⟩
    · have h1 : cutM T (a :: l) n = 1 + cutM T l (n - (frE (T a)).length) := if_neg e
      obtain ⟨a1, a2, a3⟩ := cutM_ok T l (n - (frE (T a)).length)
      rw [h1]
      have tk : ∀ m, (rfC T ((a :: l).take (m + 1))).length = (frE (T a)).length + (rfC T (l.take m)).length := by
        intro m
        rw [List.take_succ_cons, rfC_cons, List.length_append]
      refine ⟨by rw [List.length_cons]; omega, ?_, fun j hj => ?_⟩
      · rw [Nat.add_comm 1, tk]
        rcases a2 with a2 | a2
        · left; rw [a2, List.length_cons]
        · right; omega
      · rcases j with _ | j
        · rw [List.take_zero, rfC_nil]; exact Nat.pos_of_ne_zero e
        · rw [tk]
          have := a3 j (by omega)
          omega
theorem cut_uniq {T : Nat → gFr} {l : List Nat} {n m : Nat} (h1 : m ≤ l.length) (h2 : m = l.length ∨ n ≤ (rfC T (l.take m)).length) (h3 : ∀ j, j < m → (rfC T (l.take j)).length < n) : m = cutM T l n := by
  obtain ⟨a1, a2, a3⟩ := cutM_ok T l n
  rcases Nat.lt_trichotomy m (cutM T l n) with z | z | z
  · have := a3 m z
    rcases h2 with e | e
    · omega
    · omega
  · exact z
  · have := h3 _ z
    rcases a2 with e | e
    · omega
    · omega
/-- the row of frames of a file after a crash with keep k -/
def flL (T : Nat → gFr) (F : gF) (ri : Nat → List Nat) (f k : Nat) : List Nat := if k = 0 then ri (16 + f) else if F.lo f + k - 1 < F.sz f then (ri f).take (cutM T (ri f) (F.lo f + k - 1)) else ri f
theorem rf_crashFile' {Ln : gI → Nat} {T : Nat → gFr} {nf us : Nat} {ri : Nat → List Nat} {F : gF} {S : gS} {f k : Nat} {v w : Int32} {Q : gS → Prop} (hL : rfL Ln) (hD : rfD T nf us ri F S) (hf : f < 16) (hv : v = nI f) (hw : w = nI k) (hk : k < 2 ^ 31) (hlo : F.lo f ≤ F.sz f)
    (hq : ∀ S', rX S S' → rfD T nf us (va_up (va_up ri f (flL T F ri f k)) (16 + f) (flL T F ri f k)) (dkF_fl F f k) S' → Q S') : wp_Mo_crashFile Ln Q (30, 0) v w S := by
  subst hv hw
  have hD' := hD
  obtain ⟨hT, hR, hF, hP⟩ := hD'
  obtain ⟨f1, f2⟩ := id hF
  obtain ⟨a1, a3, a2, a4⟩ := f1 f (by omega)
  obtain ⟨c0, c1, c2, c4, c3⟩ := f2 f hf
  have i32 : vp_in (nI f) 32 := vp_in_nI (by omega) (by omega)
  have i16 : vp_in (nI f) 16 := vp_in_nI (by omega) (by omega)
  unfold wp_Mo_crashFile wp_Mo_crashFile_50
  rw [show grf (30, 0) 14 = (40, 0) from rfl, show grf (30, 0) 16 = (42, 0) from rfl, hL.2.2.2.2.1, hL.2.2.2.2.2.2.1, nI_clamp (by omega), a2, c4]
  have e2 : ∀ l : List Nat, va_up (va_up ri f l) (16 + f) (va_up ri f l f) = va_up (va_up ri f l) (16 + f) l := fun l => by rw [va_up_self]
  refine (pk_eq k 0 (fun h0 => ?_) (fun h0 => ⟨i32, i16, ?_⟩) rfl rfl hk (by omega)) |> fun h => ⟨h.2, h.1⟩
  · have hfl : flL T F ri f k = ri (16 + f) := if_pos h0
    rw [hfl] at hq
    rw [show (16 : Int32) = nI 16 from rfl, nI_add]
    refine rf_copy hL hD (by omega) rfl (by rw [dkT_s]) ?_
    intro S1 hx1 hD1
    rw [dkT_s] at hD1
    refine rf_settle hL hD1 hf rfl ?_
    intro S2 hx2 hD2
    refine hq S2 (hx1.tr hx2) ?_
    rw [e2] at hD2
    have : dkF_fl F f k = dkF_st (dkF_cp F (16 + f) f) f := by
      unfold dkF_fl
      rw [if_pos h0]
      unfold dkF_st dkF_bec dkF_cp
      rw [dkT_n hf, Nat.mod_eq_of_lt hf]
      refine gF_ext (fun c => rfl) (fun c => rfl) (fun c => rfl) (fun c => ?_)
      show va_up (va_up F.2.2.2 f _) f _ c = va_up F.2.2.2 f _ c
      by_cases e : c = f
      · subst e; rw [va_up_self, va_up_self]
      · rw [va_up_ne _ _ e, va_up_ne _ _ e, va_up_ne _ _ e]
    rw [this]; exact hD2
  · have fin : ¬ (F.lo f + k - 1 < F.sz f) → wp_Mo_settle Ln (fun S3 => Q S3) (30, 0) (nI f) S := by
      intro hge
      have hfl : flL T F ri f k = ri f := (if_neg h0).trans (if_neg hge)
      rw [hfl] at hq
      refine rf_settle hL hD hf rfl ?_
      intro S2 hx2 hD2
      refine hq S2 hx2 ?_
      rw [va_up_id]
      unfold dkF_fl
      rw [if_neg h0, if_neg hge]
      exact hD2
    rw [pk_sub hlo, show (1 : Int32) = nI 1 from rfl, pk_sub (by omega)]
    refine pk_le (F.sz f - F.lo f) (k - 1) (fun h => fin (by omega)) (fun h => ⟨i16, ?_⟩) rfl rfl (by omega) (by omega)
    have hfl : flL T F ri f k = (ri f).take (cutM T (ri f) (F.lo f + k - 1)) := (if_neg h0).trans (if_pos (by omega))
    rw [hfl] at hq
    rw [nI_add, pk_sub (by omega)]
    refine rf_cut hL hD hf (by omega) rfl rfl ?_
    intro S1 m m1 m2 m3 hx1 hD1
    have em := cut_uniq m1 m2 m3
    rw [em] at hD1
    refine rf_settle hL hD1 hf rfl ?_
    intro S2 hx2 hD2
    refine hq S2 (hx1.tr hx2) ?_
    rw [e2] at hD2
    unfold dkF_fl
    rw [if_neg h0, if_pos (by omega)]
    exact hD2
/-- the numbers drawn, the keeps -/
def rrN (r : Int64) : Nat → Int64
  | 0 => r
  | k + 1 => rrN r k * (6364136223846793005 : Int64) + (1442695040888963407 : Int64)
def kkN (kp : Nat → Int32) (r : Int64) (F : gF) (f : Nat) : Nat := if kp f = -1 then dkDr (rrN r (f + 1)) (F.sz f - F.lo f) else (kp f).toNatClampNeg
def crF (F : gF) (kp : Nat → Int32) (r : Int64) : Nat → gF
  | 0 => F
  | k + 1 => dkF_fl (crF F kp r k) k (kkN kp r F k)
def crR (T : Nat → gFr) (F : gF) (ri : Nat → List Nat) (kp : Nat → Int32) (r : Int64) : Nat → Nat → List Nat
  | 0 => ri
  | k + 1 => va_up (va_up (crR T F ri kp r k) k (flL T F ri k (kkN kp r F k))) (16 + k) (flL T F ri k (kkN kp r F k))
theorem fl_out {F : gF} {f k c : Nat} (h : c % 16 ≠ f) (hf : f < 16) (hc : c < 32) : (dkF_fl F f k).1 c = F.1 c ∧ (dkF_fl F f k).2.1 c = F.2.1 c ∧ (c < 16 → (dkF_fl F f k).2.2.1 c = F.2.2.1 c) := by
  have h1 : c ≠ f := by omega
  have h2 : c ≠ 16 + f := by omega
  unfold dkF_fl dkF_st
  dsimp only
  rw [va_up_ne _ _ h2, va_up_ne _ _ h2, va_up_ne _ _ h1]
  split
  · exact ⟨va_up_ne _ _ h1, va_up_ne _ _ h1, fun _ => rfl⟩
  · split
    · exact ⟨va_up_ne _ _ h1, rfl, fun _ => va_up_ne _ _ h1⟩
    · exact ⟨rfl, rfl, fun _ => rfl⟩
/-- the content of a file after a crash with keep k -/
def flC (F : gF) (f k : Nat) : List Nat := if k = 0 then F.1 (16 + f) else if F.lo f + k - 1 < F.sz f then (F.1 f).take (F.lo f + k - 1) else F.1 f
def flT (F : gF) (f k : Nat) : Nat := if k = 0 then F.th (16 + f) else F.th f
theorem fl_in {F : gF} {f k : Nat} (hf : f < 16) : (dkF_fl F f k).1 f = flC F f k ∧ (dkF_fl F f k).1 (16 + f) = flC F f k ∧ (dkF_fl F f k).2.1 f = flT F f k ∧ (dkF_fl F f k).2.1 (16 + f) = flT F f k ∧ (dkF_fl F f k).2.2.1 f = (flC F f k).length := by
  have h2 : f ≠ 16 + f := by omega
  have key : (if k = 0 then dkF_bec F f else if F.lo f + k - 1 < F.sz f then dkF_ct F f (F.lo f + k - 1) else F).1 f = flC F f k ∧ (if k = 0 then dkF_bec F f else if F.lo f + k - 1 < F.sz f then dkF_ct F f (F.lo f + k - 1) else F).2.1 f = flT F f k := by
    unfold flC flT
    split
    · refine ⟨?_, ?_⟩
      · show va_up F.1 f (F.1 (dkT f)) f = _
        rw [va_up_self, dkT_n hf]
      · show va_up F.2.1 f (F.th (dkT f)) f = _
        rw [va_up_self, dkT_n hf]
    · split
      · exact ⟨va_up_self _ _ _, rfl⟩
      · exact ⟨rfl, rfl⟩
  unfold dkF_fl dkF_st
  dsimp only
  rw [va_up_ne _ _ h2, va_up_self, va_up_ne _ _ h2, va_up_self, va_up_self]
  exact ⟨key.1, key.1, key.2, key.2, congrArg List.length key.1⟩
theorem cr_out {T : Nat → gFr} {F : gF} {ri : Nat → List Nat} {kp : Nat → Int32} {r : Int64} {c : Nat} (hc : c < 32) : ∀ k, k ≤ 16 → k ≤ c % 16 → (crF F kp r k).1 c = F.1 c ∧ (crF F kp r k).2.1 c = F.2.1 c ∧ (c < 16 → (crF F kp r k).2.2.1 c = F.2.2.1 c) ∧ crR T F ri kp r k c = ri c
  | 0, _, _ => ⟨rfl, rfl, fun _ => rfl, rfl⟩
  | k + 1, hk, h => by
    obtain ⟨a, b, d, e⟩ := cr_out (T := T) (F := F) (ri := ri) (kp := kp) (r := r) hc k (by omega) (by omega)
    obtain ⟨x, y, z⟩ := fl_out (F := crF F kp r k) (k := kkN kp r F k) (show c % 16 ≠ k by omega) (by omega) hc
    refine ⟨x.trans a, y.trans b, fun w => (z w).trans (d w), ?_⟩
    exact (va_up_ne _ _ (by omega)).trans ((va_up_ne _ _ (by omega)).trans e)
theorem flC_eq {F G : gF} {f k : Nat} (hf : f < 16) (h1 : G.1 f = F.1 f) (h2 : G.1 (16 + f) = F.1 (16 + f)) (h3 : G.2.2.1 f = F.2.2.1 f) (h4 : G.2.1 f = F.2.1 f) (h5 : G.2.1 (16 + f) = F.2.1 (16 + f)) : flC G f k = flC F f k ∧ flT G f k = flT F f k := by
  unfold flC flT
  have e1 : G.lo f = F.lo f := h3
  have e2 : G.sz f = F.sz f := congrArg List.length h1
  have e3 : G.th f = F.th f := h4
  have e4 : G.th (16 + f) = F.th (16 + f) := h5
  rw [e1, e2, e3, e4, h1, h2]
  exact ⟨rfl, rfl⟩
theorem flL_eq {T : Nat → gFr} {F G : gF} {ri rj : Nat → List Nat} {f k : Nat} (h1 : G.1 f = F.1 f) (h3 : G.2.2.1 f = F.2.2.1 f) (h4 : rj f = ri f) (h5 : rj (16 + f) = ri (16 + f)) : flL T G rj f k = flL T F ri f k := by
  unfold flL
  have e1 : G.lo f = F.lo f := h3
  have e2 : G.sz f = F.sz f := congrArg List.length h1
  rw [e1, e2, h4, h5]
theorem cr_in {T : Nat → gFr} {F : gF} {ri : Nat → List Nat} {kp : Nat → Int32} {r : Int64} {f : Nat} (hf : f < 16) : ∀ k, k ≤ 16 → f < k → (crF F kp r k).1 f = flC F f (kkN kp r F f) ∧ (crF F kp r k).1 (16 + f) = flC F f (kkN kp r F f) ∧ (crF F kp r k).2.1 f = flT F f (kkN kp r F f) ∧ (crF F kp r k).2.1 (16 + f) = flT F f (kkN kp r F f) ∧ (crF F kp r k).2.2.1 f = (flC F f (kkN kp r F f)).length ∧ crR T F ri kp r k f = flL T F ri f (kkN kp r F f) ∧ crR T F ri kp r k (16 + f) = flL T F ri f (kkN kp r F f)
  | 0, _, h => by omega
  | k + 1, hk, h => by
    by_cases e : f = k
    · subst e
      obtain ⟨a, b, d, g⟩ := cr_out (T := T) (F := F) (ri := ri) (kp := kp) (r := r) (show f < 32 by omega) f (by omega) (by omega)
      obtain ⟨a', b', d', g'⟩ := cr_out (T := T) (F := F) (ri := ri) (kp := kp) (r := r) (show 16 + f < 32 by omega) f (by omega) (by omega)
      obtain ⟨x1, x2, x3, x4, x5⟩ := fl_in (F := crF F kp r f) (k := kkN kp r F f) hf
      obtain ⟨y1, y2⟩ := flC_eq (k := kkN kp r F f) hf a a' (d (by omega)) b b'
      rw [y1] at x1 x2 x5
      rw [y2] at x3 x4
      refine ⟨x1, x2, x3, x4, x5, ?_, va_up_self _ _ _⟩
      exact (va_up_ne _ _ (by omega)).trans (va_up_self _ _ _)
    · obtain ⟨x1, x2, x3, x4, x5, x6, x7⟩ := cr_in (T := T) (F := F) (ri := ri) (kp := kp) (r := r) hf k (by omega) (by omega)
      obtain ⟨p1, p2, p3⟩ := fl_out (F := crF F kp r k) (k := kkN kp r F k) (show f % 16 ≠ k by omega) (by omega) (show f < 32 by omega)
      obtain ⟨q1, q2, q3⟩ := fl_out (F := crF F kp r k) (k := kkN kp r F k) (show (16 + f) % 16 ≠ k by omega) (by omega) (show 16 + f < 32 by omega)
      refine ⟨p1.trans x1, q1.trans x2, p2.trans x3, q2.trans x4, (p3 hf).trans x5, ?_, ?_⟩
      · exact (va_up_ne _ _ (by omega)).trans ((va_up_ne _ _ (by omega)).trans x6)
      · exact (va_up_ne _ _ (by omega)).trans ((va_up_ne _ _ (by omega)).trans x7)
theorem kk_lt {kp : Nat → Int32} {r : Int64} {F : gF} {f : Nat} (hk : kp f = -1 ∨ ∃ k, k < 2 ^ 31 ∧ kp f = nI k) : kkN kp r F f < 2 ^ 31 := by
  unfold kkN
  split
  · unfold dkDr
    split
    · omega
    · have h1 := Nat.mod_lt ((rrN r (f + 1)).toBitVec.toNat / 2 ^ 33) (show 0 < 2 ^ 20 by decide)
      have h2 := Nat.mod_le ((rrN r (f + 1)).toBitVec.toNat / 2 ^ 33 % 2 ^ 20) (2 * (F.sz f - F.lo f) + 1)
      omega
  · rename_i hne
    rcases hk with e | ⟨k, h1, h2⟩
    · exact absurd e hne
    · rw [h2, nI_clamp h1]; exact h1
theorem c_crashFiles {Ln : gI → Nat} {M : Nat} {F : gF} {kp : Nat → Int32} {S : gS} {r : Int64} {Q : gS → Prop} (hL : aL Ln M) (hd : dk M F S) (hK : cK kp S) (hkp : ∀ f, f < 16 → kp f = -1 ∨ ∃ k, k < 2 ^ 31 ∧ kp f = nI k) (hlo : ∀ f, f < 16 → F.lo f ≤ F.sz f)
    (hq : ∀ S', S'.2 = S.2 → (∀ i : gI, i.1 = 0 ∨ 10 ≤ i.1 → i.1 ≠ 11 → S'.1 i = S.1 i) → cK (fun _ => -1) S' → dk M (crF F kp r 16) S' → Q S') : wp_LogDisk_crashFiles Ln Q (0, 0) r S := by
  unfold wp_LogDisk_crashFiles
  have key := pk_loop (fun fu k S' => wp_LogDisk_crashFiles_5 Ln Q fu (0, 0) (rrN r k) (nI k) S') (fun k S' => k ≤ 16 ∧ S'.2 = S.2 ∧ (∀ i : gI, i.1 = 0 ∨ 10 ≤ i.1 → i.1 ≠ 11 → S'.1 i = S.1 i) ∧ (∀ f, f < 16 → S'.1 (11, 0) f = if f < k then -1 else kp f) ∧ dk M (crF F kp r k) S') 16 0 S (Nat.zero_le _) ⟨by omega, rfl, fun _ _ _ => rfl, fun f hf => by rw [if_neg (by omega)]; exact hK f hf, hd⟩ ?_ ?_
  · exact key
  · rintro m S' ⟨-, h2, ho, hk, hd'⟩
    unfold wp_LogDisk_crashFiles_5
    refine br_t (by decide) (hq S' h2 ho (fun f hf => ?_) hd')
    rw [hk f hf, if_pos hf]
  · rintro m k S' hk16 ⟨-, h2, ho, hk, hd'⟩ ih
    unfold wp_LogDisk_crashFiles_5
    have hkk := hk k hk16
    rw [if_neg (by omega)] at hkk
    have i16 : vp_in (nI k) 16 := vp_in_nI (by omega) (by omega)
    obtain ⟨a, b, d, e⟩ := cr_out (T := fun _ => (0, 0, 0, 0, [])) (F := F) (ri := fun _ => []) (kp := kp) (r := r) (show k < 32 by omega) k (by omega) (by omega)
    have hsz : (crF F kp r k).sz k = F.sz k := congrArg List.length a
    have hlk : (crF F kp r k).lo k = F.lo k := d hk16
    have hlo' : (crF F kp r k).lo k ≤ (crF F kp r k).sz k := by rw [hsz, hlk]; exact hlo k hk16
    have e54 : wp_LogDisk_crashFiles_54 Ln (fun z0 z1 z2 zS => wp_LogDisk_crashFiles_5 Ln Q m z0 z1 z2 zS) Q (0, 0) (rrN r (k + 1)) (nI k) (nI (kkN kp r F k)) S' := by
      unfold wp_LogDisk_crashFiles_54
      refine c_file (P := fun g => wp_DiskFile_fail Ln _ g _ S') (S := S') hL rfl hk16 ?_
      refine dk_fail hL.1 hd' hk16 rfl (kk_lt (hkp k hk16)) hlo' ?_
      intro S2 hd2 hx2
      rw [show grf (0, 0) 2 = (11, 0) from rfl, hL.2.2.2.1, nI_clamp (by omega)]
      refine ⟨i16, ?_⟩
      rintro _ rfl _ rfl
      rw [nI_1]
      refine ih _ ⟨by omega, hx2.1.trans h2, fun i h1 h11 => ?_, fun f hf => ?_, dk_of (fun i h1 h9 => gset_o (by rintro rfl; simp at h9)) hd2⟩
      · rw [gset_o (by rintro rfl; simp at h11), hx2.2 i h1]; exact ho i h1 h11
      · by_cases e : f = k
        · subst e; rw [gset_s, if_pos (by omega)]
        · rw [gset_n (Or.inr e), hx2.2 _ (by simp), hk f hf]
          by_cases e2 : f < k
          · rw [if_pos e2, if_pos (by omega)]
          · rw [if_neg e2, if_neg (by omega)]
    refine br_f (nI_ge (b := 16) hk16 (by omega)) ?_
    rintro _ rfl
    rw [show grf (0, 0) 2 = (11, 0) from rfl, hL.2.2.2.1, nI_clamp (by omega), hkk]
    refine ⟨i16, fun hne => ⟨i16, ?_⟩, fun he => ?_⟩
    · rcases hkp k hk16 with z | ⟨q, z1, z2⟩
      · exact absurd z hne
      · have : kkN kp r F k = q := by unfold kkN; rw [if_neg hne, z2, nI_clamp z1]
        rw [this] at e54
        rw [z2]; exact e54
    · rw [show grf (0, 0) 1 = (10, 0) from rfl, hL.2.2.1, show grf (10, 0) k = (1, k) from rfl]
      refine ⟨i16, dk_drawn hL.1 hd' hk16 hlo' ?_⟩
      have : kkN kp r F k = dkDr (rrN r (k + 1)) ((crF F kp r k).sz k - (crF F kp r k).lo k) := by unfold kkN; rw [if_pos he, hsz, hlk]
      rw [this] at e54
      exact e54
theorem r_crashFiles {Ln : gI → Nat} {M : Nat} {T : Nat → gFr} {nf us : Nat} {ri : Nat → List Nat} {F : gF} {kp : Nat → Int32} {S : gS} {r : Int64} {Q : Int32 → gS → Prop} (hL : aL Ln M) (hD : rfD T nf us ri F S) (hK : rK kp S) (hkp : ∀ f, f < 16 → kp f = -1 ∨ ∃ k, k < 2 ^ 31 ∧ kp f = nI k) (hlo : ∀ f, f < 16 → F.lo f ≤ F.sz f)
    (hq : ∀ S', loX S S' → (∀ i : gI, i.1 = 30 ∨ 44 < i.1 → S'.1 i = S.1 i) → rK (fun _ => -1) S' → rfD T nf us (crR T F ri kp r 16) (crF F kp r 16) S' → wp_Mo_findSlots Ln (fun S3 => wp_Mo_findSnapshot Ln (fun S4 => ∀ S5 : gS, S5 = gset S4 (30, 0) 27 (S4.1 (30, 0) 23) → (∀ S6 : gS, S6 = gset S5 (30, 0) 30 0 → (wp_Mo_firstSegment Ln (fun r8 S7 => ∃ n149 : Nat, wp_Mo_crash_149 Ln Q n149 (30, 0) r8 S7) (30, 0) S6))) (30, 0) S3) (30, 0) S') : ∃ m, wp_Mo_crash_10 Ln Q m (30, 0) r 0 S := by
  have key := pk_loop (fun fu k S' => wp_Mo_crash_10 Ln Q fu (30, 0) (rrN r k) (nI k) S') (fun k S' => k ≤ 16 ∧ loX S S' ∧ (∀ i : gI, i.1 = 30 ∨ 44 < i.1 → S'.1 i = S.1 i) ∧ (∀ f, f < 16 → S'.1 (44, 0) f = if f < k then -1 else kp f) ∧ rfD T nf us (crR T F ri kp r k) (crF F kp r k) S') 16 0 S (Nat.zero_le _) ⟨by omega, loX.rf S, fun _ _ => rfl, fun f hf => by rw [if_neg (by omega)]; exact hK f hf, hD⟩ ?_ ?_
  · exact key
  · rintro m S' ⟨-, hx, ho, hk, hd'⟩
    unfold wp_Mo_crash_10
    refine br_t (by decide) (hq S' hx ho (fun f hf => ?_) hd')
    rw [hk f hf, if_pos hf]
  · rintro m k S' hk16 ⟨-, hx, ho, hk, hd'⟩ ih
    have hkk := hk k hk16
    rw [if_neg (by omega)] at hkk
    have i16 : vp_in (nI k) 16 := vp_in_nI (by omega) (by omega)
    have i32 : vp_in (nI k) 32 := vp_in_nI (by omega) (by omega)
    obtain ⟨a, b, d, e⟩ := cr_out (T := T) (F := F) (ri := ri) (kp := kp) (r := r) (show k < 32 by omega) k (by omega) (by omega)
    obtain ⟨a', b', d', e'⟩ := cr_out (T := T) (F := F) (ri := ri) (kp := kp) (r := r) (show 16 + k < 32 by omega) k (by omega) (by omega)
    have hsz : (crF F kp r k).sz k = F.sz k := congrArg List.length a
    have hlk : (crF F kp r k).lo k = F.lo k := d hk16
    have hlo' : (crF F kp r k).lo k ≤ (crF F kp r k).sz k := by rw [hsz, hlk]; exact hlo k hk16
    have hfl := flL_eq (T := T) (k := kkN kp r F k) a (d hk16) e e'
    have hz1 := (hd'.2.2.1.1 k (by omega))
    have hz2 := (hd'.2.2.1.2 k hk16)
    rw [hsz] at hz1
    rw [hlk] at hz2
    have e78 : ∀ y : Int32, (kp k = -1 → y = nI (kkN kp r F k)) → wp_Mo_crash_78 Ln (fun z0 z1 z2 zS => wp_Mo_crash_10 Ln Q m z0 z1 z2 zS) Q (30, 0) (rrN r (k + 1)) (nI k) y S' := by
      intro y hy
      have e105 : ∀ q : Int32, q = nI (kkN kp r F k) → wp_Mo_crash_105 Ln (fun z0 z1 z2 zS => wp_Mo_crash_10 Ln Q m z0 z1 z2 zS) Q (30, 0) (rrN r (k + 1)) (nI k) (30, 0) (nI k) q S' := by
        intro q hq'
        unfold wp_Mo_crash_105
        refine rf_crashFile' hL.2.1 hd' hk16 rfl hq' (kk_lt (hkp k hk16)) hlo' ?_
        intro S2 hx2 hD2
        rw [hfl] at hD2
        rw [show grf (30, 0) 18 = (44, 0) from rfl, hL.2.1.2.2.2.2.2.2.2.2.1, nI_clamp (by omega)]
        refine ⟨i16, ?_⟩
        rintro _ rfl _ rfl
        rw [nI_1]
        refine ih _ ⟨by omega, (hx.tr hx2.lo).tr (loX.set (by simp)), fun i hi => ?_, fun f hf => ?_, rfD_of (fun i h1 h2 => gset_o (by rintro rfl; simp at h2)) (congrFun (gset_o (by simp)) 3) (congrFun (gset_o (by simp)) 11) hD2⟩
        · rw [gset_o (by rintro rfl; simp at hi), hx2.2 i (by omega)]; exact ho i hi
        · by_cases e : f = k
          · subst e; rw [gset_s, if_pos (by omega)]
          · rw [gset_n (Or.inr e), hx2.2 _ (by simp), hk f hf]
            by_cases e2 : f < k
            · rw [if_pos e2, if_pos (by omega)]
            · rw [if_neg e2, if_neg (by omega)]
      unfold wp_Mo_crash_78
      rw [show grf (30, 0) 18 = (44, 0) from rfl, hL.2.1.2.2.2.2.2.2.2.2.1, nI_clamp (by omega), hkk]
      refine ⟨i16, ?_⟩
      rcases hkp k hk16 with z | ⟨q, z1, z2⟩
      · rw [z]
        exact br_t (by decide) (e105 y (hy z))
      · rw [z2]
        refine br_f (nI_pos z1) ⟨i16, e105 _ ?_⟩
        unfold kkN
        rw [if_neg, z2, nI_clamp z1]
        intro zz
        rw [z2] at zz
        have : (nI q).toInt = (-1 : Int32).toInt := by rw [zz]
        rw [nI_toInt z1] at this
        have : (-1 : Int32).toInt = -1 := by decide
        omega
    unfold wp_Mo_crash_10
    refine br_f (nI_ge (b := 16) hk16 (by omega)) ?_
    rintro _ rfl _ rfl
    have hr1 : rrN r k * (6364136223846793005 : Int64) + (1442695040888963407 : Int64) = rrN r (k + 1) := rfl
    rw [hr1, show grf (30, 0) 14 = (40, 0) from rfl, show grf (30, 0) 16 = (42, 0) from rfl, hL.2.1.2.2.2.2.1, hL.2.1.2.2.2.2.2.2.1, nI_clamp (by omega), hz1.2.2.1, hz2.2.2.2.1, pk_sub (hlo k hk16)]
    have e61 := lushr_nat (rrN r (k + 1)) 61 61 (by decide)
    have e33 := lushr_nat (rrN r (k + 1)) 33 33 (by decide)
    have c0 : lg_cmp (ju_lushr (rrN r (k + 1)) 61) 0 = 0 ↔ (rrN r (k + 1)).toBitVec.toNat / 2 ^ 61 = 0 := by
      rw [lg_cmp_0, ← e61, ← Int64.toBitVec_inj, ← BitVec.toNat_inj]
      rfl
    rw [c0]
    refine ⟨fun h => ⟨i32, i16, ?_⟩, fun h => e78 0 (fun z => ?_)⟩
    · have em : ju_lushr (rrN r (k + 1)) 33 &&& (1048575 : Int64) = lN ((rrN r (k + 1)).toBitVec.toNat / 2 ^ 33 % 2 ^ 20) := by
        apply Int64.toBitVec_inj.mp
        apply BitVec.eq_of_toNat_eq
        rw [Int64.toBitVec_and, BitVec.toNat_and, e33, show (1048575 : Int64).toBitVec.toNat = 2 ^ 20 - 1 by decide, Nat.and_two_pow_sub_one_eq_mod]
        show _ = (BitVec.ofNat 64 _).toNat
        rw [BitVec.toNat_ofNat]
        have := Nat.mod_lt ((rrN r (k + 1)).toBitVec.toNat / 2 ^ 33) (show 0 < 2 ^ 20 by decide)
        omega
      have hb := Nat.mod_lt ((rrN r (k + 1)).toBitVec.toNat / 2 ^ 33) (show 0 < 2 ^ 20 by decide)
      rw [em, nI_l (by omega), show (2 : Int64) = lN 2 from rfl, lN_mul, lN_1, pk_lRem (by omega) (by omega) (by omega), lN_i, show (1 : Int32) = nI 1 from rfl, nI_add]
      refine ⟨fun z => ?_, e78 _ (fun z => ?_)⟩
      · rw [show (0 : Int64) = lN 0 from rfl, pk_lEQ (by omega) (by omega)] at z; omega
      · unfold kkN dkDr
        rw [if_pos z, if_neg h]
    · unfold kkN dkDr
      rw [if_pos z, if_pos h]; rfl
