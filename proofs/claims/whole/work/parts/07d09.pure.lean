theorem dkF_app_sz (F : gF) (f : Nat) (bs : List Nat) (d : Nat) : (dkF_app F f bs).sz d = if d = f then F.sz f + bs.length else F.sz d := by
  show (va_up F.1 f (F.1 f ++ bs) d).length = _
  by_cases e : d = f
  · subst e; rw [va_up_self, if_pos rfl, List.length_append]
  · rw [va_up_ne _ _ e, if_neg e]
theorem dkU_app {M : Nat} {F : gF} {f : Nat} {bs : List Nat} {S S' : gS} (h : dk M F S) (h' : dk M (dkF_app F f bs) S') (hf : f < 16) : dkU M (dkF_app F f bs) + dkP (F.sz f + bs.length) = dkU M F + dkP (F.sz f) := by
  have a := (dk_uc h).2
  have b := (dk_uc h').2
  have hl := dk_low h hf
  have hle : dkP (F.sz f) ≤ dkP (F.sz f + bs.length) := dkP_le (by omega)
  have hsum := dkSum_u (g := dkW F) (g' := dkW (dkF_app F f bs)) 16 hf ?_
  · unfold dkW at hsum
    rw [dkF_app_sz, dkF_app_sz, if_pos rfl, if_neg (by omega)] at hsum
    have : (dkF_app F f bs).sh f = F.sh f := rfl
    rw [this] at hsum
    have e : dkW F = fun f => dkP (F.sz f) + dkP (F.sz (16 + f)) - F.sh f := rfl
    have e' : dkW (dkF_app F f bs) = fun g => dkP ((dkF_app F f bs).sz g) + dkP ((dkF_app F f bs).sz (16 + g)) - (dkF_app F f bs).sh g := rfl
    rw [e] at a; rw [e'] at b
    omega
  · intro g hg hg2
    unfold dkW
    rw [dkF_app_sz, dkF_app_sz, if_neg hg2, if_neg (by omega)]
    rfl
theorem dkF_app_app (F : gF) (f : Nat) (as bs : List Nat) : dkF_app (dkF_app F f as) f bs = dkF_app F f (as ++ bs) := by
  unfold dkF_app
  dsimp only
  congr 1
  funext j
  by_cases e : j = f
  · subst e; rw [va_up_self, va_up_self, va_up_self, List.append_assoc]
  · rw [va_up_ne _ _ e, va_up_ne _ _ e, va_up_ne _ _ e]
theorem dkF_app_nil (F : gF) (f : Nat) : dkF_app F f [] = F := by
  unfold dkF_app
  rw [List.append_nil]
  have : va_up F.1 f (F.1 f) = F.1 := by
    funext j
    by_cases e : j = f
    · subst e; rw [va_up_self]
    · rw [va_up_ne _ _ e]
  rw [this]
theorem dk_28 {Ln : gI → Nat} {M : Nat} {F : gF} {f n : Nat} {src : gI} {bs : List Nat} {Q : gS → Prop} {S0 : gS} (hL : dkL Ln M) (hf : f < 16) (hsrc : 10 ≤ src.1) (hbs : bs.length = n) (hn : n < 2 ^ 29)
    (hln : n ≤ Ln src) (hls : Ln src < 2 ^ 30) (hB : ∀ i, i < n → isB (S0.1 src i) (bs.getD i 0) ∧ fits .byte (.int (S0.1 src i)) = true)
    (hsh : F.sh f ≤ F.sz f / 64) (h4 : dkP (F.sz f + n) ≤ min M 400) (hd0 : dk M F S0) (hu : dkP (F.sz f + n) - dkP (F.sz f) ≤ dkU M F)
    (hq : ∀ S', dkX S0 S' → dk M (dkF_app F f bs) S' → Q S') : ∃ m, wp_DiskFile_write_28 Ln Q m (1, f) src (nI n) 0 0 S0 := by
  have hM4 := hL.2.1
  have key := lp3 (fun m (a : Nat) (j : Nat) S => wp_DiskFile_write_28 Ln Q m (1, f) src (nI n) (nI a) (nI j) S)
    (fun a j S => a ≤ n ∧ dkX S0 S ∧ dk M (dkF_app F f (bs.take a)) S ∧ (a < n → (F.sz f + a) / 64 = F.sz f / 64 + j) ∧ dkP (F.sz f + n) - dkP (F.sz f + a) ≤ dkU M (dkF_app F f (bs.take a)))
    (fun a _ _ => n - a) ?_ 0 0 S0 ⟨Nat.zero_le _, dkX.rf _, ?_, fun _ => rfl, ?_⟩
  · exact key
  · rintro m a j S ⟨ha, hx, hd, hj, hu⟩ ih
    have hlt : (bs.take a).length = a := by rw [List.length_take]; omega
    have hsz : (dkF_app F f (bs.take a)).sz f = F.sz f + a := by rw [dkF_app_sz, if_pos rfl, hlt]
    have hsz2 := dk_size hd (show f < 32 by omega)
    rw [hsz] at hsz2
    have hz := dk_sz hd hL.2.1 (show f < 32 by omega)
    rw [hsz] at hz
    unfold wp_DiskFile_write_28
    rcases Nat.eq_or_lt_of_le ha with rfl | ha'
    · have hfin : Q S := by
        refine hq S hx ?_
        rw [List.take_of_length_le (by omega)] at hd
        exact hd
      refine ⟨fun _ => hfin, fun _ => br_t (nI_le (Nat.le_refl _) (by omega)) hfin⟩
    have hj' := hj ha'
    have hdk : dkP (F.sz f + n) = (F.sz f + n + 63) / 64 := rfl
    refine br_f (nI_nlt (a := 400) (b := j) (by omega) (by omega)) (br_f (nI_ge ha' (by omega)) ?_)
    rw [dkf1 hf, hsz2.1, show (64 : Int32) = nI 64 from rfl, pk_rem (by omega) (by omega) (by omega), pk_div (by omega) (by omega) (by omega), dkN_rf, hL.2.2.2.2.2 f (by omega)]
    rintro _ rfl _ rfl
    have hk4 : (F.sz f + a) / 64 < min M 400 := by omega
    refine br_t (nI_lt hk4 (by omega)) ?_
    have hB' : ∀ S', dkX S0 S' → ∀ i, i < n → isB (S'.1 src i) (bs.getD i 0) ∧ fits .byte (.int (S'.1 src i)) = true := by
      intro S' hx' i hi
      rw [hx'.2 src (Or.inr hsrc)]; exact hB i hi
    have step : ∀ S2, dkX S0 S2 → dkJ M (dkF_app F f (bs.take a)) f S2 → wp_DiskFile_write_101 Ln (fun z0 z1 z2 z3 z4 zS => wp_DiskFile_write_28 Ln Q m z0 z1 z2 z3 z4 zS) Q (1, f) src (nI n) (nI a) (nI j) (nI ((F.sz f + a) / 64)) (nI ((F.sz f + a) % 64)) S2 := by
      intro S2 hx2 hJ
      have := dk_101 (K := fun z0 z1 z2 z3 z4 zS => wp_DiskFile_write_28 Ln Q m z0 z1 z2 z3 z4 zS) (Q := Q) (n := n) (a := a) (j := j) (bs := bs) hL hf hJ hsrc hbs hn ha' (by omega) hln hls (hB' S2 hx2) ?_
      · rw [hsz] at this; exact this
      · intro b S' hb hxx hdd
        rw [hsz] at hb
        have hab : a < b ∧ b ≤ n := by omega
        rw [dkF_app_app, ← List.take_add, show a + (b - a) = b by omega] at hdd
        refine ih b (j + 1) S' ⟨by omega, hx2.tr hxx, hdd, fun hbn => by omega, ?_⟩ (by omega)
        have u1 := dkU_app (f := f) (bs := bs.take a) hd0 hd hf
        have u2 := dkU_app (f := f) (bs := bs.take b) hd0 hdd hf
        rw [List.length_take] at u1 u2
        rw [show min a bs.length = a by omega] at u1
        rw [show min b bs.length = b by omega] at u2
        have := dkP_le (show F.sz f + b ≤ F.sz f + n by omega)
        have := dkP_le (show F.sz f + a ≤ F.sz f + b by omega)
        omega
    refine pk_eq ((F.sz f + a) % 64) 0 (fun h0 => ?_) (fun h0 => ?_) rfl rfl (by omega) (by omega) |> fun h => ⟨h.2, h.1⟩
    · refine dk_J0 (f := f) hL hd hf (by rw [hsz]; exact h0) (by rw [hsz]; exact hk4) ?_ ?_
      · have : dkP (F.sz f + a) = (F.sz f + a) / 64 := by unfold dkP; omega
        omega
      · intro p S' hx' hJ
        refine ⟨vp_in_nI hk4 (by omega), ?_⟩
        rintro _ rfl
        rw [hsz] at hJ
        rw [nI_clamp (by omega)]
        exact step _ ((hx.tr hx').tr (dkX.set (by have := dkR_1 f; omega))) hJ
    · refine step S hx (dk_J hd hf (by rw [hsz]; exact h0) ?_)
      rw [hsz]
      show F.sh f ≤ _
      omega
  · rw [List.take_zero, dkF_app_nil]; exact hd0
  · rw [List.take_zero, dkF_app_nil]; exact hu
def dkF_wr (F : gF) (f : Nat) (bs : List Nat) : gF :=
  (va_up F.1 f (F.1 f ++ bs), va_up F.2.1 f 1, F.2.2.1, va_up F.2.2.2 f (if 0 < bs.length ∧ F.sz f % 64 ≠ 0 ∧ F.sz f / 64 < F.sh f then F.sz f / 64 else F.sh f))
theorem va_up_id {α : Type} (g : Nat → α) (f : Nat) : va_up g f (g f) = g := by
  funext j
  by_cases e : j = f
  · subst e; rw [va_up_self]
  · rw [va_up_ne _ _ e]
theorem dk_write {Ln : gI → Nat} {M : Nat} {F : gF} {f n : Nat} {src : gI} {bs : List Nat} {Q : gS → Prop} {S : gS} {v : Int32} (hL : dkL Ln M) (hd : dk M F S) (hf : f < 16) (hsrc : 10 ≤ src.1) (hbs : bs.length = n) (hv : v = nI n) (hn : n < 2 ^ 29)
    (hln : n ≤ Ln src) (hls : Ln src < 2 ^ 30) (hB : ∀ i, i < n → isB (S.1 src i) (bs.getD i 0) ∧ fits .byte (.int (S.1 src i)) = true)
    (h4 : dkP (F.sz f + n) ≤ 400) (hu : 0 < n → dkNd F f n ≤ dkU M F)
    (hq : ∀ S', dkX S S' → dk M (dkF_wr F f bs) S' → Q S') : wp_DiskFile_write Ln Q (1, f) src v S := by
  subst hv
  have hl := dk_low hd hf
  have hu0 := dk_uc hd
  have hsz := dk_sz hd hL.2.1 (show f < 32 by omega)
  have hM4 := hL.2.1
  have hbs' := hbs
  have hW : dkP (F.sz f) ≤ dkW F f := by unfold dkW; omega
  have hWs := dkSum_ge (g := dkW F) 16 hf
  unfold wp_DiskFile_write
  have fin : ∀ G S1, dkX S S1 → dk M G S1 → G.1 = F.1 → (0 < n → G.sh f ≤ G.sz f / 64) → (0 < n → dkP (F.sz f + n) - dkP (F.sz f) ≤ dkU M G) → dkF_app (dkF_th G f 1) f bs = dkF_wr F f bs → wp_DiskFile_write_15 Ln Q (1, f) src (nI n) S1 := by
    intro G S1 hx h1 e1 h2 h3 h5
    have esz : G.sz f = F.sz f := congrArg List.length (congrFun e1 f)
    unfold wp_DiskFile_write_15
    rw [dkf1 hf]
    rintro _ rfl
    have h6 := dk_th h1 (show f < 32 by omega) (Nat.le_refl 1) (rfl : (1 : Int32) = nI 1)
    have hx6 : dkX S (gset S1 (dkN f) 1 1) := hx.tr (dkX.set (by have := dkN_1 f; omega))
    rcases Nat.eq_zero_or_pos n with e | e
    · refine ⟨1, ?_⟩
      unfold wp_DiskFile_write_28
      have : Q (gset S1 (dkN f) 1 1) := by
        refine hq _ hx6 ?_
        rw [← h5, List.eq_nil_of_length_eq_zero (hbs.trans e), dkF_app_nil]
        exact h6
      rw [e]
      exact ⟨fun _ => this, fun _ => br_t (by decide) this⟩
    · refine dk_28 (F := dkF_th G f 1) hL hf hsrc hbs hn hln hls ?_ ?_ ?_ h6 ?_ ?_
      · intro i hi; rw [hx6.2 src (Or.inr hsrc)]; exact hB i hi
      · exact h2 e
      · show dkP (G.sz f + n) ≤ _
        rw [esz]
        have := hu e
        unfold dkNd at this
        have := hu0.2
        omega
      · show dkP (G.sz f + n) - dkP (G.sz f) ≤ dkU M (dkF_th G f 1)
        rw [esz]
        exact h3 e
      · intro S' hx' hd'
        rw [h5] at hd'
        exact hq S' (hx6.tr hx') hd'
  have finN : ¬ (0 < n ∧ dkC F f) → wp_DiskFile_write_15 Ln Q (1, f) src (nI n) S := by
    intro hnc
    refine fin F S (dkX.rf S) hd rfl ?_ ?_ ?_
    · intro e
      have hl1 := hl.2.1
      by_cases h0 : F.sz f % 64 = 0
      · unfold dkP at hl1; omega
      · by_cases hlt : F.sz f / 64 < F.sh f
        · exact absurd ⟨e, h0, hlt⟩ hnc
        · omega
    · intro e
      have := hu e
      unfold dkNd at this
      omega
    · unfold dkF_wr dkF_app dkF_th
      rw [if_neg (by rw [hbs]; exact hnc), va_up_id]
  refine pk_le n 0 (fun h => finN (by omega)) (fun h => ?_) rfl rfl (by omega) (by omega)
  refine dk_mustCopy hL hd hf (fun hC => br_f (by decide) ?_) (fun hC => br_t rfl (finN (fun z => hC z.2)))
  have hun := hu h
  unfold dkNd at hun
  rw [if_pos (by exact hC)] at hun
  refine dk_copyLast hL hd hf hC (by omega) ?_
  intro S1 hd1 hx1
  refine fin _ S1 hx1 hd1 rfl ?_ ?_ ?_
  · intro _
    show va_up F.2.2.2 f _ f ≤ _
    rw [va_up_self]
    exact Nat.le_refl _
  · intro _
    have a := (dk_uc hd1).2
    have b := hu0.2
    have hsum := dkSum_u (g := dkW F) (g' := dkW (dkF_sh F f (F.sz f / 64))) 16 hf ?_
    · have e1 : dkW (dkF_sh F f (F.sz f / 64)) f = dkP (F.sz f) + dkP (F.sz (16 + f)) - F.sz f / 64 := by
        unfold dkW
        rw [show (dkF_sh F f (F.sz f / 64)).sh f = F.sz f / 64 from va_up_self _ _ _]
        rfl
      have e2 : dkW F f = dkP (F.sz f) + dkP (F.sz (16 + f)) - F.sh f := rfl
      rw [e1, e2] at hsum
      have := hC.2
      have e3 : dkP (F.sz f) ≤ F.sz f / 64 + 1 := by unfold dkP; omega
      omega
    · intro g hg hg2
      unfold dkW
      rw [show (dkF_sh F f (F.sz f / 64)).sh g = F.sh g from va_up_ne _ _ hg2]
      rfl
  · unfold dkF_wr dkF_app dkF_th dkF_sh
    rw [if_pos ⟨by rw [hbs]; exact h, hC⟩]
