theorem gF_ext {F G : gF} (h1 : ∀ c, F.1 c = G.1 c) (h2 : ∀ c, F.2.1 c = G.2.1 c) (h3 : ∀ c, F.2.2.1 c = G.2.2.1 c) (h4 : ∀ c, F.2.2.2 c = G.2.2.2 c) : F = G := by
  obtain ⟨a, b, c, d⟩ := F
  obtain ⟨a', b', c', d'⟩ := G
  have e1 : a = a' := funext h1
  have e2 : b = b' := funext h2
  have e3 : c = c' := funext h3
  have e4 : d = d' := funext h4
  rw [e1, e2, e3, e4]
def dkF_ct (F : gF) (f n : Nat) : gF := (va_up F.1 f ((F.1 f).take n), F.2.1, va_up F.2.2.1 f (min (F.lo f) n), va_up F.2.2.2 f (min (F.sh f) (dkP n)))
def dkF_rm (F : gF) (f : Nat) : gF := (va_up F.1 f [], va_up F.2.1 f 0, va_up F.2.2.1 f 0, va_up F.2.2.2 f 0)
def dkF_st (F : gF) (f : Nat) : gF := (va_up F.1 (16 + f) (F.1 f), va_up F.2.1 (16 + f) (F.th f), va_up F.2.2.1 f (F.sz f), va_up F.2.2.2 f (dkP (F.sz f)))
theorem dk_cutTo {Ln : gI → Nat} {M : Nat} {F : gF} {S : gS} {f n : Nat} {v : Int32} {Q : gS → Prop} (hL : dkL Ln M) (hd : dk M F S) (hf : f < 16) (hv : v = nI n) (hn : n < 2 ^ 30) (hlo : F.lo f ≤ F.sz f)
    (hq : ∀ S', dk M (dkF_ct F f n) S' → dkX S S' → Q S') : wp_DiskFile_cutTo Ln Q (1, f) v S := by
  subst hv
  have hz := dk_sz hd hL.2.1 (show f < 32 by omega)
  have hl := dk_low hd hf
  unfold wp_DiskFile_cutTo
  rw [dkf1 hf, dkf0, (dk_size hd (show f < 32 by omega)).1]
  refine pk_le (F.sz f) n (fun h => hq S ?_ (dkX.rf S)) (fun h => ?_) rfl rfl (by omega) (by omega)
  · have : dkF_ct F f n = F := by
      have hp := dkP_le h
      refine gF_ext (fun c => ?_) (fun c => rfl) (fun c => ?_) (fun c => ?_)
      · show va_up F.1 f ((F.1 f).take n) c = _
        rw [List.take_of_length_le h, va_up_id]
      · show va_up F.2.2.1 f (min (F.lo f) n) c = _
        rw [Nat.min_eq_left (Nat.le_trans hlo h)]
        exact congrFun (va_up_id _ _) c
      · show va_up F.2.2.2 f (min (F.sh f) (dkP n)) c = _
        rw [Nat.min_eq_left (by omega)]
        exact congrFun (va_up_id _ _) c
    rw [this]; exact hd
  · refine dk_cutC hL hd (by omega) (by omega) rfl ?_
    intro S1 hd1 hx1
    rintro _ rfl
    have hl1 := dk_low hd1 hf
    have e : (dkF_cut F f n).lo f = F.lo f := rfl
    rw [e] at hl1
    have em : (if nI n < S1.1 (1, f) 3 then nI n else S1.1 (1, f) 3) = nI (min (F.lo f) n) := by
      rw [hl1.1]
      by_cases h2 : n < F.lo f
      · rw [if_pos (nI_lt h2 (by omega))]; congr 1; omega
      · rw [if_neg (nI_nlt (by omega) (by omega))]; congr 1; omega
    refine hq _ ?_ (hx1.tr (dkX.set (by simp)))
    have := dk_lo (f := f) hd1 em
    rw [show dkF_ct F f n = dkF_lo (dkF_cut F f n) f (min (F.lo f) n) from ?_]
    · exact this
    · unfold dkF_ct dkF_lo dkF_cut
      rw [Nat.mod_eq_of_lt hf]
theorem dk_remove {Ln : gI → Nat} {M : Nat} {F : gF} {S : gS} {f : Nat} {Q : gS → Prop} (hL : dkL Ln M) (hd : dk M F S) (hf : f < 16)
    (hq : ∀ S', dk M (dkF_rm F f) S' → dkX S S' → Q S') : wp_DiskFile_remove Ln Q (1, f) S := by
  unfold wp_DiskFile_remove
  rw [dkf1 hf, dkf0]
  refine dk_cutC hL hd (by omega) (Nat.zero_le _) rfl ?_
  intro S1 hd1 hx1
  rintro _ rfl _ rfl
  refine hq _ ?_ (hx1.tr ((dkX.set (by have := dkN_1 f; omega)).tr (dkX.set (by simp))))
  have := dk_lo (f := f) (n := 0) (dk_th (f := f) hd1 (by omega) (Nat.zero_le 1) (rfl : (0 : Int32) = nI 0)) (rfl : (0 : Int32) = nI 0)
  rw [show dkF_rm F f = dkF_lo (dkF_th (dkF_cut F f 0) f 0) f 0 from ?_]
  · exact this
  · unfold dkF_rm dkF_lo dkF_th dkF_cut
    rw [Nat.mod_eq_of_lt hf, List.take_zero, dkP_0, Nat.min_zero]
theorem dk_settle {Ln : gI → Nat} {M : Nat} {F : gF} {S : gS} {f : Nat} {Q : gS → Prop} (hL : dkL Ln M) (hd : dk M F S) (hf : f < 16)
    (hq : ∀ S', dk M (dkF_st F f) S' → dkX S S' → Q S') : wp_DiskFile_settle Ln Q (1, f) S := by
  unfold wp_DiskFile_settle
  rw [dkf1 hf, dkf2, dkf0]
  have e : dkN f = dkN (dkT (16 + f)) := by rw [dkT_s]
  have key : wp_Content_become Ln (fun S1 => ∀ (S2 : gS), S2 = gset S1 (1, f) 3 (S1.1 (dkN f) 2) → Q S2) (dkN (16 + f)) (dkN (dkT (16 + f))) (6, 0) S := by
    refine dk_become hL hd (by omega) ?_
    intro S1 hd1 hx1
    rintro _ rfl
    have hz := (dk_size hd1 (show f < 32 by omega)).1
    have hs : (dkF_bec F (16 + f)).sz f = F.sz f := congrArg List.length (va_up_ne _ _ (by omega))
    rw [hs] at hz
    refine hq _ ?_ (hx1.tr (dkX.set (by simp)))
    have := dk_lo (f := f) hd1 hz
    rw [show dkF_st F f = dkF_lo (dkF_bec F (16 + f)) f (F.sz f) from ?_]
    · exact this
    · unfold dkF_st dkF_lo dkF_bec
      rw [dkT_s, show (16 + f) % 16 = f by omega]
  rw [← e] at key
  exact key
/-- a crash of a file -/
def dkF_fl (F : gF) (f k : Nat) : gF := dkF_st (if k = 0 then dkF_bec F f else if F.lo f + k - 1 < F.sz f then dkF_ct F f (F.lo f + k - 1) else F) f
theorem dk_fail {Ln : gI → Nat} {M : Nat} {F : gF} {S : gS} {f k : Nat} {v : Int32} {Q : gS → Prop} (hL : dkL Ln M) (hd : dk M F S) (hf : f < 16) (hv : v = nI k) (hk : k < 2 ^ 31) (hlo : F.lo f ≤ F.sz f)
    (hq : ∀ S', dk M (dkF_fl F f k) S' → dkX S S' → Q S') : wp_DiskFile_fail Ln Q (1, f) v S := by
  subst hv
  have hz := dk_sz hd hL.2.1 (show f < 32 by omega)
  have hl := dk_low hd hf
  unfold wp_DiskFile_fail wp_DiskFile_fail_52
  rw [dkf1 hf, dkf2, dkf0, hl.1, (dk_size hd (show f < 32 by omega)).1]
  have hb : k = 0 → wp_Content_become Ln (fun S6 => wp_DiskFile_settle Ln (fun S4 => Q S4) (1, f) S6) (dkN f) (dkN (dkT f)) (6, 0) S := by
    intro h0
    refine dk_become hL hd (by omega) ?_
    intro S1 hd1 hx1
    refine dk_settle hL hd1 hf ?_
    intro S2 hd2 hx2
    refine hq S2 ?_ (hx1.tr hx2)
    unfold dkF_fl
    rw [if_pos h0]
    exact hd2
  rw [dkT_n hf] at hb
  refine (pk_eq k 0 hb (fun h0 => ?_) rfl rfl hk (by omega)) |> fun h => ⟨h.2, h.1⟩
  have el : (nI (F.lo f)).toInt64 + (nI k).toInt64 - 1 = lN (F.lo f + k - 1) := by
    rw [nI_l (by omega), nI_l hk, lN_add, show (1 : Int64) = lN 1 from rfl, lN_sub (by omega)]
  rw [el, nI_l (by omega)]
  rintro _ rfl
  have ec : (0 : Int32) ≤ lg_cmp (lN (F.lo f + k - 1)) (lN (F.sz f)) ↔ F.sz f ≤ F.lo f + k - 1 := by
    unfold lg_cmp
    by_cases h1 : F.sz f < F.lo f + k - 1
    · rw [if_pos (show lN (F.lo f + k - 1) > lN (F.sz f) from (pk_lLT (by omega) (by omega)).2 h1)]
      exact ⟨fun _ => by omega, fun _ => by decide⟩
    · rw [if_neg (show ¬ lN (F.lo f + k - 1) > lN (F.sz f) from fun z => h1 ((pk_lLT (by omega) (by omega)).1 z))]
      by_cases h2 : F.lo f + k - 1 = F.sz f
      · rw [if_pos (by rw [h2])]
        exact ⟨fun _ => by omega, fun _ => by decide⟩
      · rw [if_neg (fun z => h2 ((pk_lEQ (by omega) (by omega)).1 z))]
        exact ⟨fun z => absurd z (by decide), fun z => by omega⟩
  rw [ec]
  refine ⟨fun h => ?_, fun h => ?_⟩
  · refine dk_settle hL hd hf ?_
    intro S2 hd2 hx2
    refine hq S2 ?_ hx2
    unfold dkF_fl
    rw [if_neg h0, if_neg (by omega)]
    exact hd2
  · rw [lN_i]
    refine dk_cutTo hL hd hf rfl (by omega) hlo ?_
    intro S1 hd1 hx1
    refine dk_settle hL hd1 hf ?_
    intro S2 hd2 hx2
    refine hq S2 ?_ (hx1.tr hx2)
    unfold dkF_fl
    rw [if_neg h0, if_pos (by omega)]
    exact hd2
theorem dk_read {Ln : gI → Nat} {M : Nat} {F : gF} {S : gS} {f i : Nat} {v : Int32} {Q : Int32 → gS → Prop} (hL : dkL Ln M) (hd : dk M F S) (hf : f < 16) (hv : v = nI i) (hi : i < 2 ^ 31)
    (hq : Q (nI ((F.1 f).getD i 0)) S) : wp_DiskFile_read Ln Q (1, f) v S := by
  subst hv
  have hz := dk_sz hd hL.2.1 (show f < 32 by omega)
  have hM4 := hL.2.1
  obtain ⟨pg, ow, un, uc, m, iI, hN, hff, hb, hfit, hsu⟩ := hd
  unfold wp_DiskFile_read
  rw [dkf1 hf, dkf0, dkN_rf, show grf (6, 0) 0 = (7, 0) from rfl, (hN f (by omega)).1, hL.2.2.2.2.2 f (by omega), hL.2.2.1]
  refine br_f (nI_pos hi) (pk_le (F.sz f) i (fun h => ?_) (fun h => ?_) rfl rfl (by omega) hi)
  · rw [List.getD_eq_getElem?_getD, List.getElem?_eq_none h] at hq
    exact hq
  · rw [show (64 : Int32) = nI 64 from rfl, pk_rem (by omega) (by omega) (by omega), pk_div (by omega) (by omega) (by omega)]
    have hk := dkP_lt h
    have hk4 : i / 64 < min M 400 := by omega
    refine br_t (nI_lt hk4 (by omega)) ⟨vp_in_nI hk4 (by omega), ?_⟩
    rw [nI_clamp (by omega), m.1 f _ (by omega) hk4, pk_mul, nI_add]
    have hp := (iI.2.2.2.1 f (i / 64) ⟨by omega, hk⟩).2.2
    refine ⟨vp_in_nI (by omega) (by omega), ?_⟩
    rw [nI_clamp (by omega), (hb f i (by omega) h).1]
    exact hq
