theorem dk_shd {F : gF} {pg : Nat → Nat → Nat} {c : Nat} (hc : c < 32)
    (h : ∀ f, f < 16 → F.sh f ≤ dkP (F.sz f) ∧ F.sh f ≤ dkP (F.sz (16 + f)) ∧ ∀ k, k < dkP (F.sz f) → k < dkP (F.sz (16 + f)) → (pg (16 + f) k = pg f k ↔ k < F.sh f)) :
    F.sh (c % 16) ≤ dkP (F.sz c) ∧ F.sh (c % 16) ≤ dkP (F.sz (dkT c)) ∧ ∀ k, k < dkP (F.sz c) → (((dkT c < 32 ∧ k < dkP (F.sz (dkT c))) ∧ pg (dkT c) k = pg c k) ↔ k < F.sh (c % 16)) := by
  rcases Nat.lt_or_ge c 16 with e | e
  · rw [dkT_n e, Nat.mod_eq_of_lt e]
    obtain ⟨a, b, d⟩ := h c e
    refine ⟨a, b, fun k hk => ⟨fun z => (d k hk z.1.2).1 z.2, fun z => ⟨⟨by omega, by omega⟩, (d k hk (by omega)).2 z⟩⟩⟩
  · obtain ⟨f, rfl⟩ : ∃ f, c = 16 + f := ⟨c - 16, by omega⟩
    rw [dkT_s, show (16 + f) % 16 = f by omega]
    obtain ⟨a, b, d⟩ := h f (by omega)
    refine ⟨b, a, fun k hk => ⟨fun z => (d k z.1.2 hk).1 z.2.symm, fun z => ⟨⟨by omega, by omega⟩, ((d k (by omega) hk).2 z).symm⟩⟩⟩
theorem dkW_c {F : gF} {c : Nat} (hc : c < 32) : dkW F (c % 16) = dkP (F.sz c) + dkP (F.sz (dkT c)) - F.sh (c % 16) := by
  unfold dkW
  rcases Nat.lt_or_ge c 16 with e | e
  · rw [dkT_n e, Nat.mod_eq_of_lt e]
  · obtain ⟨f, rfl⟩ : ∃ f, c = 16 + f := ⟨c - 16, by omega⟩
    rw [dkT_s, show (16 + f) % 16 = f by omega]; omega
theorem dk_cutC {Ln : gI → Nat} {M : Nat} {F : gF} {S : gS} {c n : Nat} {v : Int32} {Q : gS → Prop} (hL : dkL Ln M) (hd : dk M F S) (hc : c < 32) (hn : n ≤ F.sz c) (hv : v = nI n)
    (hq : ∀ S', dk M (dkF_cut F c n) S' → dkX S S' → Q S') : wp_Content_shorten Ln Q (dkN c) v (6, 0) S := by
  have hz := dk_sz hd hL.2.1 hc
  obtain ⟨pg, ow, un, uc, m, i, hN, hf, hb, hfit, hs⟩ := hd
  have hf' : ∀ f, f < 16 → F.sh f ≤ dkP (F.sz f) ∧ F.sh f ≤ dkP (F.sz (16 + f)) ∧ ∀ k, k < dkP (F.sz f) → k < dkP (F.sz (16 + f)) → (pg (16 + f) k = pg f k ↔ k < F.sh f) := fun f h => (hf f h).2
  obtain ⟨s1, s2, s3⟩ := dk_shd hc hf'
  have hpn := dkP_le hn
  have hw := dkW_c (F := F) hc
  have hwl := dkSum_ge (g := dkW F) 16 (show c % 16 < 16 by omega)
  have hlen : ∀ d, (dkF_cut F c n).sz d = if d = c then n else F.sz d := by
    intro d
    show (va_up F.1 c ((F.1 c).take n) d).length = _
    by_cases e : d = c
    · subst e; rw [va_up_self, if_pos rfl, List.length_take]; exact Nat.min_eq_left hn
    · rw [va_up_ne _ _ e, if_neg e]
  refine dk_shorten (h := F.sh (c % 16)) hL m i hc (hN c hc).1 (by omega) hv hn (fun k hk => ⟨hc, hk⟩) s3 (by omega) ?_
  intro S1 ow' un' a1 a2 a3
  have x1 : dkX S (gset S1 (dkN c) 2 (nI n)) := a1.x.tr (dkX.set (by have := dkN_1 c; omega))
  refine hq _ ⟨pg, ow', un', uc + (dkP (F.sz c) - max (dkP n) (F.sh (c % 16))), ?_, ?_, ?_, ?_, ?_, ?_, ?_⟩ x1
  · refine dkM_of ?_ ?_ a2
    · intro j hj; exact gset_o (fun e => by rcases dkN_1 c with z | z <;> rw [e] at hj <;> omega)
    · exact congrFun (gset_o (Ne.symm (dkN_ne (by simp) (by simp)))) 3
  · refine dkI_O ?_ a3
    intro d k
    rw [hlen]
    by_cases e : d = c
    · subst e; rw [if_pos rfl]
      exact ⟨fun z => ⟨z.1.1, by omega⟩, fun z => ⟨⟨z.1, by omega⟩, by omega⟩⟩
    · rw [if_neg e]
      exact ⟨fun z => z.1, fun z => ⟨z, fun z2 => e z2.1⟩⟩
  · intro d hd
    rw [hlen]
    by_cases e : d = c
    · subst e
      rw [if_pos rfl, gset_s, gset_n (Or.inr (by omega)), a1.2 _ (by have := dkN_1 d; omega) (by have := dkN_1 d; omega) (by have := dkN_1 d; omega)]
      exact ⟨rfl, (hN d hd).2⟩
    · rw [if_neg e, gset_o (fun z => e (dkN_inj hd hc z)), a1.2 _ (by have := dkN_1 d; omega) (by have := dkN_1 d; omega) (by have := dkN_1 d; omega)]
      exact hN d hd
  · intro f hf2
    rw [gset_o (Ne.symm (dkN_ne (by simp) (by simp))), a1.2 _ (by simp) (by simp) (by simp)]
    refine ⟨(hf f hf2).1, ?_⟩
    show va_up F.2.2.2 (c % 16) _ f ≤ _ ∧ va_up F.2.2.2 (c % 16) _ f ≤ _ ∧ ∀ k, _ → _ → (_ ↔ k < va_up F.2.2.2 (c % 16) _ f)
    rw [hlen, hlen]
    obtain ⟨g1, g2, g3⟩ := hf' f hf2
    by_cases e : f = c % 16
    · subst e
      rw [va_up_self]
      rcases Nat.lt_or_ge c 16 with e | e
      · rw [Nat.mod_eq_of_lt e] at *
        rw [if_pos rfl, if_neg (by omega)]
        refine ⟨by omega, by omega, fun k h1 h2 => ?_⟩
        rw [g3 k (by omega) h2]; omega
      · have e2 : 16 + c % 16 = c := by omega
        rw [e2] at g2 g3
        rw [e2, if_pos rfl, if_neg (by omega)]
        refine ⟨by omega, by omega, fun k h1 h2 => ?_⟩
        rw [g3 k h1 (by omega)]; omega
    · rw [va_up_ne _ _ e, if_neg (by omega), if_neg (by omega)]
      exact ⟨g1, g2, g3⟩
  · intro d j hd hj
    rw [hlen] at hj
    rw [gset_o (Ne.symm (dkN_ne (by simp) (by simp))), a1.2 _ (by simp) (by simp) (by simp)]
    show isB _ ((va_up F.1 c ((F.1 c).take n) d).getD j 0)
    by_cases e : d = c
    · subst e; rw [if_pos rfl] at hj
      rw [va_up_self, List.getD_eq_getElem?_getD, List.getElem?_take_of_lt hj, ← List.getD_eq_getElem?_getD]
      exact hb d j hd (by omega)
    · rw [if_neg e] at hj
      rw [va_up_ne _ _ e]
      exact hb d j hd hj
  · intro a ha
    rw [gset_o (Ne.symm (dkN_ne (by simp) (by simp))), a1.2 _ (by simp) (by simp) (by simp)]
    exact hfit a ha
  · have hw' := dkW_c (F := dkF_cut F c n) hc
    rw [hlen, hlen, if_pos rfl, if_neg dkT_ne, show (dkF_cut F c n).sh (c % 16) = min (F.sh (c % 16)) (dkP n) from va_up_self _ _ _] at hw'
    have hsum := dkSum_u (g := dkW F) (g' := dkW (dkF_cut F c n)) 16 (show c % 16 < 16 by omega) ?_
    · rw [hw, hw'] at hsum
      omega
    · intro j hj hj2
      unfold dkW
      rw [hlen, hlen, if_neg (by omega), if_neg (by omega), show (dkF_cut F c n).sh j = F.sh j from va_up_ne _ _ hj2]
