/-- the page behind NOW's end is at hand -/
def dkJ (M : Nat) (F : gF) (f : Nat) (S : gS) : Prop :=
  ∃ pg ow un uc, dkM M pg ow un uc S ∧ dkI M (fun c k => c < 32 ∧ (k < dkP (F.sz c) ∨ (c = f ∧ k = F.sz f / 64))) pg ow un uc ∧
    (∀ c, c < 32 → S.1 (dkN c) 2 = nI (F.sz c) ∧ S.1 (dkN c) 1 = nI (F.th c) ∧ F.th c ≤ 1) ∧
    (∀ f, f < 16 → S.1 (1, f) 3 = nI (F.lo f) ∧ F.sh f ≤ dkP (F.sz f) ∧ F.sh f ≤ dkP (F.sz (16 + f)) ∧ ∀ k, k < dkP (F.sz f) → k < dkP (F.sz (16 + f)) → (pg (16 + f) k = pg f k ↔ k < F.sh f)) ∧
    (∀ c i, c < 32 → i < F.sz c → isB (S.1 (7, 0) (pg c (i / 64) * 64 + i % 64)) ((F.1 c).getD i 0)) ∧
    (∀ a, a < M * 64 → fits .byte (.int (S.1 (7, 0) a)) = true) ∧ uc + dkSum (dkW F) 16 + (F.sz f / 64 + 1 - dkP (F.sz f)) = M ∧ F.sh f ≤ F.sz f / 64 ∧ (F.sz f / 64 < dkP (F.sz (16 + f)) → pg (16 + f) (F.sz f / 64) ≠ pg f (F.sz f / 64))
theorem gcpy_at (S : gS) (i : gI) (sp : Nat) (j : gI) (dp n k : Nat) : (gcpy S i sp j dp n).1 j k = va_cpy (S.1 i) (S.1 j) sp dp n k := if_pos rfl
theorem gcpy_o {S : gS} {i : gI} {sp : Nat} {j : gI} {dp n : Nat} {a : gI} (h : a ≠ j) : (gcpy S i sp j dp n).1 a = S.1 a := funext fun _ => if_neg h
def dkF_app (F : gF) (f : Nat) (bs : List Nat) : gF := (va_up F.1 f (F.1 f ++ bs), F.2.1, F.2.2.1, F.2.2.2)
theorem dk_J {M : Nat} {F : gF} {f : Nat} {S : gS} (hd : dk M F S) (hf : f < 16) (h0 : F.sz f % 64 ≠ 0) (hs : F.sh f ≤ F.sz f / 64) : dkJ M F f S := by
  obtain ⟨pg, ow, un, uc, m, i, hN, hff, hb, hfit, hu⟩ := hd
  have hp : dkP (F.sz f) = F.sz f / 64 + 1 := by unfold dkP; omega
  refine ⟨pg, ow, un, uc, m, dkI_O ?_ i, hN, hff, hb, hfit, by omega, hs, ?_⟩
  · intro c k
    constructor
    · exact fun z => ⟨z.1, Or.inl z.2⟩
    · rintro ⟨z, z2 | ⟨rfl, rfl⟩⟩
      · exact ⟨z, z2⟩
      · exact ⟨z, by omega⟩
  · intro h e
    have := ((hff f hf).2.2.2 _ (by omega) h).1 e
    omega
theorem dk_J0 {Ln : gI → Nat} {M : Nat} {F : gF} {f : Nat} {S : gS} {Q : Int32 → gS → Prop} (hL : dkL Ln M) (hd : dk M F S) (hf : f < 16) (h0 : F.sz f % 64 = 0) (hk : F.sz f / 64 < min M 400) (hu : 0 < dkU M F)
    (hq : ∀ p S', dkX S S' → dkJ M F f (gset S' (dkR f) (F.sz f / 64) (nI p)) → Q (nI p) S') : wp_Pages_seize Ln Q (6, 0) S := by
  have huc := dk_uc hd
  obtain ⟨pg, ow, un, uc, m, i, hN, hff, hb, hfit, hsu⟩ := hd
  have hp : dkP (F.sz f) = F.sz f / 64 := by unfold dkP; omega
  obtain ⟨u, rfl⟩ : ∃ u, uc = u + 1 := ⟨uc - 1, by omega⟩
  refine dk_seize hL m i ?_
  intro S' ow' a1 a2 a3 a4 a5 a6 a7
  refine hq _ S' a1.x ?_
  have hno : ¬ (f < 32 ∧ F.sz f / 64 < dkP (F.sz f)) := by omega
  have hR : ∀ i : gI, i.1 ≠ 3 → i.1 ≠ 5 → i.1 ≠ 6 → i.1 ≠ 8 → i.1 ≠ 9 → (gset S' (dkR f) (F.sz f / 64) (nI (un u))).1 i = S.1 i := by
    intro i h3 h5 h6 h8 h9
    rw [gset_o (Ne.symm (dkR_ne h3 h5))]
    exact a1.2 i h6 h8 h9
  refine ⟨dkS pg f (F.sz f / 64) (un u), ow', un, u, dkM_set (by omega) rfl a2, dkI_O ?_ (dkI_add (c := f) (k := F.sz f / 64) (dkI_set hno a3) hno (by omega) hk ?_ ?_ ?_ ?_), ?_, ?_, ?_, ?_, ?_, ?_, ?_⟩
  · intro c k
    constructor
    · rintro (z | ⟨rfl, rfl⟩)
      · exact ⟨z.1, Or.inl z.2⟩
      · exact ⟨by omega, Or.inr ⟨rfl, rfl⟩⟩
    · rintro ⟨z, z2 | z2⟩
      · exact Or.inl ⟨z, z2⟩
      · exact Or.inr z2
  · rw [dkS_s]; exact a4
  · intro d j h
    rw [dkS_s, dkS_n (by rintro ⟨rfl, rfl⟩; exact hno h)]
    exact a7 d j h
  · intro j hj; rw [dkS_s]; exact a6 j hj
  · rw [dkS_s]; exact a5
  · intro c hc
    rw [hR _ (by have := dkN_1 c; omega) (by have := dkN_1 c; omega) (by have := dkN_1 c; omega) (by have := dkN_1 c; omega) (by have := dkN_1 c; omega)]
    exact hN c hc
  · intro g hg
    rw [hR _ (by simp) (by simp) (by simp) (by simp) (by simp)]
    refine ⟨(hff g hg).1, (hff g hg).2.1, (hff g hg).2.2.1, fun k h1 h2 => ?_⟩
    rw [dkS_n (by omega), dkS_n (by rintro ⟨rfl, rfl⟩; omega)]
    exact (hff g hg).2.2.2 k h1 h2
  · intro c j hc hj
    rw [hR _ (by simp) (by simp) (by simp) (by simp) (by simp), dkS_n (by rintro ⟨rfl, h⟩; have := dkP_lt hj; omega)]
    exact hb c j hc hj
  · intro a ha
    rw [hR _ (by simp) (by simp) (by simp) (by simp) (by simp)]
    exact hfit a ha
  · omega
  · have := (hff f hf).2.1; omega
  · intro h
    rw [dkS_s, dkS_n (by omega)]
    exact a7 (16 + f) _ ⟨by omega, h⟩
theorem dk_101 {Ln : gI → Nat} {M : Nat} {F : gF} {f n a j : Nat} {S : gS} {src : gI} {bs : List Nat} {K : gI → gI → Int32 → Int32 → Int32 → gS → Prop} {Q : gS → Prop} (hL : dkL Ln M) (hf : f < 16) (hd : dkJ M F f S) (hsrc : 10 ≤ src.1) (hbs : bs.length = n) (hn : n < 2 ^ 29) (ha : a < n) (hj : j < 2 ^ 29)
    (hln : n ≤ Ln src) (hls : Ln src < 2 ^ 30) (hB : ∀ i, i < n → isB (S.1 src i) (bs.getD i 0) ∧ fits .byte (.int (S.1 src i)) = true)
    (hq : ∀ b S', b = min n (a + (64 - F.sz f % 64)) → dkX S S' → dk M (dkF_app F f ((bs.drop a).take (b - a))) S' → K (1, f) src (nI n) (nI b) (nI (j + 1)) S') :
    wp_DiskFile_write_101 Ln K Q (1, f) src (nI n) (nI a) (nI j) (nI (F.sz f / 64)) (nI (F.sz f % 64)) S := by
  obtain ⟨pg, ow, un, uc, m, i, hN, hff, hb, hfit, hsu, hsh, hsh2⟩ := hd
  obtain ⟨i1, i2, i3, i4, i5, i6, i7⟩ := id i
  obtain ⟨-, hk4, hpM⟩ := i4 f (F.sz f / 64) ⟨by omega, Or.inr ⟨rfl, rfl⟩⟩
  have hM4 := hL.2.1
  have hN1 := (hN f (by omega)).1
  have hsz : F.sz f < 25600 := by omega
  unfold wp_DiskFile_write_101
  rw [dkf1 hf, dkf0, dkN_rf, show grf (6, 0) 0 = (7, 0) from rfl, hL.2.2.2.2.2 f (by omega), hL.2.2.1, nI_clamp (by omega), m.1 f _ (by omega) hk4]
  rw [pk_sub (by omega), show (64 : Int32) = nI 64 from rfl, pk_sub (by omega), pk_mul, nI_add]
  have hmod : F.sz f % 64 < 64 := Nat.mod_lt _ (by omega)
  have hmin : (if nI (n - a) < nI (64 - F.sz f % 64) then nI (n - a) else nI (64 - F.sz f % 64)) = nI (min n (a + (64 - F.sz f % 64)) - a) := by
    by_cases h : n - a < 64 - F.sz f % 64
    · rw [if_pos (nI_lt h (by omega))]; congr 1; omega
    · rw [if_neg (nI_nlt (by omega) (by omega))]; congr 1; omega
  rw [hmin]
  generalize hbd : min n (a + (64 - F.sz f % 64)) = b
  rintro _ rfl
  have hba : a < b ∧ b ≤ n ∧ b - a + F.sz f % 64 ≤ 64 := by omega
  refine ⟨vp_in_nI hk4 (by omega), ⟨nI_pos (by omega), nI_pos (by omega), nI_pos (by omega), ?_, ?_, ?_⟩, ?_⟩
  · rw [nI_clamp (by omega), nI_clamp (by omega)]; omega
  · rw [nI_clamp (by omega), nI_clamp (by omega)]
    have : pg f (F.sz f / 64) * 64 + 64 ≤ M * 64 := by omega
    omega
  · intro z hz
    rw [nI_clamp (by omega)] at hz ⊢
    exact (hB _ (by omega)).2
  rw [nI_clamp (by omega), nI_clamp (by omega), nI_clamp (by omega), nI_add, show a + (b - a) = b by omega, nI_1]
  rintro _ rfl _ rfl _ rfl _ rfl
  generalize hS1 : gcpy S src a (7, 0) (pg f (F.sz f / 64) * 64 + F.sz f % 64) (b - a) = S1
  have hS7 : ∀ q, S1.1 (7, 0) q = if pg f (F.sz f / 64) * 64 + F.sz f % 64 ≤ q ∧ q < pg f (F.sz f / 64) * 64 + F.sz f % 64 + (b - a) then S.1 src (a + (q - (pg f (F.sz f / 64) * 64 + F.sz f % 64))) else S.1 (7, 0) q := by
    intro q; rw [← hS1]
    exact gcpy_at _ _ _ _ _ _ _
  have hSo : ∀ i : gI, i ≠ (7, 0) → S1.1 i = S.1 i := by
    intro i h; rw [← hS1]
    funext k
    exact if_neg h
  have hS2 : S1.2 = S.2 := by rw [← hS1]; rfl
  rw [hSo _ (dkN_ne (by simp) (by simp)), hN1, nI_add]
  have hp1 : dkP (F.sz f + (b - a)) = F.sz f / 64 + 1 := by unfold dkP; omega
  have hpl : dkP (F.sz f) ≤ F.sz f / 64 + 1 := by unfold dkP; omega
  have hpg : F.sz f / 64 ≤ dkP (F.sz f) := by unfold dkP; omega
  have hbl : ((bs.drop a).take (b - a)).length = b - a := by rw [List.length_take, List.length_drop]; omega
  have hlen : ∀ d, (dkF_app F f ((bs.drop a).take (b - a))).sz d = if d = f then F.sz f + (b - a) else F.sz d := by
    intro d
    show (va_up F.1 f (F.1 f ++ (bs.drop a).take (b - a)) d).length = _
    by_cases e : d = f
    · subst e; rw [va_up_self, if_pos rfl, List.length_append, hbl]
    · rw [va_up_ne _ _ e, if_neg e]
  have hne : ∀ c k, c < 32 → k < dkP (F.sz c) → ¬ (c = f ∧ k = F.sz f / 64) → pg c k ≠ pg f (F.sz f / 64) := by
    intro c k hc hk hn e
    obtain ⟨rfl, z2⟩ := i5 c k f (F.sz f / 64) ⟨hc, Or.inl hk⟩ ⟨by omega, Or.inr ⟨rfl, rfl⟩⟩ e
    have : c = 16 + f := by omega
    subst this
    exact hsh2 hk e
  refine hq b _ hbd.symm (dkX.tr (S1 := S1) ⟨hS2, fun i hi => hSo i (by rintro rfl; simp at hi)⟩ (dkX.set (by have := dkN_1 f; omega))) ⟨pg, ow, un, uc, ?_, ?_, ?_, ?_, ?_, ?_, ?_⟩
  · refine dkM_of (fun i hi => ?_) ?_ m
    · rw [gset_o (fun e => by have := dkN_1 f; rw [← e] at this; omega)]
      exact hSo i (by rintro rfl; simp at hi)
    · rw [gset_o (Ne.symm (dkN_ne (by simp) (by simp))), hSo _ (by simp)]
  · refine dkI_O ?_ i
    intro c k
    rw [hlen]
    by_cases e : c = f
    · subst e; rw [if_pos rfl, hp1]
      constructor
      · rintro ⟨z, z2 | z2⟩
        · exact ⟨z, by omega⟩
        · exact ⟨z, by omega⟩
      · intro z
        refine ⟨z.1, ?_⟩
        by_cases e : k = F.sz c / 64
        · exact Or.inr ⟨rfl, e⟩
        · exact Or.inl (by omega)
    · rw [if_neg e]
      exact ⟨fun z => ⟨z.1, by rcases z.2 with z2 | z2; exact z2; exact absurd z2.1 e⟩, fun z => ⟨z.1, Or.inl z.2⟩⟩
  · intro c hc
    rw [hlen]
    by_cases e : c = f
    · subst e; rw [if_pos rfl, gset_s, gset_n (Or.inr (by omega)), hSo _ (dkN_ne (by simp) (by simp))]
      exact ⟨rfl, (hN c hc).2⟩
    · rw [if_neg e, gset_o (fun z => e (dkN_inj hc (by omega) z)), hSo _ (dkN_ne (by simp) (by simp))]
      exact hN c hc
  · intro g hg
    rw [gset_o (Ne.symm (dkN_ne (by simp) (by simp))), hSo _ (by simp), hlen, hlen, if_neg (show ¬ 16 + g = f by omega)]
    obtain ⟨g0, g1, g2, g3⟩ := hff g hg
    by_cases e : g = f
    · subst e
      rw [if_pos rfl, hp1]
      refine ⟨g0, show F.sh g ≤ _ by omega, g2, fun k h1 h2 => ?_⟩
      show _ ↔ k < F.sh g
      by_cases e : k = F.sz g / 64
      · subst e
        exact ⟨fun z => absurd z (hsh2 h2), fun z => by omega⟩
      · exact g3 k (by omega) h2
    · rw [if_neg e]
      exact ⟨g0, g1, g2, g3⟩
  · intro c q hc hq
    rw [hlen] at hq
    rw [gset_o (Ne.symm (dkN_ne (by simp) (by simp))), hS7]
    show isB _ ((va_up F.1 f (F.1 f ++ (bs.drop a).take (b - a)) c).getD q 0)
    by_cases e : c = f
    · subst e
      rw [if_pos rfl] at hq
      rw [va_up_self, List.getD_eq_getElem?_getD]
      by_cases e : q < F.sz c
      · rw [List.getElem?_append_left e, ← List.getD_eq_getElem?_getD, if_neg]
        · exact hb c q hc e
        · rintro ⟨z1, z2⟩
          by_cases e2 : q / 64 = F.sz c / 64
          · rw [e2] at z1; omega
          · have := hne c (q / 64) hc (dkP_lt e) (fun z => e2 z.2)
            omega
      · have e2 : q / 64 = F.sz c / 64 := by omega
        rw [List.getElem?_append_right (show (F.1 c).length ≤ q from Nat.le_of_not_lt e), e2, if_pos (by omega), List.getElem?_take_of_lt (show q - (F.1 c).length < b - a from by show q - F.sz c < b - a; omega), List.getElem?_drop, ← List.getD_eq_getElem?_getD]
        rw [show a + (pg c (F.sz c / 64) * 64 + q % 64 - (pg c (F.sz c / 64) * 64 + F.sz c % 64)) = a + (q - F.sz c) by omega]
        exact (hB _ (by omega)).1
    · rw [if_neg e] at hq
      rw [va_up_ne _ _ e, if_neg]
      · exact hb c q hc hq
      · rintro ⟨z1, z2⟩
        have := hne c (q / 64) hc (dkP_lt hq) (fun z => e z.1)
        omega
  · intro q hq
    rw [gset_o (Ne.symm (dkN_ne (by simp) (by simp))), hS7]
    by_cases e : pg f (F.sz f / 64) * 64 + F.sz f % 64 ≤ q ∧ q < pg f (F.sz f / 64) * 64 + F.sz f % 64 + (b - a)
    · rw [if_pos e]; exact (hB _ (by omega)).2
    · rw [if_neg e]; exact hfit q hq
  · have hw := dkW_c (F := dkF_app F f ((bs.drop a).take (b - a))) (c := f) (by omega)
    have hw0 := dkW_c (F := F) (c := f) (by omega)
    rw [hlen, hlen, if_pos rfl, if_neg dkT_ne, hp1, Nat.mod_eq_of_lt hf] at hw
    rw [Nat.mod_eq_of_lt hf] at hw0
    have hsum := dkSum_u (g := dkW F) (g' := dkW (dkF_app F f ((bs.drop a).take (b - a)))) 16 hf ?_
    · rw [hw, hw0] at hsum
      rw [show (dkF_app F f ((bs.drop a).take (b - a))).sh f = F.sh f from rfl] at hsum
      omega
    · intro g hg hg2
      unfold dkW
      rw [hlen, hlen, if_neg hg2, if_neg (by omega)]
      rfl
