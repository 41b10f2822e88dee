/-! The cells as they are made, and their names. -/
def gadr (a : Nat → Nat) (F : Nat → g5) (b : Nat → Nat) (q3 : Nat) (i : gI) : Nat := match i.1 with
  | 0 => a 0
  | 1 => (F i.2).1
  | 2 => (F i.2).2.1
  | 3 => (F i.2).2.2.1
  | 4 => (F i.2).2.2.2.1
  | 5 => (F i.2).2.2.2.2
  | 6 => a 18
  | 7 => a 19
  | 8 => a 20
  | 9 => a 21
  | 10 => a 1
  | 11 => a 2
  | 12 => a 3
  | 13 => a 4
  | 14 => a 5
  | 15 => a 6
  | 16 => a 7
  | 17 => a 8
  | 18 => a 9
  | 19 => a 10
  | 20 => a 11
  | 21 => a 12
  | 22 => a 13
  | 23 => a 14
  | 24 => a 15
  | 25 => a 16
  | 26 => a 17
  | 30 => b 0
  | 31 => b 1
  | 32 => b 2
  | 33 => b 3
  | 34 => b 4
  | 35 => b 5
  | 36 => b 6
  | 37 => b 7
  | 38 => b 8
  | 39 => b 9
  | 40 => b 10
  | 41 => b 11
  | 42 => b 12
  | 43 => b 13
  | 44 => b 14
  | 45 => b 15
  | 46 => b 16
  | 47 => b 17
  | _ => q3
def gLen (M : Nat) (i : gI) : Nat := match i.1 with
  | 3 => min M 400
  | 5 => min M 400
  | 7 => M * 64
  | 8 => M
  | 9 => M
  | 10 => 16
  | 11 => 16
  | 13 => 4096
  | 15 => 4121
  | 19 => 12
  | 20 => 12
  | 22 => 301
  | 23 => 301
  | 24 => 301
  | 25 => 301
  | 26 => 301
  | 31 => 2200
  | 32 => 2200
  | 33 => 2200
  | 34 => 2200
  | 35 => 2200
  | 36 => 2200
  | 37 => 4200
  | 38 => 10560
  | 39 => 32
  | 40 => 32
  | 41 => 32
  | 42 => 16
  | 43 => 16
  | 44 => 16
  | 45 => 12
  | 46 => 301
  | 47 => 4096
  | 60 => 1
  | _ => 0
theorem gLen_ok {M : Nat} (h8 : 8 ≤ M) (h9 : M ≤ 1024) : aL (gLen M) M := by
  refine ⟨⟨h8, h9, rfl, rfl, rfl, fun c hc => ?_⟩, ⟨fun k h1 h2 => ?_, rfl, rfl, rfl, rfl, rfl, rfl, rfl, rfl, rfl, rfl, rfl⟩, rfl, rfl, rfl, rfl, rfl, rfl, rfl, fun k h1 h2 => ?_⟩
  · unfold dkR; split <;> rfl
  · rcases (show k = 31 ∨ k = 32 ∨ k = 33 ∨ k = 34 ∨ k = 35 ∨ k = 36 by omega) with rfl | rfl | rfl | rfl | rfl | rfl <;> rfl
  · rcases (show k = 22 ∨ k = 23 ∨ k = 24 ∨ k = 25 ∨ k = 26 by omega) with rfl | rfl | rfl | rfl | rfl <;> rfl
def nmA : List gI := [(0, 0), (10, 0), (11, 0), (12, 0), (13, 0), (14, 0), (15, 0), (16, 0), (17, 0), (18, 0), (19, 0), (20, 0), (21, 0), (22, 0), (23, 0), (24, 0), (25, 0), (26, 0), (6, 0), (7, 0), (8, 0), (9, 0)]
def nmB : List gI := [(30, 0), (31, 0), (32, 0), (33, 0), (34, 0), (35, 0), (36, 0), (37, 0), (38, 0), (39, 0), (40, 0), (41, 0), (42, 0), (43, 0), (44, 0), (45, 0), (46, 0), (47, 0)]
def nmF : Nat → List gI
  | 0 => []
  | k + 1 => [(1, k), (2, k), (3, k), (4, k), (5, k)] ++ nmF k
def nmL : List gI := ((nmA ++ nmF 16) ++ nmB) ++ [(60, 0)]
set_option maxRecDepth 100000 in
theorem nmL_ok : (nmL.all (fun i => decide (i ∈ gNames)) && gNames.all (fun i => decide (i ∈ nmL)) && decide nmL.Nodup) = true := by decide +kernel
def gYo (D : va_G) (ac : Nat → ClassId) (a : Nat → Nat) (F : Nat → g5) (b : Nat → Nat) (q3 M : Nat) : gY := (D, ac, gadr a F b q3, fun _ => .inr (0, []), gLen M, nmL)
section
variable {D : va_G} {ac : Nat → ClassId} {a : Nat → Nat} {F : Nat → g5} {b : Nat → Nat} {q3 M : Nat} {cd : Int32} {u f f2 : Nat → Int32}
set_option maxRecDepth 100000 in
theorem gYo_A : nmA.map (fun i => (gad (gYo D ac a F b q3 M) i, gce (gYo D ac a F b q3 M) (g0 M cd u f f2) i)) = ldWs ac a (.ref (a 18)) (fun j => some (F j).1) f u M cd cd := rfl
set_option maxRecDepth 100000 in
theorem gYo_B : nmB.map (fun i => (gad (gYo D ac a F b q3 M) i, gce (gYo D ac a F b q3 M) (g0 M cd u f f2) i)) = moWs ac b (nI M) cd f2 := rfl
theorem gYo_F : ∀ k, (nmF k).map (fun i => (gad (gYo D ac a F b q3 M) i, gce (gYo D ac a F b q3 M) (g0 M cd u f f2) i)) = fWn ac (min M 400) (a 18) F k
  | 0 => rfl
  | k + 1 => by
    show ([(1, k), (2, k), (3, k), (4, k), (5, k)] ++ nmF k).map _ = fcell ac (min M 400) (a 18) (F k) ++ fWn ac (min M 400) (a 18) F k
    rw [List.map_append, gYo_F k]
    rfl
theorem gYo_W : gWs (gYo D ac a F b q3 M) (g0 M cd u f f2) = ((ldWs ac a (.ref (a 18)) (fun j => some (F j).1) f u M cd cd ++ fWn ac (min M 400) (a 18) F 16) ++ moWs ac b (nI M) cd f2) ++ [(q3, .inl (ac 3, 1, .inr (.inl (fun _ => 0))))] := by
  unfold gWs
  show (((nmA ++ nmF 16) ++ nmB) ++ [(60, 0)]).map _ = _
  rw [List.map_append, List.map_append, List.map_append, gYo_A, gYo_B, gYo_F]
  rfl
end
theorem arrV_eq {cA : ClassId} {n : Nat} {v w : Nat → Value} (h : ∀ j, j < n → v j = w j) : arrV cA n v = arrV cA n w := by
  have e : (fun j : Fin n => v j.val) = (fun j : Fin n => w j.val) := funext fun j => h j.val j.isLt
  unfold arrV
  rw [e]
theorem ld_g {D : va_G} {ac : Nat → ClassId} {a : Nat → Nat} {pgs : Value} {g g' : Nat → Option Nat} {f u : Nat → Int32} {M : Nat} {fc sc : Int32} {rest : va_W} {H : Heap} (h : va_P D gCl (ldWs ac a pgs g f u M fc sc ++ rest) H) (hg : ∀ j, j < 16 → g' j = g j) : va_P D gCl (ldWs ac a pgs g' f u M fc sc ++ rest) H := by
  intro k q hk
  match k with
  | 0 => exact h 0 q hk
  | 1 =>
    have e : q = (a 1, .inl (ac 4, 16, .inr (.inr (.inr (.inr g'))))) := (Option.some.inj hk).symm
    have h1 : H[a 1]? = some (vp_cell (ac 4) (16, .inr (.inr (.inr (.inr g))))) := h 1 (a 1, .inl (ac 4, 16, .inr (.inr (.inr (.inr g))))) rfl
    rw [e]
    show H[a 1]? = some (vp_cell (ac 4) (16, .inr (.inr (.inr (.inr g')))))
    rw [h1, vp_cell_q, vp_cell_q, arrV_eq (v := fun j => va_rf (g j)) (w := fun j => va_rf (g' j)) (fun j hj => by rw [hg j hj])]
  | n + 2 => exact h (n + 2) q hk
theorem ld_d {A : Nat → Prop} {ac : Nat → ClassId} {a : Nat → Nat} {pgs : Value} {g g' : Nat → Option Nat} {f u : Nat → Int32} {M : Nat} {fc sc : Int32} {rest : va_W} (h : va_D A (ldWs ac a pgs g f u M fc sc ++ rest)) : va_D A (ldWs ac a pgs g' f u M fc sc ++ rest) := by
  have key : ∀ (k : Nat) (q : Nat × va_E), (ldWs ac a pgs g' f u M fc sc ++ rest)[k]? = some q → ∃ q2 : Nat × va_E, (ldWs ac a pgs g f u M fc sc ++ rest)[k]? = some q2 ∧ q2.1 = q.1 := by
    intro k q hk
    match k with
    | 0 => exact ⟨q, hk, rfl⟩
    | 1 => exact ⟨(a 1, .inl (ac 4, 16, .inr (.inr (.inr (.inr g))))), rfl, by rw [← Option.some.inj hk]⟩
    | n + 2 => exact ⟨q, hk, rfl⟩
  refine ⟨fun i j x y hi hj hxy => ?_, fun k q hk => ?_⟩
  · obtain ⟨x2, hx, ex⟩ := key i x hi
    obtain ⟨y2, hy, ey⟩ := key j y hj
    exact h.1 i j x2 y2 hx hy (by rw [ex, ey, hxy])
  · obtain ⟨q2, hq, e⟩ := key k q hk
    rw [← e]; exact h.2 k q2 hq
/-- from the cells as they are made to the world of names -/
theorem law_world {D : va_G} {ac : Nat → ClassId} {a : Nat → Nat} {F : Nat → g5} {b : Nat → Nat} {q3 M sz : Nat} {cd : Int32} {g : Nat → Option Nat} {u f f2 : Nat → Int32} {H : Heap} (hg : ∀ j, j < 16 → g j = some (F j).1)
    (hP : va_P D gCl (((ldWs ac a (.ref (a 18)) g f u M cd cd ++ fWn ac (min M 400) (a 18) F 16) ++ moWs ac b (nI M) cd f2) ++ [(q3, .inl (ac 3, 1, .inr (.inl (fun _ => 0))))]) H)
    (hD : va_D (fun q => sz ≤ q) (((ldWs ac a (.ref (a 18)) g f u M cd cd ++ fWn ac (min M 400) (a 18) F 16) ++ moWs ac b (nI M) cd f2) ++ [(q3, .inl (ac 3, 1, .inr (.inl (fun _ => 0))))])) :
    gWd (gYo D ac a F b q3 M) (g0 M cd u f f2) H ∧ gOK (gYo D ac a F b q3 M) ∧ ∀ q, gA (gYo D ac a F b q3 M) sz q → sz ≤ q := by
  rw [List.append_assoc, List.append_assoc] at hP hD
  have hP2 := ld_g (g' := fun j => some (F j).1) hP (fun j hj => (hg j hj).symm)
  have hD2 := ld_d (g' := fun j => some (F j).1) hD
  rw [← List.append_assoc, ← List.append_assoc, ← gYo_W (q3 := q3) (b := b) (D := D)] at hP2 hD2
  have hok := nmL_ok
  rw [Bool.and_eq_true, Bool.and_eq_true, decide_eq_true_eq] at hok
  obtain ⟨⟨o1, o2⟩, o3⟩ := hok
  have at_ : ∀ i, i ∈ nmL → ∃ k : Nat, nmL[k]? = some i ∧ (gWs (gYo D ac a F b q3 M) (g0 M cd u f f2))[k]? = some (gad (gYo D ac a F b q3 M) i, gce (gYo D ac a F b q3 M) (g0 M cd u f f2) i) := fun i hi => gWs_at (Y := gYo D ac a F b q3 M) _ hi
  refine ⟨hP2, ⟨⟨o3, fun i hi j hj hij => ?_⟩, fun i => ⟨fun hi => of_decide_eq_true (List.all_eq_true.mp o1 i hi), fun hi => of_decide_eq_true (List.all_eq_true.mp o2 i hi)⟩, rfl⟩, fun q hq => ?_⟩
  · obtain ⟨k1, h1, h2⟩ := at_ i hi
    obtain ⟨k2, h3, h4⟩ := at_ j hj
    have := hD2.1 k1 k2 _ _ h2 h4 hij
    subst this
    exact Option.some.inj (h1.symm.trans h3)
  · rcases hq with ⟨i, hi, e⟩ | hq
    · obtain ⟨k1, h1, h2⟩ := at_ i hi
      rw [← e]
      exact hD2.2 k1 _ h2
    · exact hq
