/-! Constructors: a call on the cell that was made last. -/
theorem gj_app {w w2 : va_W} {k : Nat} {q : Nat × va_E} (h : w[k]? = some q) : (w ++ w2)[k]? = some q := by
  rw [List.getElem?_append_left (List.getElem?_eq_some_iff.mp h).1]; exact h
theorem gj_at (w : va_W) (x : Nat × va_E) : (w ++ [x])[w.length]? = some x := by
  rw [List.getElem?_append_right (Nat.le_refl _), Nat.sub_self]; rfl
theorem gj_one {x q : Nat × va_E} {k : Nat} (h : ([x] : va_W)[k]? = some q) : k = 0 ∧ q = x := by
  have hk : k < 1 := (List.getElem?_eq_some_iff.mp h).1
  have h0 : k = 0 := by omega
  subst h0
  exact ⟨rfl, (Option.some.inj h).symm⟩
theorem gj_P {D : va_G} {cl : List vw_C} {w : va_W} {x : Nat × va_E} {H : Heap} (hP : va_P D cl (w ++ [x]) H) : va_P D cl [x] H := fun k q hk => by
  rw [(gj_one hk).2]
  exact hP w.length x (gj_at w x)
theorem gj_D {A : Nat → Prop} {x : Nat × va_E} (hA : A x.1) : va_D A [x] := ⟨fun i j p q hi hj _ => by rw [(gj_one hi).1, (gj_one hj).1], fun k q hk => by rw [(gj_one hk).2]; exact hA⟩
theorem gj_F {A : Nat → Prop} {w : va_W} {x : Nat × va_E} {H0 H : Heap} {locs : List Loc} (hD : va_D A (w ++ [x])) (hS : va_S A H0 H locs) (hA : ∀ q, H0.size ≤ q → A q) : ∀ q, va_A [x] H.size q → A q := by
  intro q h
  rcases h with ⟨k, e, h⟩ | h
  · have h2 := (gj_one h).2
    have := hD.2 w.length x (gj_at w x)
    rw [← h2] at this; exact this
  · exact hA q (Nat.le_trans hS.1 h)
theorem gj_join {A : Nat → Prop} {D : va_G} {cl : List vw_C} {w w1 : va_W} {x : Nat × va_E} {H H1 : Heap} (hP : va_P D cl (w ++ [x]) H) (hD : va_D A (w ++ [x]))
    (hk : ∀ q : Nat, q < H.size → ¬ va_A [x] H.size q → H1[q]? = H[q]?) (hF : ∀ q, va_A [x] H.size q → A q) (hP1 : va_P D cl w1 H1) (hD1 : va_D (va_A [x] H.size) w1) : va_P D cl (w ++ w1) H1 ∧ va_D A (w ++ w1) := by
  have apart : ∀ (k : Nat) (q : Nat × va_E), w[k]? = some q → q.1 < H.size ∧ ¬ va_A [x] H.size q.1 := by
    intro k q hq
    have hl := (hP k q (gj_app hq)).lt
    refine ⟨hl, fun h => ?_⟩
    rcases h with ⟨k2, e, h⟩ | h
    · have h2 := (gj_one h).2
      have hij := hD.1 k w.length q x (gj_app hq) (gj_at w x) (by rw [← h2])
      have := (List.getElem?_eq_some_iff.mp hq).1
      omega
    · omega
  refine ⟨va_P.app (fun k q hq => ?_) hP1, va_D.app ⟨fun i j p q hi hj h => hD.1 i j p q (gj_app hi) (gj_app hj) h, fun k q hk => hD.2 k q (gj_app hk)⟩ (hD1.weaken (fun k q _ h => hF q.1 h)) (fun i j a b ha hb hab => ?_)⟩
  · obtain ⟨g1, g2⟩ := apart k q hq
    exact (hP k q (gj_app hq)).kept (hk q.1 g1 g2)
  · exact (apart i a ha).2 (by rw [hab]; exact hD1.2 j b hb)
section
variable {p : Program} {l : Launch} {e : Env} {R : Room} {s : State} {m : MethodId} {args : Array Value} {below : List Frame} {meth : Method} {c : Code} {H : Heap} {locs : List Loc} {cells slots mc ms : Nat} {Q : State → Prop}
variable {pc : Nat} {ls : Array Slot} {st0 rest : List Value} {D : va_G} {A : Nat → Prop} {w : va_W} {x : Nat × va_E}
theorem gc_init {σ : Type} {post : σ → Prop} {B : σ → State → Prop} {a : Array Value} (hr : va_Run p l e R s m args below meth c H locs cells slots mc ms (F0 m pc ls st0) rest (va_Qv post B (va_A [x] H.size) a) (va_A [x] H.size)) (w1 : σ → va_W) (hB : ∀ u t, B u t → va_P D gCl (w1 u) t.heap ∧ va_D (va_A [x] H.size) (w1 u)) (hP : va_P D gCl (w ++ [x]) H) (hD : va_D A (w ++ [x])) (hS : va_S A s.heap H locs) (hA : ∀ q, s.heap.size ≤ q → A q)
    (kk : ∀ (u : σ) (H1 : Heap) (locs1 : List Loc), post u → va_P D gCl (w ++ w1 u) H1 → va_D A (w ++ w1 u) → va_S A s.heap H1 locs1 → W p l e R s m args below meth c H1 locs1 (cells + mc) (slots + ms) Q (F0 m (pc + 3) ls rest)) : W p l e R s m args below meth c H locs cells slots Q (F0 m pc ls st0) := by
  have hF := gj_F hD hS hA
  refine va_callv hr hS (fun q _ h => hF q h) hF (fun u t H1 locs1 ht hvm hpost hb hz hk hS1 => ?_)
  obtain ⟨hP1, hD1⟩ := hB u t hb
  rw [ht] at hP1
  obtain ⟨hP2, hD2⟩ := gj_join hP hD hk hF hP1 hD1
  exact kk u H1 locs1 hpost hP2 hD2 hS1
end
