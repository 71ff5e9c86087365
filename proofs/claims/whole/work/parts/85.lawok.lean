/-! PURE LAYER: the law that was put is good -/
theorem lwC_v {s : Nat} (h0 : s ≠ 0) (h26 : s ≠ 26) (v v' : Nat) : lwC s v = lwC s v' := by
  unfold lwC
  split <;> first | rfl | (exfalso; omega)
theorem trun_trl (c : Nat → Nat) : ∀ (V : List (Nat × Nat)) (i : Nat) (S : List Bool), (∀ t, t < V.length → c (i + t) = (V.getD t (0, 0)).1) → trun c i V.length S = trl V S
  | [], _, _, _ => rfl
  | x :: V, i, S, h => by
    show (tstep (c i) S).bind (trun c (i + 1) V.length) = (tstep x.1 S).bind (trl V)
    have h0 : c i = x.1 := h 0 (Nat.succ_pos _)
    rw [h0]
    refine congrArg _ (funext fun S' => trun_trl c V (i + 1) S' fun t ht => ?_)
    have := h (t + 1) (Nat.succ_lt_succ ht)
    rw [show i + 1 + t = i + (t + 1) by omega]
    exact this
theorem getD_mid {A V R : List (Nat × Nat)} {t : Nat} (h : t < V.length) : (A ++ (V ++ R)).getD (A.length + t) (0, 0) = V.getD t (0, 0) := by
  rw [List.getD_eq_getElem?_getD, List.getD_eq_getElem?_getD, List.getElem?_append_right (by omega), show A.length + t - A.length = t by omega, List.getElem?_append_left h]
theorem gl_le {L : List (Nat × Nat)} {x : Nat × Nat × Nat} (h : GL L x) : x.1 ≤ x.2.1 ∧ x.2.1 ≤ x.2.2 ∧ x.2.2 ≤ L.length := by
  obtain ⟨A, V, C, D, e, h1, h2, h3, -⟩ := h
  rw [e, List.length_append, List.length_append, List.length_append]
  omega
section PURE
variable {σ σ' sc sm : zG} {kk : Nat} {L : List (Nat × Nat)} {X : List (Nat × Nat × Nat)} {g : zGa}
theorem law_ok (hX16 : X.length ≤ 16) (hL : L.length ≤ 400) (hG : ∀ x ∈ X, GL L x) (hok : ∀ x ∈ L, lwOk kk x.1 x.2) (hc : LNc sc X) (hco : ORc sc L) (hm : LNf sm X) (hmo : ORm sm L) (g1 : g (37 + kk) = nI X.length) (g2 : ∀ i, i < X.length → g (7512 + 16 * kk + i) = sm.1 4 0 (3 * i) ∧ g (7544 + 16 * kk + i) = sm.1 4 0 (3 * i + 1) ∧ g (7576 + 16 * kk + i) = sm.1 4 0 (3 * i + 2)) (g3 : ∀ j, j < 2 * L.length → g (7608 + 820 * kk + j) = sm.1 5 0 j)
    {q : Nat} (c1 : σ.1 10 q 0 = sc.1 10 2 0) (c2 : ∀ j, j < 400 → σ.1 23 q j = sc.1 23 2 j) (c3 : ∀ i, i < 16 → σ.1 24 q i = sc.1 24 2 i ∧ σ.1 25 q i = sc.1 25 2 i ∧ σ.1 26 q i = sc.1 26 2 i) : LawI g kk ∧ RLw σ q g kk := by
  have eN : aLN g kk = X.length := by unfold aLN; rw [g1, nI_clamp (by omega)]
  have hx : ∀ i, i < X.length → GL L (X.getD i l0) := fun i hi => hG _ (by
    rw [List.getD_eq_getElem?_getD, List.getElem?_eq_getElem hi]
    exact List.getElem_mem hi)
  have f1 : ∀ i, i < X.length → g (7512 + 16 * kk + i) = nI (X.getD i l0).1 ∧ g (7544 + 16 * kk + i) = nI (X.getD i l0).2.1 ∧ g (7576 + 16 * kk + i) = nI (X.getD i l0).2.2 := fun i hi => by
    obtain ⟨a, b, c⟩ := g2 i hi
    obtain ⟨x, y, z⟩ := hm i hi
    exact ⟨a.trans x, b.trans y, c.trans z⟩
  have f2 : ∀ i, i < X.length → lFrom g kk i = (X.getD i l0).1 ∧ lMid g kk i = (X.getD i l0).2.1 ∧ lTo g kk i = (X.getD i l0).2.2 := fun i hi => by
    obtain ⟨a, b, c⟩ := f1 i hi
    have := gl_le (hx i hi)
    unfold lFrom lMid lTo
    rw [a, b, c, nI_clamp (by omega), nI_clamp (by omega), nI_clamp (by omega)]
    exact ⟨rfl, rfl, rfl⟩
  have o1 : ∀ j, j < L.length → lwOk kk (L.getD j (0, 0)).1 (L.getD j (0, 0)).2 := fun j hj => hok _ (by
    rw [List.getD_eq_getElem?_getD, List.getElem?_eq_getElem hj]
    exact List.getElem_mem hj)
  have o2 : ∀ j, j < L.length → g (7608 + 820 * kk + 2 * j) = nI (L.getD j (0, 0)).1 ∧ ((L.getD j (0, 0)).1 = 0 ∨ (L.getD j (0, 0)).1 = 26 → g (7608 + 820 * kk + 2 * j + 1) = nI (L.getD j (0, 0)).2) := fun j hj => by
    have e1 := g3 (2 * j) (by omega)
    have e2 := g3 (2 * j + 1) (by omega)
    obtain ⟨a, b⟩ := hmo.2 j hj
    exact ⟨e1.trans a, fun z => by rw [Nat.add_assoc]; exact e2.trans (b z)⟩
  have ls : ∀ j, j < L.length → (L.getD j (0, 0)).1 ≤ 32 := fun j hj => by
    have := o1 j hj
    unfold lwOk at this
    omega
  have o3 : ∀ j, j < L.length → lop g kk j = (L.getD j (0, 0)).1 := fun j hj => by
    have := ls j hj
    unfold lop
    rw [(o2 j hj).1, nI_clamp (by omega)]
  have o4 : ∀ j, j < L.length → ((L.getD j (0, 0)).1 = 0 ∨ (L.getD j (0, 0)).1 = 26) → lov g kk j = (L.getD j (0, 0)).2 ∧ g (7608 + 820 * kk + 2 * j + 1) = nI (L.getD j (0, 0)).2 := fun j hj z => by
    have := o1 j hj
    have e := (o2 j hj).2 z
    refine ⟨?_, e⟩
    unfold lov
    unfold lwOk at this
    rw [e, nI_clamp (by omega)]
  have o5 : ∀ j, j < L.length → lwC (lop g kk j) (lov g kk j) = lwC (L.getD j (0, 0)).1 (L.getD j (0, 0)).2 := fun j hj => by
    rw [o3 j hj]
    by_cases z : (L.getD j (0, 0)).1 = 0 ∨ (L.getD j (0, 0)).1 = 26
    · rw [(o4 j hj z).1]
    · exact lwC_v (fun y => z (Or.inl y)) (fun y => z (Or.inr y)) _ _
  have sg : ∀ (A V R : List (Nat × Nat)), L = A ++ (V ++ R) → trun (lop g kk) A.length V.length [] = trl V [] := fun A V R e => trun_trl _ V A.length [] fun t ht => by
    have hlt : A.length + t < L.length := by rw [e, List.length_append, List.length_append]; omega
    rw [o3 _ hlt, e, getD_mid ht]
  refine ⟨⟨⟨by rw [eN]; exact g1, by rw [eN]; exact hX16⟩, fun i hi => ?_⟩, ?_, fun i hi => ?_⟩
  · rw [eN] at hi
    obtain ⟨a, b, c⟩ := f1 i hi
    obtain ⟨x, y, z⟩ := f2 i hi
    have hl := gl_le (hx i hi)
    rw [x, y, z]
    refine ⟨⟨a, b, c⟩, ⟨hl.1, hl.2.1, by omega⟩, fun j h1 h2 => ?_, ?_, ?_⟩
    · have hj : j < L.length := by omega
      have hok' := o1 j hj
      rw [o3 j hj]
      refine ⟨(o2 j hj).1, ?_, fun w => ?_⟩
      · by_cases w : (L.getD j (0, 0)).1 = 0 ∨ (L.getD j (0, 0)).1 = 26
        · rw [(o4 j hj w).1]; exact hok'
        · unfold lwOk at hok' ⊢
          omega
      · rw [(o4 j hj w).1]; exact (o4 j hj w).2
    · obtain ⟨A, V, C, D, e, h1, h2, h3, h4, h5⟩ := hx i hi
      rw [h2, h1, show A.length + V.length - A.length = V.length by omega, sg A V (C ++ D) e]
      exact h4
    · obtain ⟨A, V, C, D, e, h1, h2, h3, h4, h5⟩ := hx i hi
      rcases h5 with h5 | h5
      · left
        rw [h3, h5]; rfl
      · right
        have e' : L = (A ++ V) ++ (C ++ D) := by rw [e, List.append_assoc]
        have hv : (X.getD i l0).2.1 = (A ++ V).length := by rw [h2, h1, List.length_append]
        rw [h3, hv, show (A ++ V).length + C.length - (A ++ V).length = C.length by omega, sg (A ++ V) C D e']
        exact h5
  · rw [c1, hc.1, g1]
  · rw [eN] at hi
    obtain ⟨a, b, c⟩ := f1 i hi
    obtain ⟨x, y, z⟩ := f2 i hi
    obtain ⟨p1, p2, p3⟩ := c3 i (by omega)
    obtain ⟨r1, r2, r3⟩ := hc.2 i hi
    have hl := gl_le (hx i hi)
    refine ⟨by rw [p1, r1, a], by rw [p2, r2, b], by rw [p3, r3, c], fun j h1 h2 => ?_⟩
    rw [z] at h2
    have hj : j < L.length := by omega
    rw [c2 j (by omega), hco.2 j hj, o5 j hj]
end PURE
