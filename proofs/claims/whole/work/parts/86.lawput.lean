/-! PURE LAYER: another law is put: the rest stays -/
theorem trun_cong {c c' : Nat → Nat} : ∀ (m i : Nat) (S : List Bool), (∀ t, i ≤ t → t < i + m → c' t = c t) → trun c' i m S = trun c i m S
  | 0, _, _, _ => rfl
  | m + 1, i, S, h => by
    show (tstep (c' i) S).bind (trun c' (i + 1) m) = (tstep (c i) S).bind (trun c (i + 1) m)
    rw [h i (Nat.le_refl i) (by omega)]
    exact congrArg _ (funext fun S' => trun_cong m (i + 1) S' fun t h1 h2 => h t (by omega) (by omega))
def SmLw (k : Nat) (g g' : zGa) : Prop := g' (37 + k) = g (37 + k) ∧ (∀ i, i < 16 → g' (7512 + 16 * k + i) = g (7512 + 16 * k + i) ∧ g' (7544 + 16 * k + i) = g (7544 + 16 * k + i) ∧ g' (7576 + 16 * k + i) = g (7576 + 16 * k + i)) ∧ ∀ j, j < 820 → g' (7608 + 820 * k + j) = g (7608 + 820 * k + j)
section PURE
variable {σ σ' : zG} {g g' : zGa} {k kk q : Nat}
theorem smlw_at (h : SmLw k g g') : aLN g' k = aLN g k ∧ (∀ i, i < 16 → lFrom g' k i = lFrom g k i ∧ lMid g' k i = lMid g k i ∧ lTo g' k i = lTo g k i) ∧ ∀ j, j < 400 → lop g' k j = lop g k j ∧ lov g' k j = lov g k j := by
  refine ⟨congrArg Int32.toNatClampNeg h.1, fun i hi => ?_, fun j hj => ?_⟩
  · obtain ⟨a, b, c⟩ := h.2.1 i hi
    exact ⟨congrArg Int32.toNatClampNeg a, congrArg Int32.toNatClampNeg b, congrArg Int32.toNatClampNeg c⟩
  · have a := h.2.2 (2 * j) (by omega)
    have b := h.2.2 (2 * j + 1) (by omega)
    refine ⟨congrArg Int32.toNatClampNeg a, ?_⟩
    unfold lov
    rw [Nat.add_assoc, b]
theorem lwi_cong (h : SmLw k g g') (hL : LawI g k) : LawI g' k := by
  obtain ⟨e1, e2, e3⟩ := smlw_at h
  unfold LawI at hL ⊢
  rw [e1, h.1]
  refine ⟨hL.1, fun i hi => ?_⟩
  have hi16 : i < 16 := by have := hL.1.2; omega
  obtain ⟨f1, f2, f3⟩ := e2 i hi16
  obtain ⟨x1, x2, x3⟩ := h.2.1 i hi16
  obtain ⟨a, b, c, d, e⟩ := hL.2 i hi
  rw [f1, f2, f3, x1, x2, x3]
  refine ⟨a, b, fun j h1 h2 => ?_, ?_, ?_⟩
  · have hj : j < 400 := by omega
    have y1 := h.2.2 (2 * j) (by omega)
    have y2 : g' (7608 + 820 * k + 2 * j + 1) = g (7608 + 820 * k + 2 * j + 1) := h.2.2 (2 * j + 1) (by omega)
    rw [(e3 j hj).1, (e3 j hj).2, y1, y2]
    exact c j h1 h2
  · rw [trun_cong _ _ _ (fun t h1 h2 => (e3 t (by omega)).1)]
    exact d
  · rcases e with e | e
    · exact Or.inl e
    · right
      rw [trun_cong _ _ _ (fun t h1 h2 => (e3 t (by omega)).1)]
      exact e
theorem rlw_cong (h : SmLw k g g') (hL : LawI g k) (hr : RLw σ q g k) (hs : ∀ f, (f = 10 ∨ f = 23 ∨ f = 24 ∨ f = 25 ∨ f = 26) → σ'.1 f q = σ.1 f q) : RLw σ' q g' k := by
  obtain ⟨e1, e2, e3⟩ := smlw_at h
  unfold RLw at hr ⊢
  rw [e1, h.1, hs 10 (by simp), hs 23 (by simp), hs 24 (by simp), hs 25 (by simp), hs 26 (by simp)]
  refine ⟨hr.1, fun i hi => ?_⟩
  have hi16 : i < 16 := by have := hL.1.2; omega
  obtain ⟨f1, f2, f3⟩ := e2 i hi16
  obtain ⟨x1, x2, x3⟩ := h.2.1 i hi16
  obtain ⟨a, b, c, d⟩ := hr.2 i hi
  have b4 := (hL.2 i hi).2.1
  rw [f1, f3, x1, x2, x3]
  refine ⟨a, b, c, fun j h1 h2 => ?_⟩
  have hj : j < 400 := by omega
  rw [(e3 j hj).1, (e3 j hj).2]
  exact d j h1 h2
theorem lrg_out (hkk : kk < 2) (hk : k < 2) (hne : k ≠ kk) (h : ∀ j, ¬ lrg kk j → g' j = g j) : SmLw k g g' := by
  refine ⟨h _ (by unfold lrg; omega), fun i hi => ⟨h _ (by unfold lrg; omega), h _ (by unfold lrg; omega), h _ (by unfold lrg; omega)⟩, fun j hj => h _ (by unfold lrg; omega)⟩
end PURE
