/-! PURE LAYER: text, a law -/
section PURE
variable {σ σ' σc σm sc sm : zG} {B : Nat → Nat} {n T k kk : Nat}
theorem c_copyLaw (hkk : kk < 2) (σ : zG) : (f_X3_copyFrom kk 2 σ).1 10 kk 0 = σ.1 10 2 0 ∧ (∀ j, j < 400 → (f_X3_copyFrom kk 2 σ).1 23 kk j = σ.1 23 2 j) ∧ (∀ i, i < 16 → (f_X3_copyFrom kk 2 σ).1 24 kk i = σ.1 24 2 i ∧ (f_X3_copyFrom kk 2 σ).1 25 kk i = σ.1 25 2 i ∧ (f_X3_copyFrom kk 2 σ).1 26 kk i = σ.1 26 2 i) ∧ FrA (fun f i _ => (f == 10 || (f == 23 || (f == 24 || (f == 25 || f == 26)))) && i == kk) σ (f_X3_copyFrom kk 2 σ) := by
  have h2 : (2 : Nat) ≠ kk := by omega
  have h2' : kk ≠ 2 := by omega
  unfold f_X3_copyFrom
  simp only [zb]
  refine ⟨?_, fun j hj => ?_, fun i hi => ⟨?_, ?_, ?_⟩, ⟨fun f i k a => ?_, rfl⟩⟩
  · simp [zcpI, zwI, h2, h2']
  · simp [zcpI, zwI, h2, h2', hj]
  · simp [zcpI, zwI, h2, h2', hi]
  · simp [zcpI, zwI, h2, h2', hi]
  · simp [zcpI, zwI, h2, h2', hi]
  · simp at a
    have n1 : ∀ f0, (f0 = 10 ∨ f0 = 23 ∨ f0 = 24 ∨ f0 = 25 ∨ f0 = 26) → ¬ (f = f0 ∧ i = kk) := fun f0 h0 z => by
      rw [z.1] at a
      exact a (by omega) z.2
    have m10 := n1 10 (by simp)
    have m23 := n1 23 (by simp)
    have m24 := n1 24 (by simp)
    have m25 := n1 25 (by simp)
    have m26 := n1 26 (by simp)
    simp only [zcpI, zwI]
    rw [if_neg (fun z => m26 ⟨z.1, z.2.1⟩), if_neg (fun z => m25 ⟨z.1, z.2.1⟩), if_neg (fun z => m24 ⟨z.1, z.2.1⟩), if_neg (fun z => m23 ⟨z.1, z.2.1⟩), if_neg (fun z => m10 ⟨z.1, z.2.1⟩), if_neg (fun z => m10 ⟨z.1, z.2.1⟩)]
end PURE
