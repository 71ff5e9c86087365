/-! PURE LAYER: a Bridge is copied -/
theorem FrT_w {σ : zG} {f i k : Nat} {x : Int32} (h : zlyCK.2.1 f k = 0) : FrT σ (zwI σ f i k x) := fun g j q h0 _ => by
  rw [zw_at, if_neg]
  rintro ⟨rfl, -, rfl⟩
  exact h0 h
theorem FrT_cp {σ : zG} {f i g j n : Nat} (h : ∀ k, zlyCK.2.1 g k = 0) : FrT σ (zcpI σ f i g j n) := fun g' j' q h0 _ => by
  show (if g' = g ∧ j' = j ∧ q < n then σ.1 f i q else σ.1 g' j' q) = _
  rw [if_neg]
  rintro ⟨rfl, -, -⟩
  exact h0 (h q)
theorem FrT_cpL {σ : zG} {f i g j n : Nat} : FrT σ (zcpL σ f i g j n) := fun _ _ _ _ _ => rfl
theorem FrT_wL {σ : zG} {f i k : Nat} {x : Int64} : FrT σ (zwL σ f i k x) := fun _ _ _ _ _ => rfl
def rE (p : Nat → Nat → Bool) (σ σ' : zG) : Prop := ∀ f i, p f i = false → σ'.1 f i = σ.1 f i ∧ σ'.2 f i = σ.2 f i
section PURE
variable {σ σ' s : zG} {i p b N : Nat}
theorem cpN_ok {b p : Nat} (h : b ≠ p) (σ : zG) : ∃ s, (∀ A : zG → Option zG, (zb (zwI σ 1 b 0 (σ.1 1 p 0)) (fun s1 => zb (zwI s1 1 b 1 (s1.1 1 p 1)) (fun s2 => zb (zwI s2 1 b 2 (s2.1 1 p 2)) (fun s3 => zb (zwI s3 1 b 3 (s3.1 1 p 3)) (fun s4 => zb (zwI s4 1 b 4 (s4.1 1 p 4)) (fun s5 => zb (zwI s5 1 b 5 (s5.1 1 p 5)) (fun s6 => zb (zwI s6 1 b 6 (s6.1 1 p 6)) (fun s7 => zb (zwI s7 1 b 7 (s7.1 1 p 7)) (fun s8 => zb (zwI s8 1 b 8 (s8.1 1 p 8)) (fun s9 => zb (zwI s9 1 b 9 (s9.1 1 p 9)) (fun s10 => A s10))))))))))) = A s) ∧ (∀ k, k < 10 → s.1 1 b k = σ.1 1 p k) ∧ rE (fun f i => f == 1 && i == b) σ s ∧ FrT σ s := by
  have hp : p ≠ b := fun e => h e.symm
  have st : ∀ (t : zG) (k : Nat), k < 10 → ((∀ q, q < k → t.1 1 b q = σ.1 1 p q) ∧ rE (fun f i => f == 1 && i == b) σ t ∧ FrT σ t) → ((∀ q, q < k + 1 → (zwI t 1 b k (t.1 1 p k)).1 1 b q = σ.1 1 p q) ∧ rE (fun f i => f == 1 && i == b) σ (zwI t 1 b k (t.1 1 p k)) ∧ FrT σ (zwI t 1 b k (t.1 1 p k))) := fun t k hk ⟨h1, h2, h3⟩ => by
    refine ⟨fun q hq => ?_, fun f i hf => ⟨funext fun q => ?_, (h2 f i hf).2⟩, h3.trans (FrT_w ?_)⟩
    · rw [zw_at]
      by_cases e : q = k
      · rw [if_pos ⟨rfl, rfl, e⟩, (h2 1 p (by simp; exact hp)).1, e]
      · rw [if_neg (fun z => e z.2.2)]; exact h1 q (by omega)
    · rw [zw_at, if_neg (fun z => by rw [z.1, z.2.1] at hf; simp at hf)]
      exact congrFun (h2 f i hf).1 q
    · have : k = 0 ∨ k = 1 ∨ k = 2 ∨ k = 3 ∨ k = 4 ∨ k = 5 ∨ k = 6 ∨ k = 7 ∨ k = 8 ∨ k = 9 := by omega
      rcases this with rfl | rfl | rfl | rfl | rfl | rfl | rfl | rfl | rfl | rfl <;> rfl
  have a0 := st σ 0 (by decide) ⟨fun q hq => absurd hq (Nat.not_lt_zero q), fun _ _ _ => ⟨rfl, rfl⟩, FrT.refl σ⟩
  have a1 := st _ 1 (by decide) a0
  have a2 := st _ 2 (by decide) a1
  have a3 := st _ 3 (by decide) a2
  have a4 := st _ 4 (by decide) a3
  have a5 := st _ 5 (by decide) a4
  have a6 := st _ 6 (by decide) a5
  have a7 := st _ 7 (by decide) a6
  have a8 := st _ 8 (by decide) a7
  have a9 := st _ 9 (by decide) a8
  exact ⟨_, fun A => rfl, a9⟩
theorem cp7_ok (h : i ≠ p) (σ : zG) : ((f_X7_copyFrom i p σ).1 7 i 0 = σ.1 7 p 0 ∧ ∀ j, j < 8 → (f_X7_copyFrom i p σ).1 12 i j = σ.1 12 p j ∧ (f_X7_copyFrom i p σ).1 13 i j = σ.1 13 p j ∧ (f_X7_copyFrom i p σ).1 14 i j = σ.1 14 p j) ∧ rE (fun f q => (f == 7 || (f == 12 || (f == 13 || f == 14))) && q == i) σ (f_X7_copyFrom i p σ) ∧ FrT σ (f_X7_copyFrom i p σ) := by
  have hp : p ≠ i := fun e => h e.symm
  unfold f_X7_copyFrom
  simp only [zb]
  refine ⟨⟨?_, fun j hj => ⟨?_, ?_, ?_⟩⟩, fun f q a => ⟨funext fun k => ?_, rfl⟩, (((FrT_w rfl).trans (FrT_cp fun _ => rfl)).trans (FrT_cp fun _ => rfl)).trans (FrT_cp fun _ => rfl)⟩
  · simp [zcpI, zwI, h, hp]
  · simp [zcpI, zwI, h, hp, hj]
  · simp [zcpI, zwI, h, hp, hj]
  · simp [zcpI, zwI, h, hp, hj]
  · have n1 : ∀ f0, (f0 = 7 ∨ f0 = 12 ∨ f0 = 13 ∨ f0 = 14) → ¬ (f = f0 ∧ q = i) := fun f0 h0 z => by
      rw [z.1, z.2] at a
      simp at a
      omega
    simp only [zcpI, zwI]
    rw [if_neg (fun z => n1 14 (by simp) ⟨z.1, z.2.1⟩), if_neg (fun z => n1 13 (by simp) ⟨z.1, z.2.1⟩), if_neg (fun z => n1 12 (by simp) ⟨z.1, z.2.1⟩), if_neg (fun z => n1 7 (by simp) ⟨z.1, z.2.1⟩)]
theorem cp10_ok (h : i ≠ p) (σ : zG) : ((f_X10_copyFrom i p σ).1 8 i 0 = σ.1 8 p 0 ∧ ∀ j, j < 12 → (f_X10_copyFrom i p σ).1 15 i j = σ.1 15 p j ∧ (f_X10_copyFrom i p σ).1 16 i j = σ.1 16 p j ∧ (f_X10_copyFrom i p σ).1 17 i j = σ.1 17 p j) ∧ rE (fun f q => (f == 8 || (f == 15 || (f == 16 || (f == 17 || (f == 18 || (f == 19 || f == 20)))))) && q == i) σ (f_X10_copyFrom i p σ) ∧ FrT σ (f_X10_copyFrom i p σ) := by
  have hp : p ≠ i := fun e => h e.symm
  unfold f_X10_copyFrom
  simp only [zb]
  refine ⟨⟨?_, fun j hj => ⟨?_, ?_, ?_⟩⟩, fun f q a => ⟨funext fun k => ?_, rfl⟩, ((((((FrT_w rfl).trans (FrT_cp fun _ => rfl)).trans (FrT_cp fun _ => rfl)).trans (FrT_cp fun _ => rfl)).trans (FrT_cp fun _ => rfl)).trans (FrT_cp fun _ => rfl)).trans (FrT_cp fun _ => rfl)⟩
  · simp [zcpI, zwI, h, hp]
  · simp [zcpI, zwI, h, hp, hj]
  · simp [zcpI, zwI, h, hp, hj]
  · simp [zcpI, zwI, h, hp, hj]
  · have n1 : ∀ f0, (f0 = 8 ∨ f0 = 15 ∨ f0 = 16 ∨ f0 = 17 ∨ f0 = 18 ∨ f0 = 19 ∨ f0 = 20) → ¬ (f = f0 ∧ q = i) := fun f0 h0 z => by
      rw [z.1, z.2] at a
      simp at a
      omega
    simp only [zcpI, zwI]
    rw [if_neg (fun z => n1 20 (by simp) ⟨z.1, z.2.1⟩), if_neg (fun z => n1 19 (by simp) ⟨z.1, z.2.1⟩), if_neg (fun z => n1 18 (by simp) ⟨z.1, z.2.1⟩), if_neg (fun z => n1 17 (by simp) ⟨z.1, z.2.1⟩), if_neg (fun z => n1 16 (by simp) ⟨z.1, z.2.1⟩), if_neg (fun z => n1 15 (by simp) ⟨z.1, z.2.1⟩), if_neg (fun z => n1 8 (by simp) ⟨z.1, z.2.1⟩)]
theorem cp5_ok (h : i ≠ p) (σ : zG) : ((∀ j, j < 6012 → (f_X5_copyFrom i p σ).1 21 i j = σ.1 21 p j) ∧ ∀ j, j < 501 → (f_X5_copyFrom i p σ).2 22 i j = σ.2 22 p j) ∧ rE (fun f q => (f == 21 || f == 22) && q == i) σ (f_X5_copyFrom i p σ) ∧ FrT σ (f_X5_copyFrom i p σ) := by
  have hp : p ≠ i := fun e => h e.symm
  unfold f_X5_copyFrom
  simp only [zb]
  refine ⟨⟨fun j hj => ?_, fun j hj => ?_⟩, fun f q a => ⟨funext fun k => ?_, funext fun k => ?_⟩, (FrT_cp fun _ => rfl).trans FrT_cpL⟩
  · simp [zcpI, zcpL, hj]
  · simp [zcpI, zcpL, hj]
  · have n1 : ¬ (f = 21 ∧ q = i) := fun z => by
      rw [z.1, z.2] at a
      simp at a
    simp only [zcpI, zcpL]
    rw [if_neg (fun z => n1 ⟨z.1, z.2.1⟩)]
  · have n1 : ¬ (f = 22 ∧ q = i) := fun z => by
      rw [z.1, z.2] at a
      simp at a
    simp only [zcpI, zcpL]
    rw [if_neg (fun z => n1 ⟨z.1, z.2.1⟩)]
theorem cp3_ok (h : i ≠ p) (σ : zG) : ((f_X3_copyFrom i p σ).1 10 i 0 = σ.1 10 p 0 ∧ (∀ j, j < 400 → (f_X3_copyFrom i p σ).1 23 i j = σ.1 23 p j) ∧ ∀ j, j < 16 → (f_X3_copyFrom i p σ).1 24 i j = σ.1 24 p j ∧ (f_X3_copyFrom i p σ).1 25 i j = σ.1 25 p j ∧ (f_X3_copyFrom i p σ).1 26 i j = σ.1 26 p j) ∧ rE (fun f q => (f == 10 || (f == 23 || (f == 24 || (f == 25 || f == 26)))) && q == i) σ (f_X3_copyFrom i p σ) ∧ FrT σ (f_X3_copyFrom i p σ) := by
  have hp : p ≠ i := fun e => h e.symm
  unfold f_X3_copyFrom
  simp only [zb]
  refine ⟨⟨?_, fun j hj => ?_, fun j hj => ⟨?_, ?_, ?_⟩⟩, fun f q a => ⟨funext fun k => ?_, rfl⟩, (((((FrT_w rfl).trans (FrT_w rfl)).trans (FrT_cp fun _ => rfl)).trans (FrT_cp fun _ => rfl)).trans (FrT_cp fun _ => rfl)).trans (FrT_cp fun _ => rfl)⟩
  · simp [zcpI, zwI, h, hp]
  · simp [zcpI, zwI, h, hp, hj]
  · simp [zcpI, zwI, h, hp, hj]
  · simp [zcpI, zwI, h, hp, hj]
  · simp [zcpI, zwI, h, hp, hj]
  · have n1 : ∀ f0, (f0 = 10 ∨ f0 = 23 ∨ f0 = 24 ∨ f0 = 25 ∨ f0 = 26) → ¬ (f = f0 ∧ q = i) := fun f0 h0 z => by
      rw [z.1, z.2] at a
      simp at a
      omega
    simp only [zcpI, zwI]
    rw [if_neg (fun z => n1 26 (by simp) ⟨z.1, z.2.1⟩), if_neg (fun z => n1 25 (by simp) ⟨z.1, z.2.1⟩), if_neg (fun z => n1 24 (by simp) ⟨z.1, z.2.1⟩), if_neg (fun z => n1 23 (by simp) ⟨z.1, z.2.1⟩), if_neg (fun z => n1 10 (by simp) ⟨z.1, z.2.1⟩), if_neg (fun z => n1 10 (by simp) ⟨z.1, z.2.1⟩)]
/-- a shot, copied -/
def SC (s σ : zG) (i p : Nat) : Prop := (s.1 11 i 0 = σ.1 11 p 0 ∧ s.1 11 i 1 = σ.1 11 p 1 ∧ s.1 11 i 2 = σ.1 11 p 2 ∧ s.2 11 i 3 = σ.2 11 p 3 ∧ s.2 11 i 4 = σ.2 11 p 4) ∧ ∀ c, c < 56 → s.1 29 i c = σ.1 29 p c ∧ s.1 30 i c = σ.1 30 p c
theorem cp6_ok (h : i ≠ p) (σ : zG) : SC (f_X6_copyFrom i p σ) σ i p ∧ rE (fun f q => (f == 11 || (f == 29 || f == 30)) && q == i) σ (f_X6_copyFrom i p σ) ∧ FrT σ (f_X6_copyFrom i p σ) := by
  have hp : p ≠ i := fun e => h e.symm
  unfold f_X6_copyFrom
  simp only [zb]
  refine ⟨⟨⟨?_, ?_, ?_, ?_, ?_⟩, fun j hj => ⟨?_, ?_⟩⟩, fun f q a => ⟨funext fun k => ?_, funext fun k => ?_⟩, ((((((FrT_w rfl).trans (FrT_w rfl)).trans (FrT_w rfl)).trans FrT_wL).trans FrT_wL).trans (FrT_cp fun _ => rfl)).trans (FrT_cp fun _ => rfl)⟩
  · simp [zcpI, zwI, zwL, h, hp]
  · simp [zcpI, zwI, zwL, h, hp]
  · simp [zcpI, zwI, zwL, h, hp]
  · simp [zcpI, zwI, zwL, h, hp]
  · simp [zcpI, zwI, zwL, h, hp]
  · simp [zcpI, zwI, zwL, h, hp, hj]
  · simp [zcpI, zwI, zwL, h, hp, hj]
  · have n1 : ∀ f0, (f0 = 11 ∨ f0 = 29 ∨ f0 = 30) → ¬ (f = f0 ∧ q = i) := fun f0 h0 z => by
      rw [z.1, z.2] at a
      simp at a
      omega
    simp only [zcpI, zwI, zwL]
    rw [if_neg (fun z => n1 30 (by simp) ⟨z.1, z.2.1⟩), if_neg (fun z => n1 29 (by simp) ⟨z.1, z.2.1⟩), if_neg (fun z => n1 11 (by simp) ⟨z.1, z.2.1⟩), if_neg (fun z => n1 11 (by simp) ⟨z.1, z.2.1⟩), if_neg (fun z => n1 11 (by simp) ⟨z.1, z.2.1⟩)]
  · have n1 : ¬ (f = 11 ∧ q = i) := fun z => by
      rw [z.1, z.2] at a
      simp at a
    simp only [zcpI, zwI, zwL]
    rw [if_neg (fun z => n1 ⟨z.1, z.2.1⟩), if_neg (fun z => n1 ⟨z.1, z.2.1⟩)]
/-- rows of a Bridge, with what Rel does not read -/
def rwB (b f i : Nat) : Bool := (f == 1 && i == b) || (((f == 7 || (f == 12 || (f == 13 || f == 14))) && i == 7 * b) || (((f == 8 || (f == 15 || (f == 16 || (f == 17 || (f == 18 || (f == 19 || f == 20)))))) && i == 2 * b) || (((f == 21 || (f == 22 || f == 32)) && i == b) || (((f == 10 || (f == 23 || (f == 24 || (f == 25 || f == 26)))) && (i == 3 * b || i == 3 * b + 1)) || ((f == 11 || (f == 29 || f == 30)) && (decide (10 * b ≤ i) && decide (i < 10 * b + 10)))))))
/-- Bridge b of s is Bridge p of σ -/
def CB (s σ : zG) (b p N : Nat) : Prop := (∀ k, k < 10 → s.1 1 b k = σ.1 1 p k) ∧ (s.1 7 (7 * b) 0 = σ.1 7 (7 * p) 0 ∧ ∀ j, j < 8 → s.1 12 (7 * b) j = σ.1 12 (7 * p) j ∧ s.1 13 (7 * b) j = σ.1 13 (7 * p) j ∧ s.1 14 (7 * b) j = σ.1 14 (7 * p) j) ∧ (s.1 8 (2 * b) 0 = σ.1 8 (2 * p) 0 ∧ ∀ j, j < 12 → s.1 15 (2 * b) j = σ.1 15 (2 * p) j ∧ s.1 16 (2 * b) j = σ.1 16 (2 * p) j ∧ s.1 17 (2 * b) j = σ.1 17 (2 * p) j) ∧ ((∀ j, j < 6012 → s.1 21 b j = σ.1 21 p j) ∧ ∀ j, j < 501 → s.2 22 b j = σ.2 22 p j) ∧ (∀ q, q < 2 → s.1 10 (3 * b + q) 0 = σ.1 10 (3 * p + q) 0 ∧ (∀ j, j < 400 → s.1 23 (3 * b + q) j = σ.1 23 (3 * p + q) j) ∧ ∀ j, j < 16 → s.1 24 (3 * b + q) j = σ.1 24 (3 * p + q) j ∧ s.1 25 (3 * b + q) j = σ.1 25 (3 * p + q) j ∧ s.1 26 (3 * b + q) j = σ.1 26 (3 * p + q) j) ∧ (∀ j, j < N → SC s σ (10 * b + j) (10 * p + j)) ∧ ∀ c, c < 56 → s.1 32 b c = σ.1 32 p c
end PURE
