/-! PURE LAYER: a whole Bridge is copied -/
theorem rE.mono {p q : Nat → Nat → Bool} {σ σ' : zG} (h : rE p σ σ') (hm : ∀ f i, q f i = false → p f i = false) : rE q σ σ' := fun f i a => h f i (hm f i a)
theorem rE.trans {p : Nat → Nat → Bool} {a b c : zG} (h : rE p a b) (h2 : rE p b c) : rE p a c := fun f i hp => ⟨((h2 f i hp).1).trans (h f i hp).1, ((h2 f i hp).2).trans (h f i hp).2⟩
theorem rE_cp {σ : zG} {f i g j n : Nat} : rE (fun f' i' => f' == g && i' == j) σ (zcpI σ f i g j n) := fun f' i' hp => by
  refine ⟨funext fun k' => ?_, rfl⟩
  show (if f' = g ∧ i' = j ∧ k' < n then σ.1 f i k' else σ.1 f' i' k') = _
  rw [if_neg]
  rintro ⟨rfl, rfl, -⟩
  simp at hp
section PURE
variable {σ σ' s P : zG} {i p b N : Nat}
theorem SC.ext {s' : zG} (h : SC s σ i p) (h1 : s'.1 11 i = s.1 11 i) (h2 : s'.2 11 i = s.2 11 i) (h3 : s'.1 29 i = s.1 29 i) (h4 : s'.1 30 i = s.1 30 i) : SC s' σ i p := by
  unfold SC at h ⊢
  rw [h1, h2, h3, h4]
  exact h
theorem SC.src {σ' : zG} (h : SC s σ i p) (h1 : σ'.1 11 p = σ.1 11 p) (h2 : σ'.2 11 p = σ.2 11 p) (h3 : σ'.1 29 p = σ.1 29 p) (h4 : σ'.1 30 p = σ.1 30 p) : SC s σ' i p := by
  unfold SC at h ⊢
  rw [h1, h2, h3, h4]
  exact h
def arS1 (b f i : Nat) : Bool := (f == 11 || (f == 29 || f == 30)) && (decide (10 * b ≤ i) && decide (i < 10 * b + 10))
theorem cp_shots (hb : b + p = 1) (hN : N ≤ 10) (h9 : P.1 1 b 9 = nI N) : ∃ s, zlp (fun q : Int32 × zG => b_X1_copyFrom_137 b p q.1 q.2) ((0 : Int32), P) = some s ∧ (∀ j, j < N → SC s P (10 * b + j) (10 * p + j)) ∧ rE (arS1 b) P s ∧ FrT P s := by
  refine zlp_run (f := fun q : Int32 × zG => b_X1_copyFrom_137 b p q.1 q.2) N (fun v q => q.1 = nI v ∧ (∀ j, j < v → SC q.2 P (10 * b + j) (10 * p + j)) ∧ rE (arS1 b) P q.2 ∧ FrT P q.2) (fun s => (∀ j, j < N → SC s P (10 * b + j) (10 * p + j)) ∧ rE (arS1 b) P s ∧ FrT P s) ⟨rfl, fun j hj => absurd hj (Nat.not_lt_zero j), fun _ _ _ => ⟨rfl, rfl⟩, FrT.refl P⟩ ?_ ?_
  · rintro v hv ⟨i, s⟩ ⟨hi, o1, o2, o3⟩
    right
    have hi' : i = nI v := hi
    subst hi'
    have o2' : rE (arS1 b) P s := o2
    have s9 : s.1 1 b 9 = nI N := by rw [(o2' 1 b rfl).1]; exact h9
    obtain ⟨t1, t2, t3⟩ := cp6_ok (i := 10 * b + v) (p := 10 * p + v) (by omega) s
    have src : ∀ f, arS1 b f (10 * p + v) = false := fun f => by unfold arS1; simp; omega
    refine ⟨(nI (v + 1), f_X6_copyFrom (10 * b + v) (10 * p + v) s), ?_, rfl, fun j hj => ?_, o2'.trans (t2.mono fun f i a => ?_), FrT.trans o3 t3⟩
    · show b_X1_copyFrom_137 b p (nI v) s = _
      unfold b_X1_copyFrom_137
      rw [s9, if_pos (nI_lt hv (by omega)), if_pos (show nI v < (10 : Int32) from nI_lt (b := 10) (by omega) (by decide)), zin_ok (show v < 10 by omega) (by decide), nI_clamp (show v < 2 ^ 31 by omega), nI_1]
      rfl
    · show SC (f_X6_copyFrom (10 * b + v) (10 * p + v) s) P (10 * b + j) (10 * p + j)
      by_cases e : j = v
      · rw [e]
        exact t1.src (o2' 11 _ (src 11)).1.symm (o2' 11 _ (src 11)).2.symm (o2' 29 _ (src 29)).1.symm (o2' 30 _ (src 30)).1.symm
      · have ne : ∀ f, ((f == 11 || (f == 29 || f == 30)) && (10 * b + j == 10 * b + v)) = false := fun f => by simp; omega
        exact (o1 j (by omega)).ext (t2 11 _ (ne 11)).1 (t2 11 _ (ne 11)).2 (t2 29 _ (ne 29)).1 (t2 30 _ (ne 30)).1
    · unfold arS1 at a
      simp at a ⊢
      intro h e
      have := a h
      omega
  · rintro ⟨i, s⟩ ⟨hi, o1, o2, o3⟩
    have hi' : i = nI N := hi
    subst hi'
    refine ⟨s, ?_, o1, o2, o3⟩
    have s9 : s.1 1 b 9 = nI N := by rw [(o2 1 b rfl).1]; exact h9
    show b_X1_copyFrom_137 b p (nI N) s = _
    unfold b_X1_copyFrom_137
    rw [s9, if_neg (nI_nlt (Nat.le_refl N) (by omega))]
theorem c_copyB (hb : b + p = 1) (hN : N ≤ 10) (h9 : σ.1 1 p 9 = nI N) : ∃ s, f_X1_copyFrom b p σ = some s ∧ CB s σ b p N ∧ rE (rwB b) σ s ∧ FrT σ s := by
  obtain ⟨s0, e0, n1, n2, n3⟩ := cpN_ok (b := b) (p := p) (by omega) σ
  have eq : f_X1_copyFrom b p σ = _ := e0 (fun s10 => zb (f_X7_copyFrom (7 * b) (7 * p) s10) (fun s11 => zb (f_X10_copyFrom (2 * b) (2 * p) s11) (fun s12 => zb (f_X5_copyFrom b p s12) (fun s13 => zb (f_X3_copyFrom (3 * b) (3 * p) s13) (fun s14 => zb (f_X3_copyFrom (3 * b + 1) (3 * p + 1) s14) (fun s15 => (zlp (fun q : Int32 × zG => b_X1_copyFrom_137 b p q.1 q.2) ((0 : Int32), s15)).bind (fun e19 : zG => j_X1_copyFrom_172 p b e19)))))))
  rw [eq]
  simp only [zb]
  obtain ⟨⟨a1, a2⟩, a3, a4⟩ := cp7_ok (i := 7 * b) (p := 7 * p) (by omega) s0
  generalize f_X7_copyFrom (7 * b) (7 * p) s0 = s1 at a1 a2 a3 a4 ⊢
  obtain ⟨⟨b1, b2⟩, b3, b4⟩ := cp10_ok (i := 2 * b) (p := 2 * p) (by omega) s1
  generalize f_X10_copyFrom (2 * b) (2 * p) s1 = s2 at b1 b2 b3 b4 ⊢
  obtain ⟨⟨c1, c2⟩, c3, c4⟩ := cp5_ok (i := b) (p := p) (by omega) s2
  generalize f_X5_copyFrom b p s2 = s3 at c1 c2 c3 c4 ⊢
  obtain ⟨⟨d0, d1, d2⟩, d3, d4⟩ := cp3_ok (i := 3 * b) (p := 3 * p) (by omega) s3
  generalize f_X3_copyFrom (3 * b) (3 * p) s3 = s4 at d0 d1 d2 d3 d4 ⊢
  obtain ⟨⟨e0', e1, e2⟩, e3, e4⟩ := cp3_ok (i := 3 * b + 1) (p := 3 * p + 1) (by omega) s4
  generalize f_X3_copyFrom (3 * b + 1) (3 * p + 1) s4 = s5 at e0' e1 e2 e3 e4 ⊢
  have u9 : s5.1 1 b 9 = nI N := by rw [(e3 1 b rfl).1, (d3 1 b rfl).1, (c3 1 b rfl).1, (b3 1 b rfl).1, (a3 1 b rfl).1, n1 9 (by decide)]; exact h9
  obtain ⟨s6, f0, f1, f3, f4⟩ := cp_shots hb hN u9
  rw [f0, Option.bind_some]
  unfold j_X1_copyFrom_172
  simp only [zb]
  have z32 : ∀ c, c < 56 → (zcpI s6 32 p 32 b 56).1 32 b c = s6.1 32 p c := fun c hc => by
    show (if 32 = 32 ∧ b = b ∧ c < 56 then s6.1 32 p c else s6.1 32 b c) = _
    rw [if_pos ⟨rfl, rfl, hc⟩]
  have g3 : rE (fun f' i' => f' == 32 && i' == b) s6 (zcpI s6 32 p 32 b 56) := rE_cp
  have g4 : FrT s6 (zcpI s6 32 p 32 b 56) := FrT_cp fun _ => rfl
  generalize zcpI s6 32 p 32 b 56 = s7 at z32 g3 g4 ⊢
  have q3 : ∀ f, ((f == 10 || (f == 23 || (f == 24 || (f == 25 || f == 26)))) && 3 * b == 3 * b + 1) = false := fun f => by simp
  have q4 : ∀ f, ((f == 10 || (f == 23 || (f == 24 || (f == 25 || f == 26)))) && 3 * p + 1 == 3 * b) = false := fun f => by simp; omega
  refine ⟨s7, rfl, ⟨fun k hk => ?_, ⟨?_, fun j hj => ?_⟩, ⟨?_, fun j hj => ?_⟩, ⟨fun j hj => ?_, fun j hj => ?_⟩, fun q hq => ?_, fun j hj => ?_, fun c hc => ?_⟩, ?_, ((((((n3.trans a4).trans b4).trans c4).trans d4).trans e4).trans f4).trans g4⟩
  · rw [(g3 1 b rfl).1, (f3 1 b rfl).1, (e3 1 b rfl).1, (d3 1 b rfl).1, (c3 1 b rfl).1, (b3 1 b rfl).1, (a3 1 b rfl).1]
    exact n1 k hk
  · rw [(g3 7 _ rfl).1, (f3 7 _ rfl).1, (e3 7 _ rfl).1, (d3 7 _ rfl).1, (c3 7 _ rfl).1, (b3 7 _ rfl).1, a1, (n2 7 _ rfl).1]
  · obtain ⟨x, y, z⟩ := a2 j hj
    rw [(g3 12 _ rfl).1, (f3 12 _ rfl).1, (e3 12 _ rfl).1, (d3 12 _ rfl).1, (c3 12 _ rfl).1, (b3 12 _ rfl).1, x, (n2 12 _ rfl).1, (g3 13 _ rfl).1, (f3 13 _ rfl).1, (e3 13 _ rfl).1, (d3 13 _ rfl).1, (c3 13 _ rfl).1, (b3 13 _ rfl).1, y, (n2 13 _ rfl).1, (g3 14 _ rfl).1, (f3 14 _ rfl).1, (e3 14 _ rfl).1, (d3 14 _ rfl).1, (c3 14 _ rfl).1, (b3 14 _ rfl).1, z, (n2 14 _ rfl).1]
    exact ⟨rfl, rfl, rfl⟩
  · rw [(g3 8 _ rfl).1, (f3 8 _ rfl).1, (e3 8 _ rfl).1, (d3 8 _ rfl).1, (c3 8 _ rfl).1, b1, (a3 8 _ rfl).1, (n2 8 _ rfl).1]
  · obtain ⟨x, y, z⟩ := b2 j hj
    rw [(g3 15 _ rfl).1, (f3 15 _ rfl).1, (e3 15 _ rfl).1, (d3 15 _ rfl).1, (c3 15 _ rfl).1, x, (a3 15 _ rfl).1, (n2 15 _ rfl).1, (g3 16 _ rfl).1, (f3 16 _ rfl).1, (e3 16 _ rfl).1, (d3 16 _ rfl).1, (c3 16 _ rfl).1, y, (a3 16 _ rfl).1, (n2 16 _ rfl).1, (g3 17 _ rfl).1, (f3 17 _ rfl).1, (e3 17 _ rfl).1, (d3 17 _ rfl).1, (c3 17 _ rfl).1, z, (a3 17 _ rfl).1, (n2 17 _ rfl).1]
    exact ⟨rfl, rfl, rfl⟩
  · rw [(g3 21 _ rfl).1, (f3 21 _ rfl).1, (e3 21 _ rfl).1, (d3 21 _ rfl).1, c1 j hj, (b3 21 _ rfl).1, (a3 21 _ rfl).1, (n2 21 _ rfl).1]
  · rw [(g3 22 _ rfl).2, (f3 22 _ rfl).2, (e3 22 _ rfl).2, (d3 22 _ rfl).2, c2 j hj, (b3 22 _ rfl).2, (a3 22 _ rfl).2, (n2 22 _ rfl).2]
  · have hq2 : q = 0 ∨ q = 1 := by omega
    rcases hq2 with rfl | rfl
    · rw [Nat.add_zero, Nat.add_zero]
      refine ⟨?_, fun j hj => ?_, fun j hj => ?_⟩
      · rw [(g3 10 _ rfl).1, (f3 10 _ rfl).1, (e3 10 _ (q3 10)).1, d0, (c3 10 _ rfl).1, (b3 10 _ rfl).1, (a3 10 _ rfl).1, (n2 10 _ rfl).1]
      · rw [(g3 23 _ rfl).1, (f3 23 _ rfl).1, (e3 23 _ (q3 23)).1, d1 j hj, (c3 23 _ rfl).1, (b3 23 _ rfl).1, (a3 23 _ rfl).1, (n2 23 _ rfl).1]
      · obtain ⟨x, y, z⟩ := d2 j hj
        rw [(g3 24 _ rfl).1, (f3 24 _ rfl).1, (e3 24 _ (q3 24)).1, x, (c3 24 _ rfl).1, (b3 24 _ rfl).1, (a3 24 _ rfl).1, (n2 24 _ rfl).1, (g3 25 _ rfl).1, (f3 25 _ rfl).1, (e3 25 _ (q3 25)).1, y, (c3 25 _ rfl).1, (b3 25 _ rfl).1, (a3 25 _ rfl).1, (n2 25 _ rfl).1, (g3 26 _ rfl).1, (f3 26 _ rfl).1, (e3 26 _ (q3 26)).1, z, (c3 26 _ rfl).1, (b3 26 _ rfl).1, (a3 26 _ rfl).1, (n2 26 _ rfl).1]
        exact ⟨rfl, rfl, rfl⟩
    · refine ⟨?_, fun j hj => ?_, fun j hj => ?_⟩
      · rw [(g3 10 _ rfl).1, (f3 10 _ rfl).1, e0', (d3 10 _ (q4 10)).1, (c3 10 _ rfl).1, (b3 10 _ rfl).1, (a3 10 _ rfl).1, (n2 10 _ rfl).1]
      · rw [(g3 23 _ rfl).1, (f3 23 _ rfl).1, e1 j hj, (d3 23 _ (q4 23)).1, (c3 23 _ rfl).1, (b3 23 _ rfl).1, (a3 23 _ rfl).1, (n2 23 _ rfl).1]
      · obtain ⟨x, y, z⟩ := e2 j hj
        rw [(g3 24 _ rfl).1, (f3 24 _ rfl).1, x, (d3 24 _ (q4 24)).1, (c3 24 _ rfl).1, (b3 24 _ rfl).1, (a3 24 _ rfl).1, (n2 24 _ rfl).1, (g3 25 _ rfl).1, (f3 25 _ rfl).1, y, (d3 25 _ (q4 25)).1, (c3 25 _ rfl).1, (b3 25 _ rfl).1, (a3 25 _ rfl).1, (n2 25 _ rfl).1, (g3 26 _ rfl).1, (f3 26 _ rfl).1, z, (d3 26 _ (q4 26)).1, (c3 26 _ rfl).1, (b3 26 _ rfl).1, (a3 26 _ rfl).1, (n2 26 _ rfl).1]
        exact ⟨rfl, rfl, rfl⟩
  · have pre : ∀ f q, f ≠ 1 → f ≠ 7 → f ≠ 12 → f ≠ 13 → f ≠ 14 → f ≠ 8 → f ≠ 15 → f ≠ 16 → f ≠ 17 → f ≠ 18 → f ≠ 19 → f ≠ 20 → f ≠ 21 → f ≠ 22 → f ≠ 10 → f ≠ 23 → f ≠ 24 → f ≠ 25 → f ≠ 26 → s5.1 f q = σ.1 f q ∧ s5.2 f q = σ.2 f q := fun f q h1 h2 h3 h4 h5 h6 h7 h8 h9 h10 h11 h12 h13 h14 h15 h16 h17 h18 h19 => by
      have y1 := n2 f q (by simp [h1])
      have y2 := a3 f q (by simp [h2, h3, h4, h5])
      have y3 := b3 f q (by simp [h6, h7, h8, h9, h10, h11, h12])
      have y4 := c3 f q (by simp [h13, h14])
      have y5 := d3 f q (by simp [h15, h16, h17, h18, h19])
      have y6 := e3 f q (by simp [h15, h16, h17, h18, h19])
      exact ⟨((((y6.1.trans y5.1).trans y4.1).trans y3.1).trans y2.1).trans y1.1, ((((y6.2.trans y5.2).trans y4.2).trans y3.2).trans y2.2).trans y1.2⟩
    have p11 := pre 11 (10 * p + j) (by decide) (by decide) (by decide) (by decide) (by decide) (by decide) (by decide) (by decide) (by decide) (by decide) (by decide) (by decide) (by decide) (by decide) (by decide) (by decide) (by decide) (by decide) (by decide)
    have p29 := pre 29 (10 * p + j) (by decide) (by decide) (by decide) (by decide) (by decide) (by decide) (by decide) (by decide) (by decide) (by decide) (by decide) (by decide) (by decide) (by decide) (by decide) (by decide) (by decide) (by decide) (by decide)
    have p30 := pre 30 (10 * p + j) (by decide) (by decide) (by decide) (by decide) (by decide) (by decide) (by decide) (by decide) (by decide) (by decide) (by decide) (by decide) (by decide) (by decide) (by decide) (by decide) (by decide) (by decide) (by decide)
    exact ((f1 j hj).ext (g3 11 _ rfl).1 (g3 11 _ rfl).2 (g3 29 _ rfl).1 (g3 30 _ rfl).1).src p11.1.symm p11.2.symm p29.1.symm p30.1.symm
  · rw [z32 c hc, (f3 32 _ rfl).1, (e3 32 _ rfl).1, (d3 32 _ rfl).1, (c3 32 _ rfl).1, (b3 32 _ rfl).1, (a3 32 _ rfl).1, (n2 32 _ rfl).1]
  · refine ((((((n2.mono fun f i a => ?_).trans (a3.mono fun f i a => ?_)).trans (b3.mono fun f i a => ?_)).trans (c3.mono fun f i a => ?_)).trans (d3.mono fun f i a => ?_)).trans (e3.mono fun f i a => ?_)).trans ((f3.mono fun f i a => ?_).trans (g3.mono fun f i a => ?_))
    all_goals
      unfold rwB at a
      try unfold arS1
      simp at a ⊢
      omega
end PURE
