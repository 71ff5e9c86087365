/-! PURE LAYER: what a law says, shade, tone, worth -/
theorem ff_eq {p : Nat → Bool} {n i : Nat} (hi : i < n) (hp : p i = true) (hno : ∀ j, j < i → p j = false) : fa_first p n = i := by
  rcases Nat.lt_trichotomy (fa_first p n) i with h | h | h
  · have := fa_first_yes p n (by omega)
    rw [hno _ h] at this
    cases this
  · exact h
  · have := fa_first_no p n i h
    rw [hp] at this
    cases this
theorem ff_none {p : Nat → Bool} {n : Nat} (hno : ∀ j, j < n → p j = false) : ¬ fa_first p n < n := fun h => by
  have := fa_first_yes p n h
  rw [hno _ h] at this
  cases this
theorem smC_f {x : Nat} {σ σ' : zG} (h : Smf x σ σ') (hx : zcs x = true) : SmC σ σ' := fun f hf => ⟨h.1 f (fun e => by rw [e, hx] at hf; cases hf), by rw [h.2]⟩
def SmA (σ σ' : zG) : Prop := (∀ f, f ≠ 27 → f ≠ 28 → σ'.1 f = σ.1 f) ∧ σ'.2 = σ.2
theorem SmA.refl (σ : zG) : SmA σ σ := ⟨fun _ _ _ => rfl, rfl⟩
theorem SmA.trans {a b c : zG} (h : SmA a b) (h2 : SmA b c) : SmA a c := ⟨fun f h9 h10 => (h2.1 f h9 h10).trans (h.1 f h9 h10), h2.2.trans h.2⟩
theorem SmA.a27 {σ σ' : zG} (h : Smf 27 σ σ') : SmA σ σ' := ⟨fun f h1 _ => h.1 f h1, h.2⟩
theorem SmA.a28 {σ σ' : zG} (h : Smf 28 σ σ') : SmA σ σ' := ⟨fun f _ h1 => h.1 f h1, h.2⟩
theorem SmA.c {σ σ' : zG} (h : SmA σ σ') : SmC σ σ' := fun f hf => ⟨h.1 f (fun e => by rw [e] at hf; cases hf) (fun e => by rw [e] at hf; cases hf), by rw [h.2]⟩
def SmL (σ σ' : zG) : Prop := (∀ f, f ≠ 9 → f ≠ 10 → σ'.1 f = σ.1 f) ∧ σ'.2 = σ.2
theorem SmL.refl (σ : zG) : SmL σ σ := ⟨fun _ _ _ => rfl, rfl⟩
theorem SmL.trans {a b c : zG} (h : SmL a b) (h2 : SmL b c) : SmL a c := ⟨fun f h9 h10 => (h2.1 f h9 h10).trans (h.1 f h9 h10), h2.2.trans h.2⟩
theorem SmL.w (σ : zG) (i k : Nat) (v : Int32) : SmL σ (zwI σ 10 i k v) := ⟨fun f _ hf => (smf_w 10 σ i k v).1 f hf, rfl⟩
theorem SmL.f {σ σ' : zG} (h : Smf 9 σ σ') : SmL σ σ' := ⟨fun f hf _ => h.1 f hf, h.2⟩
theorem SmL.m {σ σ' : zG} (h : SmL σ σ') : SmM σ σ' := by
  have e := fun f h9 h10 => h.1 f h9 h10
  refine ⟨e 1 (by decide) (by decide), e 2 (by decide) (by decide), e 3 (by decide) (by decide), e 8 (by decide) (by decide), ?_, ?_, ?_, ?_, ?_⟩ <;> rw [e 0 (by decide) (by decide)]
theorem held_eq (v lo hi : Int32) : f_X11_held v lo hi = f_X12_greater lo (f_X12_lesser hi v) := by
  have e1 : zmin hi v = f_X12_lesser hi v := by
    unfold zmin f_X12_lesser
    rcases fa_three hi v with h | h | h
    · rw [if_neg (fa_of_lt h).2.2.1, if_pos h]
    · subst h; simp
    · rw [if_pos h, if_neg (fa_of_lt h).2.2.1]
  unfold f_X11_held
  rw [e1]
  generalize f_X12_lesser hi v = x
  unfold zmax f_X12_greater
  rcases fa_three lo x with h | h | h
  · rw [if_pos h, if_neg (fa_of_lt h).2.2.1]
  · subst h; simp
  · rw [if_neg (fa_of_lt h).2.2.1, if_pos h]
theorem held_rng (v : Int32) {lo hi : Int32} (h : lo ≤ hi) : lo ≤ f_X12_greater lo (f_X12_lesser hi v) ∧ f_X12_greater lo (f_X12_lesser hi v) ≤ hi := by
  unfold f_X12_greater f_X12_lesser
  rw [fa_le] at h
  have e : ∀ a b : Int32, (a < b) = (a.toInt < b.toInt) := fun a b => propext (fa_lt a b)
  simp only [e, fa_le]
  by_cases h1 : hi.toInt < v.toInt
  · simp only [h1, if_true]
    by_cases h2 : hi.toInt < lo.toInt
    · simp only [h2, if_true]; omega
    · simp only [h2, if_false]; omega
  · simp only [h1, if_false]
    by_cases h2 : v.toInt < lo.toInt
    · simp only [h2, if_true]; omega
    · simp only [h2, if_false]; omega
/-- a line's test, its value; what the law says -/
noncomputable def ltst (g : zGa) (k : Nat) (A : Nat → Int32) (i : Nat) : Bool := decide (lMid g k i = lTo g k i) || decide (evs A (lop g k) (lov g k) (lMid g k i) (lTo g k i - lMid g k i) 0 (fun _ => 0) = 1)
noncomputable def lval (g : zGa) (k : Nat) (A : Nat → Int32) (i : Nat) : Int32 := evs A (lop g k) (lov g k) (lFrom g k i) (lMid g k i - lFrom g k i) 0 (fun _ => 0)
noncomputable def lawv (g : zGa) (k : Nat) (A : Nat → Int32) (d : Int32) : Int32 := if fa_first (ltst g k A) (aLN g k) < aLN g k then lval g k A (fa_first (ltst g k A) (aLN g k)) else d
section PURE
variable {σ σc σm : zG} {g : zGa}
theorem c_lval {q k i : Nat} {A : Nat → Int32} (hL : LawI g k) (hR : RLw σ q g k) (hA : ∀ s v, lwOk k s v → 1 ≤ s → s ≤ 8 → σ.1 27 q (askOf s) = A s) (hi : i < aLN g k) : ∃ sc, f_X3_run q (σ.1 24 q i) (σ.1 25 q i) σ = some (lval g k A i, sc) ∧ Smf 28 σ sc := by
  obtain ⟨⟨a1, a2, a3⟩, ⟨b1, b2, b3⟩, c1, d1, -⟩ := hL.2 i hi
  obtain ⟨r1, r2, r3, r4⟩ := hR.2 i hi
  obtain ⟨sc, e, h, -⟩ := c_run (σ := σ) (q := q) (k := k) (a := lFrom g k i) (n := lMid g k i - lFrom g k i) (A := A) (op := lop g k) (ov := lov g k) (by omega) d1 rfl (fun j h1 h2 => (c1 j h1 (by omega)).2.1) (fun j h1 h2 => r4 j h1 (by omega)) hA
  rw [Nat.add_sub_cancel' b1] at e
  rw [r1, r2, a1, a2]
  exact ⟨sc, e, h⟩
theorem c_ltst {q k i : Nat} {A : Nat → Int32} (hL : LawI g k) (hR : RLw σ q g k) (hA : ∀ s v, lwOk k s v → 1 ≤ s → s ≤ 8 → σ.1 27 q (askOf s) = A s) (hi : i < aLN g k) (hne : lMid g k i ≠ lTo g k i) : ∃ sc, f_X3_run q (σ.1 25 q i) (σ.1 26 q i) σ = some (zt (ltst g k A i), sc) ∧ Smf 28 σ sc := by
  obtain ⟨⟨a1, a2, a3⟩, ⟨b1, b2, b3⟩, c1, -, d1⟩ := hL.2 i hi
  obtain ⟨r1, r2, r3, r4⟩ := hR.2 i hi
  have d2 := d1.resolve_left hne
  obtain ⟨sc, e, h, h01⟩ := c_run (σ := σ) (q := q) (k := k) (a := lMid g k i) (n := lTo g k i - lMid g k i) (A := A) (op := lop g k) (ov := lov g k) (by omega) d2 rfl (fun j h1 h2 => (c1 j (by omega) (by omega)).2.1) (fun j h1 h2 => r4 j (by omega) (by omega)) hA
  rw [Nat.add_sub_cancel' b2] at e
  rw [r2, r3, a2, a3]
  refine ⟨sc, ?_, h⟩
  rw [e]
  unfold ltst
  rcases h01 rfl with z | z
  · rw [z]; simp [hne, zt]
  · rw [z]; simp [zt]
theorem c_valueOr {q k : Nat} {A : Nat → Int32} {d : Int32} (hL : LawI g k) (hR : RLw σ q g k) (hA : ∀ s v, lwOk k s v → 1 ≤ s → s ≤ 8 → σ.1 27 q (askOf s) = A s) : ∃ sc, f_X3_valueOr q d σ = some (lawv g k A d, sc) ∧ Smf 28 σ sc := by
  have keep : ∀ s, Smf 28 σ s → RLw s q g k ∧ (∀ x v, lwOk k x v → 1 ≤ x → x ≤ 8 → s.1 27 q (askOf x) = A x) := fun s hs => by
    unfold RLw
    rw [hs.1 10 (by decide), hs.1 23 (by decide), hs.1 24 (by decide), hs.1 25 (by decide), hs.1 26 (by decide), hs.1 27 (by decide)]
    exact ⟨hR, hA⟩
  unfold f_X3_valueOr
  obtain ⟨r, e, hr⟩ := zlp_run (f := fun x : Int32 × zG => b_X3_valueOr_2 q x.1 x.2) (aLN g k) (fun i x => x.1 = nI i ∧ Smf 28 σ x.2 ∧ ∀ j, j < i → ltst g k A j = false)
    (fun r => (∃ i s, r = Sum.inl (nI i, s) ∧ i < aLN g k ∧ Smf 28 σ s ∧ ltst g k A i = true ∧ ∀ j, j < i → ltst g k A j = false) ∨ (∃ s, r = Sum.inr s ∧ Smf 28 σ s ∧ ∀ j, j < aLN g k → ltst g k A j = false))
    (a := ((0 : Int32), σ)) ⟨rfl, Smf.refl _ _, fun j hj => absurd hj (Nat.not_lt_zero j)⟩ (by
      rintro i hi ⟨_, s⟩ ⟨rfl, hS, hno⟩
      have hN := hL.1
      obtain ⟨hRs, hAs⟩ := keep s hS
      obtain ⟨⟨a1, a2, a3⟩, ⟨b1, b2, b3⟩, -⟩ := hL.2 i hi
      obtain ⟨r1, r2, r3, -⟩ := hRs.2 i hi
      have i16 : i < 16 := by omega
      have l16 : nI i < 16 := nI_lt (b := 16) i16 (by decide)
      unfold b_X3_valueOr_2
      simp (disch := omega) only [hRs.1, hN.1, nI_ltQ, hi, l16, if_true, zin_nI, i16, decide_true, zgT, nI_clamp]
      by_cases hne : lMid g k i = lTo g k i
      · left
        rw [if_pos (by rw [r2, r3, a2, a3, hne])]
        exact ⟨_, rfl, Or.inl ⟨i, s, rfl, hi, hS, by unfold ltst; simp [hne], hno⟩⟩
      · rw [if_neg (by rw [r2, r3, a2, a3, nI_eqI (by omega) (by omega)]; exact hne)]
        obtain ⟨sc, e, h⟩ := c_ltst (σ := s) hL hRs hAs hi hne
        rw [e]
        simp only [Option.bind_some, zt_0]
        cases ht : ltst g k A i
        · right
          refine ⟨_, rfl, nI_1 i, hS.trans h, fun j hj => ?_⟩
          rcases Nat.lt_succ_iff_lt_or_eq.mp hj with z | z
          · exact hno j z
          · rw [z]; exact ht
        · left
          exact ⟨_, rfl, Or.inl ⟨i, sc, rfl, hi, hS.trans h, ht, hno⟩⟩) (by
      rintro ⟨_, s⟩ ⟨rfl, hS, hno⟩
      have hN := hL.1
      obtain ⟨hRs, hAs⟩ := keep s hS
      unfold b_X3_valueOr_2
      simp (disch := omega) only [hRs.1, hN.1, nI_ltQ, Nat.lt_irrefl, if_false]
      exact ⟨_, rfl, Or.inr ⟨s, rfl, hS, hno⟩⟩)
  rw [e]
  unfold lawv
  rcases hr with ⟨i, s, rfl, hi, hS, hp, hno⟩ | ⟨s, rfl, hS, hno⟩
  · obtain ⟨hRs, hAs⟩ := keep s hS
    have hN := hL.1
    obtain ⟨sc, e, h⟩ := c_lval (σ := s) hL hRs hAs hi
    refine ⟨sc, ?_, hS.trans h⟩
    rw [ff_eq hi hp hno, if_pos hi]
    show j_X3_valueOr_50 q (nI i) s = _
    unfold j_X3_valueOr_50
    simp (disch := omega) only [zin_nI, show i < 16 by omega, decide_true, zgT, nI_clamp, e, Option.bind_some]
  · exact ⟨s, by rw [if_neg (ff_none hno)]; rfl, hS⟩
theorem m_lval {k i : Nat} {A : Nat → Int32} (hk : k < 2) (hL : LawI (σ.1 1 0) k) (hA : ∀ s v, lwOk k s v → 1 ≤ s → s ≤ 8 → σ.1 10 0 s = A s) (hi : i < aLN (σ.1 1 0) k) : ∃ sm, f_X12_comesTo (nI k) (σ.1 1 0 (7512 + 16 * k + i)) (σ.1 1 0 (7544 + 16 * k + i)) σ = some (lval (σ.1 1 0) k A i, sm) ∧ Smf 9 σ sm := by
  obtain ⟨⟨a1, a2, a3⟩, ⟨b1, b2, b3⟩, c1, d1, -⟩ := hL.2 i hi
  obtain ⟨sc, e, h⟩ := m_run (σ := σ) (k := k) (a := lFrom (σ.1 1 0) k i) (n := lMid (σ.1 1 0) k i - lFrom (σ.1 1 0) k i) (A := A) (op := lop (σ.1 1 0) k) (ov := lov (σ.1 1 0) k) hk (by omega) d1 rfl (fun j h1 h2 => (c1 j h1 (by omega)).2.1) (fun j h1 h2 => ⟨(c1 j h1 (by omega)).1, (c1 j h1 (by omega)).2.2⟩) hA
  rw [Nat.add_sub_cancel' b1] at e
  rw [a1, a2]
  exact ⟨sc, e, h⟩
theorem m_ltst {k i : Nat} {A : Nat → Int32} (hk : k < 2) (hL : LawI (σ.1 1 0) k) (hA : ∀ s v, lwOk k s v → 1 ≤ s → s ≤ 8 → σ.1 10 0 s = A s) (hi : i < aLN (σ.1 1 0) k) (hne : lMid (σ.1 1 0) k i ≠ lTo (σ.1 1 0) k i) : ∃ x sm, f_X12_comesTo (nI k) (σ.1 1 0 (7544 + 16 * k + i)) (σ.1 1 0 (7576 + 16 * k + i)) σ = some (x, sm) ∧ Smf 9 σ sm ∧ (x = 1) = (ltst (σ.1 1 0) k A i = true) := by
  obtain ⟨⟨a1, a2, a3⟩, ⟨b1, b2, b3⟩, c1, -, d1⟩ := hL.2 i hi
  have d2 := d1.resolve_left hne
  obtain ⟨sc, e, h⟩ := m_run (σ := σ) (k := k) (a := lMid (σ.1 1 0) k i) (n := lTo (σ.1 1 0) k i - lMid (σ.1 1 0) k i) (A := A) (op := lop (σ.1 1 0) k) (ov := lov (σ.1 1 0) k) hk (by omega) d2 rfl (fun j h1 h2 => (c1 j (by omega) (by omega)).2.1) (fun j h1 h2 => ⟨(c1 j (by omega) (by omega)).1, (c1 j (by omega) (by omega)).2.2⟩) hA
  rw [Nat.add_sub_cancel' b2] at e
  rw [a2, a3]
  refine ⟨_, sc, e, h, ?_⟩
  unfold ltst
  simp [hne]
theorem m_lawSays {k : Nat} {A : Nat → Int32} {d lo hi : Int32} (hk : k < 2) (hL : LawI (σ.1 1 0) k) (hA : ∀ s v, lwOk k s v → 1 ≤ s → s ≤ 8 → σ.1 10 0 s = A s) : ∃ sm, f_X12_lawSays (nI k) d lo hi σ = some (f_X12_greater lo (f_X12_lesser hi (lawv (σ.1 1 0) k A d)), sm) ∧ Smf 9 σ sm := by
  have hN := hL.1
  have keep : ∀ s, Smf 9 σ s → s.1 1 0 = σ.1 1 0 ∧ (∀ x v, lwOk k x v → 1 ≤ x → x ≤ 8 → s.1 10 0 x = A x) := fun s hs => by
    rw [hs.1 1 (by decide), hs.1 10 (by decide)]
    exact ⟨rfl, hA⟩
  unfold f_X12_lawSays
  have e16 : (16 : Int32) * nI k = nI (16 * k) := by simp only [zlit, pk_mul]
  rw [e16]
  obtain ⟨r, e, h1, h2⟩ := zlp_run (f := fun x : Int32 × Int32 × Int32 × zG => b_X12_lawSays_12 (nI k) x.1 x.2.1 x.2.2.1 x.2.2.2) (aLN (σ.1 1 0) k)
    (fun j x => x.2.2.1 = nI (16 * k + j) ∧ Smf 9 σ x.2.2.2 ∧ ((x.1 = d ∧ x.2.1 = 0 ∧ ∀ i, i < j → ltst (σ.1 1 0) k A i = false) ∨ (∃ i, i < aLN (σ.1 1 0) k ∧ j = i + 1 ∧ x.1 = lval (σ.1 1 0) k A i ∧ x.2.1 = 1 ∧ ltst (σ.1 1 0) k A i = true ∧ ∀ i', i' < i → ltst (σ.1 1 0) k A i' = false)))
    (fun r => r.1 = lawv (σ.1 1 0) k A d ∧ Smf 9 σ r.2)
    (a := (d, (0 : Int32), nI (16 * k), σ)) ⟨rfl, Smf.refl _ _, Or.inl ⟨rfl, rfl, fun j hj => absurd hj (Nat.not_lt_zero j)⟩⟩ (by
      rintro j hj ⟨v, f, _, s⟩ ⟨rfl, hS, hc⟩
      obtain ⟨hg, hAs⟩ := keep s hS
      have hLs : LawI (s.1 1 0) k := by rw [hg]; exact hL
      have e37 : (37 : Int32) + nI k = nI (37 + k) := by simp only [zlit, nI_add]
      have i1 : (7576 : Int32) + nI (16 * k + j) = nI (7576 + 16 * k + j) := by simp only [zlit, nI_add, Nat.add_assoc]
      have i2 : (7544 : Int32) + nI (16 * k + j) = nI (7544 + 16 * k + j) := by simp only [zlit, nI_add, Nat.add_assoc]
      have i3 : (7512 : Int32) + nI (16 * k + j) = nI (7512 + 16 * k + j) := by simp only [zlit, nI_add, Nat.add_assoc]
      unfold b_X12_lawSays_12 j_X12_lawSays_92_12 j_X12_lawSays_97_12
      simp (disch := omega) only [e16, e37, i1, i2, i3, zin_nI, show 37 + k < 9248 by omega, show 7576 + 16 * k + j < 9248 by omega, show 7544 + 16 * k + j < 9248 by omega, show 7512 + 16 * k + j < 9248 by omega, decide_true, zgT, nI_clamp, hg, hN.1, nI_add, nI_ltQ, Nat.add_lt_add_iff_left, hj, if_true]
      rcases hc with ⟨rfl, h0, hno⟩ | ⟨i, hi, rfl, hv, h1, hp, hno⟩
      · have h0' : f = 0 := h0
        subst h0'
        right
        simp only [if_true]
        obtain ⟨⟨a1, a2, a3⟩, ⟨b1, b2, b3⟩, -⟩ := hL.2 j hj
        have val : ∀ t, Smf 9 σ t → ltst (σ.1 1 0) k A j = true → ∃ q', (if (1 : Int32) = 0 then (some (Sum.inl (v, (1 : Int32), nI (16 * k + j) + 1, t)) : Option ((Int32 × Int32 × Int32 × zG) ⊕ (Int32 × zG))) else (f_X12_comesTo (nI k) (t.1 1 0 (7512 + 16 * k + j)) (t.1 1 0 (7544 + 16 * k + j)) t).bind fun q12 => some (Sum.inl (q12.1, (1 : Int32), nI (16 * k + j) + 1, q12.2))) = some (Sum.inl q') ∧ q'.2.2.1 = nI (16 * k + (j + 1)) ∧ Smf 9 σ q'.2.2.2 ∧ ((q'.1 = v ∧ q'.2.1 = 0 ∧ ∀ i, i < j + 1 → ltst (σ.1 1 0) k A i = false) ∨ (∃ i, i < aLN (σ.1 1 0) k ∧ j + 1 = i + 1 ∧ q'.1 = lval (σ.1 1 0) k A i ∧ q'.2.1 = 1 ∧ ltst (σ.1 1 0) k A i = true ∧ ∀ i', i' < i → ltst (σ.1 1 0) k A i' = false)) := by
          intro t hT hp
          obtain ⟨hgt, hAt⟩ := keep t hT
          obtain ⟨sm, e, h⟩ := m_lval (σ := t) (i := j) (A := A) hk (by rw [hgt]; exact hL) hAt (by rw [hgt]; exact hj)
          rw [if_neg (by decide), e, hgt]
          exact ⟨_, rfl, by rw [nI_1, Nat.add_assoc], hT.trans h, Or.inr ⟨j, hj, rfl, rfl, rfl, hp, hno⟩⟩
        by_cases hne : lMid (σ.1 1 0) k j = lTo (σ.1 1 0) k j
        · rw [if_pos (by rw [a2, a3, hne])]
          have := val s hS (by unfold ltst; simp [hne])
          rw [hg] at this
          exact this
        · rw [if_neg (by rw [a2, a3, nI_eqI (by omega) (by omega)]; exact fun q => hne q.symm)]
          obtain ⟨x, sm, e, h, hx⟩ := m_ltst (σ := s) (i := j) (A := A) hk hLs hAs (by rw [hg]; exact hj) (by rw [hg]; exact hne)
          rw [hg] at e hx
          rw [e]
          simp only [Option.bind_some]
          by_cases hx1 : x = 1
          · rw [if_pos hx1]
            rw [hx] at hx1
            exact val sm (hS.trans h) hx1
          · rw [if_neg hx1]
            refine ⟨_, rfl, by rw [nI_1, Nat.add_assoc], hS.trans h, Or.inl ⟨rfl, rfl, fun i hi => ?_⟩⟩
            rcases Nat.lt_succ_iff_lt_or_eq.mp hi with z | z
            · exact hno i z
            · rw [z]
              rw [hx] at hx1
              exact Bool.eq_false_iff.mpr hx1
      · have h1' : f = 1 := h1
        subst h1'
        left
        rw [if_neg (by decide)]
        refine ⟨_, rfl, ?_, hS⟩
        have hv' : v = _ := hv
        show v = _
        unfold lawv
        rw [ff_eq hi hp hno, if_pos hi, hv']) (by
      rintro ⟨v, f, _, s⟩ ⟨rfl, hS, hc⟩
      obtain ⟨hg, hAs⟩ := keep s hS
      have e37 : (37 : Int32) + nI k = nI (37 + k) := by simp only [zlit, nI_add]
      unfold b_X12_lawSays_12
      simp (disch := omega) only [e16, e37, zin_nI, show 37 + k < 9248 by omega, decide_true, zgT, nI_clamp, hg, hN.1, nI_add, nI_ltQ, Nat.lt_irrefl, if_false]
      refine ⟨_, rfl, ?_, hS⟩
      show v = _
      unfold lawv
      rcases hc with ⟨rfl, h0, hno⟩ | ⟨i, hi, hj, hv, h1, hp, hno⟩
      · rw [if_neg (ff_none hno)]
      · have hv' : v = _ := hv
        rw [ff_eq hi hp hno, if_pos hi, hv'])
  refine ⟨r.2, ?_, h2⟩
  rw [e, Option.bind_some, h1]
/-- shade -/
def edg (g : zGa) (c : Nat) : Bool := decide (c % 8 = 0) || decide (c / 8 = 0) || decide (c % 8 = aW g - 1) || decide (c / 8 = aH g - 1)
def shA (g : zGa) (c m : Nat) (s : Nat) : Int32 := if s = 1 then nI (c % 8) else if s = 2 then nI (c / 8) else if s = 3 then nI m else zt (edg g c)
noncomputable def shd (g : zGa) (c m : Nat) : Int32 := f_X12_greater 0 (f_X12_lesser 99 (lawv g 0 (shA g c m) 50))
theorem m_shade (hI : Inv (σ.1 1 0)) {c m : Nat} (hc : c < 64) : ∃ sm, f_X12_shade (nI c) (nI m) σ = some (shd (σ.1 1 0) c m, sm) ∧ SmL σ sm := by
  have hW := iv_W hI
  have hH := iv_H hI
  have hL : LawI (σ.1 1 0) 0 := hI.2.2.2.2.2.2.2.2.1.1
  have e8 : (8 : Int32) = nI 8 := rfl
  unfold f_X12_shade
  simp only [zb]
  rw [e8, zrem_nI (by omega) (by decide) (by decide), pk_div (by omega) (by decide) (by decide)]
  generalize hs3 : zwI (zwI (zwI σ 10 0 1 (nI (c % 8))) 10 0 2 (nI (c / 8))) 10 0 3 (nI m) = s3
  have hL3 : SmL σ s3 := by rw [← hs3]; exact ((SmL.w σ _ _ _).trans (SmL.w _ _ _ _)).trans (SmL.w _ _ _ _)
  have g3 : s3.1 1 = σ.1 1 := hL3.1 1 (by decide) (by decide)
  have key : (if nI (c % 8) = 0 then j_X12_shade_74 (4 : Int32) 0 s3 else if nI (c / 8) = 0 then j_X12_shade_74 (4 : Int32) 0 s3 else if nI (c % 8) = s3.1 1 0 30 - 1 then j_X12_shade_74 (4 : Int32) 0 s3 else if nI (c / 8) = s3.1 1 0 31 - 1 then j_X12_shade_74 (4 : Int32) 0 s3 else j_X12_shade_79 (0 : Int32) (4 : Int32) 0 s3) = j_X12_shade_79 (zt (edg (σ.1 1 0) c)) 4 0 s3 := by
    rw [g3, hW.1, hH.1, pm1' (by omega), pm1' (by omega)]
    unfold j_X12_shade_74 edg
    have f1 : (nI (c % 8) = 0) = (c % 8 = 0) := nI_eqI (b := 0) (by omega) (by omega)
    have f2 : (nI (c / 8) = 0) = (c / 8 = 0) := nI_eqI (b := 0) (by omega) (by omega)
    have f3 : (nI (c % 8) = nI (aW (σ.1 1 0) - 1)) = (c % 8 = aW (σ.1 1 0) - 1) := nI_eqI (by omega) (by omega)
    have f4 : (nI (c / 8) = nI (aH (σ.1 1 0) - 1)) = (c / 8 = aH (σ.1 1 0) - 1) := nI_eqI (by omega) (by omega)
    simp only [f1, f2, f3, f4]
    by_cases h1 : c % 8 = 0
    · simp [h1, zt]
    by_cases h2 : c / 8 = 0
    · simp [h1, h2, zt]
    by_cases h3 : c % 8 = aW (σ.1 1 0) - 1
    · simp [h1, h2, h3, zt]
    by_cases h4 : c / 8 = aH (σ.1 1 0) - 1
    · simp [h1, h2, h3, h4, zt]
    simp [h1, h2, h3, h4, zt]
  rw [key]
  unfold j_X12_shade_79
  rw [show zin (4 : Int32) 9 = true from rfl, zgT]
  simp only [zb]
  rw [show (4 : Int32).toNatClampNeg = 4 from rfl]
  generalize hs4 : zwI s3 10 0 4 (zt (edg (σ.1 1 0) c)) = s4
  have hL4 : SmL σ s4 := by rw [← hs4]; exact hL3.trans (SmL.w _ _ _ _)
  have g4 : s4.1 1 = σ.1 1 := hL4.1 1 (by decide) (by decide)
  have hA : ∀ s v, lwOk 0 s v → 1 ≤ s → s ≤ 8 → s4.1 10 0 s = shA (σ.1 1 0) c m s := by
    intro s v hok h1 h8
    have : s = 1 ∨ s = 2 ∨ s = 3 ∨ s = 4 := by unfold lwOk at hok; omega
    rw [← hs4, ← hs3]
    unfold shA
    rcases this with rfl | rfl | rfl | rfl <;> simp [zw_at]
  obtain ⟨sm, e, h⟩ := m_lawSays (σ := s4) (k := 0) (A := shA (σ.1 1 0) c m) (d := 50) (lo := 0) (hi := 99) (by decide) (by rw [g4]; exact hL) hA
  refine ⟨sm, ?_, hL4.trans (SmL.f h)⟩
  have e' : f_X12_lawSays 0 50 0 99 s4 = _ := e
  rw [e', g4]
  rfl
theorem c_shade (hI : Inv g) (hR : RB σ 0 g) {c m : Nat} (hc : c < 64) : ∃ sc, f_X1_shadeOf 0 (nI c) (nI m) σ = some (shd g c m, sc) ∧ SmA σ sc := by
  have hW := iv_W hI
  have hH := iv_H hI
  have hL : LawI g 0 := hI.2.2.2.2.2.2.2.2.1.1
  have e8 : (8 : Int32) = nI 8 := rfl
  unfold f_X1_shadeOf
  simp only [zb, Nat.mul_zero]
  rw [e8, zrem_nI (by omega) (by decide) (by decide), pk_div (by omega) (by decide) (by decide)]
  generalize hs3 : zwI (zwI (zwI σ 27 0 0 (nI (c % 8))) 27 0 1 (nI (c / 8))) 27 0 3 (nI m) = s3
  have hL3 : Smf 27 σ s3 := by rw [← hs3]; exact ((smf_w 27 σ _ _ _).trans (smf_w 27 _ _ _ _)).trans (smf_w 27 _ _ _ _)
  have g3 : s3.1 1 = σ.1 1 := hL3.1 1 (by decide)
  have key : (if nI (c % 8) = 0 then j_X1_shadeOf_80 0 (2 : Int32) 0 s3 else if nI (c % 8) = s3.1 1 0 0 - 1 then j_X1_shadeOf_80 0 (2 : Int32) 0 s3 else if nI (c / 8) = 0 then j_X1_shadeOf_80 0 (2 : Int32) 0 s3 else if nI (c / 8) = s3.1 1 0 1 - 1 then j_X1_shadeOf_80 0 (2 : Int32) 0 s3 else j_X1_shadeOf_85 0 (0 : Int32) (2 : Int32) 0 s3) = j_X1_shadeOf_85 0 (zt (edg g c)) 2 0 s3 := by
    have w0 : σ.1 1 0 0 = g 30 := hR.1.1
    have w1 : σ.1 1 0 1 = g 31 := hR.1.2.1
    rw [g3, w0, w1, hW.1, hH.1, pm1' (by omega), pm1' (by omega)]
    unfold j_X1_shadeOf_80 edg
    have f1 : (nI (c % 8) = 0) = (c % 8 = 0) := nI_eqI (b := 0) (by omega) (by omega)
    have f2 : (nI (c / 8) = 0) = (c / 8 = 0) := nI_eqI (b := 0) (by omega) (by omega)
    have f3 : (nI (c % 8) = nI (aW g - 1)) = (c % 8 = aW g - 1) := nI_eqI (by omega) (by omega)
    have f4 : (nI (c / 8) = nI (aH g - 1)) = (c / 8 = aH g - 1) := nI_eqI (by omega) (by omega)
    simp only [f1, f2, f3, f4]
    by_cases h1 : c % 8 = 0
    · simp [h1, zt]
    by_cases h2 : c / 8 = 0
    · by_cases h3 : c % 8 = aW g - 1
      · simp [h1, h2, h3, zt]
      · simp [h1, h2, h3, zt]
    by_cases h3 : c % 8 = aW g - 1
    · simp [h1, h2, h3, zt]
    by_cases h4 : c / 8 = aH g - 1
    · simp [h1, h2, h3, h4, zt]
    simp [h1, h2, h3, h4, zt]
  rw [key]
  unfold j_X1_shadeOf_85
  rw [show zin (2 : Int32) 8 = true from rfl, zgT]
  simp only [zb, Nat.mul_zero]
  rw [show (2 : Int32).toNatClampNeg = 2 from rfl]
  generalize hs4 : zwI s3 27 0 2 (zt (edg g c)) = s4
  have hL4 : Smf 27 σ s4 := by rw [← hs4]; exact hL3.trans (smf_w 27 _ _ _ _)
  have hC4 : SmC σ s4 := smC_f hL4 rfl
  have hA : ∀ s v, lwOk 0 s v → 1 ≤ s → s ≤ 8 → s4.1 27 0 (askOf s) = shA g c m s := by
    intro s v hok h1 h8
    have : s = 1 ∨ s = 2 ∨ s = 3 ∨ s = 4 := by unfold lwOk at hok; omega
    rw [← hs4, ← hs3]
    unfold shA
    rcases this with rfl | rfl | rfl | rfl <;> simp [zw_at, askOf]
  have hR4 : RB s4 0 g := by rw [rb_same hC4]; exact hR
  obtain ⟨sc, e, h⟩ := c_valueOr (σ := s4) (q := 0) (k := 0) (A := shA g c m) (d := 50) hL hR4.2.2.2.2.1.1 hA
  refine ⟨sc, ?_, (SmA.a27 hL4).trans (SmA.a28 h)⟩
  rw [e, Option.bind_some, held_eq]
  rfl
theorem shd_rng (g : zGa) (c m : Nat) : ∃ t, t ≤ 99 ∧ shd g c m = nI t := by
  obtain ⟨h1, h2⟩ := held_rng (lawv g 0 (shA g c m) 50) (lo := 0) (hi := 99) (by decide)
  exact nI_of2 (M := 99) (n := 99) rfl (i_nlt.mpr h1) h2
/-- tone -/
noncomputable def tn (g : zGa) (c m : Nat) : Int32 := if who g (nI c) m = -1 then shd g c m else if who g (nI c) m < 12 then g (104 + 4 * (who g (nI c) m).toNatClampNeg) else g 35
theorem tn_rng (hI : Inv g) (c m : Nat) : ∃ t, t ≤ 99 ∧ tn g c m = nI t := by
  have hN := iv_WN hI
  unfold tn
  rcases who_rng hI (nI c) m with e | ⟨k, hk, e⟩ | ⟨i, hi, e⟩
  · rw [if_pos e]; exact shd_rng g c m
  · have n1 : (nI k = -1) = False := nI_nm1 (by omega)
    have l12 : nI k < 12 := nI_lt (b := 12) (by omega) (by decide)
    simp only [e, n1, l12, if_true, if_false]
    rw [nI_clamp (by omega)]
    exact (hI.2.2.2.2.2.2.2.1 k hk).1
  · have hS := tp_SN (iv_Top hI)
    have hG := hI.2.2.2.2.2.1
    have n1 : (nI (12 + i) = -1) = False := nI_nm1 (by omega)
    have l12 : ¬ nI (12 + i) < 12 := nI_nlt (b := 12) (by omega) (by omega)
    simp only [e, n1, l12, if_false]
    exact ⟨_, hG.2, hG.1⟩
theorem m_tone (hI : Inv (σ.1 1 0)) {c m : Nat} (hc : c < 64) (hm : m < 501) : ∃ sm, f_X12_toneOf (nI c) (nI m) σ = some (tn (σ.1 1 0) c m, sm) ∧ SmL σ sm := by
  have hN := iv_WN hI
  unfold f_X12_toneOf tn
  rw [m_who hI _ hm, Option.bind_some]
  rcases who_rng hI (nI c) m with e | ⟨k, hk, e⟩ | ⟨i, hi, e⟩
  · obtain ⟨sm, e2, h⟩ := m_shade hI (m := m) hc
    rw [if_pos e, if_pos e, e2]
    exact ⟨sm, rfl, h⟩
  · have a0 : f_X12_ofWalker (nI k) 0 σ = some (σ.1 1 0 (104 + 4 * k + 0)) := m_ofWalker (by omega) (by decide)
    have n1 : (nI k = -1) = False := nI_nm1 (by omega)
    have l12 : nI k < 12 := nI_lt (b := 12) (by omega) (by decide)
    simp only [e, n1, l12, if_true, if_false, a0, Option.bind_some]
    rw [nI_clamp (by omega)]
    exact ⟨σ, rfl, SmL.refl σ⟩
  · have hS := tp_SN (iv_Top hI)
    have n1 : (nI (12 + i) = -1) = False := nI_nm1 (by omega)
    have l12 : ¬ nI (12 + i) < 12 := nI_nlt (b := 12) (by omega) (by omega)
    simp only [e, n1, l12, if_false]
    exact ⟨σ, rfl, SmL.refl σ⟩
theorem c_tone (hI : Inv g) (hR : RB σ 0 g) {c m : Nat} (hc : c < 64) (hm : m < 501) : ∃ sc, f_X1_toneOf 0 (nI c) (nI m) σ = some (tn g c m, sc) ∧ SmA σ sc := by
  have hN := iv_WN hI
  have w0 : σ.1 8 (2 * 0) 0 = g 36 := hR.2.2.1.1
  unfold f_X1_toneOf tn f_X1_isWalker
  rw [c_who hI hR.2.2.1 hR.2.2.2.1 hR.2.1 _ hm, Option.bind_some, w0, hN.1]
  rcases who_rng hI (nI c) m with e | ⟨k, hk, e⟩ | ⟨i, hi, e⟩
  · obtain ⟨sm, e2, h⟩ := c_shade hI hR (m := m) hc
    rw [if_pos e, if_pos e, e2]
    exact ⟨sm, rfl, h⟩
  · have n1 : (nI k = -1) = False := nI_nm1 (by omega)
    have l12 : nI k < 12 := nI_lt (b := 12) (by omega) (by decide)
    have p0 : (0 : Int32) ≤ nI k := nI_pos' (by omega)
    have pk : nI k < nI (aWN g) := nI_lt hk (by omega)
    have w1 : σ.1 15 (2 * 0) k = g (104 + 4 * k) := (hR.2.2.1.2 k hk).1
    simp only [e, n1, l12, p0, pk, if_true, if_false, show ¬ (1 : Int32) = 0 by decide]
    rw [zin_ok (show k < 12 by omega) (by decide), zgT, nI_clamp (by omega), w1]
    exact ⟨σ, rfl, SmA.refl σ⟩
  · have hS := tp_SN (iv_Top hI)
    have n1 : (nI (12 + i) = -1) = False := nI_nm1 (by omega)
    have l12 : ¬ nI (12 + i) < 12 := nI_nlt (b := 12) (by omega) (by omega)
    have pk : ¬ nI (12 + i) < nI (aWN g) := nI_nlt (by omega) (by omega)
    have hG : σ.1 1 0 8 = g 35 := hR.1.2.2.2.2.2.2.2.2.1
    simp only [e, n1, l12, pk, if_false, ite_self, if_true, hG]
    exact ⟨σ, rfl, SmA.refl σ⟩
end PURE
