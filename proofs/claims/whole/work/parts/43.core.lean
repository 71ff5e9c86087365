/-! PURE LAYER: the plain questions, on both sides -/
theorem iv_W {g : zGa} (h : Inv g) : g 30 = nI (aW g) ∧ 2 ≤ aW g ∧ aW g ≤ 8 := h.1
theorem iv_H {g : zGa} (h : Inv g) : g 31 = nI (aH g) ∧ 2 ≤ aH g ∧ aH g ≤ 7 := h.2.1
theorem iv_Wd {g : zGa} (h : Inv g) : g 32 = nI (aWide g) ∧ 1 ≤ aWide g ∧ aWide g ≤ aW g := h.2.2.1
theorem iv_Com {g : zGa} (h : Inv g) : g 33 = nI (aCom g) ∧ aCom g ≤ 1000 := h.2.2.2.1
theorem iv_Stay {g : zGa} (h : Inv g) : g 34 = nI (aStay g) ∧ 1 ≤ aStay g ∧ aStay g ≤ 60 := h.2.2.2.2.1
theorem iv_Grey {g : zGa} (h : Inv g) : g 35 = nI (aGrey g) ∧ aGrey g ≤ 99 := h.2.2.2.2.2.1
theorem iv_WN {g : zGa} (h : Inv g) : g 36 = nI (aWN g) ∧ aWN g ≤ 12 := h.2.2.2.2.2.2.1
theorem iv_Tn {g : zGa} (h : Inv g) {k : Nat} (hk : k < aWN g) : ∃ t, t ≤ 99 ∧ g (104 + 4 * k) = nI t := (h.2.2.2.2.2.2.2.1 k hk).1
theorem iv_Pl {g : zGa} (h : Inv g) {k m : Nat} (hk : k < aWN g) (hm : m < 501) : pl g k m = -1 ∨ ∃ c, c < 56 ∧ pl g k m = nI c ∧ sp g c = true := (h.2.2.2.2.2.2.2.1 k hk).2 m hm
theorem iv_L {g : zGa} (h : Inv g) : LawI g 0 ∧ LawI g 1 := h.2.2.2.2.2.2.2.2.1
theorem iv_Top {g : zGa} (h : Inv g) : Top g g := h.2.2.2.2.2.2.2.2.2.1
theorem iv_Sh {g : zGa} (h : Inv g) {i c : Nat} (hi : i < aShN g) (hc : c < 56) : (g (152 + 134 * i + 4 + c) = -2 ∨ g (152 + 134 * i + 4 + c) = -1 ∨ ∃ w, w < 20 ∧ g (152 + 134 * i + 4 + c) = nI w) ∧ (∃ t, t ≤ 99 ∧ g (152 + 134 * i + 68 + c) = nI t) ∧ (g (152 + 134 * i + 4 + c) ≠ -2 → sp g c = true) := h.2.2.2.2.2.2.2.2.2.2.1 i hi c hc
theorem iv_Sh2 {g : zGa} (h : Inv g) {i c : Nat} (hi : i < aShN g) (h1 : 56 ≤ c) (h2 : c < 64) : g (152 + 134 * i + 4 + c) = -2 := h.2.2.2.2.2.2.2.2.2.2.2 i hi c h1 h2
theorem tp_Min {g t : zGa} (h : Top g t) : t 0 = nI (aMin t) ∧ aMin t ≤ 500 := h.1
theorem tp_St {g t : zGa} (h : Top g t) : t 1 = nI (aStep t) ∧ aStep t + aWide g ≤ aW g := h.2.1
theorem tp_SN {g t : zGa} (h : Top g t) : t 3 = nI (aSN t) ∧ aSN t ≤ 8 := h.2.2.1
theorem tp_Sh {g t : zGa} (h : Top g t) : t 4 = nI (aShN t) ∧ aShN t ≤ 10 := h.2.2.2.1
theorem tp_Sp {g t : zGa} (h : Top g t) {i : Nat} (hi : i < aSN t) : ∃ c, c < 56 ∧ t (5 + 3 * i) = nI c ∧ sp g c = true := h.2.2.2.2.1 i hi
theorem tp_Pa {g t : zGa} (h : Top g t) {c : Nat} (hc : c < 56) : g (40 + c) = -1 ∨ ∃ i, i < aShN t ∧ g (40 + c) = nI i := h.2.2.2.2.2 c hc
theorem sp_56 {g : zGa} (h : Inv g) {c : Nat} (hs : sp g c = true) : c < 56 := by
  have := iv_H h
  unfold sp at hs
  simp at hs
  omega
theorem sub1_toInt {n : Nat} (h : n < 2 ^ 30) : (nI n - 1).toInt = (n : Int) - 1 := by
  have e : (1 : Int32) = nI 1 := rfl
  rw [e, pk_sub_toInt h (by decide)]
  rfl
/-- a number below n, or not -/
theorem below (x : Int32) {n : Nat} (hn : n < 2 ^ 30) : (∃ j, j < n ∧ x = nI j ∧ f_X12_isIn x 0 (nI n - 1) = 1) ∨ ((∀ j, j < n → x ≠ nI j) ∧ f_X12_isIn x 0 (nI n - 1) = 0 ∧ ¬ (0 ≤ x ∧ x < nI n)) := by
  have e := sub1_toInt hn
  have e0 : (0 : Int32).toInt = 0 := rfl
  have en := nI_toInt (n := n) (by omega)
  by_cases h : 0 ≤ x ∧ x < nI n
  · left
    obtain ⟨j, hj, rfl⟩ := (range_of (by omega)).mp h
    have ej := nI_toInt (n := j) (by omega)
    refine ⟨j, hj, rfl, ?_⟩
    rw [isIn_zt]
    have : decide ((0 : Int32) ≤ nI j ∧ nI j ≤ nI n - 1) = true := decide_eq_true ⟨by rw [fa_le]; omega, by rw [fa_le]; omega⟩
    rw [this]
    rfl
  · right
    refine ⟨fun j hj e2 => h (by rw [e2]; exact (range_of (by omega)).mpr ⟨j, hj, rfl⟩), ?_, h⟩
    rw [isIn_zt]
    have : decide ((0 : Int32) ≤ x ∧ x ≤ nI n - 1) = false := decide_eq_false fun q => h ⟨q.1, by
      have := q.2
      rw [fa_le] at this
      rw [fa_lt]
      omega⟩
    rw [this]
    rfl
theorem isIn_lit (x : Int32) (a b : Nat) (h : a ≤ b) (hb : b < 2 ^ 30) : (∃ j, a ≤ j ∧ j ≤ b ∧ x = nI j ∧ f_X12_isIn x (nI a) (nI b) = 1) ∨ ((∀ j, a ≤ j → j ≤ b → x ≠ nI j) ∧ f_X12_isIn x (nI a) (nI b) = 0 ∧ ¬ (nI a ≤ x ∧ x ≤ nI b)) := by
  have ea := nI_toInt (n := a) (by omega)
  have eb := nI_toInt (n := b) (by omega)
  rw [isIn_zt]
  by_cases hh : nI a ≤ x ∧ x ≤ nI b
  · left
    obtain ⟨j, hj, rfl⟩ := nI_of2 (M := nI b) (n := b) eb (fun q => by have := hh.1; rw [fa_le] at this; rw [fa_lt] at q; have : (0 : Int32).toInt = 0 := rfl; omega) hh.2
    have ej := nI_toInt (n := j) (by omega)
    have := hh.1
    rw [fa_le] at this
    refine ⟨j, by omega, hj, rfl, ?_⟩
    rw [decide_eq_true hh]
    rfl
  · right
    refine ⟨fun j h1 h2 e => hh (by rw [e]; exact ⟨nI_le h1 (by omega), nI_le h2 (by omega)⟩), ?_, hh⟩
    rw [decide_eq_false hh]
    rfl
section PURE
variable {σ σc σm : zG} {g : zGa}
/-- the model -/
theorem m_isAt (hI : Inv (σ.1 1 0)) {x y : Nat} (hx : x < 2 ^ 30) (hy : y < 2 ^ 30) : f_X12_isAt (nI x) (nI y) σ = some (zt (decide (x < aW (σ.1 1 0)) && decide (y < aH (σ.1 1 0)))) := by
  have hW := iv_W hI
  have hH := iv_H hI
  unfold f_X12_isAt
  rw [hW.1, hH.1]
  have r1 := below (nI x) (n := aW (σ.1 1 0)) (by omega)
  have r2 := below (nI y) (n := aH (σ.1 1 0)) (by omega)
  rcases r1 with ⟨j, hj, e, r1⟩ | ⟨n1, r1, -⟩
  · rw [nI_eqI (by omega) (by omega)] at e
    rcases r2 with ⟨j2, hj2, e2, r2⟩ | ⟨n2, r2, -⟩
    · rw [nI_eqI (by omega) (by omega)] at e2
      rw [r1, r2]
      have a1 : x < aW (σ.1 1 0) := by omega
      have a2 : y < aH (σ.1 1 0) := by omega
      simp [a1, a2, zt]
    · rw [r1, r2]
      have a2 : ¬ y < aH (σ.1 1 0) := fun q => n2 y q rfl
      simp [a2, zt]
  · rw [r1]
    have a1 : ¬ x < aW (σ.1 1 0) := fun q => n1 x q rfl
    simp [a1, zt]
theorem m_isSpot (hI : Inv (σ.1 1 0)) {c : Nat} (hc : c < 64) : f_X12_isSpot (nI c) σ = some (zt (sp (σ.1 1 0) c)) := by
  unfold f_X12_isSpot
  rcases isIn_lit (nI c) 0 63 (by decide) (by decide) with ⟨j, -, h, e, r⟩ | ⟨n, -, -⟩
  · have r' : f_X12_isIn (nI c) 0 63 = 1 := r
    have e8 : (8 : Int32) = nI 8 := rfl
    rw [r', e8, zrem_nI (by omega) (by decide) (by decide), pk_div (by omega) (by decide) (by decide), m_isAt hI (by omega) (by omega)]
    unfold sp
    generalize (decide (c % 8 < aW (σ.1 1 0)) && decide (c / 8 < aH (σ.1 1 0))) = b
    cases b <;> simp [zt]
  · exact absurd rfl (n c (Nat.zero_le c) (by omega))
theorem m_isSpotX (x : Int32) (h : ∀ c, c < 64 → x ≠ nI c) : f_X12_isSpot x σ = some 0 := by
  unfold f_X12_isSpot
  rcases isIn_lit x 0 63 (by decide) (by decide) with ⟨j, -, h2, e, -⟩ | ⟨-, r, -⟩
  · exact absurd e (h j (by omega))
  · have r' : f_X12_isIn x 0 63 = 0 := r
    rw [r']
    rfl
theorem m_isInView (hI : Inv (σ.1 1 0)) {c : Nat} (hc : c < 64) : f_X12_isInView (nI c) σ = some (zt (vw (σ.1 1 0) c)) := by
  have hT := tp_St (iv_Top hI)
  have hD := iv_Wd hI
  have hW := iv_W hI
  have e8 : (8 : Int32) = nI 8 := rfl
  have e1 : (1 : Int32) = nI 1 := rfl
  unfold f_X12_isInView f_X12_isInColumns
  rw [m_isSpot hI hc, hT.1, hD.1, e8, zrem_nI (by omega) (by decide) (by decide), nI_add, e1, pk_sub (by omega), isIn_zt, zbl_zt]
  unfold vw
  simp (disch := omega) only [Option.bind_some, zt_0, nI_leQ, zgT]
  cases hs : sp (σ.1 1 0) c
  · simp [zt]
  · simp only [Bool.true_and, Bool.true_eq_false, if_false]
    have : decide (aStep (σ.1 1 0) ≤ c % 8 ∧ c % 8 ≤ aStep (σ.1 1 0) + aWide (σ.1 1 0) - 1) = (decide (aStep (σ.1 1 0) ≤ c % 8) && decide (c % 8 < aStep (σ.1 1 0) + aWide (σ.1 1 0))) := by
      rw [← Bool.decide_and]
      congr 1
      refine propext ⟨fun q => ?_, fun q => ?_⟩ <;> omega
    rw [this]
    generalize (decide (aStep (σ.1 1 0) ≤ c % 8) && decide (c % 8 < aStep (σ.1 1 0) + aWide (σ.1 1 0))) = b
    cases b <;> simp [zt] <;> rfl
theorem m_place {k m : Nat} (hk : k < 12) (hm : m < 501) : f_X12_placeOf (nI k) (nI m) σ = some (pl (σ.1 1 0) k m) := by
  unfold f_X12_placeOf pl
  simp (disch := omega) only [zlit, nI_add, pk_mul, zin_nI, nI_clamp]
  rw [decide_eq_true (by omega), zgT]
theorem m_ofStr {i f : Nat} (hi : i < 8) (hf : f < 3) : f_X12_ofStranger (nI i) (nI f) σ = some (σ.1 1 0 (5 + 3 * i + f)) := by
  unfold f_X12_ofStranger
  simp (disch := omega) only [zlit, nI_add, pk_mul, zin_nI, nI_clamp]
  rw [decide_eq_true (by omega), zgT]
theorem m_strAt {i : Nat} (hi : i < 8) (c m : Int32) : f_X12_isStrangerAt (nI i) c m σ = some (zt (decide (σ.1 1 0 (5 + 3 * i) = c) && stAt (σ.1 1 0) i m)) := by
  have a0 : f_X12_ofStranger (nI i) 0 σ = some (σ.1 1 0 (5 + 3 * i + 0)) := m_ofStr hi (by decide)
  have a1 : f_X12_ofStranger (nI i) 1 σ = some (σ.1 1 0 (5 + 3 * i + 1)) := m_ofStr hi (by decide)
  have a2 : f_X12_ofStranger (nI i) 2 σ = some (σ.1 1 0 (5 + 3 * i + 2)) := m_ofStr hi (by decide)
  unfold f_X12_isStrangerAt stAt
  rw [a0, a1, a2]
  simp only [Option.bind_some, Nat.add_zero, isIn_zt, zt_0]
  by_cases h1 : σ.1 1 0 (5 + 3 * i) = c
  · by_cases h2 : σ.1 1 0 (5 + 3 * i + 2) ≤ m <;> by_cases h3 : m ≤ σ.1 1 0 (5 + 3 * i + 1) <;> simp [h1, h2, h3, zt]
  · simp [h1, zt]
/-- who covers a spot -/
def who (g : zGa) (c : Int32) (m : Nat) : Int32 :=
  if fa_first (fun k => decide (pl g k m = c)) (aWN g) < aWN g then nI (fa_first (fun k => decide (pl g k m = c)) (aWN g))
  else if fa_first (fun i => decide (g (5 + 3 * i) = c) && stAt g i (nI m)) (aSN g) < aSN g then nI (12 + fa_first (fun i => decide (g (5 + 3 * i) = c) && stAt g i (nI m)) (aSN g)) else -1
theorem m_who (hI : Inv (σ.1 1 0)) (c : Int32) {m : Nat} (hm : m < 501) : f_X12_whoIs c (nI m) σ = some (who (σ.1 1 0) c m) := by
  have hN := iv_WN hI
  have hS := tp_SN (iv_Top hI)
  unfold f_X12_whoIs who
  rw [zlp_find (a := (0 : Int32)) (fun k => nI k) (fun k => decide (pl (σ.1 1 0) k m = c)) (aWN (σ.1 1 0)) (fun k => Sum.inl (nI k)) (E := Sum.inr ()) rfl ?_ ?_]
  · split
    · rfl
    · rw [Option.bind_some, Sum.elim_inr, zlp_find (a := (0 : Int32)) (fun k => nI k) (fun i => decide (σ.1 1 0 (5 + 3 * i) = c) && stAt (σ.1 1 0) i (nI m)) (aSN (σ.1 1 0)) (fun k => Sum.inl (nI k)) (E := Sum.inr ()) rfl ?_ ?_]
      · split
        · rw [Option.bind_some, Sum.elim_inl, zlit, nI_add]
        · rfl
      · intro k hk
        unfold b_X12_whoIs_33
        rw [hS.1, m_strAt (by omega)]
        simp (disch := omega) only [nI_ltQ, hk, if_true, Option.bind_some, zt_0', zlit, nI_add]
        cases (decide (σ.1 1 0 (5 + 3 * k) = c) && stAt (σ.1 1 0) k (nI m)) <;> simp
      · unfold b_X12_whoIs_33
        rw [hS.1]
        simp (disch := omega) only [nI_ltQ, Nat.lt_irrefl, if_false]
  · intro k hk
    unfold b_X12_whoIs_2
    rw [hN.1, m_place (by omega) hm]
    simp (disch := omega) only [nI_ltQ, hk, if_true, Option.bind_some, zlit, nI_add]
    by_cases h : pl (σ.1 1 0) k m = c <;> simp [h]
  · unfold b_X12_whoIs_2
    rw [hN.1]
    simp (disch := omega) only [nI_ltQ, Nat.lt_irrefl, if_false]
theorem who_m1 (hI : Inv g) {c m : Nat} (hc : c < 64) : (who g (nI c) m = -1) = ¬ cov g c m := by
  have hN := iv_WN hI
  have hS := tp_SN (iv_Top hI)
  unfold who cov
  by_cases h1 : fa_first (fun k => decide (pl g k m = nI c)) (aWN g) < aWN g
  · rw [if_pos h1, nI_nm1 (by omega)]
    have := fa_first_yes _ _ h1
    simp only [decide_eq_true_eq] at this
    exact (eq_false (fun q => q (Or.inl ⟨_, h1, this⟩))).symm
  · rw [if_neg h1]
    have n1 : fa_first (fun k => decide (pl g k m = nI c)) (aWN g) = aWN g := Nat.le_antisymm (fa_first_le _ _) (Nat.not_lt.mp h1)
    have no1 : ¬ ∃ k, k < aWN g ∧ pl g k m = nI c := by
      rintro ⟨k, hk, e⟩
      have := fa_first_no (fun k => decide (pl g k m = nI c)) (aWN g) k (by omega)
      simp [e] at this
    by_cases h2 : fa_first (fun i => decide (g (5 + 3 * i) = nI c) && stAt g i (nI m)) (aSN g) < aSN g
    · rw [if_pos h2, nI_nm1 (by omega)]
      have := fa_first_yes _ _ h2
      simp only [Bool.and_eq_true, decide_eq_true_eq] at this
      exact (eq_false (fun q => q (Or.inr ⟨_, h2, this.1, this.2⟩))).symm
    · rw [if_neg h2]
      have n2 : fa_first (fun i => decide (g (5 + 3 * i) = nI c) && stAt g i (nI m)) (aSN g) = aSN g := Nat.le_antisymm (fa_first_le _ _) (Nat.not_lt.mp h2)
      have no2 : ¬ ∃ i, i < aSN g ∧ g (5 + 3 * i) = nI c ∧ stAt g i (nI m) = true := by
        rintro ⟨k, hk, e, e2⟩
        have := fa_first_no (fun i => decide (g (5 + 3 * i) = nI c) && stAt g i (nI m)) (aSN g) k (by omega)
        simp [e, e2] at this
      exact propext ⟨fun _ q => q.elim no1 no2, fun _ => rfl⟩
/-- who it is, by number -/
theorem who_rng (hI : Inv g) (c : Int32) (m : Nat) : who g c m = -1 ∨ (∃ k, k < aWN g ∧ who g c m = nI k) ∨ ∃ i, i < aSN g ∧ who g c m = nI (12 + i) := by
  unfold who
  split
  · exact Or.inr (Or.inl ⟨_, by assumption, rfl⟩)
  · split
    · exact Or.inr (Or.inr ⟨_, by assumption, rfl⟩)
    · exact Or.inl rfl
theorem m_cov (hI : Inv (σ.1 1 0)) {c m : Nat} (hc : c < 64) (hm : m < 501) : f_X12_isCovered (nI c) (nI m) σ = some (zt (!decide (who (σ.1 1 0) (nI c) m = -1))) := by
  unfold f_X12_isCovered
  rw [m_who hI _ hm, Option.bind_some]
  by_cases h : who (σ.1 1 0) (nI c) m = -1 <;> simp [h, zt]
/-- the class -/
theorem c_isSpot {b : Nat} (hI : Inv g) (hR : RSc σ b g) {c : Nat} (hc : c < 64) : f_X1_isSpot b (nI c) σ = zt (sp g c) := by
  have hW := iv_W hI
  have hH := iv_H hI
  unfold f_X1_isSpot sp
  rw [hR.1, hR.2.1, hW.1, hH.1]
  simp (disch := omega) only [zlit, nI_leQ, nI_ltQ, zrem_nI, pk_div, Nat.zero_le, if_true]
  by_cases h56 : c < 56
  · by_cases h1 : c % 8 < aW g <;> by_cases h2 : c / 8 < aH g <;> simp [h56, h1, h2, zt, nI]
  · have h2 : ¬ c / 8 < aH g := by omega
    simp [h56, h2, zt, nI]
theorem c_isSpotX {b : Nat} (x : Int32) (h : ∀ c, c < 64 → x ≠ nI c) : f_X1_isSpot b x σ = 0 := by
  unfold f_X1_isSpot
  by_cases h1 : 0 ≤ x
  · by_cases h2 : x < 56
    · obtain ⟨j, hj, e⟩ := (range_of (n := 56) (by decide)).mp ⟨h1, h2⟩
      exact absurd e (h j (by omega))
    · simp [h1, h2]
  · simp [h1]
theorem c_spotIn {b : Nat} (hI : Inv g) (hR : RPa σ b g) {k m : Nat} (hk : k < aWN g) (hm : m < 501) : f_X5_spotIn b (nI k) (nI m) σ = some (pl g k m) := by
  have hN := iv_WN hI
  unfold f_X5_spotIn
  rw [(min_ok hm).1]
  simp (disch := omega) only [zlit, nI_leQ, nI_ltQ, Nat.zero_le, if_true, nI_add, pk_mul, zin_nI, nI_clamp, nI_eqI]
  have e : k * 501 + m = 501 * k + m := by omega
  rw [decide_eq_true (show k * 501 + m < 6012 by omega), zgT, e, hR.1 k hk m hm]
  have : k < 12 := by omega
  simp [this]
theorem c_isThere {s i : Nat} (hR : RSt σ s g) (hi : i < aSN g) (h8 : aSN g ≤ 8) (m : Int32) : f_X7_isThere s (nI i) m σ = some (zt (stAt g i m)) := by
  unfold f_X7_isThere stAt
  obtain ⟨-, h2, h3⟩ := hR.2 i hi
  simp (disch := omega) only [zin_nI, nI_clamp, h2, h3]
  rw [decide_eq_true (show i < 8 by omega), zgT]
  by_cases a : g (5 + 3 * i + 2) ≤ m <;> by_cases a2 : m ≤ g (5 + 3 * i + 1) <;> simp [a, a2, zt, zg]
theorem c_who {b : Nat} (hI : Inv g) (hW : RWk σ b g) (hP : RPa σ b g) (hS : RSt σ (7 * b) g) (c : Int32) {m : Nat} (hm : m < 501) : f_X1_whoCovers b c (nI m) σ = some (who g c m) := by
  have hN := iv_WN hI
  have hSN := tp_SN (iv_Top hI)
  unfold f_X1_whoCovers who
  rw [zlp_find (a := (0 : Int32)) (fun k => nI k) (fun k => decide (pl g k m = c)) (aWN g) (fun k => Sum.inl (nI k)) (E := Sum.inr ()) rfl ?_ ?_]
  · split
    · rfl
    · rw [Option.bind_some, Sum.elim_inr]
      unfold f_X7_firstOn
      rw [zlp_find (a := (0 : Int32)) (fun k => nI k) (fun i => decide (g (5 + 3 * i) = c) && stAt g i (nI m)) (aSN g) (fun k => Sum.inl (nI k)) (E := Sum.inr ()) rfl ?_ ?_]
      · split
        · rw [Option.bind_some, Sum.elim_inl, Option.bind_some, if_neg, zlit, nI_add]
          rw [nI_nm1 (by omega)]
          exact id
        · rfl
      · intro k hk
        unfold b_X7_firstOn_2
        rw [hS.1, hSN.1, c_isThere hS hk hSN.2, zin_ok (show k < 8 by omega) (by decide), zgT, nI_clamp (by omega), (hS.2 k hk).1]
        simp (disch := omega) only [zlit, nI_ltQ, hk, if_true, Option.bind_some, zt_0', nI_add]
        have : k < 8 := by omega
        by_cases h : g (5 + 3 * k) = c
        · cases stAt g k (nI m) <;> simp [h, this]
        · simp [h, this]
      · unfold b_X7_firstOn_2
        rw [hS.1, hSN.1]
        simp (disch := omega) only [nI_ltQ, Nat.lt_irrefl, if_false]
  · intro k hk
    unfold b_X1_whoCovers_2
    rw [hW.1, hN.1, c_spotIn hI hP hk hm]
    simp (disch := omega) only [zlit, nI_ltQ, hk, if_true, Option.bind_some, nI_add]
    by_cases h : pl g k m = c <;> simp [h]
  · unfold b_X1_whoCovers_2
    rw [hW.1, hN.1]
    simp (disch := omega) only [nI_ltQ, Nat.lt_irrefl, if_false]
end PURE
