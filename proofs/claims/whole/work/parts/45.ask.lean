/-! PURE LAYER: questions without laws or shots -/
section PURE
variable {σ σc σm : zG} {g : zGa}
theorem rB [Inhabited BFT] (h : Rel σc σm) : RB σc 0 (σm.1 1 0) := h.1
theorem rI [Inhabited BFT] (h : Rel σc σm) : Inv (σm.1 1 0) := h.2.1
/-- what is only used within a call -/
def zcs (f : Nat) : Bool := f == 5 || f == 27 || f == 28 || f == 42 || f == 43 || f == 44
def SmC (σ σ' : zG) : Prop := ∀ f, zcs f = false → σ'.1 f = σ.1 f ∧ σ'.2 f = σ.2 f
def SmM (σ σ' : zG) : Prop := σ'.1 1 = σ.1 1 ∧ σ'.1 2 = σ.1 2 ∧ σ'.1 3 = σ.1 3 ∧ σ'.1 8 = σ.1 8 ∧ σ'.1 0 0 3 = σ.1 0 0 3 ∧ σ'.1 0 0 4 = σ.1 0 0 4 ∧ σ'.1 0 0 16 = σ.1 0 0 16 ∧ σ'.1 0 0 23 = σ.1 0 0 23 ∧ σ'.1 0 0 25 = σ.1 0 0 25
theorem SmC.refl (σ : zG) : SmC σ σ := fun _ _ => ⟨rfl, rfl⟩
theorem SmM.refl (σ : zG) : SmM σ σ := ⟨rfl, rfl, rfl, rfl, rfl, rfl, rfl, rfl, rfl⟩
theorem SmC.trans {a b c : zG} (h : SmC a b) (h2 : SmC b c) : SmC a c := fun f hf => ⟨(h2 f hf).1.trans (h f hf).1, (h2 f hf).2.trans (h f hf).2⟩
theorem SmM.trans {a b c : zG} (h : SmM a b) (h2 : SmM b c) : SmM a c := ⟨h2.1.trans h.1, h2.2.1.trans h.2.1, h2.2.2.1.trans h.2.2.1, h2.2.2.2.1.trans h.2.2.2.1, h2.2.2.2.2.1.trans h.2.2.2.2.1, h2.2.2.2.2.2.1.trans h.2.2.2.2.2.1, h2.2.2.2.2.2.2.1.trans h.2.2.2.2.2.2.1, h2.2.2.2.2.2.2.2.1.trans h.2.2.2.2.2.2.2.1, h2.2.2.2.2.2.2.2.2.trans h.2.2.2.2.2.2.2.2⟩
theorem rb_same {σ σ' : zG} (hc : SmC σ σ') (b : Nat) (g : zGa) : RB σ' b g = RB σ b g := by
  simp only [RB, RSc, RSt, RWk, RPa, RLw, RSh, (hc 1 rfl).1, (hc 7 rfl).1, (hc 8 rfl).1, (hc 10 rfl).1, (hc 11 rfl).1, (hc 11 rfl).2, (hc 12 rfl).1, (hc 13 rfl).1, (hc 14 rfl).1, (hc 15 rfl).1, (hc 16 rfl).1, (hc 17 rfl).1, (hc 21 rfl).1, (hc 22 rfl).2, (hc 23 rfl).1, (hc 24 rfl).1, (hc 25 rfl).1, (hc 26 rfl).1, (hc 29 rfl).1, (hc 30 rfl).1, (hc 32 rfl).1]
theorem rel_same [Inhabited BFT] {σc' σm' : zG} (hc : SmC σc σc') (hm : SmM σm σm') (h : Rel σc σm) : Rel σc' σm' := by
  obtain ⟨m1, m2, m3, m8, n3, n4, n16, n23, n25⟩ := hm
  have e : Rel σc' σm' = Rel σc σm := by
    simp only [Rel, RKp, RTp, RFa, RIm, RSt, rb_same hc, m1, m2, m3, m8, n3, n4, n16, n23, n25, (hc 0 rfl).1, (hc 2 rfl).1, (hc 3 rfl).1, (hc 4 rfl).1, (hc 7 rfl).1, (hc 12 rfl).1, (hc 13 rfl).1, (hc 14 rfl).1, (hc 33 rfl).1, (hc 34 rfl).1, (hc 35 rfl).1, (hc 36 rfl).1, (hc 38 rfl).1]
  rw [e]
  exact h
/-- what is asked for is there on both sides, or on none -/
theorem min_cs (x : Int32) : (∃ m, m < 501 ∧ x = nI m ∧ f_X11_isMinute x = 1 ∧ f_X12_isMinute x = some 1) ∨ (f_X11_isMinute x = 0 ∧ f_X12_isMinute x = some 0) := by
  rcases one_min (x := x) with h | ⟨m, hm, rfl⟩
  · exact Or.inr h
  · exact Or.inl ⟨m, hm, rfl, (min_ok hm).1, (min_ok hm).2⟩
theorem wk_cs [Inhabited BFT] (h : Rel σc σm) (x : Int32) : (∃ k, k < aWN (σm.1 1 0) ∧ x = nI k ∧ f_X1_isWalker 0 x σc = 1 ∧ f_X12_isWalker x σm = some 1) ∨ (f_X1_isWalker 0 x σc = 0 ∧ f_X12_isWalker x σm = some 0) := by
  have hN := iv_WN (rI h)
  have eW : σc.1 8 (2 * 0) 0 = σm.1 1 0 36 := (rB h).2.2.1.1
  have e0 : (0 : Int32).toInt = 0 := rfl
  unfold f_X1_isWalker f_X12_isWalker
  rw [eW, hN.1]
  rcases below x (n := aWN (σm.1 1 0)) (by omega) with ⟨j, hj, rfl, r⟩ | ⟨n, r, r2⟩
  · refine Or.inl ⟨j, hj, rfl, ?_, ?_⟩
    · have : j < 12 := by omega
      simp (disch := omega) only [zlit, nI_leQ, nI_ltQ, Nat.zero_le, hj, this, if_true]
    · rw [r]; rfl
  · refine Or.inr ⟨?_, ?_⟩
    · by_cases h1 : 0 ≤ x
      · by_cases h2 : x < nI (aWN (σm.1 1 0))
        · exact absurd ⟨h1, h2⟩ r2
        · simp [h1, h2]
      · simp [h1]
    · rw [r]; rfl
theorem sp_cs [Inhabited BFT] (h : Rel σc σm) (x : Int32) : (∃ c, c < 56 ∧ x = nI c ∧ sp (σm.1 1 0) c = true ∧ f_X1_isSpot 0 x σc = 1 ∧ f_X12_isSpot x σm = some 1) ∨ (f_X1_isSpot 0 x σc = 0 ∧ f_X12_isSpot x σm = some 0) := by
  by_cases hx : ∃ c, c < 64 ∧ x = nI c
  · obtain ⟨c, hc, rfl⟩ := hx
    rw [c_isSpot (rI h) (rB h).1 hc, m_isSpot (rI h) hc]
    cases hs : sp (σm.1 1 0) c
    · exact Or.inr ⟨rfl, rfl⟩
    · exact Or.inl ⟨c, sp_56 (rI h) hs, rfl, hs, rfl, rfl⟩
  · have hn : ∀ c, c < 64 → x ≠ nI c := fun c hc e => hx ⟨c, hc, e⟩
    exact Or.inr ⟨c_isSpotX x hn, m_isSpotX x hn⟩
theorem sh_cs [Inhabited BFT] (h : Rel σc σm) (x : Int32) : (∃ i, i < aShN (σm.1 1 0) ∧ x = nI i ∧ f_X1_shotOf 0 x σc = some (some i) ∧ f_X12_isShot x σm = some 1) ∨ (f_X1_shotOf 0 x σc = some none ∧ f_X12_isShot x σm = some 0) := by
  have hN := tp_Sh (iv_Top (rI h))
  have e9 : σc.1 1 0 9 = σm.1 1 0 4 := (rB h).1.2.2.2.2.2.2.2.2.2
  unfold f_X1_shotOf f_X12_isShot
  rw [e9, hN.1]
  rcases below x (n := aShN (σm.1 1 0)) (by omega) with ⟨j, hj, rfl, r⟩ | ⟨n, r, r2⟩
  · refine Or.inl ⟨j, hj, rfl, ?_, ?_⟩
    · have : j < 10 := by omega
      simp (disch := omega) only [zlit, nI_leQ, nI_ltQ, Nat.zero_le, hj, this, if_true, zin_nI, decide_true, zgT, nI_clamp]
      simp
    · rw [r]; rfl
  · refine Or.inr ⟨?_, ?_⟩
    · by_cases h1 : 0 ≤ x
      · by_cases h2 : x < nI (aShN (σm.1 1 0))
        · exact absurd ⟨h1, h2⟩ r2
        · simp [h1, h2]
      · simp [h1]
    · rw [r]; rfl
theorem span_cs (x y : Int32) : (∃ a n, a + n ≤ 500 ∧ x = nI a ∧ y = nI (a + n) ∧ f_X11_isSpan x y = 1 ∧ f_X12_areMinutes x y = 1) ∨ (f_X11_isSpan x y = 0 ∧ f_X12_areMinutes x y = 0) := by
  unfold f_X11_isSpan f_X12_areMinutes
  rw [isIn_zt]
  by_cases h1 : 0 ≤ x
  · by_cases h2 : x ≤ y
    · by_cases h3 : y ≤ 500
      · left
        have h0 : ¬ y < 0 := fun q => by rw [fa_lt] at q; rw [fa_le] at h1 h2; omega
        obtain ⟨b, hb, rfl⟩ := nI_of2 (M := 500) (n := 500) rfl h0 h3
        have h0x : ¬ x < 0 := fun q => by rw [fa_lt] at q; rw [fa_le] at h1; omega
        obtain ⟨a, ha, rfl⟩ := nI_of2 (M := nI b) (n := b) (nI_toInt (by omega)) h0x h2
        refine ⟨a, b - a, by omega, rfl, by rw [Nat.add_sub_cancel' ha], ?_, ?_⟩ <;> simp [h1, h2, h3, zt]
      · right; simp [h1, h2, h3, zt]
    · right; simp [h1, h2, zt]
  · right; simp [h1, zt]
theorem isIn02 (p : Int32) : f_X12_isIn p 0 2 = zt (decide (p = 0 ∨ p = 1 ∨ p = 2)) := by
  rcases isIn_lit p 0 2 (by decide) (by decide) with ⟨j, -, h, rfl, r⟩ | ⟨n, r, -⟩
  · have r' : f_X12_isIn (nI j) 0 2 = 1 := r
    rw [r']
    have : decide (nI j = 0 ∨ nI j = 1 ∨ nI j = 2) = true := by
      match j, h with
      | 0, _ => decide
      | 1, _ => decide
      | 2, _ => decide
    rw [this]; rfl
  · have r' : f_X12_isIn p 0 2 = 0 := r
    rw [r']
    have : decide (p = 0 ∨ p = 1 ∨ p = 2) = false := decide_eq_false (by
      rintro (e | e | e)
      · exact n 0 (by decide) (by decide) e
      · exact n 1 (by decide) (by decide) e
      · exact n 2 (by decide) (by decide) e)
    rw [this]; rfl
theorem isIn01 (p : Int32) : f_X12_isIn p 0 1 = zt (decide (p = 0 ∨ p = 1)) := by
  rcases isIn_lit p 0 1 (by decide) (by decide) with ⟨j, -, h, rfl, r⟩ | ⟨n, r, -⟩
  · have r' : f_X12_isIn (nI j) 0 1 = 1 := r
    rw [r']
    have : decide (nI j = 0 ∨ nI j = 1) = true := by
      match j, h with
      | 0, _ => decide
      | 1, _ => decide
    rw [this]; rfl
  · have r' : f_X12_isIn p 0 1 = 0 := r
    rw [r']
    have : decide (p = 0 ∨ p = 1) = false := decide_eq_false (by
      rintro (e | e)
      · exact n 0 (by decide) (by decide) e
      · exact n 1 (by decide) (by decide) e)
    rw [this]; rfl
theorem isIn03 (p : Int32) : f_X12_isIn p 0 3 = zt (decide (p = 0 ∨ p = 1 ∨ p = 2 ∨ p = 3)) := by
  rcases isIn_lit p 0 3 (by decide) (by decide) with ⟨j, -, h, rfl, r⟩ | ⟨n, r, -⟩
  · have r' : f_X12_isIn (nI j) 0 3 = 1 := r
    rw [r']
    have : decide (nI j = 0 ∨ nI j = 1 ∨ nI j = 2 ∨ nI j = 3) = true := by
      match j, h with
      | 0, _ => decide
      | 1, _ => decide
      | 2, _ => decide
      | 3, _ => decide
    rw [this]; rfl
  · have r' : f_X12_isIn p 0 3 = 0 := r
    rw [r']
    have : decide (p = 0 ∨ p = 1 ∨ p = 2 ∨ p = 3) = false := decide_eq_false (by
      rintro (e | e | e | e)
      · exact n 0 (by decide) (by decide) e
      · exact n 1 (by decide) (by decide) e
      · exact n 2 (by decide) (by decide) e
      · exact n 3 (by decide) (by decide) e)
    rw [this]; rfl
theorem isInCs (p : Int32) : f_X12_isIn p 12 14 = zt (decide (p = 12 ∨ p = 13 ∨ p = 14)) := by
  rcases isIn_lit p 12 14 (by decide) (by decide) with ⟨j, h0, h, rfl, r⟩ | ⟨n, r, -⟩
  · have r' : f_X12_isIn (nI j) 12 14 = 1 := r
    rw [r']
    have : decide (nI j = 12 ∨ nI j = 13 ∨ nI j = 14) = true := by
      match j, h, h0 with
      | 12, _, _ => decide
      | 13, _, _ => decide
      | 14, _, _ => decide
    rw [this]; rfl
  · have r' : f_X12_isIn p 12 14 = 0 := r
    rw [r']
    have : decide (p = 12 ∨ p = 13 ∨ p = 14) = false := decide_eq_false (by
      rintro (e | e | e)
      · exact n 12 (by decide) (by decide) e
      · exact n 13 (by decide) (by decide) e
      · exact n 14 (by decide) (by decide) e)
    rw [this]; rfl
theorem pr_fault [Inhabited BFT] : PR_fault Rel := fun x σc σm h => ⟨_, rfl, by
  unfold f_X12_fault f_X11_fault
  rw [h.2.2.2.2.1.1, h.2.2.2.2.1.2], h⟩
theorem pr_look [Inhabited BFT] : PR_look Rel := fun x σc σm h => ⟨_, rfl, by
  obtain ⟨s0, s1, s2, s3, s4, s5, s6, s7, s8, s9⟩ := (rB h).1
  have w0 : σc.1 8 0 0 = σm.1 1 0 36 := (rB h).2.2.1.1
  have t0 : σc.1 7 0 0 = σm.1 1 0 3 := (rB h).2.1.1
  have l0 : σc.1 10 0 0 = σm.1 1 0 37 := (rB h).2.2.2.2.1.1.1
  have l1 : σc.1 10 1 0 = σm.1 1 0 38 := (rB h).2.2.2.2.1.2.1
  have k0 : σc.1 2 0 1 = σm.1 0 0 3 := by
    obtain ⟨fi, n, -, -, -, e1, e2, -⟩ := h.2.2.1
    rw [e1, e2]
  unfold f_X12_look f_X11_look f_X1_numberOf
  simp only [s0, s1, s2, s3, s4, s5, s6, s7, s8, s9, w0, t0, l0, l1, k0, isInCs, zt_0]
  by_cases h0 : x = 0
  · subst h0; rfl
  by_cases h1 : x = 1
  · subst h1; rfl
  by_cases h2 : x = 2
  · subst h2; rfl
  by_cases h3 : x = 3
  · subst h3; rfl
  by_cases h4 : x = 4
  · subst h4; rfl
  by_cases h5 : x = 5
  · subst h5; rfl
  by_cases h6 : x = 6
  · subst h6; rfl
  by_cases h7 : x = 7
  · subst h7; rfl
  by_cases h8 : x = 8
  · subst h8; rfl
  by_cases h9 : x = 9
  · subst h9; rfl
  by_cases h10 : x = 10
  · subst h10; rfl
  by_cases h11 : x = 11
  · subst h11; rfl
  by_cases h12 : x = 12
  · subst h12; rfl
  by_cases h13 : x = 13
  · subst h13; rfl
  by_cases h14 : x = 14
  · subst h14; rfl
  simp only [h0, h1, h2, h3, h4, h5, h6, h7, h8, h9, h10, h11, h12, h13, h14, if_false, or_self, decide_false, if_true], h⟩
theorem pr_where [Inhabited BFT] : PR_where Rel := fun x y σc σm h => by
  unfold f_X11_where f_X12_where
  rcases wk_cs h x with ⟨k, hk, rfl, e1, e2⟩ | ⟨e1, e2⟩
  · rw [e1, e2]
    rcases min_cs y with ⟨m, hm, rfl, e3, e4⟩ | ⟨e3, e4⟩
    · rw [e3, e4, c_spotIn (rI h) (rB h).2.2.2.1 hk hm]
      have := (iv_WN (rI h)).2
      exact ⟨_, rfl, by simp [m_place (σ := σm) (show k < 12 by omega) hm], h⟩
    · rw [e3, e4]
      exact ⟨_, rfl, rfl, h⟩
  · rw [e1, e2]
    exact ⟨_, rfl, rfl, h⟩
theorem m_ofWalker {k f : Nat} (hk : k < 12) (hf : f < 4) : f_X12_ofWalker (nI k) (nI f) σ = some (σ.1 1 0 (104 + 4 * k + f)) := by
  unfold f_X12_ofWalker
  simp (disch := omega) only [zlit, nI_add, pk_mul, zin_nI, nI_clamp]
  rw [decide_eq_true (by omega), zgT]
theorem m_there {k : Nat} (hk : k < 12) : f_X12_thereMany (nI k) σ = some (nI (fb_ct (fun m => !decide (pl (σ.1 1 0) k m = -1)) 501)) := by
  unfold f_X12_thereMany
  rw [zlp_for (a := ((0 : Int32), (0 : Int32))) (fun m => (nI (fb_ct (fun m => !decide (pl (σ.1 1 0) k m = -1)) m), nI m)) 501 (b := nI (fb_ct (fun m => !decide (pl (σ.1 1 0) k m = -1)) 501)) rfl ?_ ?_]
  · rfl
  · intro m hm
    unfold b_X12_thereMany_4
    rw [m_place hk hm]
    simp only [Option.bind_some, fb_ct_succ]
    have : nI m < (501 : Int32) := nI_lt (b := 501) hm (by decide)
    by_cases e : pl (σ.1 1 0) k m = -1
    · simp only [e, this, if_true]
      simp only [zlit, nI_add]
      simp
    · simp only [e, this, if_true, if_false]
      simp only [zlit, nI_add]
      simp
  · unfold b_X12_thereMany_4
    simp (disch := omega) only [zlit, nI_ltQ, Nat.lt_irrefl, if_false]
theorem c_there (hI : Inv g) (hP : RPa σ 0 g) {k : Nat} (hk : k < aWN g) : f_X5_minutesThere 0 (nI k) σ = some (nI (fb_ct (fun m => !decide (pl g k m = -1)) 501)) := by
  unfold f_X5_minutesThere
  rw [zlp_for (a := ((0 : Int32), (0 : Int32))) (fun m => (nI (fb_ct (fun m => !decide (pl g k m = -1)) m), nI m)) 501 (b := nI (fb_ct (fun m => !decide (pl g k m = -1)) 501)) rfl ?_ ?_]
  · rfl
  · intro m hm
    unfold b_X5_minutesThere_4
    rw [c_spotIn hI hP hk hm]
    simp only [Option.bind_some, fb_ct_succ]
    have : nI m ≤ (500 : Int32) := nI_le (b := 500) (by omega) (by decide)
    by_cases e : pl g k m = -1
    · simp only [e, this, if_true]
      simp only [zlit, nI_add]
      simp
    · simp only [e, this, if_true, if_false]
      simp only [zlit, nI_add]
      simp
  · unfold b_X5_minutesThere_4
    simp (disch := omega) only [zlit, nI_leQ, show ¬ 501 ≤ 500 by decide, if_false]
theorem pr_of [Inhabited BFT] : PR_of Rel := fun x y σc σm h => by
  unfold f_X11_of f_X12_of
  rcases wk_cs h x with ⟨k, hk, rfl, e1, e2⟩ | ⟨e1, e2⟩
  · have h12 := (iv_WN (rI h)).2
    have hm := tp_Min (iv_Top (rI h))
    obtain ⟨w0, w1, w2⟩ := (rB h).2.2.1.2 k hk
    have s3 : σc.1 1 0 3 = σm.1 1 0 0 := (rB h).1.2.2.2.1
    have a0 : f_X12_ofWalker (nI k) 0 σm = some (σm.1 1 0 (104 + 4 * k + 0)) := m_ofWalker (by omega) (by decide)
    have a1 : f_X12_ofWalker (nI k) 1 σm = some (σm.1 1 0 (104 + 4 * k + 1)) := m_ofWalker (by omega) (by decide)
    have a2 : f_X12_ofWalker (nI k) 2 σm = some (σm.1 1 0 (104 + 4 * k + 2)) := m_ofWalker (by omega) (by decide)
    have z : zin (nI k) 12 = true := zin_ok (by omega) (by decide)
    have cl : (nI k).toNatClampNeg = k := nI_clamp (by omega)
    rw [e1, e2, isIn02]
    simp only [Option.bind_some, zt_0, z, zgT, cl, w0, w1, w2]
    by_cases h0 : y = 0
    · subst h0; exact ⟨_, rfl, by simp [a0], h⟩
    by_cases h1 : y = 1
    · subst h1; exact ⟨_, rfl, by simp [a1], h⟩
    by_cases h2 : y = 2
    · subst h2; exact ⟨_, rfl, by simp [a2], h⟩
    by_cases h3 : y = 3
    · subst h3
      rw [c_there (rI h) (rB h).2.2.2.1 hk, m_there (by omega)]
      exact ⟨_, rfl, rfl, h⟩
    by_cases h4 : y = 4
    · subst h4
      rw [s3, hm.1, c_spotIn (rI h) (rB h).2.2.2.1 hk (by omega), m_place (by omega) (by omega)]
      exact ⟨_, rfl, rfl, h⟩
    simp only [h0, h1, h2, h3, h4, if_false, or_self, decide_false, if_true]
    exact ⟨_, rfl, rfl, h⟩
  · rw [e1, e2]
    exact ⟨_, rfl, rfl, h⟩
theorem pr_stranger [Inhabited BFT] : PR_stranger Rel := fun x y σc σm h => by
  have hN := tp_SN (iv_Top (rI h))
  have t0 : σc.1 7 0 0 = σm.1 1 0 3 := (rB h).2.1.1
  unfold f_X11_stranger f_X12_stranger
  rw [t0, hN.1]
  rcases below x (n := aSN (σm.1 1 0)) (by omega) with ⟨k, hk, rfl, r⟩ | ⟨n, r, r2⟩
  · obtain ⟨w0, w1, w2⟩ := (rB h).2.1.2 k hk
    have a0 : f_X12_ofStranger (nI k) 0 σm = some (σm.1 1 0 (5 + 3 * k + 0)) := m_ofStr (by omega) (by decide)
    have a1 : f_X12_ofStranger (nI k) 1 σm = some (σm.1 1 0 (5 + 3 * k + 1)) := m_ofStr (by omega) (by decide)
    have a2 : f_X12_ofStranger (nI k) 2 σm = some (σm.1 1 0 (5 + 3 * k + 2)) := m_ofStr (by omega) (by decide)
    have z : zin (nI k) 8 = true := zin_ok (by omega) (by decide)
    have cl : (nI k).toNatClampNeg = k := nI_clamp (by omega)
    have p0 : (0 : Int32) ≤ nI k := nI_pos' (by omega)
    have p1 : ¬ nI (aSN (σm.1 1 0)) ≤ nI k := nI_ge hk (by omega)
    simp only [Nat.mul_zero] at w0 w1 w2
    rw [r, isIn02]
    simp only [zt_0, z, zgT, cl, w0, w1, w2, p0, p1, if_true, if_false]
    by_cases h0 : y = 0
    · subst h0; exact ⟨_, rfl, by simp [a0], h⟩
    by_cases h1 : y = 1
    · subst h1; exact ⟨_, rfl, by simp [a1], h⟩
    by_cases h2 : y = 2
    · subst h2; exact ⟨_, rfl, by simp [a2], h⟩
    simp only [h0, h1, h2, if_false, or_self, decide_false, if_true]
    exact ⟨_, rfl, by simp, h⟩
  · rw [r]
    refine ⟨-1, ?_, rfl, h⟩
    by_cases h1 : 0 ≤ x
    · have : nI (aSN (σm.1 1 0)) ≤ x := by
        by_cases q : nI (aSN (σm.1 1 0)) ≤ x
        · exact q
        · exact absurd ⟨h1, fa_of_nle q⟩ r2
      simp [h1, this]
    · simp [h1]
theorem pr_covered [Inhabited BFT] : PR_covered Rel := fun x σc σm h => by
  unfold f_X11_covered f_X12_covered
  rcases min_cs x with ⟨m, hm, rfl, e3, e4⟩ | ⟨e3, e4⟩
  · rw [e3, e4, c_coverIn (iv_Top (rI h)) (rB h).2.1 hm]
    refine ⟨_, rfl, ?_, h⟩
    rw [Option.bind_some, if_neg (by decide), zlp_for (a := ((0 : Int64), (0 : Int32))) (fun c => (bitsL (fun c => sp (σm.1 1 0) c && covB (σm.1 1 0) c m) c, nI c)) 64 (b := covX σc 0 (σm.1 1 0) m) rfl ?_ ?_]
    · rfl
    · intro c hc
      unfold b_X12_covered_16
      rw [m_isSpot (rI h) hc, m_covB (rI h) hc hm, bitsL]
      simp (disch := omega) only [Option.bind_some, zt_0', zlit, nI_add, nI_ltQ, hc, if_true]
      cases sp (σm.1 1 0) c <;> cases covB (σm.1 1 0) c m <;> simp
    · unfold b_X12_covered_16
      have e : bitsL (fun c => sp (σm.1 1 0) c && covB (σm.1 1 0) c m) 64 = covX σc 0 (σm.1 1 0) m := bits_eq (by decide) fun i hi => by
        rw [lb_covX (rI h) (rB h).2.2.2.1 hi hm]
        cases hb : covB (σm.1 1 0) i m
        · simp
        · have hs : sp (σm.1 1 0) i = true := by
            rw [covB_iff (rI h) hi] at hb
            rcases hb with ⟨k, hk, e⟩ | ⟨j, hj, e, -⟩
            · rcases iv_Pl (rI h) hk hm with e2 | ⟨c, hc, e2, e3⟩
              · rw [e, nI_nm1 (by omega)] at e2
                exact e2.elim
              · rw [e, nI_eqI (by omega) (by omega)] at e2
                rw [e2]; exact e3
            · obtain ⟨c, hc, e2, e3⟩ := tp_Sp (iv_Top (rI h)) hj
              rw [e, nI_eqI (by omega) (by omega)] at e2
              rw [e2]; exact e3
          simp [hi, hs]
      rw [e]
      rfl
  · rw [e3, e4]
    exact ⟨_, rfl, rfl, h⟩
/-- free minutes -/
theorem pr_waits [Inhabited BFT] : PR_waits Rel := fun σc σm h => by
  have hm := tp_Min (iv_Top (rI h))
  have s3 : σc.1 1 0 3 = σm.1 1 0 0 := (rB h).1.2.2.2.1
  unfold f_X11_waits f_X9_firstFree f_X12_waits
  rw [c_viewNow (rI h) (rB h).1, Option.bind_some, s3, hm.1]
  have hk : ∀ k, k < 501 - aMin (σm.1 1 0) → nI (aMin (σm.1 1 0) + k) ≤ (500 : Int32) := fun k hk => nI_le (b := 500) (by omega) (by decide)
  have he : ¬ nI (aMin (σm.1 1 0) + (501 - aMin (σm.1 1 0))) ≤ (500 : Int32) := nI_ge (a := 500) (by omega) (by omega)
  rw [zlp_find (a := nI (aMin (σm.1 1 0))) (fun k => nI (aMin (σm.1 1 0) + k)) (fun k => emp (σm.1 1 0) (aMin (σm.1 1 0) + k)) (501 - aMin (σm.1 1 0)) (fun k => Sum.inl (nI (aMin (σm.1 1 0) + k))) (E := Sum.inr ()) rfl ?_ ?_]
  · rw [zlp_find (a := nI (aMin (σm.1 1 0))) (fun k => nI (aMin (σm.1 1 0) + k)) (fun k => emp (σm.1 1 0) (aMin (σm.1 1 0) + k)) (501 - aMin (σm.1 1 0)) (fun k => Sum.inl (nI (aMin (σm.1 1 0) + k))) (E := Sum.inr ()) rfl ?_ ?_]
    · split <;> exact ⟨_, rfl, rfl, h⟩
    · intro k hk2
      unfold b_X12_waits_7
      rw [if_pos (hk k hk2), m_empty (rI h) (by omega)]
      simp only [Option.bind_some, zt_0', zlit, nI_add]
      cases emp (σm.1 1 0) (aMin (σm.1 1 0) + k) <;> simp [Nat.add_assoc]
    · unfold b_X12_waits_7
      rw [if_neg he]
  · intro k hk2
    unfold b_X9_firstFree_16
    rw [if_pos (hk k hk2), c_empty (rI h) (rB h) (by omega)]
    simp only [Option.bind_some, zt_0', zlit, nI_add]
    cases emp (σm.1 1 0) (aMin (σm.1 1 0) + k) <;> simp [Nat.add_assoc]
  · unfold b_X9_firstFree_16
    rw [if_neg he]
end PURE
