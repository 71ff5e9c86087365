/-! PURE LAYER: the relation behind a law that was put -/
def rwp2 (kk f i : Nat) : Bool := rws 0 f i && !((f == 10 || f == 23 || f == 24 || f == 25 || f == 26) && i == kk)
section PURE
variable {σ σ' σc σm : zG} {g g' : zGa} {k kk q : Nat}
theorem lrg_lo (hkk : kk < 2) (h : ∀ j, ¬ lrg kk j → g' j = g j) : ∀ k, k < 37 ∨ (39 ≤ k ∧ k < 7512) → g' k = g k := fun k hk => h k (by unfold lrg; omega)
theorem inv_put (hI : Inv g) (hkk : kk < 2) (hg : ∀ j, ¬ lrg kk j → g' j = g j) (hL : LawI g' kk) : Inv g' := by
  have hl := lrg_lo hkk hg
  have e1 : aW g' = aW g := congrArg Int32.toNatClampNeg (hl 30 (by decide))
  have e2 : aH g' = aH g := congrArg Int32.toNatClampNeg (hl 31 (by decide))
  have e3 : aWide g' = aWide g := congrArg Int32.toNatClampNeg (hl 32 (by decide))
  have e4 : aStep g' = aStep g := congrArg Int32.toNatClampNeg (hl 1 (by decide))
  have e5 : aMin g' = aMin g := congrArg Int32.toNatClampNeg (hl 0 (by decide))
  have e6 : aSN g' = aSN g := congrArg Int32.toNatClampNeg (hl 3 (by decide))
  have e7 : aWN g' = aWN g := congrArg Int32.toNatClampNeg (hl 36 (by decide))
  have e9 : aShN g' = aShN g := congrArg Int32.toNatClampNeg (hl 4 (by decide))
  have e8 : sp g' = sp g := by funext c; unfold sp; rw [e1, e2]
  have c1 : aCom g' = aCom g := congrArg Int32.toNatClampNeg (hl 33 (by decide))
  have c2 : aStay g' = aStay g := congrArg Int32.toNatClampNeg (hl 34 (by decide))
  have c3 : aGrey g' = aGrey g := congrArg Int32.toNatClampNeg (hl 35 (by decide))
  obtain ⟨a1, a2, a3, a4, a5, a6, a7, a8, ⟨l0, l1⟩, aT, b1, b2⟩ := hI
  have hS10 := aT.2.2.2.1.2
  have hS8 := aT.2.2.1.2
  have lw : ∀ k, k < 2 → LawI g k → LawI g' k := fun k hk hlk => by
    by_cases c : k = kk
    · rw [c]; exact hL
    · exact lwi_cong (lrg_out hkk hk c hg) hlk
  have hT : Top g' g' := by
    unfold Top at aT ⊢
    rw [e1, e3, e4, e5, e6, e8, e9, hl 0 (by decide), hl 1 (by decide), hl 3 (by decide), hl 4 (by decide)]
    refine ⟨aT.1, aT.2.1, aT.2.2.1, aT.2.2.2.1, fun j hj => ?_, fun c hc => ?_⟩
    · rw [hl (5 + 3 * j) (by omega)]
      exact aT.2.2.2.2.1 j hj
    · rw [hl (40 + c) (by omega)]
      exact aT.2.2.2.2.2 c hc
  unfold Inv
  rw [e1, e2, e3, e7, e8, e9, c1, c2, c3, hl 30 (by decide), hl 31 (by decide), hl 32 (by decide), hl 33 (by decide), hl 34 (by decide), hl 35 (by decide), hl 36 (by decide)]
  refine ⟨a1, a2, a3, a4, a5, a6, a7, fun k hk => ?_, ⟨lw 0 (by decide) l0, lw 1 (by decide) l1⟩, hT, fun j hj c hc => ?_, fun j hj c h1 h2 => ?_⟩
  · have hk12 : k < 12 := by have := a7.2; omega
    rw [hl (104 + 4 * k) (by omega)]
    refine ⟨(a8 k hk).1, fun m hm => ?_⟩
    unfold pl
    rw [hl (1500 + 501 * k + m) (by omega)]
    exact (a8 k hk).2 m hm
  · rw [hl (152 + 134 * j + 4 + c) (by omega), hl (152 + 134 * j + 68 + c) (by omega)]
    exact b1 j hj c hc
  · rw [hl (152 + 134 * j + 4 + c) (by omega)]
    exact b2 j hj c h1 h2
theorem rb_put (h : RB σ 0 g) (hI : Inv g) (hkk : kk < 2) (hg : ∀ j, ¬ lrg kk j → g' j = g j) (hr : REq (rwp2 kk) σ σ') (hL : RLw σ' kk g' kk) : RB σ' 0 g' := by
  have hl := lrg_lo hkk hg
  have e6 : aSN g' = aSN g := congrArg Int32.toNatClampNeg (hl 3 (by decide))
  have e7 : aWN g' = aWN g := congrArg Int32.toNatClampNeg (hl 36 (by decide))
  have e9 : aShN g' = aShN g := congrArg Int32.toNatClampNeg (hl 4 (by decide))
  obtain ⟨a1, a2, a3, a4, a5, a6, a7, a8, ⟨l0, l1⟩, aT, b1, b2⟩ := hI
  have hS10 := aT.2.2.2.1.2
  have hS8 := aT.2.2.1.2
  have hW := a7.2
  obtain ⟨r1, r2, r3, r4, ⟨r5, r6⟩, r7, r8⟩ := h
  have nl : ∀ f i, (f == 10 || f == 23 || f == 24 || f == 25 || f == 26) = false → rws 0 f i = true → rwp2 kk f i = true := fun f i h1 h2 => by
    unfold rwp2
    rw [h1, h2]
    rfl
  have lw : ∀ k, k < 2 → LawI g k → RLw σ (3 * 0 + k) g k → RLw σ' (3 * 0 + k) g' k := fun k hk hlk hrk => by
    by_cases c : k = kk
    · subst c
      rw [Nat.mul_zero, Nat.zero_add]
      exact hL
    · refine rlw_cong (lrg_out hkk hk c hg) hlk hrk fun f hf => (hr f _ ?_).1
      have hk2 : k = 0 ∨ k = 1 := by omega
      unfold rwp2 rws
      rcases hk2 with rfl | rfl <;> rcases hf with rfl | rfl | rfl | rfl | rfl <;> simp <;> omega
  refine ⟨?_, ?_, ?_, ?_, ⟨lw 0 (by decide) l0 r5, lw 1 (by decide) l1 r6⟩, fun j hj => ?_, fun c hc => ?_⟩
  · unfold RSc at r1 ⊢
    rw [(hr 1 0 (nl 1 0 rfl rfl)).1, hl 30 (by decide), hl 31 (by decide), hl 2 (by decide), hl 0 (by decide), hl 32 (by decide), hl 1 (by decide), hl 33 (by decide), hl 34 (by decide), hl 35 (by decide), hl 4 (by decide)]
    exact r1
  · unfold RSt at r2 ⊢
    rw [(hr 7 _ (nl 7 (7 * 0) rfl rfl)).1, (hr 12 _ (nl 12 (7 * 0) rfl rfl)).1, (hr 13 _ (nl 13 (7 * 0) rfl rfl)).1, (hr 14 _ (nl 14 (7 * 0) rfl rfl)).1, e6, hl 3 (by decide)]
    refine ⟨r2.1, fun i hi => ?_⟩
    rw [hl (5 + 3 * i) (by omega), hl (5 + 3 * i + 1) (by omega), hl (5 + 3 * i + 2) (by omega)]
    exact r2.2 i hi
  · unfold RWk at r3 ⊢
    rw [(hr 8 _ (nl 8 (2 * 0) rfl rfl)).1, (hr 15 _ (nl 15 (2 * 0) rfl rfl)).1, (hr 16 _ (nl 16 (2 * 0) rfl rfl)).1, (hr 17 _ (nl 17 (2 * 0) rfl rfl)).1, e7, hl 36 (by decide)]
    refine ⟨r3.1, fun i hi => ?_⟩
    rw [hl (104 + 4 * i) (by omega), hl (104 + 4 * i + 1) (by omega), hl (104 + 4 * i + 2) (by omega)]
    exact r3.2 i hi
  · have ep : ∀ i, i < aWN g → ∀ m, m < 501 → pl g' i m = pl g i m := fun i hi m hm => by
      unfold pl
      exact hl _ (by omega)
    unfold RPa at r4 ⊢
    rw [(hr 21 _ (nl 21 0 rfl rfl)).1, (hr 22 _ (nl 22 0 rfl rfl)).2, e7]
    refine ⟨fun i hi m hm => by rw [ep i hi m hm]; exact r4.1 i hi m hm, fun m hm c hc => ?_⟩
    rw [r4.2 m hm c hc]
    exact ⟨fun ⟨i, hi, z⟩ => ⟨i, hi, by rw [ep i hi m hm]; exact z⟩, fun ⟨i, hi, z⟩ => ⟨i, hi, by rw [← ep i hi m hm]; exact z⟩⟩
  · rw [e9] at hj
    have hsh := r7 j hj
    rw [Nat.mul_zero, Nat.zero_add] at hsh ⊢
    have rr : ∀ f, (f = 11 ∨ f = 29 ∨ f = 30) → rwp2 kk f j = true := fun f hf => by
      rcases hf with rfl | rfl | rfl <;> simp [rwp2, rws] <;> omega
    unfold RSh at hsh ⊢
    rw [(hr 11 _ (rr 11 (by simp))).1, (hr 11 _ (rr 11 (by simp))).2, (hr 29 _ (rr 29 (by simp))).1, (hr 30 _ (rr 30 (by simp))).1, hl (152 + 134 * j) (by omega), hl (152 + 134 * j + 1) (by omega), hl (152 + 134 * j + 2) (by omega)]
    obtain ⟨s1, s2, s3, s4, s5, s6⟩ := hsh
    refine ⟨s1, s2, s3, fun c hc => ?_, fun c hc => ?_, fun c hc hne => ?_⟩
    · rw [hl (152 + 134 * j + 4 + c) (by omega)]; exact s4 c hc
    · rw [hl (152 + 134 * j + 4 + c) (by omega)]; exact s5 c hc
    · rw [hl (152 + 134 * j + 4 + c) (by omega)] at hne ⊢
      rw [hl (152 + 134 * j + 68 + c) (by omega)]
      exact s6 c hc hne
  · rw [(hr 32 0 (nl 32 0 rfl rfl)).1, hl (40 + c) (by omega)]
    exact r8 c hc
end PURE
