/-! PURE LAYER: image -/
section PURE
variable {σ σ' s σc σm sm : zG} {g g' : zGa} {b p N : Nat}
theorem sm_9 (hg : ∀ j, j < 9248 → g' j = g j) {k : Nat} (hk : k < 2) : SmLw k g g' := ⟨hg _ (by omega), fun i hi => ⟨hg _ (by omega), hg _ (by omega), hg _ (by omega)⟩, fun j hj => hg _ (by omega)⟩
theorem inv_9 (hI : Inv g) (hg : ∀ j, j < 9248 → g' j = g j) : Inv g' := by
  have e1 : aW g' = aW g := congrArg Int32.toNatClampNeg (hg 30 (by decide))
  have e2 : aH g' = aH g := congrArg Int32.toNatClampNeg (hg 31 (by decide))
  have e3 : aWide g' = aWide g := congrArg Int32.toNatClampNeg (hg 32 (by decide))
  have e4 : aStep g' = aStep g := congrArg Int32.toNatClampNeg (hg 1 (by decide))
  have e5 : aMin g' = aMin g := congrArg Int32.toNatClampNeg (hg 0 (by decide))
  have e6 : aSN g' = aSN g := congrArg Int32.toNatClampNeg (hg 3 (by decide))
  have e7 : aWN g' = aWN g := congrArg Int32.toNatClampNeg (hg 36 (by decide))
  have e9 : aShN g' = aShN g := congrArg Int32.toNatClampNeg (hg 4 (by decide))
  have e8 : sp g' = sp g := by funext c; unfold sp; rw [e1, e2]
  have c1 : aCom g' = aCom g := congrArg Int32.toNatClampNeg (hg 33 (by decide))
  have c2 : aStay g' = aStay g := congrArg Int32.toNatClampNeg (hg 34 (by decide))
  have c3 : aGrey g' = aGrey g := congrArg Int32.toNatClampNeg (hg 35 (by decide))
  obtain ⟨a1, a2, a3, a4, a5, a6, a7, a8, ⟨l0, l1⟩, aT, b1, b2⟩ := hI
  have hS10 := aT.2.2.2.1.2
  have hS8 := aT.2.2.1.2
  have hT : Top g' g' := by
    unfold Top at aT ⊢
    rw [e1, e3, e4, e5, e6, e8, e9, hg 0 (by decide), hg 1 (by decide), hg 3 (by decide), hg 4 (by decide)]
    refine ⟨aT.1, aT.2.1, aT.2.2.1, aT.2.2.2.1, fun j hj => ?_, fun c hc => ?_⟩
    · rw [hg (5 + 3 * j) (by omega)]
      exact aT.2.2.2.2.1 j hj
    · rw [hg (40 + c) (by omega)]
      exact aT.2.2.2.2.2 c hc
  unfold Inv
  rw [e1, e2, e3, e7, e8, e9, c1, c2, c3, hg 30 (by decide), hg 31 (by decide), hg 32 (by decide), hg 33 (by decide), hg 34 (by decide), hg 35 (by decide), hg 36 (by decide)]
  refine ⟨a1, a2, a3, a4, a5, a6, a7, fun k hk => ?_, ⟨lwi_cong (sm_9 hg (by decide)) l0, lwi_cong (sm_9 hg (by decide)) l1⟩, hT, fun j hj c hc => ?_, fun j hj c h1 h2 => ?_⟩
  · have hk12 : k < 12 := by have := a7.2; omega
    rw [hg (104 + 4 * k) (by omega)]
    refine ⟨(a8 k hk).1, fun m hm => ?_⟩
    unfold pl
    rw [hg (1500 + 501 * k + m) (by omega)]
    exact (a8 k hk).2 m hm
  · rw [hg (152 + 134 * j + 4 + c) (by omega), hg (152 + 134 * j + 68 + c) (by omega)]
    exact b1 j hj c hc
  · rw [hg (152 + 134 * j + 4 + c) (by omega)]
    exact b2 j hj c h1 h2
theorem rlw_9 {k q q' : Nat} (h : SmLw k g g') (hL : LawI g k) (hr : RLw σ q g k) (h0 : s.1 10 q' 0 = σ.1 10 q 0) (h1 : ∀ j, j < 400 → s.1 23 q' j = σ.1 23 q j) (h2 : ∀ j, j < 16 → s.1 24 q' j = σ.1 24 q j ∧ s.1 25 q' j = σ.1 25 q j ∧ s.1 26 q' j = σ.1 26 q j) : RLw s q' g' k := by
  obtain ⟨e1, e2, e3⟩ := smlw_at h
  unfold RLw at hr ⊢
  rw [e1, h.1, h0]
  refine ⟨hr.1, fun i hi => ?_⟩
  have hi16 : i < 16 := by have := hL.1.2; omega
  obtain ⟨f1, f2, f3⟩ := e2 i hi16
  obtain ⟨x1, x2, x3⟩ := h.2.1 i hi16
  obtain ⟨y1, y2, y3⟩ := h2 i hi16
  obtain ⟨a, b, c, d⟩ := hr.2 i hi
  have b4 := (hL.2 i hi).2.1
  rw [f1, f3, x1, x2, x3, y1, y2, y3]
  refine ⟨a, b, c, fun j u1 u2 => ?_⟩
  have hj : j < 400 := by omega
  rw [(e3 j hj).1, (e3 j hj).2, h1 j hj]
  exact d j u1 u2
theorem rb_copy (h : RB σ p g) (hI : Inv g) (hC : CB s σ b p (aShN g)) (hg : ∀ j, j < 9248 → g' j = g j) : RB s b g' := by
  have e6 : aSN g' = aSN g := congrArg Int32.toNatClampNeg (hg 3 (by decide))
  have e7 : aWN g' = aWN g := congrArg Int32.toNatClampNeg (hg 36 (by decide))
  have e9 : aShN g' = aShN g := congrArg Int32.toNatClampNeg (hg 4 (by decide))
  obtain ⟨a1, a2, a3, a4, a5, a6, a7, a8, ⟨l0, l1⟩, aT, b1, b2⟩ := hI
  have hS10 := aT.2.2.2.1.2
  have hS8 := aT.2.2.1.2
  have hW := a7.2
  obtain ⟨r1, r2, r3, r4, ⟨r5, r6⟩, r7, r8⟩ := h
  obtain ⟨c1, ⟨c2, c3⟩, ⟨c4, c5⟩, ⟨c6, c7⟩, c8, c9, c10⟩ := hC
  refine ⟨?_, ?_, ?_, ?_, ⟨rlw_9 (sm_9 hg (by decide)) l0 r5 (c8 0 (by decide)).1 (c8 0 (by decide)).2.1 (c8 0 (by decide)).2.2, rlw_9 (sm_9 hg (by decide)) l1 r6 (c8 1 (by decide)).1 (c8 1 (by decide)).2.1 (c8 1 (by decide)).2.2⟩, fun j hj => ?_, fun c hc => ?_⟩
  · unfold RSc at r1 ⊢
    rw [c1 0 (by decide), c1 1 (by decide), c1 2 (by decide), c1 3 (by decide), c1 4 (by decide), c1 5 (by decide), c1 6 (by decide), c1 7 (by decide), c1 8 (by decide), c1 9 (by decide), hg 30 (by decide), hg 31 (by decide), hg 2 (by decide), hg 0 (by decide), hg 32 (by decide), hg 1 (by decide), hg 33 (by decide), hg 34 (by decide), hg 35 (by decide), hg 4 (by decide)]
    exact r1
  · unfold RSt at r2 ⊢
    rw [c2, e6, hg 3 (by decide)]
    refine ⟨r2.1, fun i hi => ?_⟩
    obtain ⟨x, y, z⟩ := c3 i (by omega)
    rw [x, y, z, hg (5 + 3 * i) (by omega), hg (5 + 3 * i + 1) (by omega), hg (5 + 3 * i + 2) (by omega)]
    exact r2.2 i hi
  · unfold RWk at r3 ⊢
    rw [c4, e7, hg 36 (by decide)]
    refine ⟨r3.1, fun i hi => ?_⟩
    obtain ⟨x, y, z⟩ := c5 i (by omega)
    rw [x, y, z, hg (104 + 4 * i) (by omega), hg (104 + 4 * i + 1) (by omega), hg (104 + 4 * i + 2) (by omega)]
    exact r3.2 i hi
  · have ep : ∀ i, i < aWN g → ∀ m, m < 501 → pl g' i m = pl g i m := fun i hi m hm => by
      unfold pl
      exact hg _ (by omega)
    unfold RPa at r4 ⊢
    rw [e7]
    refine ⟨fun i hi m hm => by rw [ep i hi m hm, c6 _ (by omega)]; exact r4.1 i hi m hm, fun m hm c hc => ?_⟩
    rw [c7 m hm, r4.2 m hm c hc]
    constructor
    · rintro ⟨k, hk, e⟩
      exact ⟨k, hk, by rw [ep k hk m hm]; exact e⟩
    · rintro ⟨k, hk, e⟩
      rw [ep k hk m hm] at e
      exact ⟨k, hk, e⟩
  · rw [e9] at hj
    have hsh := r7 j hj
    obtain ⟨⟨x1, x2, x3, x4, x5⟩, x6⟩ := c9 j hj
    unfold RSh at hsh ⊢
    rw [x1, x2, x3, x4, x5, hg (152 + 134 * j) (by omega), hg (152 + 134 * j + 1) (by omega), hg (152 + 134 * j + 2) (by omega)]
    obtain ⟨s1, s2, s3, s4, s5, s6⟩ := hsh
    refine ⟨s1, s2, s3, fun c hc => ?_, fun c hc => ?_, fun c hc hne => ?_⟩
    · rw [hg (152 + 134 * j + 4 + c) (by omega)]; exact s4 c hc
    · rw [hg (152 + 134 * j + 4 + c) (by omega)]; exact s5 c hc
    · rw [hg (152 + 134 * j + 4 + c) (by omega)] at hne ⊢
      rw [hg (152 + 134 * j + 68 + c) (by omega), (x6 c hc).1, (x6 c hc).2]
      exact s6 c hc hne
  · rw [c10 c hc, hg (40 + c) (by omega)]
    exact r8 c hc
/-- the model's image -/
theorem m_imgT {x : Int32} (hx : x ≠ 0) (σ : zG) : ∃ sm, f_X12_image x σ = some (1, sm) ∧ (∀ j, j < 9248 → sm.1 2 0 j = σ.1 1 0 j) ∧ sm.1 0 0 4 = 1 ∧ (∀ f i k, ¬ (f = 2 ∧ i = 0) → ¬ (f = 0 ∧ i = 0 ∧ k = 4) → sm.1 f i k = σ.1 f i k) := by
  have lp : ∃ t, zlp (fun q : Int32 × zG => b_X12_image_15 x q.1 q.2) ((0 : Int32), σ) = some t ∧ (∀ j, j < 9248 → t.1 2 0 j = σ.1 1 0 j) ∧ ∀ f i k, ¬ (f = 2 ∧ i = 0) → t.1 f i k = σ.1 f i k := by
    refine zlp_run (f := fun q : Int32 × zG => b_X12_image_15 x q.1 q.2) 9248 (fun v q => q.1 = nI v ∧ (∀ j, j < v → q.2.1 2 0 j = σ.1 1 0 j) ∧ ∀ f i k, ¬ (f = 2 ∧ i = 0) → q.2.1 f i k = σ.1 f i k) (fun t => (∀ j, j < 9248 → t.1 2 0 j = σ.1 1 0 j) ∧ ∀ f i k, ¬ (f = 2 ∧ i = 0) → t.1 f i k = σ.1 f i k) ⟨rfl, fun j hj => absurd hj (Nat.not_lt_zero j), fun _ _ _ _ => rfl⟩ ?_ ?_
    · rintro v hv ⟨i, t⟩ ⟨hi, o1, o2⟩
      right
      have hi' : i = nI v := hi
      subst hi'
      have o2' : ∀ f i k, ¬ (f = 2 ∧ i = 0) → t.1 f i k = σ.1 f i k := o2
      refine ⟨(nI (v + 1), zwI t 2 0 v (t.1 1 0 v)), ?_, rfl, fun j hj => ?_, fun f i k hn => ?_⟩
      · show b_X12_image_15 x (nI v) t = _
        unfold b_X12_image_15
        rw [if_pos (show nI v < (9248 : Int32) from nI_lt (b := 9248) hv (by decide)), if_neg hx, zin_ok hv (by decide), nI_clamp (show v < 2 ^ 31 by omega), nI_1]
        rfl
      · show (zwI t 2 0 v (t.1 1 0 v)).1 2 0 j = _
        rw [zw_at]
        by_cases e : j = v
        · rw [if_pos ⟨rfl, rfl, e⟩, o2' 1 0 v (by decide), e]
        · rw [if_neg (fun z => e z.2.2)]; exact o1 j (by omega)
      · show (zwI t 2 0 v (t.1 1 0 v)).1 f i k = _
        rw [zw_at, if_neg (fun z => hn ⟨z.1, z.2.1⟩)]; exact o2' f i k hn
    · rintro ⟨i, t⟩ ⟨hi, o1, o2⟩
      have hi' : i = nI 9248 := hi
      subst hi'
      refine ⟨t, ?_, o1, o2⟩
      show b_X12_image_15 x (nI 9248) t = _
      unfold b_X12_image_15
      rw [if_neg (show ¬ nI 9248 < (9248 : Int32) from nI_nlt (b := 9248) (Nat.le_refl 9248) (by decide))]
  obtain ⟨t, e, h1, h2⟩ := lp
  refine ⟨zwI t 0 0 4 1, ?_, fun j hj => ?_, ?_, fun f i k n1 n2 => ?_⟩
  · unfold f_X12_image j_X12_image_13
    rw [if_neg hx, e, Option.bind_some, if_neg hx]
    rfl
  · rw [zw_at, if_neg (fun z => absurd z.1 (by decide))]; exact h1 j hj
  · rw [zw_at, if_pos ⟨rfl, rfl, rfl⟩]
  · rw [zw_at, if_neg n2]; exact h2 f i k n1
theorem m_imgB (h4 : σ.1 0 0 4 ≠ 0) : ∃ sm, f_X12_image 0 σ = some (1, sm) ∧ (∀ j, j < 9248 → sm.1 1 0 j = σ.1 2 0 j) ∧ sm.1 0 0 4 = 1 ∧ sm.1 0 0 3 = 0 ∧ (∀ f i k, ¬ (f = 1 ∧ i = 0) → ¬ (f = 0 ∧ i = 0 ∧ (k = 3 ∨ k = 4)) → sm.1 f i k = σ.1 f i k) := by
  have lp : ∃ t, zlp (fun q : Int32 × zG => b_X12_image_15 0 q.1 q.2) ((0 : Int32), σ) = some t ∧ (∀ j, j < 9248 → t.1 1 0 j = σ.1 2 0 j) ∧ ∀ f i k, ¬ (f = 1 ∧ i = 0) → t.1 f i k = σ.1 f i k := by
    refine zlp_run (f := fun q : Int32 × zG => b_X12_image_15 0 q.1 q.2) 9248 (fun v q => q.1 = nI v ∧ (∀ j, j < v → q.2.1 1 0 j = σ.1 2 0 j) ∧ ∀ f i k, ¬ (f = 1 ∧ i = 0) → q.2.1 f i k = σ.1 f i k) (fun t => (∀ j, j < 9248 → t.1 1 0 j = σ.1 2 0 j) ∧ ∀ f i k, ¬ (f = 1 ∧ i = 0) → t.1 f i k = σ.1 f i k) ⟨rfl, fun j hj => absurd hj (Nat.not_lt_zero j), fun _ _ _ _ => rfl⟩ ?_ ?_
    · rintro v hv ⟨i, t⟩ ⟨hi, o1, o2⟩
      right
      have hi' : i = nI v := hi
      subst hi'
      have o2' : ∀ f i k, ¬ (f = 1 ∧ i = 0) → t.1 f i k = σ.1 f i k := o2
      refine ⟨(nI (v + 1), zwI t 1 0 v (t.1 2 0 v)), ?_, rfl, fun j hj => ?_, fun f i k hn => ?_⟩
      · show b_X12_image_15 0 (nI v) t = _
        unfold b_X12_image_15
        rw [if_pos (show nI v < (9248 : Int32) from nI_lt (b := 9248) hv (by decide)), if_pos rfl, zin_ok hv (by decide), nI_clamp (show v < 2 ^ 31 by omega), nI_1]
        rfl
      · show (zwI t 1 0 v (t.1 2 0 v)).1 1 0 j = _
        rw [zw_at]
        by_cases e : j = v
        · rw [if_pos ⟨rfl, rfl, e⟩, o2' 2 0 v (by decide), e]
        · rw [if_neg (fun z => e z.2.2)]; exact o1 j (by omega)
      · show (zwI t 1 0 v (t.1 2 0 v)).1 f i k = _
        rw [zw_at, if_neg (fun z => hn ⟨z.1, z.2.1⟩)]; exact o2' f i k hn
    · rintro ⟨i, t⟩ ⟨hi, o1, o2⟩
      have hi' : i = nI 9248 := hi
      subst hi'
      refine ⟨t, ?_, o1, o2⟩
      show b_X12_image_15 0 (nI 9248) t = _
      unfold b_X12_image_15
      rw [if_neg (show ¬ nI 9248 < (9248 : Int32) from nI_nlt (b := 9248) (Nat.le_refl 9248) (by decide))]
  obtain ⟨t, e, h1, h2⟩ := lp
  refine ⟨zwI (zwI t 0 0 3 0) 0 0 4 1, ?_, fun j hj => ?_, ?_, ?_, fun f i k n1 n2 => ?_⟩
  · unfold f_X12_image j_X12_image_13
    rw [if_pos rfl, if_neg h4, e, Option.bind_some, if_pos rfl]
    rfl
  · rw [zw_at, if_neg (fun z => absurd z.1 (by decide)), zw_at, if_neg (fun z => absurd z.1 (by decide))]; exact h1 j hj
  · rw [zw_at, if_pos ⟨rfl, rfl, rfl⟩]
  · rw [zw_at, if_neg (by decide), zw_at, if_pos ⟨rfl, rfl, rfl⟩]
  · rw [zw_at, if_neg (fun z => n2 ⟨z.1, z.2.1, Or.inr z.2.2⟩), zw_at, if_neg (fun z => n2 ⟨z.1, z.2.1, Or.inl z.2.2⟩)]; exact h2 f i k n1
end PURE
