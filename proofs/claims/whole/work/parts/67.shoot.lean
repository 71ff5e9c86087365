/-! PURE LAYER: a shot is taken -/
def rwx (i f j : Nat) : Bool := rwt f j && !((f == 11 || f == 29 || f == 30) && j == i)
def rgn (i k : Nat) : Prop := 152 + 134 * i ≤ k ∧ k < 152 + 134 * i + 134
section PURE
variable {σ σ' σc σm σc' σm' : zG} {g g' : zGa}
theorem top_cong2 {t : zGa} (h : ∀ k, 30 ≤ k → k < 104 → g' k = g k) (hT : Top g t) : Top g' t := by
  have e1 : aWide g' = aWide g := congrArg Int32.toNatClampNeg (h 32 (by decide) (by decide))
  have e2 : aW g' = aW g := congrArg Int32.toNatClampNeg (h 30 (by decide) (by decide))
  have e3 : aH g' = aH g := congrArg Int32.toNatClampNeg (h 31 (by decide) (by decide))
  have e4 : sp g' = sp g := by funext c; unfold sp; rw [e2, e3]
  unfold Top at hT ⊢
  rw [e1, e2, e4]
  refine ⟨hT.1, hT.2.1, hT.2.2.1, hT.2.2.2.1, hT.2.2.2.2.1, fun c hc => ?_⟩
  rw [h (40 + c) (by omega) (by omega)]
  exact hT.2.2.2.2.2 c hc
theorem kp_same2 (h : RKp σc σm) (h1 : REq rwk σc σc') (h2 : σm'.1 0 0 3 = σm.1 0 0 3) (h3 : σm'.1 3 = σm.1 3) (hg : ∀ k, 30 ≤ k → k < 104 → σm'.1 1 0 k = σm.1 1 0 k) (hS : aShN (σm.1 1 0) ≤ aShN (σm'.1 1 0)) : RKp σc' σm' := by
  obtain ⟨fi, n, a, b, c, d, e, f, mo⟩ := h
  refine ⟨fi, n, a, b, by rw [(h1 2 0 rfl).1]; exact c, by rw [(h1 2 0 rfl).1]; exact d, by rw [h2]; exact e, fun j hj => ?_, by rw [h3]; exact mo⟩
  obtain ⟨f1, f2, f3, f4, f5, f6, f7⟩ := f j hj
  have rr : ∀ f, (f = 7 ∨ f = 12 ∨ f = 13 ∨ f = 14) → rwk f (1 + (fi + j) % 6) = true := fun f hf => by
    have : (fi + j) % 6 < 6 := Nat.mod_lt _ (by decide)
    rcases hf with rfl | rfl | rfl | rfl <;> simp [rwk] <;> omega
  rw [h3, (h1 33 0 rfl).1, (h1 34 0 rfl).1, (h1 35 0 rfl).1, (h1 36 0 rfl).1]
  refine ⟨top_cong2 hg f1, by omega, f3, f4, f5, f6, ?_⟩
  unfold RSt at f7 ⊢
  rw [(h1 7 _ (rr 7 (by simp))).1, (h1 12 _ (rr 12 (by simp))).1, (h1 13 _ (rr 13 (by simp))).1, (h1 14 _ (rr 14 (by simp))).1]
  exact f7
/-- only a shot's page has changed: laws, walkers, strangers, view are as they were -/
theorem shp_law (h : ∀ k, k < 152 ∨ 1500 ≤ k → k ≠ 4 → g' k = g k) (k : Nat) (hk : k < 2) : aLN g' k = aLN g k ∧ lop g' k = lop g k ∧ lov g' k = lov g k ∧ lFrom g' k = lFrom g k ∧ lMid g' k = lMid g k ∧ lTo g' k = lTo g k := by
  refine ⟨congrArg Int32.toNatClampNeg (h (37 + k) (by omega) (by omega)), ?_, ?_, ?_, ?_, ?_⟩
  · funext j; unfold lop; rw [h _ (by omega) (by omega)]
  · funext j; unfold lov; rw [h _ (by omega) (by omega)]
  · funext j; unfold lFrom; rw [h _ (by omega) (by omega)]
  · funext j; unfold lMid; rw [h _ (by omega) (by omega)]
  · funext j; unfold lTo; rw [h _ (by omega) (by omega)]
theorem shp_num (h : ∀ k, k < 152 ∨ 1500 ≤ k → k ≠ 4 → g' k = g k) : aW g' = aW g ∧ aH g' = aH g ∧ aWide g' = aWide g ∧ aStep g' = aStep g ∧ aMin g' = aMin g ∧ aSN g' = aSN g ∧ aWN g' = aWN g ∧ sp g' = sp g ∧ vw g' = vw g ∧ pl g' = pl g := by
  have e1 : aW g' = aW g := congrArg Int32.toNatClampNeg (h 30 (by decide) (by decide))
  have e2 : aH g' = aH g := congrArg Int32.toNatClampNeg (h 31 (by decide) (by decide))
  have e3 : aWide g' = aWide g := congrArg Int32.toNatClampNeg (h 32 (by decide) (by decide))
  have e4 : aStep g' = aStep g := congrArg Int32.toNatClampNeg (h 1 (by decide) (by decide))
  have e8 : sp g' = sp g := by funext c; unfold sp; rw [e1, e2]
  refine ⟨e1, e2, e3, e4, congrArg Int32.toNatClampNeg (h 0 (by decide) (by decide)), congrArg Int32.toNatClampNeg (h 3 (by decide) (by decide)), congrArg Int32.toNatClampNeg (h 36 (by decide) (by decide)), e8, ?_, ?_⟩
  · funext c; unfold vw; rw [e8, e3, e4]
  · funext k m; unfold pl; rw [h _ (by omega) (by omega)]
theorem shp_who (h : ∀ k, k < 152 ∨ 1500 ≤ k → k ≠ 4 → g' k = g k) (h8 : aSN g ≤ 8) (c : Int32) (m : Nat) : who g' c m = who g c m := by
  obtain ⟨-, -, -, -, -, e6, e7, -, -, e10⟩ := shp_num h
  have e : ∀ n, n ≤ 8 → fa_first (fun i => decide (g' (5 + 3 * i) = c) && stAt g' i (nI m)) n = fa_first (fun i => decide (g (5 + 3 * i) = c) && stAt g i (nI m)) n := fun n hn => by
    have pe : ∀ i, i < n → (decide (g' (5 + 3 * i) = c) && stAt g' i (nI m)) = (decide (g (5 + 3 * i) = c) && stAt g i (nI m)) := fun i hi => by
      unfold stAt
      rw [h (5 + 3 * i) (by omega) (by omega), h (5 + 3 * i + 2) (by omega) (by omega), h (5 + 3 * i + 1) (by omega) (by omega)]
    by_cases q : fa_first (fun i => decide (g (5 + 3 * i) = c) && stAt g i (nI m)) n < n
    · exact ff_eq q (by rw [pe _ q]; exact fa_first_yes _ _ q) (fun j hj => by
        rw [pe j (by omega)]
        exact fa_first_no (fun i => decide (g (5 + 3 * i) = c) && stAt g i (nI m)) n j hj)
    · have hn1 : fa_first (fun i => decide (g (5 + 3 * i) = c) && stAt g i (nI m)) n = n := Nat.le_antisymm (fa_first_le _ _) (Nat.not_lt.mp q)
      rw [hn1]
      refine Nat.le_antisymm (fa_first_le _ _) (Nat.not_lt.mp (ff_none fun j hj => ?_))
      rw [pe j hj]
      exact fa_first_no (fun i => decide (g (5 + 3 * i) = c) && stAt g i (nI m)) n j (by omega)
  unfold who
  rw [e7, e6, e10, e _ h8]
theorem shp_tn (h : ∀ k, k < 152 ∨ 1500 ≤ k → k ≠ 4 → g' k = g k) (hI : Inv g) (c m : Nat) : tn g' c m = tn g c m := by
  have hSN := tp_SN (iv_Top hI)
  have hN := iv_WN hI
  obtain ⟨e1, e2, -, -, -, -, e7, -, -, -⟩ := shp_num h
  obtain ⟨l0, l1, l2, l3, l4, l5⟩ := shp_law h 0 (by decide)
  have es : shd g' c m = shd g c m := by
    have ea : shA g' c m = shA g c m := by funext s; unfold shA edg; rw [e1, e2]
    have e3 : ltst g' 0 = ltst g 0 := by funext A i; unfold ltst; rw [l1, l2, l4, l5]
    have e4 : lval g' 0 = lval g 0 := by funext A i; unfold lval; rw [l1, l2, l3, l4]
    unfold shd lawv
    rw [ea, l0, e3, e4]
  unfold tn
  rw [shp_who h hSN.2, es, h 35 (by decide) (by decide)]
  rcases who_rng hI (nI c) m with e | ⟨k, hk, e⟩ | ⟨i, hi, e⟩
  · rw [e]; rfl
  · rw [e, nI_clamp (by omega), h (104 + 4 * k) (by omega) (by omega)]
  · have l12 : ¬ nI (12 + i) < 12 := nI_nlt (b := 12) (by omega) (by omega)
    rw [e, if_neg l12, if_neg l12]
theorem shp_lt {i : Nat} (hi : i < 10) (h : ∀ k, k ≠ 4 → ¬ rgn i k → g' k = g k) : ∀ k, k < 152 ∨ 1500 ≤ k → k ≠ 4 → g' k = g k := fun k hk h4 => h k h4 (by unfold rgn; omega)
theorem inv_shot (hI : Inv g) {i : Nat} (hN : aShN g = i) (hi : i < 10) (hg : ∀ k, k ≠ 4 → ¬ rgn i k → g' k = g k) (h4 : g' 4 = nI (aShN g') ∧ i ≤ aShN g' ∧ aShN g' ≤ i + 1) (hnew : aShN g' = i + 1 → (∀ c, c < 56 → (g' (152 + 134 * i + 4 + c) = -2 ∨ g' (152 + 134 * i + 4 + c) = -1 ∨ ∃ w, w < 20 ∧ g' (152 + 134 * i + 4 + c) = nI w) ∧ (∃ t, t ≤ 99 ∧ g' (152 + 134 * i + 68 + c) = nI t) ∧ (g' (152 + 134 * i + 4 + c) ≠ -2 → sp g c = true)) ∧ ∀ c, 56 ≤ c → c < 64 → g' (152 + 134 * i + 4 + c) = -2) : Inv g' := by
  have hl := shp_lt hi hg
  have hSN := tp_SN (iv_Top hI)
  obtain ⟨e1, e2, e3, e4, e5, e6, e7, e8, -, e10⟩ := shp_num hl
  have lw : ∀ k, k < 2 → LawI g' k = LawI g k := fun k hk => by
    obtain ⟨l0, l1, l2, l3, l4, l5⟩ := shp_law hl k hk
    unfold LawI
    rw [l0, l1, l2, l3, l4, l5]
    simp (disch := omega) only [hl]
  obtain ⟨a1, a2, a3, a4, a5, a6, a7, a8, a9, aT, b1, b2⟩ := hI
  have hT : Top g' g' := by
    unfold Top at aT ⊢
    rw [e1, e3, e4, e5, e6, e8, hl 0 (by decide) (by decide), hl 1 (by decide) (by decide), hl 3 (by decide) (by decide)]
    refine ⟨aT.1, aT.2.1, aT.2.2.1, ⟨h4.1, by omega⟩, fun j hj => ?_, fun c hc => ?_⟩
    · rw [hl (5 + 3 * j) (by omega) (by omega)]
      exact aT.2.2.2.2.1 j hj
    · rw [hl (40 + c) (by omega) (by omega)]
      rcases aT.2.2.2.2.2 c hc with q | ⟨j, hj, q⟩
      · exact Or.inl q
      · exact Or.inr ⟨j, by omega, q⟩
  have c1 : aCom g' = aCom g := congrArg Int32.toNatClampNeg (hl 33 (by decide) (by decide))
  have c2 : aStay g' = aStay g := congrArg Int32.toNatClampNeg (hl 34 (by decide) (by decide))
  have c3 : aGrey g' = aGrey g := congrArg Int32.toNatClampNeg (hl 35 (by decide) (by decide))
  unfold Inv
  rw [e1, e2, e3, e7, e8, e10, c1, c2, c3, lw 0 (by decide), lw 1 (by decide), hl 30 (by decide) (by decide), hl 31 (by decide) (by decide), hl 32 (by decide) (by decide), hl 33 (by decide) (by decide), hl 34 (by decide) (by decide), hl 35 (by decide) (by decide), hl 36 (by decide) (by decide)]
  refine ⟨a1, a2, a3, a4, a5, a6, a7, fun k hk => ?_, a9, hT, fun j hj c hc => ?_, fun j hj c h1 h2 => ?_⟩
  · rw [hl _ (by omega) (by omega)]
    exact a8 k hk
  · by_cases q : j = i
    · subst q
      exact (hnew (by omega)).1 c hc
    · have z1 : g' (152 + 134 * j + 4 + c) = g (152 + 134 * j + 4 + c) := hg _ (by omega) (by unfold rgn; omega)
      have z2 : g' (152 + 134 * j + 68 + c) = g (152 + 134 * j + 68 + c) := hg _ (by omega) (by unfold rgn; omega)
      rw [z1, z2]
      exact b1 j (by omega) c hc
  · by_cases q : j = i
    · subst q
      exact (hnew (by omega)).2 c h1 h2
    · have z1 : g' (152 + 134 * j + 4 + c) = g (152 + 134 * j + 4 + c) := hg _ (by omega) (by unfold rgn; omega)
      rw [z1]
      exact b2 j (by omega) c h1 h2
theorem rb_shot (h : RB σ 0 g) {i : Nat} (hN : aShN g = i) (hi : i < 10) (hr : REq (rwx i) σ σ') (hg : ∀ k, k ≠ 4 → ¬ rgn i k → g' k = g k) (h4 : aShN g' ≤ i + 1) (h1 : RSc σ' 0 g') (h2 : RSt σ' (7 * 0) g') (hnew : aShN g' = i + 1 → RSh σ' i g' i) (hw : aWN g ≤ 12) : RB σ' 0 g' := by
  have hl := shp_lt hi hg
  obtain ⟨-, -, -, -, -, -, e7, -, -, e10⟩ := shp_num hl
  obtain ⟨-, -, a1, a2, ⟨a3, a4⟩, a5, a6⟩ := h
  have lw : ∀ q k, k < 2 → (q = 0 ∨ q = 1) → RLw σ q g k → RLw σ' q g' k := fun q k hk hq hlw => by
    obtain ⟨l0, l1, l2, l3, l4, l5⟩ := shp_law hl k hk
    have rr : ∀ f, (f = 10 ∨ f = 23 ∨ f = 24 ∨ f = 25 ∨ f = 26) → rwx i f q = true := fun f hf => by
      rcases hq with rfl | rfl <;> rcases hf with rfl | rfl | rfl | rfl | rfl <;> rfl
    unfold RLw at hlw ⊢
    rw [(hr 10 q (rr 10 (by simp))).1, (hr 23 q (rr 23 (by simp))).1, (hr 24 q (rr 24 (by simp))).1, (hr 25 q (rr 25 (by simp))).1, (hr 26 q (rr 26 (by simp))).1, l0, l1, l2, l3, l5, hl (37 + k) (by omega) (by omega)]
    refine ⟨hlw.1, fun j hj => ?_⟩
    rw [hl (7512 + 16 * k + j) (by omega) (by omega), hl (7544 + 16 * k + j) (by omega) (by omega), hl (7576 + 16 * k + j) (by omega) (by omega)]
    exact hlw.2 j hj
  refine ⟨h1, h2, ?_, ?_, ⟨lw _ 0 (by decide) (Or.inl rfl) a3, lw _ 1 (by decide) (Or.inr rfl) a4⟩, fun j hj => ?_, fun c hc => ?_⟩
  · unfold RWk at a1 ⊢
    rw [e7, (hr 8 (2 * 0) rfl).1, (hr 15 (2 * 0) rfl).1, (hr 16 (2 * 0) rfl).1, (hr 17 (2 * 0) rfl).1, hl 36 (by decide) (by decide)]
    refine ⟨a1.1, fun j hj => ?_⟩
    rw [hl (104 + 4 * j) (by omega) (by omega), hl (104 + 4 * j + 1) (by omega) (by omega), hl (104 + 4 * j + 2) (by omega) (by omega)]
    exact a1.2 j hj
  · unfold RPa at a2 ⊢
    rw [e7, e10, (hr 21 0 rfl).1, (hr 22 0 rfl).2]
    exact a2
  · by_cases q : j = i
    · subst q
      have := hnew (by omega)
      rw [Nat.mul_zero, Nat.zero_add]
      exact this
    · have hsh := a5 j (by omega)
      rw [Nat.mul_zero, Nat.zero_add] at hsh ⊢
      have rr : ∀ f, (f = 11 ∨ f = 29 ∨ f = 30) → rwx i f j = true := fun f hf => by
        rcases hf with rfl | rfl | rfl <;> simp [rwx, rwt, rws] <;> omega
      have zz : ∀ d, d < 134 → g' (152 + 134 * j + d) = g (152 + 134 * j + d) := fun d hd => hg _ (by omega) (by unfold rgn; omega)
      have z4 : ∀ c, c < 64 → g' (152 + 134 * j + 4 + c) = g (152 + 134 * j + 4 + c) := fun c hc => hg _ (by omega) (by unfold rgn; omega)
      have z68 : ∀ c, c < 64 → g' (152 + 134 * j + 68 + c) = g (152 + 134 * j + 68 + c) := fun c hc => hg _ (by omega) (by unfold rgn; omega)
      unfold RSh at hsh ⊢
      rw [(hr 11 _ (rr 11 (by simp))).1, (hr 11 _ (rr 11 (by simp))).2, (hr 29 _ (rr 29 (by simp))).1, (hr 30 _ (rr 30 (by simp))).1, zz 1 (by decide), zz 2 (by decide), show g' (152 + 134 * j) = g (152 + 134 * j) from zz 0 (by decide)]
      obtain ⟨s1, s2, s3, s4, s5, s6⟩ := hsh
      refine ⟨s1, s2, s3, fun c hc => ?_, fun c hc => ?_, fun c hc hne => ?_⟩
      · rw [z4 c hc]; exact s4 c hc
      · rw [z4 c hc]; exact s5 c hc
      · rw [z4 c (by omega)] at hne ⊢
        rw [z68 c (by omega)]
        exact s6 c hc hne
  · rw [(hr 32 0 rfl).1, hl (40 + c) (by omega) (by omega)]
    exact a6 c hc
end PURE
