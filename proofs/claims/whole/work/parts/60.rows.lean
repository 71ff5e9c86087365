/-! PURE LAYER: rows of cells that are as they were; what a change leaves alone -/
/-- rows of bridge b; rows of what is kept -/
def rws (b f i : Nat) : Bool := (f == 1 && i == b) || ((f == 7 || f == 12 || f == 13 || f == 14) && i == 7 * b) || ((f == 8 || f == 15 || f == 16 || f == 17) && i == 2 * b) || ((f == 21 || f == 22 || f == 32) && i == b) || ((f == 10 || f == 23 || f == 24 || f == 25 || f == 26) && (i == 3 * b || i == 3 * b + 1)) || ((f == 11 || f == 29 || f == 30) && (decide (10 * b ≤ i) && decide (i < 10 * b + 10)))
def rwk (f i : Nat) : Bool := ((f == 2 || f == 33 || f == 34 || f == 35 || f == 36) && i == 0) || ((f == 7 || f == 12 || f == 13 || f == 14) && (decide (1 ≤ i) && decide (i ≤ 6)))
/-- rows of bridge 0 but for its numbers and its strangers -/
def rwt (f i : Nat) : Bool := rws 0 f i && !(f == 1 || f == 7 || f == 12 || f == 13 || f == 14)
def REq (p : Nat → Nat → Bool) (σ σ' : zG) : Prop := ∀ f i, p f i = true → σ'.1 f i = σ.1 f i ∧ σ'.2 f i = σ.2 f i
theorem REq.refl (p : Nat → Nat → Bool) (σ : zG) : REq p σ σ := fun _ _ _ => ⟨rfl, rfl⟩
theorem REq.trans {p : Nat → Nat → Bool} {a b c : zG} (h : REq p a b) (h2 : REq p b c) : REq p a c := fun f i hp => ⟨((h2 f i hp).1).trans (h f i hp).1, ((h2 f i hp).2).trans (h f i hp).2⟩
theorem req_w {p : Nat → Nat → Bool} {σ : zG} {f i k : Nat} {x : Int32} (h : p f i = false) : REq p σ (zwI σ f i k x) := fun f' i' hp => by
  refine ⟨funext fun k' => ?_, rfl⟩
  show (if f' = f ∧ i' = i ∧ k' = k then x else σ.1 f' i' k') = _
  rw [if_neg]
  rintro ⟨rfl, rfl, -⟩
  rw [h] at hp
  cases hp
theorem req_wL {p : Nat → Nat → Bool} {σ : zG} {f i k : Nat} {x : Int64} (h : p f i = false) : REq p σ (zwL σ f i k x) := fun f' i' hp => by
  refine ⟨rfl, funext fun k' => ?_⟩
  show (if f' = f ∧ i' = i ∧ k' = k then x else σ.2 f' i' k') = _
  rw [if_neg]
  rintro ⟨rfl, rfl, -⟩
  rw [h] at hp
  cases hp
theorem req_cp {p : Nat → Nat → Bool} {σ : zG} {f i g j n : Nat} (h : p g j = false) : REq p σ (zcpI σ f i g j n) := fun f' i' hp => by
  refine ⟨funext fun k' => ?_, rfl⟩
  show (if f' = g ∧ i' = j ∧ k' < n then σ.1 f i k' else σ.1 f' i' k') = _
  rw [if_neg]
  rintro ⟨rfl, rfl, -⟩
  rw [h] at hp
  cases hp
theorem req_cpL {p : Nat → Nat → Bool} {σ : zG} {f i g j n : Nat} (h : p g j = false) : REq p σ (zcpL σ f i g j n) := fun f' i' hp => by
  refine ⟨rfl, funext fun k' => ?_⟩
  show (if f' = g ∧ i' = j ∧ k' < n then σ.2 f i k' else σ.2 f' i' k') = _
  rw [if_neg]
  rintro ⟨rfl, rfl, -⟩
  rw [h] at hp
  cases hp
theorem req_fl {p : Nat → Nat → Bool} {σ : zG} {f i n : Nat} {x : Int32} (h : p f i = false) : REq p σ (zflI σ f i n x) := fun f' i' hp => by
  refine ⟨funext fun k' => ?_, rfl⟩
  show (if f' = f ∧ i' = i ∧ k' < n then x else σ.1 f' i' k') = _
  rw [if_neg]
  rintro ⟨rfl, rfl, -⟩
  rw [h] at hp
  cases hp
theorem req_flL {p : Nat → Nat → Bool} {σ : zG} {f i n : Nat} {x : Int64} (h : p f i = false) : REq p σ (zflL σ f i n x) := fun f' i' hp => by
  refine ⟨rfl, funext fun k' => ?_⟩
  show (if f' = f ∧ i' = i ∧ k' < n then x else σ.2 f' i' k') = _
  rw [if_neg]
  rintro ⟨rfl, rfl, -⟩
  rw [h] at hp
  cases hp
/-- scratch lies in no such row -/
theorem req_sc {p : Nat → Nat → Bool} (h : ∀ f i, p f i = true → zcs f = false) {σ σ' : zG} (hs : SmC σ σ') : REq p σ σ' := fun f i hp => ⟨by rw [(hs f (h f i hp)).1], by rw [(hs f (h f i hp)).2]⟩
theorem zcs_of {f : Nat} (h : f = 0 ∨ f = 1 ∨ f = 2 ∨ f = 3 ∨ f = 4 ∨ f = 7 ∨ f = 8 ∨ f = 10 ∨ f = 11 ∨ f = 12 ∨ f = 13 ∨ f = 14 ∨ f = 15 ∨ f = 16 ∨ f = 17 ∨ f = 21 ∨ f = 22 ∨ f = 23 ∨ f = 24 ∨ f = 25 ∨ f = 26 ∨ f = 29 ∨ f = 30 ∨ f = 32 ∨ f = 33 ∨ f = 34 ∨ f = 35 ∨ f = 36) : zcs f = false := by
  rcases h with rfl | rfl | rfl | rfl | rfl | rfl | rfl | rfl | rfl | rfl | rfl | rfl | rfl | rfl | rfl | rfl | rfl | rfl | rfl | rfl | rfl | rfl | rfl | rfl | rfl | rfl | rfl | rfl <;> rfl
theorem rws_sc (b f i : Nat) (h : rws b f i = true) : zcs f = false := by
  unfold rws at h
  simp only [Bool.or_eq_true, Bool.and_eq_true, beq_iff_eq, decide_eq_true_eq] at h
  exact zcs_of (by omega)
theorem rwk_sc (f i : Nat) (h : rwk f i = true) : zcs f = false := by
  unfold rwk at h
  simp only [Bool.or_eq_true, Bool.and_eq_true, beq_iff_eq, decide_eq_true_eq] at h
  exact zcs_of (by omega)
section PURE
variable {σ σ' σc σm σc' σm' : zG} {g g' : zGa}
theorem rb_rows (h : REq (rws 1) σ σ') (hg : aShN g ≤ 10) : RB σ' 1 g = RB σ 1 g := by
  have sh : (∀ i, i < aShN g → RSh σ' (10 * 1 + i) g i) = (∀ i, i < aShN g → RSh σ (10 * 1 + i) g i) := by
    have e : ∀ i, i < aShN g → RSh σ' (10 * 1 + i) g i = RSh σ (10 * 1 + i) g i := fun i hi => by
      have r : ∀ f, (f = 11 ∨ f = 29 ∨ f = 30) → rws 1 f (10 * 1 + i) = true := fun f hf => by
        have : decide (10 * 1 + i < 10 * 1 + 10) = true := decide_eq_true (by omega)
        rcases hf with rfl | rfl | rfl <;> simp [rws] <;> omega
      unfold RSh
      rw [(h 11 _ (r 11 (by simp))).1, (h 11 _ (r 11 (by simp))).2, (h 29 _ (r 29 (by simp))).1, (h 30 _ (r 30 (by simp))).1]
    exact propext ⟨fun q i hi => by rw [← e i hi]; exact q i hi, fun q i hi => by rw [e i hi]; exact q i hi⟩
  unfold RB
  rw [sh]
  simp only [RSc, RSt, RWk, RPa, RLw, (h 1 1 rfl).1, (h 7 (7 * 1) rfl).1, (h 12 (7 * 1) rfl).1, (h 13 (7 * 1) rfl).1, (h 14 (7 * 1) rfl).1, (h 8 (2 * 1) rfl).1, (h 15 (2 * 1) rfl).1, (h 16 (2 * 1) rfl).1, (h 17 (2 * 1) rfl).1, (h 21 1 rfl).1, (h 22 1 rfl).2, (h 10 (3 * 1) rfl).1, (h 23 (3 * 1) rfl).1, (h 24 (3 * 1) rfl).1, (h 25 (3 * 1) rfl).1, (h 26 (3 * 1) rfl).1, (h 10 (3 * 1 + 1) rfl).1, (h 23 (3 * 1 + 1) rfl).1, (h 24 (3 * 1 + 1) rfl).1, (h 25 (3 * 1 + 1) rfl).1, (h 26 (3 * 1 + 1) rfl).1, (h 32 1 rfl).1]
/-- bridge 0: its numbers and strangers anew, all else as it was -/
theorem rb_top (h : RB σ 0 g) (hr : REq rwt σ σ') (hg : ∀ k, 30 ≤ k → g' k = g k) (hS : aShN g' ≤ aShN g) (h10 : aShN g ≤ 10) (h1 : RSc σ' 0 g') (h2 : RSt σ' (7 * 0) g') : RB σ' 0 g' := by
  obtain ⟨-, -, a1, a2, ⟨a3, a4⟩, a5, a6⟩ := h
  have e8 : aWN g' = aWN g := congrArg Int32.toNatClampNeg (hg 36 (by decide))
  have e9 : pl g' = pl g := by funext k m; unfold pl; rw [hg _ (by omega)]
  have lw : ∀ q k, (q = 0 ∨ q = 1) → RLw σ q g k → RLw σ' q g' k := fun q k hq hl => by
    have e0 : aLN g' k = aLN g k := congrArg Int32.toNatClampNeg (hg (37 + k) (by omega))
    have e1 : lop g' k = lop g k := by funext j; unfold lop; rw [hg _ (by omega)]
    have e2 : lov g' k = lov g k := by funext j; unfold lov; rw [hg _ (by omega)]
    have e3 : lFrom g' k = lFrom g k := by funext j; unfold lFrom; rw [hg _ (by omega)]
    have e5 : lTo g' k = lTo g k := by funext j; unfold lTo; rw [hg _ (by omega)]
    have rr : ∀ f, (f = 10 ∨ f = 23 ∨ f = 24 ∨ f = 25 ∨ f = 26) → rwt f q = true := fun f hf => by
      rcases hq with rfl | rfl <;> rcases hf with rfl | rfl | rfl | rfl | rfl <;> rfl
    unfold RLw at hl ⊢
    rw [(hr 10 q (rr 10 (by simp))).1, (hr 23 q (rr 23 (by simp))).1, (hr 24 q (rr 24 (by simp))).1, (hr 25 q (rr 25 (by simp))).1, (hr 26 q (rr 26 (by simp))).1, e0, e1, e2, e3, e5, hg (37 + k) (by omega)]
    refine ⟨hl.1, fun i hi => ?_⟩
    rw [hg (7512 + 16 * k + i) (by omega), hg (7544 + 16 * k + i) (by omega), hg (7576 + 16 * k + i) (by omega)]
    exact hl.2 i hi
  refine ⟨h1, h2, ?_, ?_, ⟨lw _ 0 (Or.inl rfl) a3, lw _ 1 (Or.inr rfl) a4⟩, fun i hi => ?_, fun c hc => ?_⟩
  · unfold RWk at a1 ⊢
    rw [e8, (hr 8 (2 * 0) rfl).1, (hr 15 (2 * 0) rfl).1, (hr 16 (2 * 0) rfl).1, (hr 17 (2 * 0) rfl).1, hg 36 (by decide)]
    refine ⟨a1.1, fun i hi => ?_⟩
    rw [hg (104 + 4 * i) (by omega), hg (104 + 4 * i + 1) (by omega), hg (104 + 4 * i + 2) (by omega)]
    exact a1.2 i hi
  · unfold RPa at a2 ⊢
    rw [e8, e9, (hr 21 0 rfl).1, (hr 22 0 rfl).2]
    exact a2
  · have := a5 i (by omega)
    have rr : ∀ f, (f = 11 ∨ f = 29 ∨ f = 30) → rwt f (10 * 0 + i) = true := fun f hf => by
      rcases hf with rfl | rfl | rfl <;> simp [rwt, rws] <;> omega
    unfold RSh at this ⊢
    rw [(hr 11 _ (rr 11 (by simp))).1, (hr 11 _ (rr 11 (by simp))).2, (hr 29 _ (rr 29 (by simp))).1, (hr 30 _ (rr 30 (by simp))).1]
    simp (disch := omega) only [hg]
    exact this
  · rw [(hr 32 0 rfl).1, hg (40 + c) (by omega)]
    exact a6 c hc
def RestC (σ σ' : zG) : Prop := REq (rws 1) σ σ' ∧ σ'.1 0 0 6 = σ.1 0 0 6 ∧ σ'.1 3 = σ.1 3 ∧ σ'.1 38 = σ.1 38 ∧ σ'.1 4 = σ.1 4
def RestM (σ σ' : zG) : Prop := σ'.1 2 = σ.1 2 ∧ σ'.1 8 = σ.1 8 ∧ σ'.1 0 0 4 = σ.1 0 0 4 ∧ σ'.1 0 0 16 = σ.1 0 0 16 ∧ σ'.1 0 0 23 = σ.1 0 0 23 ∧ σ'.1 0 0 25 = σ.1 0 0 25
theorem im_ok [Inhabited BFT] (h : RIm σc σm) (h1 : REq (rws 1) σc σc') (h2 : σc'.1 0 0 6 = σc.1 0 0 6) (h3 : σm'.1 2 = σm.1 2) (h4 : σm'.1 0 0 4 = σm.1 0 0 4) : RIm σc' σm' := by
  unfold RIm at h ⊢
  rw [h2, h3, h4]
  refine ⟨h.1, h.2.1, fun z => ?_⟩
  obtain ⟨c, d⟩ := h.2.2 z
  refine ⟨?_, d⟩
  rw [rb_rows h1 (tp_Sh (iv_Top d)).2]
  exact c
theorem rest_ok [Inhabited BFT] (h : Rel σc σm) (hc : RestC σc σc') (hm : RestM σm σm') : RTp σc' σm' ∧ RFa σc' σm' ∧ RIm σc' σm' := by
  obtain ⟨-, -, -, h4, h5, h6⟩ := h
  obtain ⟨c1, c2, c3, c4, c5⟩ := hc
  obtain ⟨m1, m2, m3, m4, m5, m6⟩ := hm
  refine ⟨?_, ?_, im_ok h6 c1 c2 m1 m3⟩
  · unfold RTp at h4 ⊢
    rw [c3, c4, m2, m4]
    exact h4
  · unfold RFa at h5 ⊢
    rw [c5, m5, m6]
    exact h5
/-- nothing is kept -/
theorem kp_zero (h : RKp σc σm) (h1 : σc'.1 2 0 0 = σc.1 2 0 0) (h2 : σc'.1 2 0 1 = 0) (h3 : σm'.1 0 0 3 = 0) : RKp σc' σm' := by
  obtain ⟨fi, n, a, b, c, -⟩ := h
  exact ⟨fi, 0, a, Nat.zero_le _, by rw [h1]; exact c, h2, h3, fun j hj => absurd hj (Nat.not_lt_zero j), fun _ j' _ hj => absurd hj (Nat.not_lt_zero j')⟩
theorem kp_same (h : RKp σc σm) (h1 : REq rwk σc σc') (h2 : σm'.1 0 0 3 = σm.1 0 0 3) (h3 : σm'.1 3 = σm.1 3) (hg : ∀ k, 30 ≤ k → σm'.1 1 0 k = σm.1 1 0 k) (hS : aShN (σm.1 1 0) ≤ aShN (σm'.1 1 0)) : RKp σc' σm' := by
  obtain ⟨fi, n, a, b, c, d, e, f, mo⟩ := h
  refine ⟨fi, n, a, b, by rw [(h1 2 0 rfl).1]; exact c, by rw [(h1 2 0 rfl).1]; exact d, by rw [h2]; exact e, fun j hj => ?_, by rw [h3]; exact mo⟩
  obtain ⟨f1, f2, f3, f4, f5, f6, f7⟩ := f j hj
  have rr : ∀ f, (f = 7 ∨ f = 12 ∨ f = 13 ∨ f = 14) → rwk f (1 + (fi + j) % 6) = true := fun f hf => by
    have : (fi + j) % 6 < 6 := Nat.mod_lt _ (by decide)
    rcases hf with rfl | rfl | rfl | rfl <;> simp [rwk] <;> omega
  rw [h3, (h1 33 0 rfl).1, (h1 34 0 rfl).1, (h1 35 0 rfl).1, (h1 36 0 rfl).1]
  refine ⟨top_cong hg f1, by omega, f3, f4, f5, f6, ?_⟩
  unfold RSt at f7 ⊢
  rw [(h1 7 _ (rr 7 (by simp))).1, (h1 12 _ (rr 12 (by simp))).1, (h1 13 _ (rr 13 (by simp))).1, (h1 14 _ (rr 14 (by simp))).1]
  exact f7
theorem zr_ne {σ : zG} {f i k f' i' : Nat} {x : Int32} (h : f' ≠ f ∨ i' ≠ i) : (zwI σ f i k x).1 f' i' = σ.1 f' i' := by
  funext k'
  show (if f' = f ∧ i' = i ∧ k' = k then x else σ.1 f' i' k') = _
  rw [if_neg]
  rintro ⟨rfl, rfl, -⟩
  rcases h with h | h <;> exact h rfl
theorem zf_ne {σ : zG} {f i k f' : Nat} {x : Int32} (h : f' ≠ f) : (zwI σ f i k x).1 f' = σ.1 f' := by
  funext i' k'
  show (if f' = f ∧ i' = i ∧ k' = k then x else σ.1 f' i' k') = _
  rw [if_neg]
  rintro ⟨rfl, -⟩
  exact h rfl
/-- the state of draws is told -/
theorem pr_state [Inhabited BFT] : PR_state Rel := fun x σc σm h => by
  unfold f_X11_state f_X12_state f_X2_forget f_X12_forgets
  simp only [zb]
  have e2 : σc.1 1 0 2 = σm.1 1 0 2 := (rB h).1.2.2.1
  refine ⟨_, _, _, rfl, by rw [e2], ?_⟩
  generalize hc : zwI (zwI σc 1 0 2 x) 2 0 1 0 = sc
  generalize hm : zwI (zwI σm 1 0 2 x) 0 0 3 0 = sm
  have eg : sm.1 1 0 = upd (σm.1 1 0) 2 x := by
    rw [← hm, zr_ne (Or.inl (by decide))]
    exact zw_row σm 1 0 2 x
  have hg : ∀ k, 30 ≤ k → sm.1 1 0 k = σm.1 1 0 k := fun k hk => by rw [eg, pk_un (by omega)]
  have hne : ∀ k, k ≠ 2 → sm.1 1 0 k = σm.1 1 0 k := fun k hk => by rw [eg, pk_un hk]
  have eS : aShN (sm.1 1 0) = aShN (σm.1 1 0) := by unfold aShN; rw [hne 4 (by decide)]
  have eN : aSN (sm.1 1 0) = aSN (σm.1 1 0) := by unfold aSN; rw [hne 3 (by decide)]
  have hN := tp_Sh (iv_Top (rI h))
  have rC : ∀ p : Nat → Nat → Bool, p 1 0 = false → p 2 0 = false → REq p σc sc := fun p h1 h2 => by rw [← hc]; exact (req_w h1).trans (req_w h2)
  have sc1 : sc.1 1 0 = upd (σc.1 1 0) 2 x := by
    rw [← hc, zr_ne (Or.inl (by decide))]
    exact zw_row σc 1 0 2 x
  have hTop : Top (σm.1 1 0) (sm.1 1 0) := by
    have hT := iv_Top (rI h)
    have a0 : aMin (sm.1 1 0) = aMin (σm.1 1 0) := by unfold aMin; rw [hne 0 (by decide)]
    have a1 : aStep (sm.1 1 0) = aStep (σm.1 1 0) := by unfold aStep; rw [hne 1 (by decide)]
    unfold Top
    rw [a0, a1, eN, eS, hne 0 (by decide), hne 1 (by decide), hne 3 (by decide), hne 4 (by decide)]
    refine ⟨hT.1, hT.2.1, hT.2.2.1, hT.2.2.2.1, fun i hi => ?_, hT.2.2.2.2.2⟩
    rw [hne (5 + 3 * i) (by omega)]
    exact hT.2.2.2.2.1 i hi
  obtain ⟨q1, q2, q3⟩ := rest_ok h (σc' := sc) (σm' := sm) ⟨rC _ rfl rfl, by rw [← hc, zr_ne (Or.inl (by decide)), zr_ne (Or.inl (by decide))], by rw [← hc, zf_ne (by decide), zf_ne (by decide)], by rw [← hc, zf_ne (by decide), zf_ne (by decide)], by rw [← hc, zf_ne (by decide), zf_ne (by decide)]⟩ ⟨by rw [← hm, zf_ne (by decide), zf_ne (by decide)], by rw [← hm, zf_ne (by decide), zf_ne (by decide)], by rw [← hm]; simp [zw_at], by rw [← hm]; simp [zw_at], by rw [← hm]; simp [zw_at], by rw [← hm]; simp [zw_at]⟩
  refine ⟨rb_top (rB h) (rC _ rfl rfl) hg (by omega) hN.2 ?_ ?_, inv_top hg (rI h) hTop (by omega), kp_zero h.2.2.1 ?_ ?_ ?_, q1, q2, q3⟩
  · have hsc := (rB h).1
    unfold RSc at hsc ⊢
    rw [sc1, eg]
    simp only [upd]
    exact hsc |> fun ⟨b0, b1, b2, b3, b4, b5, b6, b7, b8, b9⟩ => ⟨b0, b1, rfl, b3, b4, b5, b6, b7, b8, b9⟩
  · have hst := (rB h).2.1
    unfold RSt at hst ⊢
    rw [eN, hne 3 (by decide), ← hc, zr_ne (Or.inl (by decide)), zr_ne (Or.inl (by decide)), zr_ne (Or.inl (by decide)), zr_ne (Or.inl (by decide)), zr_ne (Or.inl (by decide)), zr_ne (Or.inl (by decide)), zr_ne (Or.inl (by decide)), zr_ne (Or.inl (by decide))]
    refine ⟨hst.1, fun i hi => ?_⟩
    rw [hne (5 + 3 * i) (by omega), hne (5 + 3 * i + 1) (by omega), hne (5 + 3 * i + 2) (by omega)]
    exact hst.2 i hi
  · rw [← hc]; simp [zw_at]
  · rw [← hc]; simp [zw_at]
  · rw [← hm]; simp [zw_at]
/-- the tape is cut -/
theorem pr_end [Inhabited BFT] : PR_end Rel := fun x σc σm h => by
  obtain ⟨n, hn, t1, t2, t3⟩ := h.2.2.2.1
  unfold f_X11_end f_X12_end
  rw [t1, t2]
  by_cases hx : 0 ≤ x ∧ x ≤ nI n
  · have hin : f_X12_isIn x 0 (nI n) = 1 := by rw [isIn_zt, decide_eq_true hx]; rfl
    obtain ⟨j, hj, rfl⟩ := nI_of2 (M := nI n) (n := n) (nI_toInt (by omega)) (i_nlt.mpr hx.1) hx.2
    rw [hin, if_pos hx.1, if_neg (i_nlt.mpr hx.2), if_neg (by decide)]
    simp only [zb]
    refine ⟨_, _, _, rfl, rfl, ?_⟩
    obtain ⟨h1, h2, h3, h4, h5, h6⟩ := h
    have r0 : ∀ p : Nat → Nat → Bool, p 3 0 = false → REq p σc (zwI σc 3 0 1 (nI j)) := fun p hp => req_w hp
    have em : (zwI σm 0 0 16 (nI j)).1 1 = σm.1 1 := zf_ne (by decide)
    refine ⟨?_, by rw [em]; exact h2, ?_, ⟨j, by omega, by simp [zw_at], by simp [zw_at], fun k hk => ?_⟩, ?_, ?_⟩
    · rw [em]
      have sc1 : (zwI σc 3 0 1 (nI j)).1 1 0 = σc.1 1 0 := zr_ne (Or.inl (by decide))
      refine rb_top h1 (r0 _ rfl) (fun _ _ => rfl) (Nat.le_refl _) (tp_Sh (iv_Top h2)).2 ?_ ?_
      · unfold RSc; rw [sc1]; exact h1.1
      · unfold RSt
        rw [zf_ne (by decide), zf_ne (by decide), zf_ne (by decide), zf_ne (by decide)]
        exact h1.2.1
    · exact kp_same h3 (r0 _ rfl) (by simp [zw_at]) (zf_ne (by decide)) (fun k _ => by rw [em]) (by rw [em]; exact Nat.le_refl _)
    · obtain ⟨v, a1, a2, a3⟩ := t3 k (by omega)
      refine ⟨v, a1, ?_, ?_⟩
      · rw [zf_ne (by decide)]; exact a2
      · rw [zf_ne (by decide)]; exact a3
    · unfold RFa at h5 ⊢
      rw [zf_ne (by decide)]
      simp only [zw_at]
      simpa using h5
    · exact im_ok h6 (r0 _ rfl) (by rw [zf_ne (by decide)]) (zf_ne (by decide)) (by simp [zw_at])
  · have hin : f_X12_isIn x 0 (nI n) = 0 := by rw [isIn_zt, decide_eq_false hx]; rfl
    rw [hin, if_pos rfl]
    by_cases a : 0 ≤ x
    · have b : nI n < x := i_nle.mp fun q => hx ⟨a, q⟩
      rw [if_pos a, if_pos b]
      exact ⟨_, _, _, rfl, rfl, h⟩
    · rw [if_neg a]
      exact ⟨_, _, _, rfl, rfl, h⟩
end PURE
