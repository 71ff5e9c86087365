/-! PURE LAYER: walkers are put in their places -/
/-- the walkers' places in the model's array -/
def wrg (j : Nat) : Prop := j = 36 ∨ (104 ≤ j ∧ j < 152) ∨ (1500 ≤ j ∧ j < 7512)
def arCW (f i k : Nat) : Bool := (f == 8 || (f == 15 || (f == 16 || (f == 17 || (f == 18 || (f == 19 || f == 20)))))) && i == 0
def arZ (f i k : Nat) : Bool := (f == 1 && i == 0) || (f == 0 && (i == 0 && k == 3))
section PURE
variable {σ σ' : zG} {N : Nat} {g g' : zGa}
theorem c_copyWalk (σ : zG) : (f_X10_copyFrom 0 1 σ).1 8 0 0 = σ.1 8 1 0 ∧ (∀ i, i < 12 → (f_X10_copyFrom 0 1 σ).1 15 0 i = σ.1 15 1 i ∧ (f_X10_copyFrom 0 1 σ).1 16 0 i = σ.1 16 1 i ∧ (f_X10_copyFrom 0 1 σ).1 17 0 i = σ.1 17 1 i ∧ (f_X10_copyFrom 0 1 σ).1 18 0 i = σ.1 18 1 i) ∧ (∀ j, j < 96 → (f_X10_copyFrom 0 1 σ).1 19 0 j = σ.1 19 1 j ∧ (f_X10_copyFrom 0 1 σ).1 20 0 j = σ.1 20 1 j) ∧ FrA arCW σ (f_X10_copyFrom 0 1 σ) := by
  unfold f_X10_copyFrom
  simp only [zb]
  refine ⟨?_, fun i hi => ⟨?_, ?_, ?_, ?_⟩, fun j hj => ⟨?_, ?_⟩, ⟨fun f i k a => ?_, rfl⟩⟩
  · simp [zcpI, zwI]
  · simp [zcpI, zwI, hi]
  · simp [zcpI, zwI, hi]
  · simp [zcpI, zwI, hi]
  · simp [zcpI, zwI, hi]
  · simp [zcpI, zwI, hj]
  · simp [zcpI, zwI, hj]
  · unfold arCW at a
    simp at a
    have n1 : ∀ f0, (f0 = 8 ∨ f0 = 15 ∨ f0 = 16 ∨ f0 = 17 ∨ f0 = 18 ∨ f0 = 19 ∨ f0 = 20) → ¬ (f = f0 ∧ i = 0) := fun f0 h0 z => by
      rw [z.1] at a
      exact a (by omega) z.2
    have m8 := n1 8 (by simp)
    have m15 := n1 15 (by simp)
    have m16 := n1 16 (by simp)
    have m17 := n1 17 (by simp)
    have m18 := n1 18 (by simp)
    have m19 := n1 19 (by simp)
    have m20 := n1 20 (by simp)
    simp only [zcpI, zwI]
    rw [if_neg (fun z => m20 ⟨z.1, z.2.1⟩), if_neg (fun z => m19 ⟨z.1, z.2.1⟩), if_neg (fun z => m18 ⟨z.1, z.2.1⟩), if_neg (fun z => m17 ⟨z.1, z.2.1⟩), if_neg (fun z => m16 ⟨z.1, z.2.1⟩), if_neg (fun z => m15 ⟨z.1, z.2.1⟩), if_neg (fun z => m8 ⟨z.1, z.2.1⟩)]
theorem m_putsW (hN : N ≤ 12) (h15 : σ.1 0 0 15 = nI N) : ∃ s, f_X12_putsWalkers σ = some (nI N, s) ∧ FrA arZ σ s ∧ s.1 0 0 3 = 0 ∧ s.1 1 0 36 = nI N ∧ (∀ j, j < 4 * N → s.1 1 0 (104 + j) = σ.1 6 0 j) ∧ (∀ j, j < 501 * N → s.1 1 0 (1500 + j) = σ.1 7 0 j) ∧ ∀ j, ¬ wrg j → s.1 1 0 j = σ.1 1 0 j := by
  unfold f_X12_putsWalkers
  rw [h15]
  simp only [zb]
  have e4 : (4 : Int32) * nI N = nI (4 * N) := pk_mul 4 N
  have e5 : (501 : Int32) * nI N = nI (501 * N) := pk_mul 501 N
  obtain ⟨s1, d1, d2, d3, d4, d5⟩ := zlp_run (f := fun q : Int32 × zG => b_X12_putsWalkers_13 q.1 q.2) (a := ((0 : Int32), zwI σ 1 0 36 (nI N))) (4 * N) (fun v q => q.1 = nI v ∧ FrA ar1 σ q.2 ∧ q.2.1 1 0 36 = nI N ∧ (∀ j, j < v → q.2.1 1 0 (104 + j) = σ.1 6 0 j) ∧ ∀ j, ¬ wrg j → q.2.1 1 0 j = σ.1 1 0 j) (fun s => FrA ar1 σ s ∧ s.1 1 0 36 = nI N ∧ (∀ j, j < 4 * N → s.1 1 0 (104 + j) = σ.1 6 0 j) ∧ ∀ j, ¬ wrg j → s.1 1 0 j = σ.1 1 0 j) ⟨rfl, fra_w rfl, by rw [zw_at, if_pos ⟨rfl, rfl, rfl⟩], fun j hj => absurd hj (Nat.not_lt_zero j), fun j hj => by
      show (zwI σ 1 0 36 (nI N)).1 1 0 j = _
      rw [zw_at, if_neg (fun z => hj (Or.inl z.2.2))]⟩ (by
    rintro v hv ⟨i, s⟩ ⟨hi, c2, c3, c4, c5⟩
    right
    have hi' : i = nI v := hi
    subst hi'
    have c2' : FrA ar1 σ s := c2
    have s15 : s.1 0 0 15 = nI N := by rw [c2'.1 0 0 15 rfl]; exact h15
    have e104 : (104 : Int32) + nI v = nI (104 + v) := nI_add 104 v
    refine ⟨(nI (v + 1), zwI s 1 0 (104 + v) (σ.1 6 0 v)), ?_, rfl, c2'.w rfl, ?_, fun j hj => ?_, fun j hj => ?_⟩
    · show b_X12_putsWalkers_13 (nI v) s = _
      unfold b_X12_putsWalkers_13
      rw [s15, e4, if_pos (nI_lt hv (by omega)), e104, zin_ok (show v < 48 by omega) (by decide), zin_ok (show 104 + v < 9248 by omega) (by decide), nI_clamp (show v < 2 ^ 31 by omega), nI_clamp (show 104 + v < 2 ^ 31 by omega), c2'.1 6 0 v rfl, nI_1]
      rfl
    · show (zwI s 1 0 (104 + v) (σ.1 6 0 v)).1 1 0 36 = _
      rw [zw_at, if_neg (fun z => by omega)]; exact c3
    · show (zwI s 1 0 (104 + v) (σ.1 6 0 v)).1 1 0 (104 + j) = _
      rw [zw_at]
      by_cases q : j = v
      · rw [if_pos ⟨rfl, rfl, by omega⟩, q]
      · rw [if_neg (fun z => by omega)]; exact c4 j (by omega)
    · show (zwI s 1 0 (104 + v) (σ.1 6 0 v)).1 1 0 j = _
      rw [zw_at, if_neg (fun z => by unfold wrg at hj; omega)]; exact c5 j hj) (by
    rintro ⟨i, s⟩ ⟨hi, c2, c3, c4, c5⟩
    have hi' : i = nI (4 * N) := hi
    subst hi'
    have c2' : FrA ar1 σ s := c2
    have s15 : s.1 0 0 15 = nI N := by rw [c2'.1 0 0 15 rfl]; exact h15
    refine ⟨s, ?_, c2, c3, c4, c5⟩
    show b_X12_putsWalkers_13 (nI (4 * N)) s = _
    unfold b_X12_putsWalkers_13
    rw [s15, e4, if_neg (nI_nlt (Nat.le_refl _) (by omega))])
  rw [d1, Option.bind_some]
  have d2' : FrA ar1 σ s1 := d2
  have t15 : s1.1 0 0 15 = nI N := by rw [d2'.1 0 0 15 rfl]; exact h15
  obtain ⟨s2, f1, f2, f3, f4, f5, f6⟩ := zlp_run (f := fun q : Int32 × zG => b_X12_putsWalkers_46 q.1 q.2) (a := ((0 : Int32), s1)) (501 * N) (fun v q => q.1 = nI v ∧ FrA ar1 σ q.2 ∧ q.2.1 1 0 36 = nI N ∧ (∀ j, j < 4 * N → q.2.1 1 0 (104 + j) = σ.1 6 0 j) ∧ (∀ j, j < v → q.2.1 1 0 (1500 + j) = σ.1 7 0 j) ∧ ∀ j, ¬ wrg j → q.2.1 1 0 j = σ.1 1 0 j) (fun s => FrA ar1 σ s ∧ s.1 1 0 36 = nI N ∧ (∀ j, j < 4 * N → s.1 1 0 (104 + j) = σ.1 6 0 j) ∧ (∀ j, j < 501 * N → s.1 1 0 (1500 + j) = σ.1 7 0 j) ∧ ∀ j, ¬ wrg j → s.1 1 0 j = σ.1 1 0 j) ⟨rfl, d2, d3, d4, fun j hj => absurd hj (Nat.not_lt_zero j), d5⟩ (by
    rintro v hv ⟨i, s⟩ ⟨hi, c2, c3, c4, c6, c5⟩
    right
    have hi' : i = nI v := hi
    subst hi'
    have c2' : FrA ar1 σ s := c2
    have s15 : s.1 0 0 15 = nI N := by rw [c2'.1 0 0 15 rfl]; exact h15
    have e15 : (1500 : Int32) + nI v = nI (1500 + v) := nI_add 1500 v
    refine ⟨(nI (v + 1), zwI s 1 0 (1500 + v) (σ.1 7 0 v)), ?_, rfl, c2'.w rfl, ?_, fun j hj => ?_, fun j hj => ?_, fun j hj => ?_⟩
    · show b_X12_putsWalkers_46 (nI v) s = _
      unfold b_X12_putsWalkers_46
      rw [s15, e5, if_pos (nI_lt hv (by omega)), e15, zin_ok (show v < 6012 by omega) (by decide), zin_ok (show 1500 + v < 9248 by omega) (by decide), nI_clamp (show v < 2 ^ 31 by omega), nI_clamp (show 1500 + v < 2 ^ 31 by omega), c2'.1 7 0 v rfl, nI_1]
      rfl
    · show (zwI s 1 0 (1500 + v) (σ.1 7 0 v)).1 1 0 36 = _
      rw [zw_at, if_neg (fun z => by omega)]; exact c3
    · show (zwI s 1 0 (1500 + v) (σ.1 7 0 v)).1 1 0 (104 + j) = _
      rw [zw_at, if_neg (fun z => by omega)]; exact c4 j hj
    · show (zwI s 1 0 (1500 + v) (σ.1 7 0 v)).1 1 0 (1500 + j) = _
      rw [zw_at]
      by_cases q : j = v
      · rw [if_pos ⟨rfl, rfl, by omega⟩, q]
      · rw [if_neg (fun z => by omega)]; exact c6 j (by omega)
    · show (zwI s 1 0 (1500 + v) (σ.1 7 0 v)).1 1 0 j = _
      rw [zw_at, if_neg (fun z => by unfold wrg at hj; omega)]; exact c5 j hj) (by
    rintro ⟨i, s⟩ ⟨hi, c2, c3, c4, c6, c5⟩
    have hi' : i = nI (501 * N) := hi
    subst hi'
    have c2' : FrA ar1 σ s := c2
    have s15 : s.1 0 0 15 = nI N := by rw [c2'.1 0 0 15 rfl]; exact h15
    refine ⟨s, ?_, c2, c3, c4, c6, c5⟩
    show b_X12_putsWalkers_46 (nI (501 * N)) s = _
    unfold b_X12_putsWalkers_46
    rw [s15, e5, if_neg (nI_nlt (Nat.le_refl _) (by omega))])
  rw [f1, Option.bind_some]
  unfold f_X12_forgets
  simp only [zb]
  have u15 : (zwI s2 0 0 3 0).1 0 0 15 = nI N := by rw [zw_at, if_neg (by decide), f2.1 0 0 15 rfl]; exact h15
  have z1 : ∀ j, (zwI s2 0 0 3 0).1 1 0 j = s2.1 1 0 j := fun j => by rw [zw_at, if_neg (fun z => absurd z.1 (by decide))]
  rw [u15]
  refine ⟨_, rfl, (f2.mono fun f i k a => ?_).w rfl, by rw [zw_at, if_pos ⟨rfl, rfl, rfl⟩], by rw [z1]; exact f3, fun j hj => by rw [z1]; exact f4 j hj, fun j hj => by rw [z1]; exact f5 j hj, fun j hj => by rw [z1]; exact f6 j hj⟩
  unfold arZ at a
  unfold ar1
  simp only [Bool.or_eq_false_iff] at a
  exact a.1
theorem sm_walk (hg : ∀ j, ¬ wrg j → g' j = g j) {k : Nat} (hk : k < 2) : SmLw k g g' := ⟨hg _ (by unfold wrg; omega), fun i hi => ⟨hg _ (by unfold wrg; omega), hg _ (by unfold wrg; omega), hg _ (by unfold wrg; omega)⟩, fun j hj => hg _ (by unfold wrg; omega)⟩
theorem inv_walk (hI : Inv g) (hg : ∀ j, ¬ wrg j → g' j = g j) (hN : N ≤ 12) (h36 : g' 36 = nI N) (hw : ∀ k, k < N → (∃ t, t ≤ 99 ∧ g' (104 + 4 * k) = nI t) ∧ ∀ m, m < 501 → pl g' k m = -1 ∨ ∃ c, c < 56 ∧ pl g' k m = nI c ∧ sp g c = true) : Inv g' := by
  have hl : ∀ k, k < 36 ∨ (37 ≤ k ∧ k < 104) ∨ (152 ≤ k ∧ k < 1500) → g' k = g k := fun k hk => hg k (by unfold wrg; omega)
  have e1 : aW g' = aW g := congrArg Int32.toNatClampNeg (hl 30 (by decide))
  have e2 : aH g' = aH g := congrArg Int32.toNatClampNeg (hl 31 (by decide))
  have e3 : aWide g' = aWide g := congrArg Int32.toNatClampNeg (hl 32 (by decide))
  have e4 : aStep g' = aStep g := congrArg Int32.toNatClampNeg (hl 1 (by decide))
  have e5 : aMin g' = aMin g := congrArg Int32.toNatClampNeg (hl 0 (by decide))
  have e6 : aSN g' = aSN g := congrArg Int32.toNatClampNeg (hl 3 (by decide))
  have e7 : aWN g' = N := by unfold aWN; rw [h36, nI_clamp (by omega)]
  have e9 : aShN g' = aShN g := congrArg Int32.toNatClampNeg (hl 4 (by decide))
  have e8 : sp g' = sp g := by funext c; unfold sp; rw [e1, e2]
  have c1 : aCom g' = aCom g := congrArg Int32.toNatClampNeg (hl 33 (by decide))
  have c2 : aStay g' = aStay g := congrArg Int32.toNatClampNeg (hl 34 (by decide))
  have c3 : aGrey g' = aGrey g := congrArg Int32.toNatClampNeg (hl 35 (by decide))
  obtain ⟨a1, a2, a3, a4, a5, a6, a7, a8, ⟨l0, l1⟩, aT, b1, b2⟩ := hI
  have hS10 := aT.2.2.2.1.2
  have hS8 := aT.2.2.1.2
  have hT : Top g' g' := by
    unfold Top at aT ⊢
    rw [e1, e3, e4, e5, e6, e8, e9, hl 0 (by decide), hl 1 (by decide), hl 3 (by decide), hl 4 (by decide)]
    refine ⟨aT.1, aT.2.1, aT.2.2.1, aT.2.2.2.1, fun j hj => ?_, fun c hc => ?_⟩
    · rw [hl (5 + 3 * j) (by omega)]
      exact aT.2.2.2.2.1 j hj
    · rw [hl (40 + c) (by omega)]
      exact aT.2.2.2.2.2 c hc
  unfold Inv
  rw [e1, e2, e3, e7, e8, e9, c1, c2, c3, hl 30 (by decide), hl 31 (by decide), hl 32 (by decide), hl 33 (by decide), hl 34 (by decide), hl 35 (by decide), h36]
  refine ⟨a1, a2, a3, a4, a5, a6, ⟨rfl, hN⟩, hw, ⟨lwi_cong (sm_walk hg (by decide)) l0, lwi_cong (sm_walk hg (by decide)) l1⟩, hT, fun j hj c hc => ?_, fun j hj c h1 h2 => ?_⟩
  · rw [hl (152 + 134 * j + 4 + c) (by omega), hl (152 + 134 * j + 68 + c) (by omega)]
    exact b1 j hj c hc
  · rw [hl (152 + 134 * j + 4 + c) (by omega)]
    exact b2 j hj c h1 h2
def rwv (f i : Nat) : Bool := rws 0 f i && !(f == 8 || f == 15 || f == 16 || f == 17 || f == 21 || f == 22)
theorem rb_walk (h : RB σ 0 g) (hI : Inv g) (hg : ∀ j, ¬ wrg j → g' j = g j) (hr : REq rwv σ σ') (hWk : RWk σ' 0 g') (hPa : RPa σ' 0 g') : RB σ' 0 g' := by
  have hl : ∀ k, k < 36 ∨ (37 ≤ k ∧ k < 104) ∨ (152 ≤ k ∧ k < 1500) → g' k = g k := fun k hk => hg k (by unfold wrg; omega)
  have e6 : aSN g' = aSN g := congrArg Int32.toNatClampNeg (hl 3 (by decide))
  have e9 : aShN g' = aShN g := congrArg Int32.toNatClampNeg (hl 4 (by decide))
  obtain ⟨a1, a2, a3, a4, a5, a6, a7, a8, ⟨l0, l1⟩, aT, b1, b2⟩ := hI
  have hS10 := aT.2.2.2.1.2
  have hS8 := aT.2.2.1.2
  obtain ⟨r1, r2, r3, r4, ⟨r5, r6⟩, r7, r8⟩ := h
  have lwf : ∀ q, q < 2 → ∀ f, (f = 10 ∨ f = 23 ∨ f = 24 ∨ f = 25 ∨ f = 26) → σ'.1 f q = σ.1 f q := fun q hq f hf => (hr f q (by
    have hq2 : q = 0 ∨ q = 1 := by omega
    rcases hq2 with rfl | rfl <;> rcases hf with rfl | rfl | rfl | rfl | rfl <;> rfl)).1
  refine ⟨?_, ?_, hWk, hPa, ⟨rlw_cong (sm_walk hg (by decide)) l0 r5 (lwf 0 (by decide)), rlw_cong (sm_walk hg (by decide)) l1 r6 (lwf 1 (by decide))⟩, fun j hj => ?_, fun c hc => ?_⟩
  · unfold RSc at r1 ⊢
    rw [(hr 1 0 rfl).1, hl 30 (by decide), hl 31 (by decide), hl 2 (by decide), hl 0 (by decide), hl 32 (by decide), hl 1 (by decide), hl 33 (by decide), hl 34 (by decide), hl 35 (by decide), hl 4 (by decide)]
    exact r1
  · unfold RSt at r2 ⊢
    rw [(hr 7 (7 * 0) rfl).1, (hr 12 (7 * 0) rfl).1, (hr 13 (7 * 0) rfl).1, (hr 14 (7 * 0) rfl).1, e6, hl 3 (by decide)]
    refine ⟨r2.1, fun i hi => ?_⟩
    rw [hl (5 + 3 * i) (by omega), hl (5 + 3 * i + 1) (by omega), hl (5 + 3 * i + 2) (by omega)]
    exact r2.2 i hi
  · rw [e9] at hj
    have hsh := r7 j hj
    rw [Nat.mul_zero, Nat.zero_add] at hsh ⊢
    have rr : ∀ f, (f = 11 ∨ f = 29 ∨ f = 30) → rwv f j = true := fun f hf => by
      rcases hf with rfl | rfl | rfl <;> simp [rwv, rws] <;> omega
    unfold RSh at hsh ⊢
    rw [(hr 11 _ (rr 11 (by simp))).1, (hr 11 _ (rr 11 (by simp))).2, (hr 29 _ (rr 29 (by simp))).1, (hr 30 _ (rr 30 (by simp))).1, hl (152 + 134 * j) (by omega), hl (152 + 134 * j + 1) (by omega), hl (152 + 134 * j + 2) (by omega)]
    obtain ⟨s1, s2, s3, s4, s5, s6⟩ := hsh
    refine ⟨s1, s2, s3, fun c hc => ?_, fun c hc => ?_, fun c hc hne => ?_⟩
    · rw [hl (152 + 134 * j + 4 + c) (by omega)]; exact s4 c hc
    · rw [hl (152 + 134 * j + 4 + c) (by omega)]; exact s5 c hc
    · rw [hl (152 + 134 * j + 4 + c) (by omega)] at hne ⊢
      rw [hl (152 + 134 * j + 68 + c) (by omega)]
      exact s6 c hc hne
  · rw [(hr 32 0 rfl).1, hl (40 + c) (by omega)]
    exact r8 c hc
end PURE
