/-! PURE LAYER: cover, view, people -/
section PURE
variable {σ σc σm : zG} {g : zGa}
def covB (g : zGa) (c m : Nat) : Bool := !decide (who g (nI c) m = -1)
theorem covB_iff (hI : Inv g) {c m : Nat} (hc : c < 64) : (covB g c m = true) = cov g c m := by
  unfold covB
  have := who_m1 hI (m := m) hc
  by_cases h : cov g c m
  · simp [this, h]
  · simp [this, h]
theorem m_covB (hI : Inv (σ.1 1 0)) {c m : Nat} (hc : c < 64) (hm : m < 501) : f_X12_isCovered (nI c) (nI m) σ = some (zt (covB (σ.1 1 0) c m)) := m_cov hI hc hm
def strX (g : zGa) (m : Int32) : Nat → Int64
  | 0 => 0
  | k + 1 => if stAt g k m then strX g m k ||| zlshl 1 (g (5 + 3 * k)) else strX g m k
theorem lb_strX {t : zGa} (hT : Top g t) (m : Int32) {c : Nat} (hc : c < 64) : ∀ k, k ≤ aSN t → (lb (strX t m k) c = true ↔ ∃ i, i < k ∧ t (5 + 3 * i) = nI c ∧ stAt t i m = true)
  | 0, _ => by rw [strX, lb_0]; simp
  | k + 1, hk => by
    have ih := lb_strX hT m hc k (by omega)
    rw [strX]
    obtain ⟨d, hd, e, -⟩ := tp_Sp hT (i := k) (by omega)
    by_cases hs : stAt t k m
    · rw [if_pos hs, lb_or, e, lb_bit d (by omega) c hc]
      constructor
      · intro h
        rcases Bool.or_eq_true_iff.mp h with h | h
        · obtain ⟨i, h1, h2⟩ := ih.mp h
          exact ⟨i, by omega, h2⟩
        · have := of_decide_eq_true h
          subst this
          exact ⟨k, by omega, e, hs⟩
      · rintro ⟨i, h1, h2, h3⟩
        rcases Nat.lt_succ_iff_lt_or_eq.mp h1 with h | h
        · rw [ih.mpr ⟨i, h, h2, h3⟩]; rfl
        · subst h
          rw [e, nI_eqI (by omega) (by omega)] at h2
          subst h2
          simp
    · rw [if_neg hs, ih]
      constructor
      · rintro ⟨i, h1, h2⟩
        exact ⟨i, by omega, h2⟩
      · rintro ⟨i, h1, h2, h3⟩
        rcases Nat.lt_succ_iff_lt_or_eq.mp h1 with h | h
        · exact ⟨i, h, h2, h3⟩
        · subst h
          exact absurd h3 hs
theorem c_strCover {s : Nat} (hT : Top g g) (hS : RSt σ s g) (m : Int32) : f_X7_coverIn s m σ = some (strX g m (aSN g)) := by
  have hSN := tp_SN hT
  unfold f_X7_coverIn
  rw [zlp_for (a := ((0 : Int64), (0 : Int32))) (fun k => (strX g m k, nI k)) (aSN g) (b := strX g m (aSN g)) rfl ?_ ?_]
  · rfl
  · intro k hk
    unfold b_X7_coverIn_5
    rw [hS.1, hSN.1]
    show (if nI k < nI (aSN g) then _ else _) = _
    rw [c_isThere hS hk hSN.2, zin_ok (show k < 8 by omega) (by decide), zgT, nI_clamp (by omega), (hS.2 k hk).1, strX]
    have : k < 8 := by omega
    simp (disch := omega) only [zlit, nI_ltQ, hk, if_true, Option.bind_some, zt_0', nI_add, this]
    cases hs : stAt g k m <;> simp
  · unfold b_X7_coverIn_5
    rw [hS.1, hSN.1]
    simp (disch := omega) only [nI_ltQ, Nat.lt_irrefl, if_false]
def covX (σ : zG) (b : Nat) (g : zGa) (m : Nat) : Int64 := σ.2 22 b m ||| strX g (nI m) (aSN g)
theorem c_coverIn {b : Nat} (hT : Top g g) (hS : RSt σ (7 * b) g) {m : Nat} (hm : m < 501) : f_X1_coverIn b (nI m) σ = some (covX σ b g m) := by
  unfold f_X1_coverIn
  rw [(min_ok hm).1, if_neg (by decide), zin_ok hm (by decide), zgT, c_strCover hT hS, Option.bind_some, nI_clamp (by omega)]
  rfl
theorem lb_covX {b : Nat} (hI : Inv g) (hP : RPa σ b g) {c m : Nat} (hc : c < 64) (hm : m < 501) : lb (covX σ b g m) c = covB g c m := by
  have h1 := hP.2 m hm c hc
  have h2 := lb_strX (iv_Top hI) (nI m) hc (aSN g) (Nat.le_refl _)
  have h3 := covB_iff hI (m := m) hc
  unfold covX
  rw [lb_or, Bool.eq_iff_iff, Bool.or_eq_true_iff, h1, h2, h3]
  rfl
/-- columns -/
def colX (a n : Nat) : Nat → Int64
  | 0 => 0
  | h + 1 => colX a n h ||| zlshl (zlshl (zlshl 1 (nI n) - 1) (nI a)) (nI (h * 8))
set_option maxRecDepth 20000 in
theorem lb_row : ∀ a, a < 9 → ∀ n, n < 9 → ∀ i, i < 64 → lb (zlshl (zlshl 1 (nI n) - 1) (nI a)) i = (decide (a ≤ i) && decide (i < a + n)) := by decide +kernel
theorem lb_colX {a n : Nat} (h8 : a + n ≤ 8) {c : Nat} (hc : c < 64) : ∀ h, h ≤ 7 → lb (colX a n h) c = (decide (c / 8 < h) && (decide (a ≤ c % 8) && decide (c % 8 < a + n)))
  | 0, _ => by rw [colX, lb_0]; simp
  | h + 1, hh => by
    rw [colX, lb_or, lb_colX h8 hc h (by omega), lb_shl (h * 8) (by omega) _ hc, lb_row a (by omega) n (by omega) (c - h * 8) (by omega)]
    rw [Bool.eq_iff_iff]
    simp only [Bool.or_eq_true, Bool.and_eq_true, decide_eq_true_eq]
    omega
theorem c_columns {b : Nat} (hI : Inv g) (hR : RSc σ b g) (a n : Nat) : f_X1_columns b (nI a) (nI n) σ = some (colX a n (aH g)) := by
  have hH := iv_H hI
  unfold f_X1_columns
  rw [zlp_for (a := ((0 : Int64), (0 : Int32))) (fun k => (colX a n k, nI k)) (aH g) (b := colX a n (aH g)) rfl ?_ ?_]
  · rfl
  · intro k hk
    unfold b_X1_columns_14
    rw [hR.2.1, hH.1, colX]
    simp (disch := omega) only [nI_ltQ, hk, if_true, zb, zlit, nI_add, pk_mul]
  · unfold b_X1_columns_14
    rw [hR.2.1, hH.1]
    simp (disch := omega) only [nI_ltQ, Nat.lt_irrefl, if_false]
theorem c_viewNow {b : Nat} (hI : Inv g) (hR : RSc σ b g) : f_X1_viewNow b σ = some (colX (aStep g) (aWide g) (aH g)) := by
  unfold f_X1_viewNow
  have hT := tp_St (iv_Top hI)
  have hD := iv_Wd hI
  have e5 : σ.1 1 b 5 = g 1 := hR.2.2.2.2.2.1
  have e4 : σ.1 1 b 4 = g 32 := hR.2.2.2.2.1
  rw [e5, e4, hT.1, hD.1, c_columns hI hR]
  rfl
theorem lb_view (hI : Inv g) {c : Nat} (hc : c < 64) : lb (colX (aStep g) (aWide g) (aH g)) c = vw g c := by
  have hT := tp_St (iv_Top hI)
  have hD := iv_Wd hI
  have hW := iv_W hI
  have hH := iv_H hI
  rw [lb_colX (by omega) hc (aH g) (by omega)]
  unfold vw sp
  rw [Bool.eq_iff_iff]
  simp only [Bool.and_eq_true, decide_eq_true_eq]
  omega
theorem vw_sp {c : Nat} (h : vw g c = true) : sp g c = true := by
  unfold vw at h
  exact (Bool.and_eq_true_iff.mp h).1
/-- how many spots of the view are covered -/
def cvN (g : zGa) (m : Nat) : Nat := fb_ct (fun c => vw g c && covB g c m) 64
theorem cvN_le (m : Nat) : cvN g m ≤ 64 := fb_ct_le _ 64
theorem c_isFree {b : Nat} (hI : Inv g) (hS : RSt σ (7 * b) g) (hP : RPa σ b g) {V : Int64} {p : Nat → Bool} (hV : ∀ c, c < 64 → lb V c = p c) {m : Nat} (hm : m < 501) : f_X1_isFree b V (nI m) σ = some (zt (decide (fb_ct (fun c => p c && covB g c m) 64 = 0))) := by
  unfold f_X1_isFree
  rw [c_coverIn (iv_Top hI) hS hm, Option.bind_some]
  have e : (covX σ b g m &&& V = 0) = (fb_ct (fun c => p c && covB g c m) 64 = 0) := by
    refine propext ⟨fun h => fb_ct_zero.mpr fun k hk => ?_, fun h => lb_ext fun i hi => ?_⟩
    · have := congrArg (fun z => lb z k) h
      simp only [lb_and, lb_0, lb_covX hI hP hk hm, hV k hk] at this
      rw [Bool.and_comm]
      exact this
    · have := fb_ct_zero.mp h i hi
      rw [lb_and, lb_0, lb_covX hI hP hi hm, hV i hi, Bool.and_comm]
      exact this
  simp only [lcmp0, e]
  by_cases h : fb_ct (fun c => p c && covB g c m) 64 = 0 <;> simp [h, zt]
/-- people in view -/
def vwP (g : zGa) (x : Int32) : Bool := !decide (x = -1) && vw g x.toNatClampNeg
def ppl (g : zGa) (m : Nat) : Nat := fb_ct (fun k => vwP g (pl g k m)) (aWN g) + fb_ct (fun i => vwP g (g (5 + 3 * i)) && stAt g i (nI m)) (aSN g)
theorem vwP_nI {c : Nat} (hc : c < 64) : vwP g (nI c) = vw g c := by
  unfold vwP
  rw [nI_clamp (by omega)]
  simp [nI_nm1 (show c < 2 ^ 31 by omega)]
theorem vwP_m1 : vwP g (-1) = false := by unfold vwP; simp
theorem m_people (hI : Inv (σ.1 1 0)) {m : Nat} (hm : m < 501) : f_X12_peopleIn (nI m) σ = some (nI (ppl (σ.1 1 0) m)) := by
  have hN := iv_WN hI
  have hS := tp_SN (iv_Top hI)
  unfold f_X12_peopleIn
  rw [zlp_for (a := ((0 : Int32), (0 : Int32))) (fun k => (nI (fb_ct (fun k => vwP (σ.1 1 0) (pl (σ.1 1 0) k m)) k), nI k)) (aWN (σ.1 1 0)) (b := nI (fb_ct (fun k => vwP (σ.1 1 0) (pl (σ.1 1 0) k m)) (aWN (σ.1 1 0)))) rfl ?_ ?_]
  · rw [Option.bind_some, zlp_for (a := (nI (fb_ct (fun k => vwP (σ.1 1 0) (pl (σ.1 1 0) k m)) (aWN (σ.1 1 0))), (0 : Int32))) (fun k => (nI (fb_ct (fun k => vwP (σ.1 1 0) (pl (σ.1 1 0) k m)) (aWN (σ.1 1 0)) + fb_ct (fun i => vwP (σ.1 1 0) (σ.1 1 0 (5 + 3 * i)) && stAt (σ.1 1 0) i (nI m)) k), nI k)) (aSN (σ.1 1 0)) (b := nI (ppl (σ.1 1 0) m)) rfl ?_ ?_]
    · rfl
    · intro k hk
      unfold b_X12_peopleIn_54
      have a0 : f_X12_ofStranger (nI k) 0 σ = some (σ.1 1 0 (5 + 3 * k + 0)) := m_ofStr (by omega) (by decide)
      obtain ⟨c, hc, e, -⟩ := tp_Sp (iv_Top hI) hk
      rw [hS.1, a0]
      simp only [Option.bind_some, Nat.add_zero, e, m_isInView hI (show c < 64 by omega), m_strAt (show k < 8 by omega), zt_0, fb_ct_succ, vwP_nI (show c < 64 by omega)]
      simp (disch := omega) only [nI_ltQ, hk, if_true, decide_true, Bool.true_and, zlit, nI_add]
      cases vw (σ.1 1 0) c <;> cases stAt (σ.1 1 0) k (nI m) <;> simp [Nat.add_assoc]
    · unfold b_X12_peopleIn_54
      rw [hS.1]
      simp (disch := omega) only [nI_ltQ, Nat.lt_irrefl, if_false]
      rfl
  · intro k hk
    unfold b_X12_peopleIn_4
    rw [hN.1, m_place (by omega) hm]
    simp only [fb_ct_succ, Option.bind_some]
    rcases iv_Pl hI hk hm with e | ⟨c, hc, e, -⟩
    · simp (disch := omega) only [nI_ltQ, hk, if_true, e, vwP_m1]
      simp only [zlit, nI_add]
      simp
    · simp (disch := omega) only [nI_ltQ, hk, if_true, e, nI_nm1, if_false, m_isInView hI (show c < 64 by omega), Option.bind_some, zt_0, vwP_nI (show c < 64 by omega)]
      simp only [zlit, nI_add]
      cases vw (σ.1 1 0) c <;> simp
  · unfold b_X12_peopleIn_4
    rw [hN.1]
    simp (disch := omega) only [nI_ltQ, Nat.lt_irrefl, if_false]
theorem ppl_0 (hI : Inv g) {m : Nat} (hm : m < 501) : (ppl g m = 0) = (cvN g m = 0) := by
  unfold ppl cvN
  refine propext ⟨fun h => fb_ct_zero.mpr fun c hc => ?_, fun h => ?_⟩
  · have h1 := fb_ct_zero.mp (show fb_ct (fun k => vwP g (pl g k m)) (aWN g) = 0 by omega)
    have h2 := fb_ct_zero.mp (show fb_ct (fun i => vwP g (g (5 + 3 * i)) && stAt g i (nI m)) (aSN g) = 0 by omega)
    cases hv : vw g c
    · rfl
    · cases hb : covB g c m
      · rfl
      · rw [covB_iff hI hc] at hb
        rcases hb with ⟨k, hk, e⟩ | ⟨i, hi, e, e2⟩
        · have := h1 k hk
          simp only [e, vwP_nI hc, hv] at this
          cases this
        · have := h2 i hi
          simp only [e, vwP_nI hc, hv, e2] at this
          cases this
  · have h0 := fb_ct_zero.mp h
    have n1 : fb_ct (fun k => vwP g (pl g k m)) (aWN g) = 0 := fb_ct_zero.mpr fun k hk => by
      rcases iv_Pl hI hk hm with e | ⟨c, hc, e, -⟩
      · simp [e, vwP]
      · simp only [e, vwP_nI (show c < 64 by omega)]
        have := h0 c (by omega)
        cases hv : vw g c
        · rfl
        · have hb : covB g c m = true := by rw [covB_iff hI (by omega)]; exact Or.inl ⟨k, hk, e⟩
          simp only [hv, hb] at this
          cases this
    have n2 : fb_ct (fun i => vwP g (g (5 + 3 * i)) && stAt g i (nI m)) (aSN g) = 0 := fb_ct_zero.mpr fun i hi => by
      obtain ⟨c, hc, e, -⟩ := tp_Sp (iv_Top hI) hi
      simp only [e, vwP_nI (show c < 64 by omega)]
      have := h0 c (by omega)
      cases hv : vw g c
      · rfl
      · cases hs : stAt g i (nI m)
        · rfl
        · have hb : covB g c m = true := by rw [covB_iff hI (by omega)]; exact Or.inr ⟨i, hi, e, hs⟩
          simp only [hv, hb] at this
          cases this
    omega
theorem ppl_le (hI : Inv g) (m : Nat) : ppl g m ≤ 20 := by
  have hN := iv_WN hI
  have hS := tp_SN (iv_Top hI)
  have h1 := fb_ct_le (fun k => vwP g (pl g k m)) (aWN g)
  have h2 := fb_ct_le (fun i => vwP g (g (5 + 3 * i)) && stAt g i (nI m)) (aSN g)
  unfold ppl
  omega
/-- nobody in view -/
def emp (g : zGa) (m : Nat) : Bool := decide (cvN g m = 0)
theorem m_empty (hI : Inv (σ.1 1 0)) {m : Nat} (hm : m < 501) : f_X12_isEmpty (nI m) σ = some (zt (emp (σ.1 1 0) m)) := by
  have := ppl_le hI m
  have e := ppl_0 hI hm
  unfold f_X12_isEmpty emp
  rw [m_people hI hm, Option.bind_some]
  simp (disch := omega) only [zlit, nI_eqI, e]
  by_cases h : cvN (σ.1 1 0) m = 0 <;> simp [h, zt] <;> rfl
theorem c_empty (hI : Inv g) (hR : RB σ 0 g) {m : Nat} (hm : m < 501) : f_X1_isFree 0 (colX (aStep g) (aWide g) (aH g)) (nI m) σ = some (zt (emp g m)) := c_isFree (b := 0) hI hR.2.1 hR.2.2.2.1 (fun c hc => lb_view hI hc) hm
end PURE
