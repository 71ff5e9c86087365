/-! PURE LAYER: sets of shots: laid, most, fewest -/
theorem and1 (y : Int32) : y &&& 1 = zt (bt y 0) := by
  refine b_ext fun i hi => ?_
  rw [b_and]
  have h1 : bt 1 i = decide (i = 0) := by
    have : ∀ i, i < 32 → bt 1 i = decide (i = 0) := by decide +kernel
    exact this i hi
  rw [h1]
  by_cases q : i = 0
  · subst q
    cases bt y 0 <;> decide
  · rw [decide_eq_false q, Bool.and_false]
    cases bt y 0
    · exact (b_0 i).symm
    · show false = bt 1 i
      rw [h1, decide_eq_false q]
theorem isIn_bt (x : Int32) {i : Nat} (hi : i < 32) : f_X0_isIn x (nI i) = zt (bt x i) := by
  unfold f_X0_isIn
  have e : bt (zushr x (nI i)) 0 = bt x i := b_ushr i hi x 0
  rw [and1, e]
  cases bt x i <;> rfl
theorem shr_bt (x : Int32) {i : Nat} (hi : i < 32) : zshr x (nI i) &&& 1 = zt (bt x i) := by
  have e : bt (zshr x (nI i)) 0 = bt x i := by
    have := b_sshr i hi x (i := 0) (by decide)
    rw [Nat.add_zero, if_pos hi] at this
    exact this
  rw [and1, e]
theorem shl_p : ∀ n, n < 11 → zshl 1 (nI n) = nI (2 ^ n) := by decide +kernel
theorem lb_shr0 (n : Nat) (hn : n < 64) (x : Int64) : lb (zlshr x (nI n)) 0 = lb x n := by
  unfold zlshr lb
  rw [wb_c n hn, Int64.toBitVec_shiftRight]
  show (x.toBitVec.sshiftRight ((lN n).toBitVec.smod 64).toNat).getLsbD 0 = _
  have e : ((lN n).toBitVec.smod 64).toNat = n := by
    rw [wb_tb]
    have : ∀ n, n < 64 → ((BitVec.ofNat 64 n).smod 64).toNat = n := by decide +kernel
    exact this n hn
  rw [e, BitVec.getLsbD_sshiftRight]
  simp [hn]
theorem land1 (y : Int64) : (y &&& 1).toInt32 = nI (if lb y 0 then 1 else 0) := by
  have e : y &&& 1 = if lb y 0 then 1 else 0 := lb_ext fun i hi => by
    rw [lb_and, lb_1]
    by_cases q : i = 0
    · subst q
      cases h : lb y 0
      · simp [lb_0]
      · simp [lb_1]
    · rw [decide_eq_false q, Bool.and_false]
      cases lb y 0
      · simp [lb_0]
      · simp [lb_1, q]
  rw [e]
  cases lb y 0 <;> rfl
theorem m_count (p : Int64) : f_X12_count p = some (nI (fb_ct (lb p) 64)) := by
  unfold f_X12_count
  rw [zlp_for (a := ((0 : Int32), (0 : Int32))) (fun k => (nI (fb_ct (lb p) k), nI k)) 64 (b := nI (fb_ct (lb p) 64)) rfl ?_ ?_]
  · rfl
  · intro k hk
    have l64 : nI k < 64 := nI_lt (b := 64) hk (by decide)
    unfold b_X12_count_4
    rw [if_pos l64, land1, lb_shr0 k hk, nI_add, nI_1]
    rfl
  · unfold b_X12_count_4
    rw [if_neg (show ¬ (nI 64 : Int32) < 64 by decide)]
set_option maxRecDepth 20000 in
theorem bc_10 : ∀ S, S < 1024 → f_J6_bitCount_0f7a4 (nI S) = nI (fb_ct S.testBit 10) := by decide +kernel
theorem bc_S {S : Nat} (h : S < 1024) : f_X12_count (nI S).toInt64 = some (f_J6_bitCount_0f7a4 (nI S)) := by
  rw [m_count, bc_10 S h, nI_l (by omega)]
  congr 2
  have e : fb_ct (lb (lN S)) 64 = fb_ct S.testBit 64 := fb_ct_cong fun k hk => lb_lN hk
  rw [e, show (64 : Nat) = 10 + 54 from rfl, fb_ct_split]
  have z : fb_ct (fun k => S.testBit (10 + k)) 54 = 0 := fb_ct_zero.mpr fun k _ => Nat.testBit_lt_two_pow (Nat.lt_of_lt_of_le h (by
    rw [show (1024 : Nat) = 2 ^ 10 from rfl]
    exact Nat.pow_le_pow_right (by decide) (by omega)))
  rw [z, Nat.add_zero]
/-- one of them at least -/
def anys (p : Nat → Bool) : Nat → Bool
  | 0 => false
  | k + 1 => anys p k || p k
theorem anys_succ (p : Nat → Bool) (k : Nat) : anys p (k + 1) = (anys p k || p k) := rfl
theorem anys_iff {p : Nat → Bool} : ∀ {n : Nat}, anys p n = true ↔ ∃ i, i < n ∧ p i = true
  | 0 => by
    constructor
    · intro h; cases h
    · rintro ⟨i, hi, -⟩; omega
  | n + 1 => by
    rw [anys_succ, Bool.or_eq_true, anys_iff]
    constructor
    · rintro (⟨i, hi, h⟩ | h)
      · exact ⟨i, by omega, h⟩
      · exact ⟨n, by omega, h⟩
    · rintro ⟨i, hi, h⟩
      rcases Nat.lt_succ_iff_lt_or_eq.mp hi with q | q
      · exact Or.inl ⟨i, q, h⟩
      · rw [q] at h; exact Or.inr h
theorem anys_and (b : Bool) (p : Nat → Bool) (n : Nat) : anys (fun i => b && p i) n = (b && anys p n) := by
  induction n with
  | zero => rw [anys, anys, Bool.and_false]
  | succ n ih => rw [anys_succ, anys_succ, ih, Bool.and_or_distrib_left]
theorem anys_cong {p q : Nat → Bool} {n : Nat} (h : ∀ i, i < n → p i = q i) : anys p n = anys q n := by
  rw [Bool.eq_iff_iff, anys_iff, anys_iff]
  constructor
  · rintro ⟨i, hi, e⟩; exact ⟨i, hi, by rw [← h i hi]; exact e⟩
  · rintro ⟨i, hi, e⟩; exact ⟨i, hi, by rw [h i hi]; exact e⟩
section PURE
variable {σ σc σm : zG} {g : zGa}
theorem rN (h : RB σ 0 g) : σ.1 1 0 9 = g 4 := h.1.2.2.2.2.2.2.2.2.2
theorem set_cs [Inhabited BFT] (h : Rel σc σm) (x : Int32) : (∃ S, S < 2 ^ aShN (σm.1 1 0) ∧ x = nI S ∧ f_X0_isSetOfShots x σc = 1 ∧ f_X12_areShots x σm = some 1) ∨ (f_X0_isSetOfShots x σc = 0 ∧ f_X12_areShots x σm = some 0) := by
  have hN := tp_Sh (iv_Top (rI h))
  have p : 2 ^ aShN (σm.1 1 0) < 2 ^ 30 := Nat.pow_lt_pow_right (by decide) (by omega)
  unfold f_X0_isSetOfShots f_X12_areShots
  rw [rN (rB h), hN.1, shl_p _ (by omega)]
  rcases below x (n := 2 ^ aShN (σm.1 1 0)) p with ⟨S, hS, rfl, r⟩ | ⟨-, r, r2⟩
  · refine Or.inl ⟨S, hS, rfl, ?_, by rw [r]; rfl⟩
    rw [if_pos (nI_pos' (by omega)), if_pos (nI_lt hS (by omega))]
  · refine Or.inr ⟨?_, by rw [r]; rfl⟩
    by_cases h1 : 0 ≤ x
    · by_cases h2 : x < nI (2 ^ aShN (σm.1 1 0))
      · exact absurd ⟨h1, h2⟩ r2
      · rw [if_pos h1, if_neg h2]
    · rw [if_neg h1]
/-- what a set of shots lays -/
def lyB (g : zGa) (x : Int32) (c : Nat) : Bool := anys (fun i => bt x i && sF g i c) (aShN g)
def ldX (g : zGa) (x : Int32) : Int64 := bitsL (fun c => vw g c && lyB g x c) 64
theorem lb_ldX (g : zGa) (x : Int32) {c : Nat} (hc : c < 64) : lb (ldX g x) c = (vw g c && lyB g x c) := by
  unfold ldX
  rw [lb_bits _ 64 (by decide) c hc, decide_eq_true hc, Bool.true_and]
theorem c_laid (hI : Inv g) (hR : RB σ 0 g) (x : Int32) : f_X0_laidBy x σ = some (ldX g x) := by
  have hN := tp_Sh (iv_Top hI)
  unfold f_X0_laidBy
  obtain ⟨X, e, hX⟩ := zlp_run (f := fun q : Int64 × Int32 => b_X0_laidBy_5 σ x q.1 q.2) (aShN g) (fun k q => q.2 = nI k ∧ ∀ c, c < 64 → lb q.1 c = anys (fun i => bt x i && sF g i c) k) (fun X => ∀ c, c < 64 → lb X c = lyB g x c) (a := ((0 : Int64), (0 : Int32))) ⟨rfl, fun c _ => lb_0 c⟩ (by
    rintro k hk ⟨Y, _⟩ ⟨rfl, hY⟩
    right
    have k10 : k < 10 := by omega
    have l1 : nI k < nI (aShN g) := nI_lt hk (by omega)
    have l2 : nI k < 10 := nI_lt (b := 10) k10 (by decide)
    have hY' : ∀ c, c < 64 → lb Y c = anys (fun i => bt x i && sF g i c) k := hY
    unfold b_X0_laidBy_5
    rw [rN hR, hN.1, isIn_bt x (by omega)]
    simp (disch := omega) only [l1, l2, if_true, zt_0, zin_nI, k10, decide_true, zgT, nI_clamp]
    cases hb : bt x k
    · rw [if_pos rfl]
      exact ⟨_, rfl, nI_1 k, fun c hc => by
        show lb Y c = _
        rw [anys_succ, hY' c hc, hb, Bool.false_and, Bool.or_false]⟩
    · rw [if_neg (show ¬ (true = false) by decide)]
      exact ⟨_, rfl, nI_1 k, fun c hc => by
        show lb (Y ||| f_X6_clearSpots k σ) c = _
        rw [anys_succ, lb_or, hY' c hc, hb, Bool.true_and, c_clear hI hR hk hc]⟩) (by
    rintro ⟨Y, _⟩ ⟨rfl, hY⟩
    have l1 : ¬ nI (aShN g) < nI (aShN g) := nI_nlt (Nat.le_refl _) (by omega)
    unfold b_X0_laidBy_5
    rw [rN hR, hN.1]
    simp only [l1, if_false]
    exact ⟨_, rfl, hY⟩)
  rw [e, Option.bind_some, c_viewNow hI hR.1, Option.bind_some]
  congr 1
  exact lb_ext fun c hc => by rw [lb_and, hX c hc, lb_view hI hc, lb_ldX g x hc, Bool.and_comm]
theorem m_laid (hI : Inv (σ.1 1 0)) (x : Int32) : f_X12_laidBy x σ = some (ldX (σ.1 1 0) x) := by
  have hN := tp_Sh (iv_Top hI)
  unfold f_X12_laidBy
  obtain ⟨X, e, hX⟩ := zlp_run (f := fun q : Int64 × Int32 => b_X12_laidBy_5 σ x q.1 q.2) 64 (fun c q => q.2 = nI c ∧ ∀ d, d < 64 → lb q.1 d = (decide (d < c) && (vw (σ.1 1 0) d && lyB (σ.1 1 0) x d))) (fun X => ∀ d, d < 64 → lb X d = (vw (σ.1 1 0) d && lyB (σ.1 1 0) x d)) (a := ((0 : Int64), (0 : Int32))) ⟨rfl, fun d _ => by show lb 0 d = _; rw [lb_0]; rfl⟩ (by
    rintro c hc ⟨Y, _⟩ ⟨rfl, hY⟩
    right
    have l64 : nI c < 64 := nI_lt (b := 64) hc (by decide)
    have hY' : ∀ d, d < 64 → lb Y d = (decide (d < c) && (vw (σ.1 1 0) d && lyB (σ.1 1 0) x d)) := hY
    obtain ⟨Z, e2, hZ⟩ := zlp_run (f := fun q : Int64 × Int32 => b_X12_laidBy_15 σ (nI c) x q.1 q.2) (aShN (σ.1 1 0)) (fun k q => q.2 = nI k ∧ ∀ d, d < 64 → lb q.1 d = if d = c then (vw (σ.1 1 0) c && anys (fun i => bt x i && sF (σ.1 1 0) i c) k) else lb Y d) (fun Z => ∀ d, d < 64 → lb Z d = if d = c then (vw (σ.1 1 0) c && lyB (σ.1 1 0) x c) else lb Y d) (a := (Y, (0 : Int32))) ⟨rfl, fun d hd => by
        show lb Y d = _
        split
        · rename_i q
          rw [q, hY' c hc, decide_eq_false (Nat.lt_irrefl c), anys, Bool.and_false]; rfl
        · rfl⟩ (by
      rintro k hk ⟨Z, _⟩ ⟨rfl, hZ⟩
      right
      have k10 : k < 10 := by omega
      have l1 : nI k < nI (aShN (σ.1 1 0)) := nI_lt hk (by omega)
      have hZ' : ∀ d, d < 64 → lb Z d = if d = c then (vw (σ.1 1 0) c && anys (fun i => bt x i && sF (σ.1 1 0) i c) k) else lb Y d := hZ
      have stay : (vw (σ.1 1 0) c && (bt x k && sF (σ.1 1 0) k c)) = false → ∀ d, d < 64 → lb Z d = if d = c then (vw (σ.1 1 0) c && anys (fun i => bt x i && sF (σ.1 1 0) i c) (k + 1)) else lb Y d := fun q d hd => by
        rw [hZ' d hd, anys_succ, Bool.and_or_distrib_left, q, Bool.or_false]
      unfold b_X12_laidBy_15
      rw [hN.1, m_isInView hI hc, shr_bt x (show k < 32 by omega), m_clearIn k10 hc]
      simp only [l1, if_true, Option.bind_some, zt_0, zt_1]
      by_cases hv : vw (σ.1 1 0) c = true
      · rw [if_neg (by rw [hv]; decide)]
        by_cases hb : bt x k = true
        · rw [if_pos hb]
          by_cases hf : sF (σ.1 1 0) k c = true
          · rw [if_neg (by rw [hf]; decide)]
            refine ⟨_, rfl, nI_1 k, fun d hd => ?_⟩
            show lb (Z ||| zlshl 1 (nI c)) d = _
            rw [lb_or, lb_bit c hc d hd, hZ' d hd]
            by_cases q : d = c
            · rw [if_pos q, if_pos q, decide_eq_true q, anys_succ, hb, hf, hv, Bool.or_true]; simp
            · rw [if_neg q, if_neg q, decide_eq_false q, Bool.or_false]
          · rw [if_pos (Bool.eq_false_iff.mpr hf)]
            exact ⟨_, rfl, nI_1 k, stay (by rw [Bool.eq_false_iff.mpr hf, Bool.and_false, Bool.and_false])⟩
        · rw [if_neg hb]
          exact ⟨_, rfl, nI_1 k, stay (by rw [Bool.eq_false_iff.mpr hb, Bool.false_and, Bool.and_false])⟩
      · rw [if_pos (Bool.eq_false_iff.mpr hv)]
        exact ⟨_, rfl, nI_1 k, stay (by rw [Bool.eq_false_iff.mpr hv, Bool.false_and])⟩) (by
      rintro ⟨Z, _⟩ ⟨rfl, hZ⟩
      have l1 : ¬ nI (aShN (σ.1 1 0)) < nI (aShN (σ.1 1 0)) := nI_nlt (Nat.le_refl _) (by omega)
      unfold b_X12_laidBy_15
      rw [hN.1]
      simp only [l1, if_false]
      exact ⟨_, rfl, hZ⟩)
    unfold b_X12_laidBy_5
    rw [if_pos l64, e2, Option.bind_some]
    refine ⟨_, rfl, nI_1 c, fun d hd => ?_⟩
    show lb Z d = _
    rw [hZ d hd, hY' d hd]
    by_cases q : d = c
    · subst q
      rw [if_pos rfl, decide_eq_true (Nat.lt_succ_self d), Bool.true_and]
    · have : (d < c + 1) = (d < c) := propext ⟨fun z => by omega, fun z => by omega⟩
      rw [if_neg q]
      simp only [this]) (by
    rintro ⟨Y, _⟩ ⟨rfl, hY⟩
    unfold b_X12_laidBy_5
    rw [if_neg (show ¬ (nI 64 : Int32) < 64 by decide)]
    refine ⟨_, rfl, fun d hd => ?_⟩
    have hY' := hY d hd
    rw [decide_eq_true hd, Bool.true_and] at hY'
    exact hY')
  rw [e, Option.bind_some]
  congr 1
  exact lb_ext fun c hc => by rw [hX c hc, lb_ldX _ x hc]
theorem pr_laid [Inhabited BFT] : PR_laid Rel := fun x σc σm h => by
  unfold f_X11_laid f_X12_laid
  rcases set_cs h x with ⟨S, hS, rfl, e1, e2⟩ | ⟨e1, e2⟩
  · rw [e1, e2, c_laid (rI h) (rB h), m_laid (rI h)]
    exact ⟨_, rfl, rfl, h⟩
  · rw [e1, e2]
    exact ⟨_, rfl, rfl, h⟩
theorem c_shows (hR : RB σ 0 g) (x : Int32) {i c : Nat} (hi : i < aShN g) (i10 : i < 10) (hc : c < 64) : f_X0_shows x (nI i) (nI c) σ = some (zt (bt x i && sV g i c)) := by
  have l2 : nI i < 10 := nI_lt (b := 10) i10 (by decide)
  unfold f_X0_shows
  rw [isIn_bt x (by omega), zin_ok i10 (by decide), zgT, nI_clamp (by omega), holds_lb _ hc, c_view hR hi hc]
  simp only [l2, if_true, zt_0]
  cases bt x i <;> cases sV g i c <;> rfl
theorem pr_most [Inhabited BFT] : PR_most Rel := fun x σc σm h => by
  have hN := tp_Sh (iv_Top (rI h))
  unfold f_X11_most f_X12_most f_X0_mostlyClear
  rcases set_cs h x with ⟨S, hS, rfl, e1, e2⟩ | ⟨e1, e2⟩
  · have ctC : ∀ c, c < 56 → zlp (fun q : Int32 × Int32 × Int32 => b_X0_mostlyClear_21 σc (nI S) (nI c) q.1 q.2.1 q.2.2) ((0 : Int32), (0 : Int32), (0 : Int32)) = some (nI (fb_ct (fun i => bt (nI S) i && sF (σm.1 1 0) i c) (aShN (σm.1 1 0))), nI (fb_ct (fun i => bt (nI S) i && sV (σm.1 1 0) i c) (aShN (σm.1 1 0)))) := fun c hc => by
      refine zlp_for (fun k => (nI (fb_ct (fun i => bt (nI S) i && sF (σm.1 1 0) i c) k), nI (fb_ct (fun i => bt (nI S) i && sV (σm.1 1 0) i c) k), nI k)) (aShN (σm.1 1 0)) rfl ?_ ?_
      · intro k hk
        have k10 : k < 10 := by omega
        have l1 : nI k < nI (aShN (σm.1 1 0)) := nI_lt hk (by omega)
        have l2 : nI k < 10 := nI_lt (b := 10) k10 (by decide)
        unfold b_X0_mostlyClear_21
        rw [rN (rB h), hN.1, c_shows (rB h) _ hk k10 (show c < 64 by omega), zin_ok k10 (by decide), zgT, nI_clamp (by omega), holds_lb _ (show c < 64 by omega), c_cov (rB h) hk (show c < 64 by omega)]
        simp only [l1, l2, if_true, Option.bind_some, zt_0, fb_ct_succ, nI_1]
        cases hb : bt (nI S) k
        · simp
        · rcases s_cs (rI h) hk (show c < 64 by omega) with ⟨-, a, b, d⟩ | ⟨-, a, b, d⟩ | ⟨w, -, -, a, b, d⟩ <;> rw [a, b, d] <;> simp [nI_1]
      · have l1 : ¬ nI (aShN (σm.1 1 0)) < nI (aShN (σm.1 1 0)) := nI_nlt (Nat.le_refl _) (by omega)
        unfold b_X0_mostlyClear_21
        rw [rN (rB h), hN.1]
        simp only [l1, if_false]
    have ctM : ∀ c, c < 64 → zlp (fun q : Int32 × Int32 × Int32 => b_X12_most_33 σm (nI S) (nI c) q.1 q.2.1 q.2.2) ((0 : Int32), (0 : Int32), (0 : Int32)) = some (nI (fb_ct (fun i => bt (nI S) i && sV (σm.1 1 0) i c) (aShN (σm.1 1 0))), nI (fb_ct (fun i => bt (nI S) i && sF (σm.1 1 0) i c) (aShN (σm.1 1 0)))) := fun c hc => by
      refine zlp_for (fun k => (nI (fb_ct (fun i => bt (nI S) i && sV (σm.1 1 0) i c) k), nI (fb_ct (fun i => bt (nI S) i && sF (σm.1 1 0) i c) k), nI k)) (aShN (σm.1 1 0)) rfl ?_ ?_
      · intro k hk
        have k10 : k < 10 := by omega
        have l1 : nI k < nI (aShN (σm.1 1 0)) := nI_lt hk (by omega)
        unfold b_X12_most_33
        rw [hN.1, shr_bt _ (show k < 32 by omega), m_hasView k10 hc, m_clearIn k10 hc]
        simp only [l1, if_true, Option.bind_some, zt_0, fb_ct_succ, nI_1]
        cases hb : bt (nI S) k
        · simp
        · rcases s_cs (rI h) hk hc with ⟨-, a, b, d⟩ | ⟨-, a, b, d⟩ | ⟨w, -, -, a, b, d⟩ <;> rw [a, b] <;> simp [nI_1]
      · have l1 : ¬ nI (aShN (σm.1 1 0)) < nI (aShN (σm.1 1 0)) := nI_nlt (Nat.le_refl _) (by omega)
        unfold b_X12_most_33
        rw [hN.1]
        simp only [l1, if_false]
    have b1 : ∀ c, fb_ct (fun i => bt (nI S) i && sF (σm.1 1 0) i c) (aShN (σm.1 1 0)) ≤ 10 := fun c => Nat.le_trans (fb_ct_le _ _) hN.2
    have b2 : ∀ c, fb_ct (fun i => bt (nI S) i && sV (σm.1 1 0) i c) (aShN (σm.1 1 0)) ≤ 10 := fun c => Nat.le_trans (fb_ct_le _ _) hN.2
    obtain ⟨P, hP⟩ : ∃ P : Nat → Bool, P = fun c => decide (fb_ct (fun i => bt (nI S) i && sV (σm.1 1 0) i c) (aShN (σm.1 1 0)) < 2 * fb_ct (fun i => bt (nI S) i && sF (σm.1 1 0) i c) (aShN (σm.1 1 0))) := ⟨_, rfl⟩
    have lt2 : ∀ c, (nI (fb_ct (fun i => bt (nI S) i && sV (σm.1 1 0) i c) (aShN (σm.1 1 0))) < (2 : Int32) * nI (fb_ct (fun i => bt (nI S) i && sF (σm.1 1 0) i c) (aShN (σm.1 1 0)))) = (P c = true) := fun c => by
      have h1 := b1 c
      have h2 := b2 c
      rw [hP, show (2 : Int32) = nI 2 from rfl, pk_mul, nI_ltQ (by omega) (by omega)]
      simp
    rw [e1, e2, Option.bind_some, if_neg (by decide), if_neg (by decide)]
    rw [zlp_for (a := ((0 : Int64), (0 : Int32))) (fun c => (bitsL P c, nI c)) 56 (b := bitsL P 56) rfl ?_ ?_]
    · refine ⟨_, rfl, ?_, h⟩
      rw [zlp_for (a := ((0 : Int64), (0 : Int32))) (fun c => (bitsL P c, nI c)) 64 (b := bitsL P 56) rfl ?_ ?_]
      · rfl
      · intro c hc
        have l64 : nI c < 64 := nI_lt (b := 64) hc (by decide)
        unfold b_X12_most_17
        rw [if_pos l64, ctM c hc, Option.bind_some, bitsL]
        simp only [lt2, nI_1]
        cases P c <;> simp
      · unfold b_X12_most_17
        rw [if_neg (show ¬ (nI 64 : Int32) < 64 by decide)]
        have e : bitsL P 64 = bitsL P 56 := bits_eq (by decide) fun i hi => by
          rw [lb_bits P 56 (by decide) i hi, decide_eq_true hi, Bool.true_and]
          by_cases q : i < 56
          · rw [decide_eq_true q, Bool.true_and]
          · rw [decide_eq_false q, Bool.false_and, hP]
            have z : fb_ct (fun j => bt (nI S) j && sF (σm.1 1 0) j i) (aShN (σm.1 1 0)) = 0 := fb_ct_zero.mpr fun j hj => by
              have : sF (σm.1 1 0) j i = false := by
                unfold sF
                rw [iv_Sh2 (rI h) hj (by omega) hi]
                decide
              show (bt (nI S) j && sF (σm.1 1 0) j i) = false
              rw [this, Bool.and_false]
            show false = decide (_ < 2 * fb_ct (fun j => bt (nI S) j && sF (σm.1 1 0) j i) (aShN (σm.1 1 0)))
            rw [z]
            exact (decide_eq_false (by omega)).symm
        show some (Sum.inr (bitsL P 64)) = _
        rw [e]
    · intro c hc
      have l56 : nI c < 56 := nI_lt (b := 56) hc (by decide)
      unfold b_X0_mostlyClear_5
      rw [if_pos l56, ctC c hc, Option.bind_some, bitsL]
      unfold j_X0_mostlyClear_92_5
      simp only [lt2, nI_1]
      cases P c <;> simp
    · unfold b_X0_mostlyClear_5
      rw [if_neg (show ¬ (nI 56 : Int32) < 56 by decide)]
  · rw [e1, e2]
    exact ⟨_, rfl, rfl, h⟩
/-- the fewest -/
theorem bt_one {i j : Nat} (hi : i < 32) (hj : j < 32) : bt (zshl 1 (nI i)) j = decide (j = i) := bt_bit i hi j hj
theorem ld_one (hI : Inv g) {i : Nat} (hi : i < aShN g) {c : Nat} (hc : c < 64) : lb (ldX g (zshl 1 (nI i))) c = (vw g c && sF g i c) := by
  have hN := tp_Sh (iv_Top hI)
  rw [lb_ldX g _ hc]
  congr 1
  unfold lyB
  rw [Bool.eq_iff_iff, anys_iff]
  constructor
  · rintro ⟨j, hj, e⟩
    rw [bt_one (by omega) (by omega), Bool.and_eq_true, decide_eq_true_eq] at e
    rw [← e.1]; exact e.2
  · intro e
    exact ⟨i, hi, by rw [bt_one (by omega) (by omega), decide_eq_true rfl, Bool.true_and]; exact e⟩
/-- the model's row of what each shot lays -/
def Clr (σ : zG) (g : zGa) : Prop := ∀ i, i < aShN g → σ.2 11 0 i = ldX g (zshl 1 (nI i))
theorem m_joined (hI : Inv (σ.1 1 0)) (hC : Clr σ (σ.1 1 0)) (x : Int32) : f_X12_joined x σ = some (ldX (σ.1 1 0) x) := by
  have hN := tp_Sh (iv_Top hI)
  unfold f_X12_joined
  obtain ⟨X, e, hX⟩ := zlp_run (f := fun q : Int64 × Int32 => b_X12_joined_5 σ x q.1 q.2) (aShN (σ.1 1 0)) (fun k q => q.2 = nI k ∧ ∀ c, c < 64 → lb q.1 c = (vw (σ.1 1 0) c && anys (fun i => bt x i && sF (σ.1 1 0) i c) k)) (fun X => ∀ c, c < 64 → lb X c = (vw (σ.1 1 0) c && lyB (σ.1 1 0) x c)) (a := ((0 : Int64), (0 : Int32))) ⟨rfl, fun c _ => by show lb 0 c = _; rw [lb_0, anys, Bool.and_false]⟩ (by
    rintro k hk ⟨Y, _⟩ ⟨rfl, hY⟩
    right
    have k10 : k < 10 := by omega
    have l1 : nI k < nI (aShN (σ.1 1 0)) := nI_lt hk (by omega)
    have hY' : ∀ c, c < 64 → lb Y c = (vw (σ.1 1 0) c && anys (fun i => bt x i && sF (σ.1 1 0) i c) k) := hY
    unfold b_X12_joined_5
    rw [hN.1, shr_bt x (show k < 32 by omega), zin_ok k10 (by decide), zgT, nI_clamp (by omega), hC k hk]
    simp only [l1, if_true, zt_1]
    cases hb : bt x k
    · rw [if_neg Bool.false_ne_true]
      exact ⟨_, rfl, nI_1 k, fun c hc => by
        show lb Y c = _
        rw [anys_succ, hY' c hc, hb, Bool.false_and, Bool.or_false]⟩
    · rw [if_pos rfl]
      exact ⟨_, rfl, nI_1 k, fun c hc => by
        show lb (Y ||| ldX (σ.1 1 0) (zshl 1 (nI k))) c = _
        rw [anys_succ, lb_or, hY' c hc, hb, Bool.true_and, ld_one hI hk hc, Bool.and_or_distrib_left]⟩) (by
    rintro ⟨Y, _⟩ ⟨rfl, hY⟩
    have l1 : ¬ nI (aShN (σ.1 1 0)) < nI (aShN (σ.1 1 0)) := nI_nlt (Nat.le_refl _) (by omega)
    unfold b_X12_joined_5
    rw [hN.1]
    simp only [l1, if_false]
    exact ⟨_, rfl, hY⟩)
  rw [e, Option.bind_some]
  congr 1
  exact lb_ext fun c hc => by rw [hX c hc, lb_ldX _ x hc]
theorem fw_two (hI : Inv g) (hR : RB σc 0 g) (hg : σm.1 1 0 = g) (hC : Clr σm g) : ∃ r, r < 2 ^ aShN g ∧ f_X0_fewestSet σc = some (nI r) ∧ f_X12_fewestSet σm = some (nI r) := by
  have hN := tp_Sh (iv_Top hI)
  have p1 : 2 ^ aShN g ≤ 2 ^ 10 := Nat.pow_le_pow_right (by decide) hN.2
  have p0 : 0 < 2 ^ aShN g := Nat.two_pow_pos _
  have jn : ∀ x, f_X12_joined x σm = some (ldX g x) := fun x => by
    have := m_joined (σ := σm) (by rw [hg]; exact hI) (by rw [hg]; exact hC) x
    rw [hg] at this
    exact this
  unfold f_X0_fewestSet f_X12_fewestSet
  rw [rN hR, hg, hN.1, shl_p _ (by omega), pm1' p0, c_laid hI hR, Option.bind_some]
  obtain ⟨b, b', f1, f2, r, hr, rfl, rfl⟩ := zlp_two (f := fun q : Int32 × Int32 => b_X0_fewestSet_24 σc (ldX g (nI (2 ^ aShN g - 1))) q.1 q.2) (f' := fun q : Int32 × Int32 => b_X12_fewestSet_15 σm q.1 q.2) (2 ^ aShN g - 1) (fun k q q' => q = q' ∧ q.2 = nI k ∧ ∃ r, r < 2 ^ aShN g ∧ q.1 = nI r) (fun b b' => ∃ r, r < 2 ^ aShN g ∧ b = nI r ∧ b' = nI r) (a := (nI (2 ^ aShN g - 1), (0 : Int32))) (a' := (nI (2 ^ aShN g - 1), (0 : Int32))) ⟨rfl, rfl, _, by omega, rfl⟩ (by
    rintro k hk ⟨_, _⟩ _ ⟨rfl, rfl, r, hr, rfl⟩
    right
    have l1 : nI k < nI (2 ^ aShN g - 1) := nI_lt hk (by omega)
    unfold b_X0_fewestSet_24 b_X12_fewestSet_15
    simp only [rN hR, hg, hN.1, shl_p _ (show aShN g < 11 by omega), pm1' p0, l1, if_true, c_laid hI hR, jn, Option.bind_some, lcmp0, bc_S (show k < 1024 by omega), bc_S (show r < 1024 by omega)]
    by_cases q1 : f_J6_bitCount_0f7a4 (nI k) < f_J6_bitCount_0f7a4 (nI r)
    · by_cases q2 : ldX g (nI k) = ldX g (nI (2 ^ aShN g - 1))
      · simp only [q1, q2, if_true]
        exact ⟨_, _, rfl, rfl, rfl, nI_1 k, k, by omega, rfl⟩
      · simp only [q1, q2, if_true, if_false]
        exact ⟨_, _, rfl, rfl, rfl, nI_1 k, r, hr, rfl⟩
    · by_cases q2 : ldX g (nI k) = ldX g (nI (2 ^ aShN g - 1))
      · simp only [q1, q2, if_true, if_false]
        exact ⟨_, _, rfl, rfl, rfl, nI_1 k, r, hr, rfl⟩
      · simp only [q1, q2, if_false]
        exact ⟨_, _, rfl, rfl, rfl, nI_1 k, r, hr, rfl⟩) (by
    rintro ⟨_, _⟩ _ ⟨rfl, rfl, r, hr, rfl⟩
    have l1 : ¬ nI (2 ^ aShN g - 1) < nI (2 ^ aShN g - 1) := nI_nlt (Nat.le_refl _) (by omega)
    unfold b_X0_fewestSet_24 b_X12_fewestSet_15
    simp only [rN hR, hg, hN.1, shl_p _ (show aShN g < 11 by omega), pm1' p0, l1, if_false]
    exact ⟨_, _, rfl, rfl, r, hr, rfl, rfl⟩)
  rw [f1, f2]
  exact ⟨r, hr, rfl, rfl⟩
/-- greedy -/
def clX (g : zGa) (i : Nat) : Int64 := ldX g (zshl 1 (nI i))
def gdn (g : zGa) (H : Int64) : Nat := fb_ct (fun i => decide (clX g i &&& (H ^^^ (-1)) = 0)) (aShN g)
theorem pop0 (x : Int64) : (fb_ct (lb x) 64 = 0) = (x = 0) := propext ⟨fun h => lb_ext fun i hi => by rw [lb_0]; exact fb_ct_zero.mp h i hi, fun h => by rw [h]; exact fb_ct_zero.mpr fun i _ => lb_0 i⟩
theorem gr_inner (hI : Inv g) (hR : RB σc 0 g) (hg : σm.1 1 0 = g) (hC : Clr σm g) (H : Int64) : ∃ E b, zlp (fun q : Int64 × Int32 => b_X0_greedy_34 σc (colX (aStep g) (aWide g) (aH g)) H q.1 q.2) ((0 : Int64), (0 : Int32)) = some E ∧ zlp (fun q : Int32 × Int32 => b_X12_greedyMany_18 σm H q.1 q.2) ((-1 : Int32), (0 : Int32)) = some b ∧ ((b = -1 ∧ E = 0 ∧ ∀ j, j < aShN g → clX g j &&& (H ^^^ (-1)) = 0) ∨ (∃ i, i < aShN g ∧ b = nI i ∧ E = clX g i &&& (H ^^^ (-1)) ∧ ¬ E = 0)) := by
  have hN := tp_Sh (iv_Top hI)
  have cl : ∀ i, i < aShN g → f_X6_clearSpots i σc &&& colX (aStep g) (aWide g) (aH g) = clX g i := fun i hi => lb_ext fun c hc => by
    unfold clX
    rw [lb_and, c_clear hI hR hi hc, lb_view hI hc, ld_one hI hi hc, Bool.and_comm]
  refine zlp_two (f := fun q : Int64 × Int32 => b_X0_greedy_34 σc (colX (aStep g) (aWide g) (aH g)) H q.1 q.2) (f' := fun q : Int32 × Int32 => b_X12_greedyMany_18 σm H q.1 q.2) (aShN g) (fun k q q' => (q.2 = nI k ∧ q'.2 = nI k) ∧ ((q'.1 = -1 ∧ q.1 = 0 ∧ ∀ j, j < k → clX g j &&& (H ^^^ (-1)) = 0) ∨ (∃ i, i < aShN g ∧ q'.1 = nI i ∧ q.1 = clX g i &&& (H ^^^ (-1)) ∧ ¬ q.1 = 0))) _ ⟨⟨rfl, rfl⟩, Or.inl ⟨rfl, rfl, fun j hj => absurd hj (Nat.not_lt_zero j)⟩⟩ ?_ ?_
  · rintro k hk ⟨E, _⟩ ⟨b, _⟩ ⟨⟨rfl, rfl⟩, hq⟩
    right
    have k10 : k < 10 := by omega
    have l1 : nI k < nI (aShN g) := nI_lt hk (by omega)
    have l2 : nI k < 10 := nI_lt (b := 10) k10 (by decide)
    have ck : σm.2 11 0 k = clX g k := hC k hk
    unfold b_X0_greedy_34 b_X12_greedyMany_18
    simp (disch := omega) only [rN hR, hg, hN.1, l1, l2, if_true, zin_nI, k10, decide_true, zgT, nI_clamp, zb, cl k hk, ck, m_count, bitc, Option.bind_some]
    have b64 := fb_ct_le (lb (clX g k &&& (H ^^^ (-1)))) 64
    rcases hq with ⟨hb, hE, hno⟩ | ⟨i, hi, hb, hE, hne⟩
    · have hb' : b = -1 := hb
      have hE' : E = 0 := hE
      subst hb' hE'
      have z0 : fb_ct (lb (0 : Int64)) 64 = 0 := by rw [pop0]
      rw [z0]
      simp only [if_true]
      by_cases q : 0 < fb_ct (lb (clX g k &&& (H ^^^ (-1)))) 64
      · have q1 : nI 0 < nI (fb_ct (lb (clX g k &&& (H ^^^ (-1)))) 64) := nI_lt q (by omega)
        have q2 : (0 : Int32) < nI (fb_ct (lb (clX g k &&& (H ^^^ (-1)))) 64) := q1
        rw [if_pos q1, if_pos q2]
        refine ⟨_, _, rfl, rfl, ⟨nI_1 k, nI_1 k⟩, Or.inr ⟨k, hk, rfl, rfl, fun z => ?_⟩⟩
        have z' : clX g k &&& (H ^^^ (-1)) = 0 := z
        rw [← pop0] at z'
        omega
      · have q1 : ¬ nI 0 < nI (fb_ct (lb (clX g k &&& (H ^^^ (-1)))) 64) := nI_nlt (by omega) (by omega)
        have q2 : ¬ (0 : Int32) < nI (fb_ct (lb (clX g k &&& (H ^^^ (-1)))) 64) := q1
        rw [if_neg q1, if_neg q2]
        refine ⟨_, _, rfl, rfl, ⟨nI_1 k, nI_1 k⟩, Or.inl ⟨rfl, rfl, fun j hj => ?_⟩⟩
        rcases Nat.lt_succ_iff_lt_or_eq.mp hj with z | z
        · exact hno j z
        · rw [z, ← pop0]; omega
    · have hb' : b = nI i := hb
      have hE' : E = clX g i &&& (H ^^^ (-1)) := hE
      have hne' : ¬ E = 0 := hne
      subst hb'
      have i10 : i < 10 := by omega
      have ci : σm.2 11 0 i = clX g i := hC i hi
      have n1 : (nI i = -1) = False := nI_nm1 (by omega)
      simp (disch := omega) only [n1, if_false, zin_nI, i10, decide_true, zgT, nI_clamp, ci, ← hE', Option.bind_some]
      by_cases q : nI (fb_ct (lb E) 64) < nI (fb_ct (lb (clX g k &&& (H ^^^ (-1)))) 64)
      · rw [if_pos q, if_pos q]
        refine ⟨_, _, rfl, rfl, ⟨nI_1 k, nI_1 k⟩, Or.inr ⟨k, hk, rfl, rfl, fun z => ?_⟩⟩
        have be := fb_ct_le (lb E) 64
        rw [nI_ltQ (by omega) (by omega)] at q
        have z' : clX g k &&& (H ^^^ (-1)) = 0 := z
        rw [← pop0] at z'
        omega
      · rw [if_neg q, if_neg q]
        exact ⟨_, _, rfl, rfl, ⟨nI_1 k, nI_1 k⟩, Or.inr ⟨i, hi, rfl, hE', hne'⟩⟩
  · rintro ⟨E, _⟩ ⟨b, _⟩ ⟨⟨rfl, rfl⟩, hq⟩
    have l1 : ¬ nI (aShN g) < nI (aShN g) := nI_nlt (Nat.le_refl _) (by omega)
    unfold b_X0_greedy_34 b_X12_greedyMany_18
    simp only [rN hR, hg, hN.1, l1, if_false]
    exact ⟨_, _, rfl, rfl, hq⟩
theorem gr_two (hI : Inv g) (hR : RB σc 0 g) (hg : σm.1 1 0 = g) (hC : Clr σm g) : ∃ r, f_X0_greedy σc = some r ∧ f_X12_greedyMany σm = some r := by
  have hN := tp_Sh (iv_Top hI)
  have main : ∀ j k, k + j = aShN g → ∀ H : Int64, k ≤ gdn g H → ∃ r x, zlp (fun q : Int64 × Int32 × Int32 => b_X0_greedy_16 σc (colX (aStep g) (aWide g) (aH g)) q.1 q.2.1 q.2.2) (H, nI k, nI k) = some x ∧ Sum.elim (fun e13 : Int32 => some e13) (fun e14 : Int32 => some e14) x = some r ∧ zlp (fun q : Int64 × Int32 × Int32 => b_X12_greedyMany_7 σm q.1 q.2.1 q.2.2) (H, nI k, (1 : Int32)) = some r := by
    intro j
    induction j with
    | zero =>
      intro k hk H hd
      have hk' : k = aShN g := by omega
      subst hk'
      obtain ⟨E, b, e1, e2, hq⟩ := gr_inner hI hR hg hC H
      have hb : b = -1 := by
        rcases hq with ⟨hb, -, -⟩ | ⟨i, hi, -, hE, hne⟩
        · exact hb
        · have all : ∀ k, k < aShN g → decide (clX g k &&& (H ^^^ (-1)) = 0) = true := fb_ct_all.mp (Nat.le_antisymm (fb_ct_le _ _) hd)
          have := of_decide_eq_true (all i hi)
          exact absurd (hE.trans this) hne
      subst hb
      refine ⟨nI (aShN g), Sum.inr (nI (aShN g)), zlp_done ?_, rfl, ?_⟩
      · show b_X0_greedy_16 σc _ H (nI (aShN g)) (nI (aShN g)) = _
        unfold b_X0_greedy_16
        rw [rN hR, hN.1, if_neg (nI_nlt (Nat.le_refl _) (by omega))]
      · have st : b_X12_greedyMany_7 σm H (nI (aShN g)) 1 = some (Sum.inl (H, nI (aShN g), 0)) := by
          unfold b_X12_greedyMany_7 j_X12_greedyMany_95_7
          rw [if_neg (by decide), e2, Option.bind_some, if_pos rfl, if_pos rfl]
        rw [zlp_step (f := fun q : Int64 × Int32 × Int32 => b_X12_greedyMany_7 σm q.1 q.2.1 q.2.2) (a := (H, nI (aShN g), 1)) (a' := (H, nI (aShN g), 0)) st]
        refine zlp_done ?_
        show b_X12_greedyMany_7 σm H (nI (aShN g)) 0 = _
        unfold b_X12_greedyMany_7
        rw [if_pos rfl]
    | succ j ih =>
      intro k hk H hd
      have l1 : nI k < nI (aShN g) := nI_lt (by omega) (by omega)
      obtain ⟨E, b, e1, e2, hq⟩ := gr_inner hI hR hg hC H
      rcases hq with ⟨rfl, rfl, -⟩ | ⟨i, hi, rfl, hE, hne⟩
      · refine ⟨nI k, Sum.inl (nI k), zlp_done ?_, rfl, ?_⟩
        · show b_X0_greedy_16 σc _ H (nI k) (nI k) = _
          unfold b_X0_greedy_16 j_X0_greedy_99_16
          rw [rN hR, hN.1, if_pos l1, e1, Option.bind_some]
          simp only [lcmp0, if_true]
        · have st : b_X12_greedyMany_7 σm H (nI k) 1 = some (Sum.inl (H, nI k, 0)) := by
            unfold b_X12_greedyMany_7 j_X12_greedyMany_95_7
            rw [if_neg (by decide), e2, Option.bind_some, if_pos rfl, if_pos rfl]
          rw [zlp_step (f := fun q : Int64 × Int32 × Int32 => b_X12_greedyMany_7 σm q.1 q.2.1 q.2.2) (a := (H, nI k, 1)) (a' := (H, nI k, 0)) st]
          refine zlp_done ?_
          show b_X12_greedyMany_7 σm H (nI k) 0 = _
          unfold b_X12_greedyMany_7
          rw [if_pos rfl]
      · have i10 : i < 10 := by omega
        have ci : σm.2 11 0 i = clX g i := hC i hi
        have hH : H ||| E = H ||| clX g i := lb_ext fun c hc => by
          rw [hE, lb_or, lb_or, lb_and, lb_not _ hc]
          cases lb H c <;> cases lb (clX g i) c <;> rfl
        have st1 : b_X0_greedy_16 σc (colX (aStep g) (aWide g) (aH g)) H (nI k) (nI k) = some (Sum.inl (H ||| clX g i, nI (k + 1), nI (k + 1))) := by
          unfold b_X0_greedy_16 j_X0_greedy_99_16
          rw [rN hR, hN.1, if_pos l1, e1, Option.bind_some]
          simp only [lcmp0, hne, if_false, hH, nI_1]
        have st2 : b_X12_greedyMany_7 σm H (nI k) 1 = some (Sum.inl (H ||| clX g i, nI (k + 1), 1)) := by
          have n1 : (nI i = -1) = False := nI_nm1 (by omega)
          unfold b_X12_greedyMany_7 j_X12_greedyMany_95_7
          rw [if_neg (by decide), e2, Option.bind_some]
          simp (disch := omega) only [n1, if_false, show ¬ (1 : Int32) = 0 by decide, zin_nI, i10, decide_true, zgT, nI_clamp, ci, nI_1]
        have grow : k + 1 ≤ gdn g (H ||| clX g i) := by
          have hni : decide (clX g i &&& (H ^^^ (-1)) = 0) = false := decide_eq_false fun q => hne (hE.trans q)
          have u := fb_ct_upd (fun j => decide (clX g j &&& (H ^^^ (-1)) = 0)) true (i := i) hi
          have sub : fb_ct (fun j => if j = i then true else decide (clX g j &&& (H ^^^ (-1)) = 0)) (aShN g) ≤ gdn g (H ||| clX g i) := fb_ct_sub fun j hj e => by
            refine decide_eq_true (lb_ext fun c hc => ?_)
            rw [lb_and, lb_not _ hc, lb_or, lb_0]
            by_cases q : j = i
            · subst q
              cases lb H c <;> cases lb (clX g j) c <;> rfl
            · simp only [q, if_false, decide_eq_true_eq] at e
              have e' := congrArg (fun z => lb z c) e
              simp only [lb_and, lb_not _ hc, lb_0] at e'
              revert e'
              cases lb H c <;> cases lb (clX g j) c <;> cases lb (clX g i) c <;> simp
          have hd' : k ≤ fb_ct (fun j => decide (clX g j &&& (H ^^^ (-1)) = 0)) (aShN g) := hd
          simp only [hni, Bool.false_eq_true, if_false, if_true, Nat.add_zero] at u
          omega
        obtain ⟨r, x, h1, h2, h3⟩ := ih (k + 1) (by omega) (H ||| clX g i) grow
        refine ⟨r, x, ?_, h2, ?_⟩
        · rw [zlp_step (f := fun q : Int64 × Int32 × Int32 => b_X0_greedy_16 σc (colX (aStep g) (aWide g) (aH g)) q.1 q.2.1 q.2.2) (a := (H, nI k, nI k)) (a' := (H ||| clX g i, nI (k + 1), nI (k + 1))) st1]
          exact h1
        · rw [zlp_step (f := fun q : Int64 × Int32 × Int32 => b_X12_greedyMany_7 σm q.1 q.2.1 q.2.2) (a := (H, nI k, 1)) (a' := (H ||| clX g i, nI (k + 1), 1)) st2]
          exact h3
  obtain ⟨r, x, h1, h2, h3⟩ := main (aShN g) 0 (by omega) 0 (Nat.zero_le _)
  have h1' : zlp (fun q : Int64 × Int32 × Int32 => b_X0_greedy_16 σc (colX (aStep g) (aWide g) (aH g)) q.1 q.2.1 q.2.2) ((0 : Int64), (0 : Int32), (0 : Int32)) = some x := h1
  have h3' : zlp (fun q : Int64 × Int32 × Int32 => b_X12_greedyMany_7 σm q.1 q.2.1 q.2.2) ((0 : Int64), (0 : Int32), (1 : Int32)) = some r := h3
  unfold f_X0_greedy f_X12_greedyMany
  rw [c_viewNow hI hR.1, Option.bind_some, h1', h3', Option.bind_some, Option.bind_some]
  exact ⟨r, h2, rfl⟩
theorem pr_fewest [Inhabited BFT] : PR_fewest Rel := fun x σc σm h => by
  have hN := tp_Sh (iv_Top (rI h))
  obtain ⟨sm, e, hs, hC⟩ := zlp_run (f := fun q : Int32 × zG => b_X12_fewest_13 q.1 q.2) (aShN (σm.1 1 0)) (fun k q => q.1 = nI k ∧ q.2.1 = σm.1 ∧ ∀ i, i < k → q.2.2 11 0 i = ldX (σm.1 1 0) (zshl 1 (nI i))) (fun s => s.1 = σm.1 ∧ Clr s (σm.1 1 0)) (a := ((0 : Int32), σm)) ⟨rfl, rfl, fun i hi => absurd hi (Nat.not_lt_zero i)⟩ (by
    rintro k hk ⟨_, s⟩ ⟨rfl, hs, hv⟩
    right
    have hs' : s.1 = σm.1 := hs
    have k10 : k < 10 := by omega
    have l1 : nI k < nI (aShN (σm.1 1 0)) := nI_lt hk (by omega)
    have ml := m_laid (σ := s) (by rw [hs']; exact rI h) (zshl 1 (nI k))
    rw [hs'] at ml
    unfold b_X12_fewest_13
    rw [hs', hN.1, if_pos l1, ml, Option.bind_some, zin_ok k10 (by decide), zgT, nI_clamp (by omega)]
    simp only [zb]
    refine ⟨_, rfl, nI_1 k, hs, fun i hi => ?_⟩
    show (if 11 = 11 ∧ 0 = 0 ∧ i = k then _ else s.2 11 0 i) = _
    by_cases q : i = k
    · rw [if_pos ⟨rfl, rfl, q⟩, q]
    · rw [if_neg (fun z => q z.2.2)]
      exact hv i (by omega)) (by
    rintro ⟨_, s⟩ ⟨rfl, hs, hv⟩
    have hs' : s.1 = σm.1 := hs
    unfold b_X12_fewest_13
    rw [hs', hN.1, if_neg (nI_nlt (Nat.le_refl _) (by omega))]
    exact ⟨_, rfl, hs, hv⟩)
  have hg : sm.1 1 0 = σm.1 1 0 := by rw [hs]
  have hSO : SmO σm sm := ⟨fun f _ => by rw [hs], fun k _ => by rw [hs]⟩
  obtain ⟨r, hr, a1, a2⟩ := fw_two (rI h) (rB h) hg hC
  obtain ⟨t, a3, a4⟩ := gr_two (rI h) (rB h) hg hC
  have hr2 : r < 1024 := Nat.lt_of_lt_of_le hr (by
    rw [show (1024 : Nat) = 2 ^ 10 from rfl]
    exact Nat.pow_le_pow_right (by decide) hN.2)
  unfold f_X11_fewest f_X12_fewest
  rw [isIn02, e, a1, a3]
  simp only [Option.bind_some, zt_0, a2, a4, bc_S hr2]
  by_cases h0 : x = 0
  · subst h0; exact ⟨_, _, rfl, rfl, rel_same (SmC.refl _) hSO.m h⟩
  by_cases h1 : x = 1
  · subst h1; exact ⟨_, _, rfl, rfl, rel_same (SmC.refl _) hSO.m h⟩
  by_cases h2 : x = 2
  · subst h2; exact ⟨_, _, rfl, rfl, rel_same (SmC.refl _) hSO.m h⟩
  simp only [h0, h1, h2, if_false, or_self, decide_false, if_true]
  exact ⟨_, _, rfl, rfl, h⟩
end PURE
