/-! PURE LAYER: with, exposed (how many), ghosts, steps -/
theorem alls_succ (e : Nat → Bool) (b : Bool) (k : Nat) : alls e b (k + 1) = (alls e b k && e k) := rfl
theorem smC_w {σ : zG} {f i k : Nat} {x : Int32} (h : zcs f = true) : SmC σ (zwI σ f i k x) := by
  intro f' h'
  refine ⟨?_, rfl⟩
  funext i' k'
  show (if f' = f ∧ i' = i ∧ k' = k then x else σ.1 f' i' k') = _
  rw [if_neg]
  rintro ⟨rfl, -⟩
  rw [h] at h'
  cases h'
theorem smC_wL {σ : zG} {f i k : Nat} {x : Int64} (h : zcs f = true) : SmC σ (zwL σ f i k x) := by
  intro f' h'
  refine ⟨rfl, ?_⟩
  funext i' k'
  show (if f' = f ∧ i' = i ∧ k' = k then x else σ.2 f' i' k') = _
  rw [if_neg]
  rintro ⟨rfl, -⟩
  rw [h] at h'
  cases h'
theorem smC_fl {σ : zG} {f i n : Nat} {x : Int32} (h : zcs f = true) : SmC σ (zflI σ f i n x) := by
  intro f' h'
  refine ⟨?_, rfl⟩
  funext i' k'
  show (if f' = f ∧ i' = i ∧ k' < n then x else σ.1 f' i' k') = _
  rw [if_neg]
  rintro ⟨rfl, -⟩
  rw [h] at h'
  cases h'
/-- bits of an int -/
theorem bt_not (x : Int32) {i : Nat} (hi : i < 32) : bt (x ^^^ (-1)) i = !bt x i := by rw [b_xor, b_m1 i hi, Bool.xor_true]
set_option maxRecDepth 20000 in
theorem bt_bit : ∀ c, c < 32 → ∀ i, i < 32 → bt (zshl 1 (nI c)) i = decide (i = c) := by decide +kernel
set_option maxRecDepth 20000 in
theorem bt_low : ∀ n, n < 13 → ∀ i, i < 32 → bt (zshl 1 (nI n) - 1) i = decide (i < n) := by decide +kernel
section PURE
variable {σ σc σm : zG} {g : zGa}
theorem cov_sp (hI : Inv g) {c m : Nat} (hc : c < 64) (hm : m < 501) (h : covB g c m = true) : sp g c = true := by
  rw [covB_iff hI hc] at h
  rcases h with ⟨k, hk, e⟩ | ⟨j, hj, e, -⟩
  · rcases iv_Pl hI hk hm with e2 | ⟨c', hc', e2, e3⟩
    · rw [e, nI_nm1 (by omega)] at e2
      exact e2.elim
    · rw [e, nI_eqI (by omega) (by omega)] at e2
      rw [e2]; exact e3
  · obtain ⟨c', hc', e2, e3⟩ := tp_Sp (iv_Top hI) hj
    rw [e, nI_eqI (by omega) (by omega)] at e2
    rw [e2]; exact e3
theorem c_walksOn (hI : Inv g) (hP : RPa σ 0 g) {k m : Nat} (hk : k < aWN g) (hm : m < 501) : f_X1_walksOn 0 (colX (aStep g) (aWide g) (aH g)) (nI k) (nI m) σ = some (zt (vwP g (pl g k m))) := by
  unfold f_X1_walksOn
  rw [c_spotIn hI hP hk hm, Option.bind_some]
  rcases iv_Pl hI hk hm with e | ⟨c, hc, e, -⟩
  · simp only [e, vwP_m1, if_true]
    rfl
  · have nc : (nI c = -1) = False := nI_nm1 (by omega)
    simp only [e, nc, if_false, holds_lb _ (show c < 64 by omega), lb_view hI (show c < 64 by omega), vwP_nI (show c < 64 by omega), zt_0]
    cases vw g c <;> rfl
/-- a walker is in view in all these minutes -/
def wAll (g : zGa) (a n k : Nat) : Bool := alls (fun j => vwP g (pl g k (a + j))) true (n + 1)
theorem m_seenAll (hI : Inv (σ.1 1 0)) {k a n : Nat} (hk : k < aWN (σ.1 1 0)) (hn : a + n ≤ 500) : f_X12_isSeenAll (nI k) (nI a) (nI (a + n)) σ = some (zt (wAll (σ.1 1 0) a n k)) := by
  have hN := iv_WN hI
  unfold f_X12_isSeenAll
  obtain ⟨r, e, hr⟩ := zlp_run (f := fun q : Int32 => b_X12_isSeenAll_3 (nI (a + n)) (nI k) σ q) (n + 1) (fun j q => q = nI (a + j) ∧ alls (fun j => vwP (σ.1 1 0) (pl (σ.1 1 0) k (a + j))) true j = true) (fun r => (r = .inl () ∧ wAll (σ.1 1 0) a n k = false) ∨ (r = .inr () ∧ wAll (σ.1 1 0) a n k = true)) (a := nI a) ⟨rfl, rfl⟩ (by
    rintro j hj _ ⟨rfl, ha⟩
    unfold b_X12_isSeenAll_3
    simp (disch := omega) only [nI_leQ, show a + j ≤ a + n by omega, if_true, m_place (σ := σ) (show k < 12 by omega) (show a + j < 501 by omega), Option.bind_some]
    have fl : vwP (σ.1 1 0) (pl (σ.1 1 0) k (a + j)) = false → wAll (σ.1 1 0) a n k = false := fun hf => by
      have : alls (fun j => vwP (σ.1 1 0) (pl (σ.1 1 0) k (a + j))) true (j + 1) = false := by
        rw [alls_succ, hf, Bool.and_false]
      have := alls_false this (n - j)
      rw [show j + 1 + (n - j) = n + 1 by omega] at this
      exact this
    rcases iv_Pl hI hk (show a + j < 501 by omega) with e | ⟨c, hc, e, -⟩
    · simp only [e, if_true]
      exact Or.inl ⟨_, rfl, Or.inl ⟨rfl, fl (by rw [e, vwP_m1])⟩⟩
    · have nc : (nI c = -1) = False := nI_nm1 (by omega)
      simp only [e, nc, if_false, m_isInView hI (show c < 64 by omega), Option.bind_some, zt_0]
      cases hv : vw (σ.1 1 0) c
      · exact Or.inl ⟨_, rfl, Or.inl ⟨rfl, fl (by rw [e, vwP_nI (by omega), hv])⟩⟩
      · refine Or.inr ⟨_, rfl, by rw [nI_1, Nat.add_assoc], ?_⟩
        rw [alls_succ, ha, e, vwP_nI (by omega), hv]
        rfl) (by
    rintro _ ⟨rfl, ha⟩
    unfold b_X12_isSeenAll_3
    simp (disch := omega) only [nI_leQ, show ¬ a + (n + 1) ≤ a + n by omega, if_false]
    exact ⟨_, rfl, Or.inr ⟨rfl, ha⟩⟩)
  rw [e]
  rcases hr with ⟨rfl, h2⟩ | ⟨rfl, h2⟩ <;> rw [h2] <;> rfl
theorem pr_with [Inhabited BFT] : PR_with Rel := fun x y σc σm h => by
  have hN := iv_WN (rI h)
  have w0 : σc.1 8 0 0 = σm.1 1 0 36 := (rB h).2.2.1.1
  unfold f_X11_with f_X12_with f_X9_alwaysInView
  rcases span_cs x y with ⟨a, n, hn, rfl, rfl, e1, e2⟩ | ⟨e1, e2⟩
  · rw [e1, e2, c_viewNow (rI h) (rB h).1, Option.bind_some, if_neg (by decide), if_neg (by decide), w0, hN.1]
    obtain ⟨b, b', f1, f2, rfl⟩ : ∃ b b', zlp (fun q : Int32 × Int32 => b_X9_alwaysInView_27 σc (nI (a + n)) (colX (aStep (σm.1 1 0)) (aWide (σm.1 1 0)) (aH (σm.1 1 0))) (nI a) q.1 q.2) (((zshl (1 : Int32) (nI (aWN (σm.1 1 0)))) - (1 : Int32)), (0 : Int32)) = some b ∧ zlp (fun q : Int32 × Int32 => b_X12_with_15 σm (nI a) (nI (a + n)) q.1 q.2) ((0 : Int32), (0 : Int32)) = some b' ∧ b = b' := by
      refine zlp_two (aWN (σm.1 1 0)) (fun k q q' => (q.2 = nI k ∧ q'.2 = nI k) ∧ ∀ j, j < 32 → bt q.1 j = (decide (j < aWN (σm.1 1 0)) && (!decide (j < k) || wAll (σm.1 1 0) a n j)) ∧ bt q'.1 j = (decide (j < k) && wAll (σm.1 1 0) a n j)) (fun b b' => b = b') ⟨⟨rfl, rfl⟩, fun j hj => ⟨by simp only [bt_low _ (show aWN (σm.1 1 0) < 13 by omega) j hj]; simp, by simp [b_0]⟩⟩ ?_ ?_
      · rintro k hk ⟨X, _⟩ ⟨Y, _⟩ ⟨⟨rfl, rfl⟩, hb⟩
        right
        obtain ⟨r, er, hr⟩ := zlp_run (f := fun q : Int32 × Int32 => b_X9_alwaysInView_45 (nI (a + n)) (colX (aStep (σm.1 1 0)) (aWide (σm.1 1 0)) (aH (σm.1 1 0))) (nI k) σc q.1 q.2) (n + 1) (fun j q => q.2 = nI (a + j) ∧ ∀ i, i < 32 → bt q.1 i = (bt X i && (!decide (i = k) || alls (fun j => vwP (σm.1 1 0) (pl (σm.1 1 0) k (a + j))) true j))) (fun r => ∀ i, i < 32 → bt r i = (bt X i && (!decide (i = k) || wAll (σm.1 1 0) a n k))) (a := (X, nI a)) ⟨rfl, fun i hi => by simp [alls]⟩ (by
          rintro j hj ⟨Z, _⟩ ⟨rfl, hz⟩
          right
          unfold b_X9_alwaysInView_45
          simp (disch := omega) only [nI_leQ, show a + j ≤ a + n by omega, if_true, c_walksOn (rI h) (rB h).2.2.2.1 hk (show a + j < 501 by omega), Option.bind_some, zt_0]
          have hz' : ∀ i, i < 32 → bt Z i = _ := hz
          cases hv : vwP (σm.1 1 0) (pl (σm.1 1 0) k (a + j))
          · refine ⟨_, rfl, by show nI (a + j) + 1 = _; rw [nI_1, Nat.add_assoc], fun i hi => ?_⟩
            show bt (Z &&& (zshl 1 (nI k) ^^^ (-1))) i = _
            rw [alls_succ, b_and, bt_not _ hi, bt_bit k (by omega) i hi, hz' i hi, hv]
            cases bt X i <;> by_cases q : i = k <;> simp [q]
          · refine ⟨_, rfl, by show nI (a + j) + 1 = _; rw [nI_1, Nat.add_assoc], fun i hi => ?_⟩
            show bt Z i = _
            rw [alls_succ, hz' i hi, hv, Bool.and_true]) (by
          rintro ⟨Z, _⟩ ⟨rfl, hz⟩
          unfold b_X9_alwaysInView_45
          simp (disch := omega) only [nI_leQ, show ¬ a + (n + 1) ≤ a + n by omega, if_false]
          exact ⟨_, rfl, hz⟩)
        unfold b_X9_alwaysInView_27 b_X12_with_15
        simp only [w0, hN.1, nI_lt hk (show aWN (σm.1 1 0) < 2 ^ 31 by omega), if_true, er, m_seenAll (rI h) hk hn, Option.bind_some, zt_0]
        cases hw : wAll (σm.1 1 0) a n k
        · refine ⟨_, _, rfl, rfl, ⟨nI_1 k, nI_1 k⟩, fun j hj => ⟨?_, ?_⟩⟩
          · show bt r j = _
            rw [hr j hj, (hb j hj).1, hw]
            by_cases q : j = k
            · subst q; simp [hw]
            · have : (j < k + 1) = (j < k) := propext ⟨fun z => by omega, fun z => by omega⟩
              simp [q, this]
          · show bt (Y ||| 0) j = _
            rw [b_or, b_0, (hb j hj).2]
            by_cases q : j = k
            · subst q; simp [hw]
            · have : (j < k + 1) = (j < k) := propext ⟨fun z => by omega, fun z => by omega⟩
              simp [this]
        · refine ⟨_, _, rfl, rfl, ⟨nI_1 k, nI_1 k⟩, fun j hj => ⟨?_, ?_⟩⟩
          · show bt r j = _
            rw [hr j hj, (hb j hj).1, hw]
            by_cases q : j = k
            · subst q; simp [hw, hk]
            · have : (j < k + 1) = (j < k) := propext ⟨fun z => by omega, fun z => by omega⟩
              simp [this]
          · show bt (Y ||| zshl 1 (nI k)) j = _
            rw [b_or, bt_bit k (by omega) j hj, (hb j hj).2]
            by_cases q : j = k
            · subst q; simp [hw]
            · have : (j < k + 1) = (j < k) := propext ⟨fun z => by omega, fun z => by omega⟩
              simp [q, this]
      · rintro ⟨X, _⟩ ⟨Y, _⟩ ⟨⟨rfl, rfl⟩, hb⟩
        unfold b_X9_alwaysInView_27 b_X12_with_15
        simp only [w0, hN.1, nI_nlt (Nat.le_refl _) (show aWN (σm.1 1 0) < 2 ^ 31 by omega), if_false]
        refine ⟨_, _, rfl, rfl, b_ext fun j hj => ?_⟩
        have := hb j hj
        rw [this.1, this.2]
        by_cases q : j < aWN (σm.1 1 0) <;> simp [q]
    rw [f1, f2]
    exact ⟨_, rfl, rfl, h⟩
  · rw [e1, e2]
    exact ⟨_, rfl, rfl, h⟩
/-- in how many minutes a spot is covered -/
def cN (g : zGa) (c a n : Nat) : Nat := fb_ct (fun k => covB g c (a + k)) n
theorem cN_succ (c a k : Nat) : cN g c a (k + 1) = cN g c a k + (if covB g c (a + k) then 1 else 0) := rfl
theorem cN_le (c a n : Nat) : cN g c a n ≤ n := fb_ct_le _ n
theorem c_minC [Inhabited BFT] (h : Rel σc σm) {c a n : Nat} (hc : c < 64) (hn : a + n ≤ 500) : f_X9_minutesCovered (nI a) (nI (a + n)) (nI c) σc = some (nI (cN (σm.1 1 0) c a (n + 1))) := by
  unfold f_X9_minutesCovered
  rw [zlp_for (a := ((0 : Int32), nI a)) (fun k => (nI (cN (σm.1 1 0) c a k), nI (a + k))) (n + 1) (b := nI (cN (σm.1 1 0) c a (n + 1))) rfl ?_ ?_]
  · rfl
  · intro k hk
    unfold b_X9_minutesCovered_6
    simp (disch := omega) only [nI_leQ, show a + k ≤ a + n by omega, if_true, c_coverIn (iv_Top (rI h)) (rB h).2.1 (show a + k < 501 by omega), Option.bind_some, holds_lb _ hc, lb_covX (rI h) (rB h).2.2.2.1 hc (show a + k < 501 by omega), zt_0, nI_1]
    rw [cN_succ]
    cases hcv : covB (σm.1 1 0) c (a + k) <;> simp [Nat.add_assoc]
  · unfold b_X9_minutesCovered_6
    simp (disch := omega) only [nI_leQ, show ¬ a + (n + 1) ≤ a + n by omega, if_false]
theorem m_covMany (hI : Inv (σ.1 1 0)) {c a n : Nat} (hc : c < 64) (hn : a + n ≤ 500) : f_X12_coveredMany (nI c) (nI a) (nI (a + n)) σ = some (nI (cN (σ.1 1 0) c a (n + 1))) := by
  unfold f_X12_coveredMany
  rw [zlp_for (a := ((0 : Int32), nI a)) (fun k => (nI (cN (σ.1 1 0) c a k), nI (a + k))) (n + 1) (b := nI (cN (σ.1 1 0) c a (n + 1))) rfl ?_ ?_]
  · rfl
  · intro k hk
    unfold b_X12_coveredMany_6
    simp (disch := omega) only [nI_leQ, show a + k ≤ a + n by omega, if_true, m_covB hI hc (show a + k < 501 by omega), Option.bind_some, zt_0, nI_1]
    rw [cN_succ]
    simp only [zlit, nI_add]
    cases hcv : covB (σ.1 1 0) c (a + k) <;> simp [Nat.add_assoc]
  · unfold b_X12_coveredMany_6
    simp (disch := omega) only [nI_leQ, show ¬ a + (n + 1) ≤ a + n by omega, if_false]
theorem ushr_0 (x : Int64) {j : Nat} (hj : j < 64) : (zlushr x (nI j) = 0) ↔ ∀ i, j ≤ i → i < 64 → lb x i = false := by
  constructor
  · intro e i h1 h2
    have := congrArg (fun z => lb z (i - j)) e
    simp only [lb_0, lb_ushr j hj, Nat.add_sub_cancel' h1] at this
    exact this
  · intro h
    refine lb_ext fun i hi => ?_
    rw [lb_0, lb_ushr j hj]
    by_cases q : j + i < 64
    · exact h _ (by omega) q
    · exact lb_big (by omega)
theorem c_countEach (x : Int64) (σ : zG) : ∃ s, f_X9_countEach x σ = some s ∧ SmC σ s ∧ ∀ c, c < 56 → s.1 42 0 c = σ.1 42 0 c + nI (if lb x c then 1 else 0) := by
  unfold f_X9_countEach
  obtain ⟨s, e, h1, h2⟩ := zlp_run (f := fun q : Int32 × zG => b_X9_countEach_2 x q.1 q.2) 56 (fun j q => q.1 = nI j ∧ SmC σ q.2 ∧ ∀ c, c < 56 → q.2.1 42 0 c = σ.1 42 0 c + nI (if lb x c && decide (c < j) then 1 else 0)) (fun s => SmC σ s ∧ ∀ c, c < 56 → s.1 42 0 c = σ.1 42 0 c + nI (if lb x c then 1 else 0)) (a := ((0 : Int32), σ)) ⟨rfl, SmC.refl σ, fun c hc => by simp [nI_0]⟩ (by
    rintro j hj ⟨_, s⟩ ⟨rfl, h1, h2⟩
    unfold b_X9_countEach_2
    simp (disch := omega) only [zlit, nI_ltQ, hj, if_true, lcmp0]
    by_cases hz : zlushr x (nI j) = 0
    · left
      have hz' := (ushr_0 x (by omega)).mp hz
      simp only [hz, lg_cmp, if_true]
      refine ⟨_, rfl, h1, fun c hc => ?_⟩
      rw [h2 c hc]
      by_cases q : c < j
      · simp [q]
      · have := hz' c (by omega) (by omega)
        simp [this]
    · right
      have hc0 : ¬ lg_cmp (zlushr x (nI j)) 0 = nI 0 := by
        have := lcmp0 (zlushr x (nI j)) 0
        rw [show (nI 0 : Int32) = 0 from rfl, this]
        exact hz
      simp only [hc0, if_false, holds_lb x (show j < 64 by omega), zt_0']
      cases hl : lb x j
      · refine ⟨_, rfl, nI_1 j, h1, fun c hc => ?_⟩
        rw [h2 c hc]
        by_cases q : c = j
        · subst q; simp [hl]
        · have : (c < j + 1) = (c < j) := propext ⟨fun z => by omega, fun z => by omega⟩
          simp [this]
      · simp (disch := omega) only [zin_nI, hj, decide_true, zgT, zb, nI_clamp, Bool.true_eq_false, if_false]
        refine ⟨_, rfl, nI_1 j, h1.trans (smC_w rfl), fun c hc => ?_⟩
        by_cases q : c = j
        · subst q
          show (if 42 = 42 ∧ 0 = 0 ∧ c = c then _ else _) = _
          rw [if_pos ⟨rfl, rfl, rfl⟩, h2 c hc, hl]
          simp [nI_0]
        · show (if 42 = 42 ∧ 0 = 0 ∧ c = j then _ else s.1 42 0 c) = _
          rw [if_neg (fun z => q z.2.2), h2 c hc]
          have : (c < j + 1) = (c < j) := propext ⟨fun z => by omega, fun z => by omega⟩
          simp [this]) (by
    rintro ⟨_, s⟩ ⟨rfl, h1, h2⟩
    unfold b_X9_countEach_2
    simp (disch := omega) only [zlit, nI_ltQ, Nat.lt_irrefl, if_false]
    refine ⟨_, rfl, h1, fun c hc => ?_⟩
    rw [h2 c hc]
    simp [hc])
  exact ⟨s, by rw [e]; rfl, h1, h2⟩
theorem pr_ghosts [Inhabited BFT] : PR_ghosts Rel := fun x y σc σm h => by
  unfold f_X11_ghosts f_X12_ghosts f_X9_ghostSpots
  rcases span_cs x y with ⟨a, n, hn, rfl, rfl, e1, e2⟩ | ⟨e1, e2⟩
  · have sub : nI (a + n) - nI a + 1 = nI (n + 1) := by rw [pk_sub (by omega), Nat.add_sub_cancel_left, nI_1]
    obtain ⟨s, e, h1, h2⟩ := zlp_run (f := fun q : Int32 × zG => b_X9_ghostSpots_10 (nI (a + n)) q.1 q.2) (n + 1) (fun k q => q.1 = nI (a + k) ∧ SmC σc q.2 ∧ ∀ c, c < 56 → q.2.1 42 0 c = nI (cN (σm.1 1 0) c a k)) (fun s => SmC σc s ∧ ∀ c, c < 56 → s.1 42 0 c = nI (cN (σm.1 1 0) c a (n + 1))) (a := (nI a, zflI σc 42 0 56 (0 : Int32))) ⟨rfl, smC_fl rfl, fun c hc => by
        show (if 42 = 42 ∧ 0 = 0 ∧ c < 56 then (0 : Int32) else _) = _
        rw [if_pos ⟨rfl, rfl, hc⟩]
        rfl⟩ (by
      rintro k hk ⟨_, s⟩ ⟨rfl, h1, h2⟩
      right
      have hs : RB s 0 (σm.1 1 0) := by rw [rb_same h1]; exact rB h
      obtain ⟨s', e', h1', h2'⟩ := c_countEach (covX s 0 (σm.1 1 0) (a + k)) s
      unfold b_X9_ghostSpots_10
      simp (disch := omega) only [nI_leQ, show a + k ≤ a + n by omega, if_true, c_coverIn (iv_Top (rI h)) hs.2.1 (show a + k < 501 by omega), Option.bind_some, e']
      refine ⟨_, rfl, by show nI (a + k) + 1 = _; rw [nI_1, Nat.add_assoc], h1.trans h1', fun c hc => ?_⟩
      have h2a : s.1 42 0 c = nI (cN (σm.1 1 0) c a k) := h2 c hc
      show s'.1 42 0 c = _
      rw [h2' c hc, lb_covX (rI h) hs.2.2.2.1 (by omega) (by omega), h2a, nI_add]
      rfl) (by
      rintro ⟨_, s⟩ ⟨rfl, h1, h2⟩
      unfold b_X9_ghostSpots_10
      simp (disch := omega) only [nI_leQ, show ¬ a + (n + 1) ≤ a + n by omega, if_false]
      exact ⟨_, rfl, h1, h2⟩)
    rw [e1, e2, if_neg (by decide), if_neg (by decide)]
    simp only [zb, e, Option.bind_some]
    rw [zlp_for (a := ((0 : Int64), (0 : Int32))) (fun c => (bitsL (fun c => decide (0 < cN (σm.1 1 0) c a (n + 1)) && decide (2 * cN (σm.1 1 0) c a (n + 1) ≤ n + 1)) c, nI c)) 56 (b := bitsL (fun c => decide (0 < cN (σm.1 1 0) c a (n + 1)) && decide (2 * cN (σm.1 1 0) c a (n + 1) ≤ n + 1)) 56) rfl ?_ ?_]
    · refine ⟨_, _, rfl, ?_, rel_same h1 (SmM.refl _) h⟩
      rw [zlp_for (a := ((0 : Int64), (0 : Int32))) (fun c => (bitsL (fun c => sp (σm.1 1 0) c && (decide (0 < cN (σm.1 1 0) c a (n + 1)) && decide (2 * cN (σm.1 1 0) c a (n + 1) ≤ n + 1))) c, nI c)) 64 (b := bitsL (fun c => decide (0 < cN (σm.1 1 0) c a (n + 1)) && decide (2 * cN (σm.1 1 0) c a (n + 1) ≤ n + 1)) 56) rfl ?_ ?_]
      · rfl
      · intro c hc
        have hle := cN_le (g := σm.1 1 0) c a (n + 1)
        unfold b_X12_ghosts_17
        rw [m_isSpot (rI h) hc, m_covMany (rI h) hc hn, sub, bitsL]
        simp (disch := omega) only [Option.bind_some, zlit, zt_0', nI_ltQ, hc, if_true, nI_add, pk_mul, nI_leQ]
        cases sp (σm.1 1 0) c
        · simp
        · by_cases q1 : 0 < cN (σm.1 1 0) c a (n + 1) <;> by_cases q2 : 2 * cN (σm.1 1 0) c a (n + 1) ≤ n + 1 <;> simp [q1, q2]
      · unfold b_X12_ghosts_17
        have e : bitsL (fun c => sp (σm.1 1 0) c && (decide (0 < cN (σm.1 1 0) c a (n + 1)) && decide (2 * cN (σm.1 1 0) c a (n + 1) ≤ n + 1))) 64 = bitsL (fun c => decide (0 < cN (σm.1 1 0) c a (n + 1)) && decide (2 * cN (σm.1 1 0) c a (n + 1) ≤ n + 1)) 56 := bits_eq (by decide) fun i hi => by
          rw [lb_bits _ 56 (by decide) i hi]
          by_cases q1 : 0 < cN (σm.1 1 0) i a (n + 1)
          · have hs : sp (σm.1 1 0) i = true := by
              obtain ⟨k, hk, hk2⟩ := fb_ct_pos.mp q1
              exact cov_sp (rI h) hi (by omega) hk2
            have := sp_56 (rI h) hs
            simp [hi, hs, this]
          · simp [q1]
        rw [e]
        rfl
    · intro c hc
      have hle := cN_le (g := σm.1 1 0) c a (n + 1)
      unfold b_X9_ghostSpots_38
      simp (disch := omega) only [zlit, nI_ltQ, hc, if_true, zin_nI, decide_true, zgT, nI_clamp, h2 c hc]
      rw [show nI (a + n) - nI a + nI 1 = nI (n + 1) from sub, bitsL]
      simp (disch := omega) only [nI_ltQ, pk_mul, nI_leQ, nI_add]
      by_cases q1 : 0 < cN (σm.1 1 0) c a (n + 1) <;> by_cases q2 : 2 * cN (σm.1 1 0) c a (n + 1) ≤ n + 1 <;> simp [q1, q2]
    · unfold b_X9_ghostSpots_38
      simp (disch := omega) only [zlit, nI_ltQ, Nat.lt_irrefl, if_false]
  · rw [e1, e2]
    exact ⟨_, _, rfl, rfl, h⟩
end PURE
