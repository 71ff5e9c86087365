/-! PURE LAYER: worth; questions by the laws -/
section PURE
variable {σ σc σm : zG} {g : zGa}
def edN (g : zGa) (m : Nat) (n : Nat) : Nat := fb_ct (fun c => (vw g c && covB g c m) && (decide (c % 8 = aStep g) || decide (c % 8 = aStep g + aWide g - 1))) n
def wtA (g : zGa) (m : Nat) (s : Nat) : Int32 := if s = 3 then nI m else if s = 5 then nI (cvN g m) else if s = 6 then nI (edN g m 64) else if s = 7 then nI (aStep g) else nI (ppl g m)
noncomputable def wth (g : zGa) (m : Nat) : Int32 := f_X12_greater (-999) (f_X12_lesser 999 (lawv g 1 (wtA g m) (100 - nI (cvN g m))))
theorem m_worth (hI : Inv (σ.1 1 0)) {m : Nat} (hm : m < 501) : ∃ sm, f_X12_worthOf (nI m) σ = some (wth (σ.1 1 0) m, sm) ∧ SmL σ sm := by
  have hT := tp_St (iv_Top hI)
  have hD := iv_Wd hI
  have hW := iv_W hI
  have hL : LawI (σ.1 1 0) 1 := hI.2.2.2.2.2.2.2.2.1.2
  unfold f_X12_worthOf
  rw [zlp_for (a := ((0 : Int32), (0 : Int32), (0 : Int32))) (fun k => (nI (fb_ct (fun c => vw (σ.1 1 0) c && covB (σ.1 1 0) c m) k), nI (edN (σ.1 1 0) m k), nI k)) 64 (b := (nI (cvN (σ.1 1 0) m), nI (edN (σ.1 1 0) m 64))) rfl ?_ ?_]
  · rw [Option.bind_some]
    simp only [zb]
    generalize hs9 : zwI (zwI (zwI σ 10 0 3 (nI m)) 10 0 5 (nI (cvN (σ.1 1 0) m))) 10 0 6 (nI (edN (σ.1 1 0) m 64)) = s9
    have hL9 : SmL σ s9 := by rw [← hs9]; exact ((SmL.w σ _ _ _).trans (SmL.w _ _ _ _)).trans (SmL.w _ _ _ _)
    rw [hL9.1 1 (by decide) (by decide), hT.1]
    generalize hs10 : zwI s9 10 0 7 (nI (aStep (σ.1 1 0))) = s10
    have hL10 : SmL σ s10 := by rw [← hs10]; exact hL9.trans (SmL.w _ _ _ _)
    have g10 : s10.1 1 = σ.1 1 := hL10.1 1 (by decide) (by decide)
    rw [m_people (σ := s10) (by rw [g10]; exact hI) hm, Option.bind_some, g10]
    generalize hs12 : zwI s10 10 0 8 (nI (ppl (σ.1 1 0) m)) = s12
    have hL12 : SmL σ s12 := by rw [← hs12]; exact hL10.trans (SmL.w _ _ _ _)
    have g12 : s12.1 1 = σ.1 1 := hL12.1 1 (by decide) (by decide)
    have hA : ∀ s v, lwOk 1 s v → 1 ≤ s → s ≤ 8 → s12.1 10 0 s = wtA (σ.1 1 0) m s := by
      intro s v hok h1 h8
      have : s = 3 ∨ s = 5 ∨ s = 6 ∨ s = 7 ∨ s = 8 := by unfold lwOk at hok; omega
      rw [← hs12, ← hs10, ← hs9]
      unfold wtA
      rcases this with rfl | rfl | rfl | rfl | rfl <;> simp [zw_at]
    obtain ⟨sm, e, h⟩ := m_lawSays (σ := s12) (k := 1) (A := wtA (σ.1 1 0) m) (d := 100 - nI (cvN (σ.1 1 0) m)) (lo := -999) (hi := 999) (by decide) (by rw [g12]; exact hL) hA
    refine ⟨sm, ?_, hL12.trans (SmL.f h)⟩
    have e' : f_X12_lawSays 1 (100 - nI (cvN (σ.1 1 0) m)) (-999) 999 s12 = _ := e
    rw [e', g12]
    rfl
  · intro k hk
    have e8 : zrem (nI k) 8 = nI (k % 8) := zrem_nI (a := k) (d := 8) (by omega) (by decide) (by decide)
    have e64 : nI k < 64 := nI_lt (b := 64) hk (by decide)
    unfold b_X12_worthOf_7 edN
    rw [m_isInView hI hk, m_covB hI hk hm, e8, hT.1, hD.1, nI_add, pm1' (by omega)]
    simp (disch := omega) only [e64, if_true, Option.bind_some, zt_0, nI_eqI, fb_ct_succ, nI_1]
    cases vw (σ.1 1 0) k
    · simp
    · cases covB (σ.1 1 0) k m
      · simp
      · by_cases h1 : k % 8 = aStep (σ.1 1 0)
        · simp [h1, nI_1]
        · by_cases h2 : k % 8 = aStep (σ.1 1 0) + aWide (σ.1 1 0) - 1
          · simp [h2, nI_1]
          · simp [h1, h2]
  · unfold b_X12_worthOf_7
    simp (disch := omega) only [zlit, nI_ltQ, Nat.lt_irrefl, if_false]
    rfl
theorem c_countOn (hI : Inv g) (hS : RSt σ 0 g) {m : Nat} : f_X7_countOn 0 (colX (aStep g) (aWide g) (aH g)) (nI m) σ = some (nI (fb_ct (fun i => vwP g (g (5 + 3 * i)) && stAt g i (nI m)) (aSN g))) := by
  have hSN := tp_SN (iv_Top hI)
  unfold f_X7_countOn
  rw [zlp_for (a := ((0 : Int32), (0 : Int32))) (fun k => (nI (fb_ct (fun i => vwP g (g (5 + 3 * i)) && stAt g i (nI m)) k), nI k)) (aSN g) (b := nI (fb_ct (fun i => vwP g (g (5 + 3 * i)) && stAt g i (nI m)) (aSN g))) rfl ?_ ?_]
  · rfl
  · intro k hk
    obtain ⟨c, hc, e, -⟩ := tp_Sp (iv_Top hI) hk
    have k8 : k < 8 := by omega
    have l8 : nI k < 8 := nI_lt (b := 8) k8 (by decide)
    unfold b_X7_countOn_6
    rw [hS.1, hSN.1, c_isThere hS hk hSN.2, zin_ok k8 (by decide), zgT, nI_clamp (by omega), (hS.2 k hk).1, e, holds_lb _ (show c < 64 by omega), lb_view hI (show c < 64 by omega)]
    simp (disch := omega) only [nI_ltQ, hk, l8, if_true, Option.bind_some, zt_0, fb_ct_succ, nI_1, e, vwP_nI (show c < 64 by omega)]
    cases vw g c <;> cases stAt g k (nI m) <;> simp
  · unfold b_X7_countOn_6
    rw [hS.1, hSN.1]
    simp (disch := omega) only [nI_ltQ, Nat.lt_irrefl, if_false]
theorem c_people (hI : Inv g) (hR : RB σ 0 g) {m : Nat} (hm : m < 501) : f_X1_peopleOn 0 (colX (aStep g) (aWide g) (aH g)) (nI m) σ = some (nI (ppl g m)) := by
  have hN := iv_WN hI
  have w0 : σ.1 8 (2 * 0) 0 = g 36 := hR.2.2.1.1
  unfold f_X1_peopleOn
  rw [Nat.mul_zero, c_countOn hI hR.2.1, Option.bind_some]
  rw [zlp_for (a := (nI (fb_ct (fun i => vwP g (g (5 + 3 * i)) && stAt g i (nI m)) (aSN g)), (0 : Int32))) (fun k => (nI (fb_ct (fun i => vwP g (g (5 + 3 * i)) && stAt g i (nI m)) (aSN g) + fb_ct (fun k => vwP g (pl g k m)) k), nI k)) (aWN g) (b := nI (ppl g m)) rfl ?_ ?_]
  · rfl
  · intro k hk
    unfold b_X1_peopleOn_14
    rw [w0, hN.1, c_walksOn hI hR.2.2.2.1 hk hm]
    simp (disch := omega) only [nI_ltQ, hk, if_true, Option.bind_some, zt_0, fb_ct_succ, nI_1]
    cases vwP g (pl g k m) <;> simp [Nat.add_assoc]
  · unfold b_X1_peopleOn_14
    rw [w0, hN.1]
    simp (disch := omega) only [nI_ltQ, Nat.lt_irrefl, if_false]
    unfold ppl
    rw [Nat.add_comm]
theorem c_worth (hI : Inv g) (hR : RB σ 0 g) {m : Nat} (hm : m < 501) : ∃ sc, f_X1_worthOf 0 (nI m) σ = some (wth g m, sc) ∧ SmA σ sc := by
  have hT := tp_St (iv_Top hI)
  have hD := iv_Wd hI
  have hW := iv_W hI
  have hH := iv_H hI
  have hL : LawI g 1 := hI.2.2.2.2.2.2.2.2.1.2
  have e5 : σ.1 1 0 5 = g 1 := hR.1.2.2.2.2.2.1
  have e4 : σ.1 1 0 4 = g 32 := hR.1.2.2.2.2.1
  have col1 : ∀ a, f_X1_columns 0 (nI a) 1 σ = some (colX a 1 (aH g)) := fun a => c_columns hI hR.1 a 1
  unfold f_X1_worthOf
  rw [c_viewNow hI hR.1, Option.bind_some, c_coverIn (iv_Top hI) hR.2.1 hm, Option.bind_some, e5, e4, hT.1, hD.1, nI_add, pm1' (by omega), col1, Option.bind_some, col1, Option.bind_some, bitc, bitc]
  have n1 : fb_ct (lb (covX σ 0 g m &&& colX (aStep g) (aWide g) (aH g))) 64 = cvN g m := fb_ct_cong fun c hc => by
    rw [lb_and, lb_covX hI hR.2.2.2.1 hc hm, lb_view hI hc, Bool.and_comm]
  have n2 : fb_ct (lb (covX σ 0 g m &&& colX (aStep g) (aWide g) (aH g) &&& (colX (aStep g) 1 (aH g) ||| colX (aStep g + aWide g - 1) 1 (aH g)))) 64 = edN g m 64 := fb_ct_cong fun c hc => by
    rw [lb_and, lb_and, lb_or, lb_covX hI hR.2.2.2.1 hc hm, lb_view hI hc, lb_colX (by omega) hc _ (by omega), lb_colX (by omega) hc _ (by omega), Bool.and_comm (covB g c m)]
    cases hv : vw g c
    · rfl
    · have hs : c / 8 < aH g := by
        have := vw_sp hv
        unfold sp at this
        simp only [Bool.and_eq_true, decide_eq_true_eq] at this
        exact this.2
      cases covB g c m
      · rfl
      · rw [Bool.eq_iff_iff]
        simp only [Bool.or_eq_true, Bool.and_eq_true, decide_eq_true_eq, hs, true_and]
        omega
  rw [n1, n2]
  simp only [zb, Nat.mul_zero, Nat.zero_add]
  generalize hs7 : zwI (zwI (zwI σ 27 1 3 (nI m)) 27 1 4 (nI (cvN g m))) 27 1 5 (nI (edN g m 64)) = s7
  have hL7 : Smf 27 σ s7 := by rw [← hs7]; exact ((smf_w 27 σ _ _ _).trans (smf_w 27 _ _ _ _)).trans (smf_w 27 _ _ _ _)
  rw [hL7.1 1 (by decide), e5, hT.1]
  generalize hs8 : zwI s7 27 1 6 (nI (aStep g)) = s8
  have hL8 : Smf 27 σ s8 := by rw [← hs8]; exact hL7.trans (smf_w 27 _ _ _ _)
  have hR8 : RB s8 0 g := by rw [rb_same (smC_f hL8 rfl)]; exact hR
  rw [c_people hI hR8 hm, Option.bind_some]
  generalize hs10 : zwI s8 27 1 7 (nI (ppl g m)) = s10
  have hL10 : Smf 27 σ s10 := by rw [← hs10]; exact hL8.trans (smf_w 27 _ _ _ _)
  have hC10 : SmC σ s10 := smC_f hL10 rfl
  have hA : ∀ s v, lwOk 1 s v → 1 ≤ s → s ≤ 8 → s10.1 27 1 (askOf s) = wtA g m s := by
    intro s v hok h1 h8
    have : s = 3 ∨ s = 5 ∨ s = 6 ∨ s = 7 ∨ s = 8 := by unfold lwOk at hok; omega
    rw [← hs10, ← hs8, ← hs7]
    unfold wtA
    rcases this with rfl | rfl | rfl | rfl | rfl <;> simp [zw_at, askOf]
  have hR10 : RB s10 0 g := by rw [rb_same hC10]; exact hR
  obtain ⟨sc, e, h⟩ := c_valueOr (σ := s10) (q := 1) (k := 1) (A := wtA g m) (d := 100 - nI (cvN g m)) hL hR10.2.2.2.2.1.2 hA
  refine ⟨sc, ?_, (SmA.a27 hL10).trans (SmA.a28 h)⟩
  rw [e, Option.bind_some, held_eq]
  rfl
/-- in states that are as they were but for what is only used within a call -/
theorem c_worth' [Inhabited BFT] (h : Rel σc σm) {s : zG} (hs : SmC σc s) {m : Nat} (hm : m < 501) : ∃ sc, f_X1_worthOf 0 (nI m) s = some (wth (σm.1 1 0) m, sc) ∧ SmC σc sc := by
  obtain ⟨sc, e, h2⟩ := c_worth (σ := s) (rI h) (by rw [rb_same hs]; exact rB h) hm
  exact ⟨sc, e, hs.trans h2.c⟩
theorem m_worth' [Inhabited BFT] (h : Rel σc σm) {s : zG} (hs : SmL σm s) {m : Nat} (hm : m < 501) : ∃ sm, f_X12_worthOf (nI m) s = some (wth (σm.1 1 0) m, sm) ∧ SmL σm sm := by
  have g1 : s.1 1 = σm.1 1 := hs.1 1 (by decide) (by decide)
  obtain ⟨sm, e, h2⟩ := m_worth (σ := s) (by rw [g1]; exact rI h) hm
  rw [g1] at e
  exact ⟨sm, e, hs.trans h2⟩
theorem c_shade' [Inhabited BFT] (h : Rel σc σm) {s : zG} (hs : SmC σc s) {c m : Nat} (hc : c < 64) : ∃ sc, f_X1_shadeOf 0 (nI c) (nI m) s = some (shd (σm.1 1 0) c m, sc) ∧ SmA s sc := by
  obtain ⟨sc, e, h2⟩ := c_shade (σ := s) (rI h) (by rw [rb_same hs]; exact rB h) (m := m) hc
  exact ⟨sc, e, h2⟩
theorem m_shade' [Inhabited BFT] (h : Rel σc σm) {s : zG} (hs : SmL σm s) {c m : Nat} (hc : c < 64) : ∃ sm, f_X12_shade (nI c) (nI m) s = some (shd (σm.1 1 0) c m, sm) ∧ SmL σm sm := by
  have g1 : s.1 1 = σm.1 1 := hs.1 1 (by decide) (by decide)
  obtain ⟨sm, e, h2⟩ := m_shade (σ := s) (by rw [g1]; exact rI h) (m := m) hc
  rw [g1] at e
  exact ⟨sm, e, hs.trans h2⟩
theorem c_tone' [Inhabited BFT] (h : Rel σc σm) {s : zG} (hs : SmC σc s) {c m : Nat} (hc : c < 64) (hm : m < 501) : ∃ sc, f_X1_toneOf 0 (nI c) (nI m) s = some (tn (σm.1 1 0) c m, sc) ∧ SmC σc sc := by
  obtain ⟨sc, e, h2⟩ := c_tone (σ := s) (rI h) (by rw [rb_same hs]; exact rB h) hc hm
  exact ⟨sc, e, hs.trans h2.c⟩
theorem m_tone' [Inhabited BFT] (h : Rel σc σm) {s : zG} (hs : SmL σm s) {c m : Nat} (hc : c < 64) (hm : m < 501) : ∃ sm, f_X12_toneOf (nI c) (nI m) s = some (tn (σm.1 1 0) c m, sm) ∧ SmL σm sm := by
  have g1 : s.1 1 = σm.1 1 := hs.1 1 (by decide) (by decide)
  obtain ⟨sm, e, h2⟩ := m_tone (σ := s) (by rw [g1]; exact rI h) hc hm
  rw [g1] at e
  exact ⟨sm, e, hs.trans h2⟩
theorem pr_worth [Inhabited BFT] : PR_worth Rel := fun x σc σm h => by
  unfold f_X11_worth f_X12_worth
  rcases min_cs x with ⟨m, hm, rfl, e3, e4⟩ | ⟨e3, e4⟩
  · obtain ⟨sc, e1, h1⟩ := c_worth' h (SmC.refl σc) hm
    obtain ⟨sm, e2, h2⟩ := m_worth' h (SmL.refl σm) hm
    rw [e3, e4, e1, Option.bind_some, Option.bind_some, if_neg (by decide), if_neg (by decide), e2]
    exact ⟨_, _, _, rfl, rfl, rel_same h1 h2.m h⟩
  · rw [e3, e4]
    exact ⟨_, _, _, rfl, rfl, h⟩
theorem pr_at [Inhabited BFT] : PR_at Rel := fun x y z σc σm h => by
  unfold f_X11_at f_X12_at
  rcases sp_cs h x with ⟨c, hc, rfl, hsp, e1, e2⟩ | ⟨e1, e2⟩
  · rcases min_cs y with ⟨m, hm, rfl, e3, e4⟩ | ⟨e3, e4⟩
    · rw [e1, e2, e3, e4, isIn02, c_coverIn (iv_Top (rI h)) (rB h).2.1 hm, m_covB (rI h) (by omega) hm]
      simp only [Option.bind_some, zt_0, holds_lb _ (show c < 64 by omega), lb_covX (rI h) (rB h).2.2.2.1 (show c < 64 by omega) hm, show ¬ (1 : Int32) = 0 by decide, if_false]
      by_cases h0 : z = 0
      · subst h0
        simp only [if_true, true_or, decide_true, Bool.true_eq_false, if_false]
        cases covB (σm.1 1 0) c m
        · exact ⟨_, _, _, rfl, rfl, h⟩
        · exact ⟨_, _, _, rfl, rfl, h⟩
      by_cases h1 : z = 1
      · subst h1
        obtain ⟨sc, e5, h5⟩ := c_shade' h (SmC.refl σc) (m := m) (show c < 64 by omega)
        obtain ⟨sm, e6, h6⟩ := m_shade' h (SmL.refl σm) (m := m) (show c < 64 by omega)
        rw [e5, e6]
        exact ⟨_, _, _, rfl, rfl, rel_same h5.c h6.m h⟩
      by_cases h2 : z = 2
      · subst h2
        obtain ⟨sc, e5, h5⟩ := c_tone' h (SmC.refl σc) (show c < 64 by omega) hm
        obtain ⟨sm, e6, h6⟩ := m_tone' h (SmL.refl σm) (show c < 64 by omega) hm
        rw [e5, e6]
        exact ⟨_, _, _, rfl, rfl, rel_same h5 h6.m h⟩
      simp only [h0, h1, h2, if_false, or_self, decide_false, if_true]
      exact ⟨_, _, _, rfl, rfl, h⟩
    · rw [e1, e2, e3, e4]
      exact ⟨_, _, _, rfl, rfl, h⟩
  · rw [e1, e2]
    exact ⟨_, _, _, rfl, rfl, h⟩
theorem pr_best [Inhabited BFT] : PR_best Rel := fun x σc σm h => by
  have hm := tp_Min (iv_Top (rI h))
  have s3 : σc.1 1 0 3 = σm.1 1 0 0 := (rB h).1.2.2.2.1
  have keyC : ∀ s, SmC σc s → s.1 1 0 3 = nI (aMin (σm.1 1 0)) := fun s hs => by rw [(hs 1 rfl).1, s3, hm.1]
  have keyM : ∀ s, SmL σm s → s.1 1 0 0 = nI (aMin (σm.1 1 0)) := fun s hs => by rw [hs.1 1 (by decide) (by decide), hm.1]
  have main : ∃ M sc sm, f_X9_bestMinute σc = some (nI M, sc) ∧ M < 501 ∧ SmC σc sc ∧ SmL σm sm ∧ ((f_X12_worthOf (σm.1 1 0 0) σm).bind (fun q1 => (zlp (fun q : Int32 × Int32 × Int32 × zG => b_X12_best_36 q.1 q.2.1 q.2.2.1 q.2.2.2) ((σm.1 1 0 0), q1.1, ((q1.2.1 1 0 0) + (1 : Int32)), q1.2)))) = some (nI M, wth (σm.1 1 0) M, sm) := by
    unfold f_X9_bestMinute
    obtain ⟨sc, e1, h1⟩ := c_worth' h (SmC.refl σc) (m := aMin (σm.1 1 0)) (by omega)
    obtain ⟨sm, e2, h2⟩ := m_worth' h (SmL.refl σm) (m := aMin (σm.1 1 0)) (by omega)
    rw [s3, hm.1, e1, e2, Option.bind_some, Option.bind_some, keyC sc h1, keyM sm h2, nI_1]
    obtain ⟨b, b', f1, f2, M, hM, hb1, hb2, hb3, hb4, hb5⟩ := zlp_two (f := fun q : Int32 × Int32 × Int32 × zG => b_X9_bestMinute_27 q.1 q.2.1 q.2.2.1 q.2.2.2) (f' := fun q : Int32 × Int32 × Int32 × zG => b_X12_best_36 q.1 q.2.1 q.2.2.1 q.2.2.2) (500 - aMin (σm.1 1 0))
      (fun k q q' => (q.2.2.1 = nI (aMin (σm.1 1 0) + 1 + k) ∧ q'.2.2.1 = nI (aMin (σm.1 1 0) + 1 + k)) ∧ ∃ M, M < 501 ∧ q.1 = nI M ∧ q'.1 = nI M ∧ q.2.1 = wth (σm.1 1 0) M ∧ q'.2.1 = wth (σm.1 1 0) M ∧ SmC σc q.2.2.2 ∧ SmL σm q'.2.2.2)
      (fun b b' => ∃ M, M < 501 ∧ b.1 = nI M ∧ b'.1 = nI M ∧ b'.2.1 = wth (σm.1 1 0) M ∧ SmC σc b.2 ∧ SmL σm b'.2.2)
      (a := (nI (aMin (σm.1 1 0)), wth (σm.1 1 0) (aMin (σm.1 1 0)), nI (aMin (σm.1 1 0) + 1), sc)) (a' := (nI (aMin (σm.1 1 0)), wth (σm.1 1 0) (aMin (σm.1 1 0)), nI (aMin (σm.1 1 0) + 1), sm))
      ⟨⟨rfl, rfl⟩, aMin (σm.1 1 0), by omega, rfl, rfl, rfl, rfl, h1, h2⟩ (by
        rintro k hk ⟨_, _, _, s⟩ ⟨_, _, _, s'⟩ ⟨⟨rfl, rfl⟩, M, hM, rfl, rfl, rfl, rfl, hs, hs'⟩
        right
        obtain ⟨t, e1, h1⟩ := c_worth' h hs (m := aMin (σm.1 1 0) + 1 + k) (by omega)
        obtain ⟨t', e2, h2⟩ := m_worth' h hs' (m := aMin (σm.1 1 0) + 1 + k) (by omega)
        have hle : nI (aMin (σm.1 1 0) + 1 + k) ≤ (500 : Int32) := nI_le (b := 500) (by omega) (by decide)
        unfold b_X9_bestMinute_27 b_X12_best_36
        simp only [hle, if_true, e1, e2, Option.bind_some]
        by_cases hb : wth (σm.1 1 0) M < wth (σm.1 1 0) (aMin (σm.1 1 0) + 1 + k)
        · rw [if_pos hb, if_neg (i_nle.mpr hb)]
          exact ⟨_, _, rfl, rfl, ⟨nI_1 _, nI_1 _⟩, _, by omega, rfl, rfl, rfl, rfl, h1, h2⟩
        · rw [if_neg hb, if_pos (i_nlt.mp hb)]
          exact ⟨_, _, rfl, rfl, ⟨nI_1 _, nI_1 _⟩, M, hM, rfl, rfl, rfl, rfl, h1, h2⟩) (by
        rintro ⟨_, _, _, s⟩ ⟨_, _, _, s'⟩ ⟨⟨rfl, rfl⟩, M, hM, rfl, rfl, rfl, rfl, hs, hs'⟩
        have he : ¬ nI (aMin (σm.1 1 0) + 1 + (500 - aMin (σm.1 1 0))) ≤ (500 : Int32) := nI_ge (a := 500) (by omega) (by omega)
        unfold b_X9_bestMinute_27 b_X12_best_36
        simp only [he, if_false]
        exact ⟨_, _, rfl, rfl, M, hM, rfl, rfl, rfl, hs, hs'⟩)
    rw [f1, f2]
    obtain ⟨b1, b2⟩ := b
    obtain ⟨b3, b4, b5⟩ := b'
    cases hb1
    cases hb2
    cases hb3
    exact ⟨M, b2, b5, rfl, hM, hb4, hb5, rfl⟩
  obtain ⟨M, sc, sm, e1, hM, h1, h2, e2⟩ := main
  unfold f_X11_best f_X12_best j_X11_best_13
  rw [isIn01, e1]
  have split : ∀ F : Int32 × Int32 × zG → Option (Int32 × zG), (f_X12_worthOf (σm.1 1 0 0) σm).bind (fun q1 => (zlp (fun q : Int32 × Int32 × Int32 × zG => b_X12_best_36 q.1 q.2.1 q.2.2.1 q.2.2.2) ((σm.1 1 0 0), q1.1, ((q1.2.1 1 0 0) + (1 : Int32)), q1.2)).bind F) = F (nI M, wth (σm.1 1 0) M, sm) := fun F => by
    rw [← Option.bind_assoc, e2, Option.bind_some]
  simp only [zt_0, Option.bind_some]
  by_cases h0 : x = 0
  · subst h0
    rw [split]
    exact ⟨_, _, _, rfl, rfl, rel_same h1 h2.m h⟩
  by_cases h1' : x = 1
  · subst h1'
    obtain ⟨sc', e3, h3⟩ := c_worth' h h1 hM
    rw [split]
    simp only [show ¬ (1 : Int32) = 0 by decide, if_false, if_true, or_true, decide_true, Bool.true_eq_false, e3, Option.bind_some]
    exact ⟨_, _, _, rfl, rfl, rel_same h3 h2.m h⟩
  simp only [h0, h1', if_false, or_self, decide_false, if_true]
  exact ⟨_, _, _, rfl, rfl, h⟩
end PURE
