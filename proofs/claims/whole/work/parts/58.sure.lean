/-! PURE LAYER: sure -/
section PURE
variable {σ σc σm : zG} {g : zGa}
def cq (a : Nat → Int32) (k : Nat) (v : Int32) : Nat := fb_ct (fun j => decide (a j = v)) k
theorem cq_succ (a : Nat → Int32) (k : Nat) (v : Int32) : cq a (k + 1) v = cq a k v + (if a k = v then 1 else 0) := by
  unfold cq
  rw [fb_ct_succ]
  by_cases q : a k = v <;> simp [q]
theorem grt_nI {a b : Nat} (ha : a < 2 ^ 31) (hb : b < 2 ^ 31) : f_X12_greater (nI a) (nI b) = nI (max a b) := by
  unfold f_X12_greater
  by_cases q : b < a
  · rw [if_pos (nI_lt q ha), Nat.max_eq_left (by omega)]
  · rw [if_neg (nI_nlt (by omega) (by omega)), Nat.max_eq_right (by omega)]
theorem m_alike {n : Nat} (hn : n ≤ 10) (h31 : σ.1 0 0 31 = nI n) (hs : Srt (σ.1 12 0) n) : ∃ M, M ≤ 10 ∧ f_X12_alikeMost σ = some (nI M) ∧ (∀ q, q < n → cq (σ.1 12 0) n (σ.1 12 0 q) ≤ M) ∧ (M = 0 ∨ ∃ q, q < n ∧ cq (σ.1 12 0) n (σ.1 12 0 q) = M) := by
  unfold f_X12_alikeMost
  obtain ⟨r, e, M, hM, rfl, h1, h2⟩ := zlp_run (f := fun q : Int32 × Int32 × Int32 => b_X12_alikeMost_6 σ q.1 q.2.1 q.2.2) n
    (fun k q => ∃ M w, q = (nI M, nI w, nI k) ∧ M ≤ k ∧ (0 < k → w = cq (σ.1 12 0) k (σ.1 12 0 (k - 1))) ∧ (∀ q, q < k → cq (σ.1 12 0) k (σ.1 12 0 q) ≤ M) ∧ (M = 0 ∨ ∃ q, q < k ∧ cq (σ.1 12 0) k (σ.1 12 0 q) = M))
    (fun r => ∃ M, M ≤ 10 ∧ r = nI M ∧ (∀ q, q < n → cq (σ.1 12 0) n (σ.1 12 0 q) ≤ M) ∧ (M = 0 ∨ ∃ q, q < n ∧ cq (σ.1 12 0) n (σ.1 12 0 q) = M))
    (a := ((0 : Int32), (0 : Int32), (0 : Int32))) ⟨0, 0, rfl, Nat.le_refl _, fun q => absurd q (Nat.lt_irrefl 0), fun q hq => absurd hq (Nat.not_lt_zero q), Or.inl rfl⟩ (by
      rintro k hk _ ⟨M, w, rfl, hM, hw, h1, h2⟩
      right
      have l1 : nI k < nI n := nI_lt hk (by omega)
      have key : ∀ w', w' = cq (σ.1 12 0) (k + 1) (σ.1 12 0 k) → w' ≤ 10 → ∃ q', some (Sum.inl (f_X12_greater (nI M) (nI w'), nI w', nI (k + 1)) : (Int32 × Int32 × Int32) ⊕ Int32) = some (Sum.inl q') ∧ ∃ M w, q' = (nI M, nI w, nI (k + 1)) ∧ M ≤ k + 1 ∧ (0 < k + 1 → w = cq (σ.1 12 0) (k + 1) (σ.1 12 0 (k + 1 - 1))) ∧ (∀ q, q < k + 1 → cq (σ.1 12 0) (k + 1) (σ.1 12 0 q) ≤ M) ∧ (M = 0 ∨ ∃ q, q < k + 1 ∧ cq (σ.1 12 0) (k + 1) (σ.1 12 0 q) = M) := fun w' hw' hw10 => by
        have b1 : w' ≤ k + 1 := by rw [hw']; exact fb_ct_le _ _
        rw [grt_nI (by omega) (by omega)]
        have up : ∀ q, q < k + 1 → cq (σ.1 12 0) (k + 1) (σ.1 12 0 q) ≤ max M w' := fun q hq => by
          by_cases z : σ.1 12 0 k = σ.1 12 0 q
          · rw [← z, ← hw']; omega
          · have : q ≠ k := fun e => z (by rw [e])
            have := h1 q (by omega)
            rw [cq_succ, if_neg z]
            omega
        refine ⟨_, rfl, max M w', w', rfl, by omega, fun _ => hw', up, ?_⟩
        by_cases z : M ≤ w'
        · exact Or.inr ⟨k, by omega, by rw [← hw']; omega⟩
        · rcases h2 with h2 | ⟨q, hq, h2⟩
          · omega
          · refine Or.inr ⟨q, by omega, ?_⟩
            have := up q (by omega)
            have g1 : cq (σ.1 12 0) k (σ.1 12 0 q) ≤ cq (σ.1 12 0) (k + 1) (σ.1 12 0 q) := fb_ct_mono _ (Nat.le_succ k)
            omega
      unfold b_X12_alikeMost_6 j_X12_alikeMost_41_6
      rw [h31]
      simp only [l1, if_true, nI_1]
      by_cases k0 : k = 0
      · subst k0
        rw [if_neg (show ¬ (0 : Int32) < nI 0 by decide)]
        exact key 1 (by rw [cq_succ, if_pos rfl]; rfl) (by decide)
      · have p0 : (0 : Int32) < nI k := nI_lt (a := 0) (by omega) (by omega)
        simp (disch := omega) only [p0, if_true, pm1', zin_nI, show k < 10 by omega, show k - 1 < 10 by omega, decide_true, zgT, nI_clamp]
        by_cases q : σ.1 12 0 k = σ.1 12 0 (k - 1)
        · rw [if_pos q]
          have w1 := hw (by omega)
          have wle : cq (σ.1 12 0) k (σ.1 12 0 (k - 1)) ≤ k := fb_ct_le _ _
          exact key (w + 1) (by rw [cq_succ, if_pos rfl, q, ← w1]) (by omega)
        · rw [if_neg q]
          refine key 1 ?_ (by decide)
          rw [cq_succ, if_pos rfl]
          have z : cq (σ.1 12 0) k (σ.1 12 0 k) = 0 := fb_ct_zero.mpr fun j hj => decide_eq_false fun e => by
            have a1 := hs j (k - 1) (by omega) (by omega)
            have a2 := hs (k - 1) k (by omega) hk
            rw [e] at a1
            exact q (i_anti a1 a2)
          rw [z]) (by
      rintro _ ⟨M, w, rfl, hM, hw, h1, h2⟩
      unfold b_X12_alikeMost_6
      rw [h31, if_neg (nI_nlt (Nat.le_refl _) (by omega))]
      exact ⟨_, rfl, M, by omega, rfl, h1, h2⟩)
  rw [e]
  exact ⟨M, hM, rfl, h1, h2⟩
theorem pr_sure [Inhabited BFT] : PR_sure Rel := fun x y σc σm h => by
  have hN := tp_Sh (iv_Top (rI h))
  unfold f_X11_sure f_X12_sure f_X0_surelyKnown
  rcases set_cs h x with ⟨S, hS, rfl, e1, e2⟩ | ⟨e1, e2⟩
  · by_cases hy : (1 : Int32) ≤ y ∧ y ≤ 10
    · have hin : f_X12_isIn y 1 10 = 1 := by rw [isIn_zt, decide_eq_true hy]; rfl
      obtain ⟨v, hv, rfl⟩ := nI_of2 (M := 10) (n := 10) rfl (i_nlt.mpr (by
        have h1 := hy.1
        rw [fa_le] at h1 ⊢
        have e1 : (1 : Int32).toInt = 1 := rfl
        have e0 : (0 : Int32).toInt = 0 := rfl
        omega)) hy.2
      have v1 : 1 ≤ v := by
        have h1 := hy.1
        rw [fa_le, nI_toInt (by omega)] at h1
        have e1 : (1 : Int32).toInt = 1 := rfl
        omega
      obtain ⟨P, hP⟩ : ∃ P : Nat → Bool, P = fun c => anys (fun i => sel (σm.1 1 0) (nI S) c i && decide (v ≤ fb_ct (fun i' => sel (σm.1 1 0) (nI S) c i' && decide (tt (σm.1 1 0) i' c = tt (σm.1 1 0) i c)) (aShN (σm.1 1 0)))) (aShN (σm.1 1 0)) := ⟨_, rfl⟩
      -- the class
      have cC : zlp (fun q : Int64 × Int32 => b_X0_surelyKnown_5 σc (nI S) (nI v) q.1 q.2) ((0 : Int64), (0 : Int32)) = some (bitsL P 56) := by
        obtain ⟨X, e, hX⟩ := zlp_run (f := fun q : Int64 × Int32 => b_X0_surelyKnown_5 σc (nI S) (nI v) q.1 q.2) 56 (fun c q => q.2 = nI c ∧ ∀ d, d < 64 → lb q.1 d = (decide (d < c) && P d)) (fun X => ∀ d, d < 64 → lb X d = (decide (d < 56) && P d)) (a := ((0 : Int64), (0 : Int32))) ⟨rfl, fun d _ => by show lb 0 d = _; rw [lb_0]; rfl⟩ (by
          rintro c hc ⟨Y, _⟩ ⟨rfl, hY⟩
          right
          have l56 : nI c < 56 := nI_lt (b := 56) hc (by decide)
          have hY' : ∀ d, d < 64 → lb Y d = (decide (d < c) && P d) := hY
          obtain ⟨Z, e3, hZ⟩ := zlp_run (f := fun q : Int64 × Int32 => b_X0_surelyKnown_15 σc (nI S) (nI c) (nI v) q.1 q.2) (aShN (σm.1 1 0)) (fun k q => q.2 = nI k ∧ ∀ d, d < 64 → lb q.1 d = if d = c then anys (fun i => sel (σm.1 1 0) (nI S) c i && decide (v ≤ fb_ct (fun i' => sel (σm.1 1 0) (nI S) c i' && decide (tt (σm.1 1 0) i' c = tt (σm.1 1 0) i c)) (aShN (σm.1 1 0)))) k else lb Y d) (fun Z => ∀ d, d < 64 → lb Z d = if d = c then P c else lb Y d) (a := (Y, (0 : Int32))) ⟨rfl, fun d hd => by
              show lb Y d = _
              by_cases q : d = c
              · rw [if_pos q, q, hY' c (by omega), decide_eq_false (Nat.lt_irrefl c)]; rfl
              · rw [if_neg q]⟩ (by
            rintro k hk ⟨Z, _⟩ ⟨rfl, hZ⟩
            right
            have k10 : k < 10 := by omega
            have l1 : nI k < nI (aShN (σm.1 1 0)) := nI_lt hk (by omega)
            have l2 : nI k < 10 := nI_lt (b := 10) k10 (by decide)
            have hZ' : ∀ d, d < 64 → lb Z d = if d = c then anys (fun i => sel (σm.1 1 0) (nI S) c i && decide (v ≤ fb_ct (fun i' => sel (σm.1 1 0) (nI S) c i' && decide (tt (σm.1 1 0) i' c = tt (σm.1 1 0) i c)) (aShN (σm.1 1 0)))) k else lb Y d := hZ
            have stay : (sel (σm.1 1 0) (nI S) c k && decide (v ≤ fb_ct (fun i' => sel (σm.1 1 0) (nI S) c i' && decide (tt (σm.1 1 0) i' c = tt (σm.1 1 0) k c)) (aShN (σm.1 1 0)))) = false → ∀ d, d < 64 → lb Z d = if d = c then anys (fun i => sel (σm.1 1 0) (nI S) c i && decide (v ≤ fb_ct (fun i' => sel (σm.1 1 0) (nI S) c i' && decide (tt (σm.1 1 0) i' c = tt (σm.1 1 0) i c)) (aShN (σm.1 1 0)))) (k + 1) else lb Y d := fun q d hd => by
              rw [hZ' d hd, anys_succ, q, Bool.or_false]
            unfold b_X0_surelyKnown_15
            rw [rN (rB h), hN.1, c_shows (rB h) (nI S) hk k10 (show c < 64 by omega), zin_ok k10 (by decide), zin_ok hc (by decide), nI_clamp (show k < 2 ^ 31 by omega), nI_clamp (show c < 2 ^ 31 by omega)]
            simp only [l1, l2, if_true, Option.bind_some, zt_0, zgT, nI_1]
            by_cases hs : (bt (nI S) k && sV (σm.1 1 0) k c) = true
            · have hvv : sV (σm.1 1 0) k c = true := (Bool.and_eq_true_iff.mp hs).2
              have et : σc.1 29 k c = tt (σm.1 1 0) k c := (c_who_tone (rB h) hk hc hvv).2
              have hsel : sel (σm.1 1 0) (nI S) c k = true := hs
              have ct : f_X0_countTones (nI S) (nI c) (tt (σm.1 1 0) k c) (tt (σm.1 1 0) k c) σc = some (nI (fb_ct (fun i' => sel (σm.1 1 0) (nI S) c i' && decide (tt (σm.1 1 0) i' c = tt (σm.1 1 0) k c)) (aShN (σm.1 1 0)))) := by
                rw [c_countTones (rI h) (rB h) _ _ _ hc]
                congr 2
                refine fb_ct_cong fun i hi => ?_
                congr 1
                rw [Bool.eq_iff_iff, Bool.and_eq_true, decide_eq_true_eq, decide_eq_true_eq, decide_eq_true_eq]
                exact ⟨fun z => i_anti z.2 z.1, fun z => by rw [z]; rw [fa_le]; omega⟩
              have b1 : fb_ct (fun i' => sel (σm.1 1 0) (nI S) c i' && decide (tt (σm.1 1 0) i' c = tt (σm.1 1 0) k c)) (aShN (σm.1 1 0)) ≤ 10 := Nat.le_trans (fb_ct_le _ _) hN.2
              rw [if_neg (by rw [hs]; decide), et, ct, Option.bind_some]
              by_cases q : v ≤ fb_ct (fun i' => sel (σm.1 1 0) (nI S) c i' && decide (tt (σm.1 1 0) i' c = tt (σm.1 1 0) k c)) (aShN (σm.1 1 0))
              · rw [if_pos (nI_le q (by omega))]
                refine ⟨_, rfl, rfl, fun d hd => ?_⟩
                show lb (Z ||| zlshl 1 (nI c)) d = _
                rw [lb_or, lb_bit c (by omega) d hd, hZ' d hd]
                by_cases z : d = c
                · rw [if_pos z, if_pos z, decide_eq_true z, anys_succ, hsel, decide_eq_true q, Bool.or_true]; simp
                · rw [if_neg z, if_neg z, decide_eq_false z, Bool.or_false]
              · rw [if_neg (by rw [nI_leQ (by omega) (by omega)]; exact q)]
                exact ⟨_, rfl, rfl, stay (by rw [decide_eq_false q, Bool.and_false])⟩
            · have hsel : sel (σm.1 1 0) (nI S) c k = false := Bool.eq_false_iff.mpr hs
              rw [if_pos (Bool.eq_false_iff.mpr hs)]
              exact ⟨_, rfl, rfl, stay (by rw [hsel, Bool.false_and])⟩) (by
            rintro ⟨Z, _⟩ ⟨rfl, hZ⟩
            unfold b_X0_surelyKnown_15
            rw [rN (rB h), hN.1, if_neg (nI_nlt (Nat.le_refl _) (by omega))]
            refine ⟨_, rfl, fun d hd => ?_⟩
            have := hZ d hd
            rw [hP]
            exact this)
          unfold b_X0_surelyKnown_5
          rw [if_pos l56, e3, Option.bind_some]
          refine ⟨_, rfl, nI_1 c, fun d hd => ?_⟩
          show lb Z d = _
          rw [hZ d hd, hY' d hd]
          by_cases q : d = c
          · subst q
            rw [if_pos rfl, decide_eq_true (Nat.lt_succ_self d), Bool.true_and]
          · have : (d < c + 1) = (d < c) := propext ⟨fun z => by omega, fun z => by omega⟩
            rw [if_neg q]
            simp only [this]) (by
          rintro ⟨Y, _⟩ ⟨rfl, hY⟩
          unfold b_X0_surelyKnown_5
          rw [if_neg (show ¬ (nI 56 : Int32) < 56 by decide)]
          exact ⟨_, rfl, hY⟩)
        rw [e]
        congr 1
        exact lb_ext fun d hd => by rw [hX d hd, lb_bits P 56 (by decide) d hd]
      -- the model
      obtain ⟨⟨X, sm⟩, e, hX, hM⟩ := zlp_run (f := fun q : Int64 × Int32 × zG => b_X12_sure_27 (nI S) (nI v) q.1 q.2.1 q.2.2) 64 (fun c q => (q.1 = bitsL P c ∧ q.2.1 = nI c) ∧ SmO σm q.2.2) (fun r => r.1 = bitsL P 64 ∧ SmO σm r.2) (a := ((0 : Int64), (0 : Int32), σm)) ⟨⟨rfl, rfl⟩, SmO.refl _⟩ (by
        rintro c hc ⟨_, _, s⟩ ⟨⟨rfl, rfl⟩, hS'⟩
        right
        have hSs : SmO σm s := hS'
        have g1 : s.1 1 = σm.1 1 := hSs.1 1 rfl
        have l64 : nI c < 64 := nI_lt (b := 64) hc (by decide)
        unfold b_X12_sure_27
        rw [if_pos l64, m_isSpot (by rw [g1]; exact rI h) hc, Option.bind_some, g1]
        simp only [zt_0, nI_1]
        by_cases hsp : sp (σm.1 1 0) c = true
        · rw [if_neg (by rw [hsp]; decide)]
          obtain ⟨t, n, e5, h5, hn, h31, hrow⟩ := m_lays (σ := s) (by rw [g1]; exact rI h) (nI S) hc
          rw [g1] at hn hrow
          obtain ⟨M, hM10, e6, m1, m2⟩ := m_alike (σ := t) (by omega) h31 hrow.1
          rw [e5, Option.bind_some, e6, Option.bind_some]
          have iff : v ≤ M ↔ P c = true := by
            have cnt : ∀ u, cq (t.1 12 0) n u = fb_ct (fun i' => sel (σm.1 1 0) (nI S) c i' && decide (tt (σm.1 1 0) i' c = u)) (aShN (σm.1 1 0)) := fun u => hrow.2 (fun y => decide (y = u))
            rw [hP]
            show _ ↔ anys (fun i => sel (σm.1 1 0) (nI S) c i && decide (v ≤ fb_ct (fun i' => sel (σm.1 1 0) (nI S) c i' && decide (tt (σm.1 1 0) i' c = tt (σm.1 1 0) i c)) (aShN (σm.1 1 0)))) (aShN (σm.1 1 0)) = true
            rw [anys_iff]
            constructor
            · intro hvM
              rcases m2 with m2 | ⟨q, hq, m2⟩
              · omega
              · obtain ⟨i, hi, hs, et⟩ := row_src hrow hq
                refine ⟨i, hi, ?_⟩
                rw [hs, Bool.true_and, decide_eq_true_eq, et, ← cnt, m2]
                exact hvM
            · rintro ⟨i, hi, hs⟩
              rw [Bool.and_eq_true, decide_eq_true_eq] at hs
              obtain ⟨q, hq, et⟩ := row_dst hrow hi hs.1
              have := m1 q hq
              rw [cnt, et] at this
              omega
          by_cases q : v ≤ M
          · rw [if_pos (nI_le q (by omega))]
            refine ⟨_, rfl, ⟨?_, rfl⟩, hSs.trans h5⟩
            show bitsL P c ||| zlshl 1 (nI c) = bitsL P (c + 1)
            rw [bitsL, if_pos (iff.mp q)]
          · rw [if_neg (by rw [nI_leQ (by omega) (by omega)]; exact q)]
            refine ⟨_, rfl, ⟨?_, rfl⟩, hSs.trans h5⟩
            show bitsL P c = bitsL P (c + 1)
            rw [bitsL, if_neg (fun z => q (iff.mpr z))]
        · rw [if_pos (Bool.eq_false_iff.mpr hsp)]
          refine ⟨_, rfl, ⟨?_, rfl⟩, hSs⟩
          show bitsL P c = bitsL P (c + 1)
          rw [bitsL, if_neg]
          intro z
          rw [hP] at z
          obtain ⟨i, hi, hs⟩ := anys_iff.mp z
          rw [Bool.and_eq_true] at hs
          unfold sel at hs
          exact hsp (sV_sp (rI h) hi hc (Bool.and_eq_true_iff.mp hs.1).2).2) (by
        rintro ⟨_, _, s⟩ ⟨⟨rfl, rfl⟩, hS'⟩
        unfold b_X12_sure_27
        rw [if_neg (show ¬ (nI 64 : Int32) < 64 by decide)]
        exact ⟨_, rfl, rfl, hS'⟩)
      have hX' : X = bitsL P 64 := hX
      have e64 : bitsL P 64 = bitsL P 56 := bits_eq (by decide) fun i hi => by
        rw [lb_bits P 56 (by decide) i hi, decide_eq_true hi, Bool.true_and]
        by_cases q : i < 56
        · rw [decide_eq_true q, Bool.true_and]
        · rw [decide_eq_false q, Bool.false_and]
          refine (Bool.eq_false_iff.mpr fun z => ?_).symm
          rw [hP] at z
          obtain ⟨j, hj, hs⟩ := anys_iff.mp z
          rw [Bool.and_eq_true] at hs
          unfold sel at hs
          exact q (sV_sp (rI h) hj hi (Bool.and_eq_true_iff.mp hs.1).2).1
      rw [e1, e2, hin, cC, e, hX', e64]
      simp only [Option.bind_some, show ¬ (1 : Int32) = 0 by decide, if_false, hy.1, i_nlt.mpr hy.2, if_true]
      exact ⟨_, _, rfl, rfl, rel_same (SmC.refl _) (SmO.m hM) h⟩
    · have hin : f_X12_isIn y 1 10 = 0 := by rw [isIn_zt, decide_eq_false hy]; rfl
      rw [e1, e2, hin]
      simp only [Option.bind_some, show ¬ (1 : Int32) = 0 by decide, if_false, if_true]
      by_cases a : (1 : Int32) ≤ y
      · have b : (10 : Int32) < y := i_nle.mp fun q => hy ⟨a, q⟩
        simp only [a, b, if_true]
        exact ⟨_, _, rfl, rfl, h⟩
      · simp only [a, if_false]
        exact ⟨_, _, rfl, rfl, h⟩
  · rw [e1, e2]
    exact ⟨_, _, rfl, rfl, h⟩
end PURE
