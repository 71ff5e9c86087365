/-! PURE LAYER: minutes -/
section PURE
variable {σ σ' σc σm σc' σm' : zG} {g g' : zGa}
theorem rN7 [Inhabited BFT] (h : Rel σc σm) : σc.1 7 0 0 = σm.1 1 0 3 := (rB h).2.1.1
/-- the second half of a minute -/
theorem pass_two [Inhabited BFT] (h : Rel σc σm) (hm : aMin (σm.1 1 0) < 500) (b : Bool) : ∃ sc sm, j_X1_passMinute_104 0 (zt b) σc = some (zt b, sc) ∧ f_X12_leaveAll (zwI σm 1 0 0 (σm.1 1 0 0 + 1)) = some sm ∧ Rel sc sm ∧ aMin (sm.1 1 0) = aMin (σm.1 1 0) + 1 := by
  have hM := tp_Min (iv_Top (rI h))
  have s3 : σc.1 1 0 3 = σm.1 1 0 0 := (rB h).1.2.2.2.1
  unfold j_X1_passMinute_104
  simp only [zb, Nat.mul_zero]
  rw [s3, hM.1, nI_1]
  have hR := num_top h (q := 3) (j := 0) (x := nI (aMin (σm.1 1 0) + 1)) (Or.inr ⟨rfl, rfl, _, by omega, rfl⟩)
  obtain ⟨sc, sm, e1, e2, h3, h4⟩ := leave_two hR
  have em : (zwI σm 1 0 0 (nI (aMin (σm.1 1 0) + 1))).1 1 0 0 = nI (aMin (σm.1 1 0) + 1) := by rw [zw_at, if_pos ⟨rfl, rfl, rfl⟩]
  have ec : (zwI σc 1 0 3 (nI (aMin (σm.1 1 0) + 1))).1 1 0 3 = nI (aMin (σm.1 1 0) + 1) := by rw [zw_at, if_pos ⟨rfl, rfl, rfl⟩]
  rw [em] at e1
  rw [ec, e1, Option.bind_some, zbl_zt, zgT]
  refine ⟨sc, sm, rfl, e2, h3, ?_⟩
  unfold aMin
  rw [h4 0 (by decide), em, nI_clamp (by omega)]
  rfl
theorem sp_of {x W H : Nat} (hW : 2 ≤ W ∧ W ≤ 8) (hH : 2 ≤ H ∧ H ≤ 7) (hx : x < W * H) (eW : aW g = W) (eH : aH g = H) : sp g (x / W * 8 + x % W) = true := by
  have h1 : x % W < W := Nat.mod_lt _ (by omega)
  have h2 : x / W < H := Nat.div_lt_of_lt_mul hx
  unfold sp
  rw [eW, eH, show (x / W * 8 + x % W) % 8 = x % W by omega, show (x / W * 8 + x % W) / 8 = x / W by omega, decide_eq_true h1, decide_eq_true h2]
  rfl
/-- one minute -/
theorem min_two [Inhabited BFT] (h : Rel σc σm) (hm : aMin (σm.1 1 0) < 500) : ∃ b sc s sm, f_X1_passMinute 0 σc = some (zt b, sc) ∧ f_X12_comesOne σm = some (zt b, s) ∧ f_X12_leaveAll (zwI s 1 0 0 (s.1 1 0 0 + 1)) = some sm ∧ Rel sc sm ∧ aMin (sm.1 1 0) = aMin (σm.1 1 0) + 1 := by
  have hI := rI h
  have hSN := tp_SN (iv_Top hI)
  have hCo : σm.1 1 0 33 = nI (aCom (σm.1 1 0)) ∧ aCom (σm.1 1 0) ≤ 1000 := hI.2.2.2.1
  have s6 : σc.1 1 0 6 = σm.1 1 0 33 := (rB h).1.2.2.2.2.2.2.1
  have c7 := rN7 h
  have none : ∃ sc sm, j_X1_passMinute_104 0 (zt false) σc = some (zt false, sc) ∧ f_X12_leaveAll (zwI σm 1 0 0 (σm.1 1 0 0 + 1)) = some sm ∧ Rel sc sm ∧ aMin (sm.1 1 0) = aMin (σm.1 1 0) + 1 := pass_two h hm false
  unfold f_X1_passMinute f_X12_comesOne j_X1_passMinute_37 j_X1_passMinute_38
  rw [s6, Nat.mul_zero, c7, hCo.1, hSN.1]
  by_cases q0 : aCom (σm.1 1 0) = 0
  · have l0 : ¬ (0 : Int32) < nI (aCom (σm.1 1 0)) := by rw [q0]; decide
    have l1 : nI (aCom (σm.1 1 0)) = 0 := by rw [q0]; rfl
    rw [if_neg l0, if_pos rfl, if_pos l1]
    obtain ⟨sc, sm, e1, e2, e3, e4⟩ := none
    exact ⟨false, sc, σm, sm, e1, rfl, e2, e3, e4⟩
  · have l0 : (0 : Int32) < nI (aCom (σm.1 1 0)) := nI_lt (a := 0) (by omega) (by omega)
    have l1 : ¬ nI (aCom (σm.1 1 0)) = 0 := nI_ne0 (by omega) (by omega)
    rw [if_pos l0, if_neg l1]
    by_cases q8 : aSN (σm.1 1 0) = 8
    · have l8 : ¬ nI (aSN (σm.1 1 0)) < 8 := by rw [q8]; decide
      have l9 : nI (aSN (σm.1 1 0)) = 8 := by rw [q8]; rfl
      rw [if_neg l8, if_pos rfl, if_pos l9]
      obtain ⟨sc, sm, e1, e2, e3, e4⟩ := none
      exact ⟨false, sc, σm, sm, e1, rfl, e2, e3, e4⟩
    · have l8 : nI (aSN (σm.1 1 0)) < 8 := nI_lt (b := 8) (by omega) (by decide)
      have l9 : ¬ nI (aSN (σm.1 1 0)) = 8 := fun e => q8 ((nI_eq (b := 8) (by omega) (by decide)).mp e)
      rw [if_pos l8, if_neg l9]
      obtain ⟨x, sc, sm, d1, d2, hx, hR, hk⟩ := draw_two h (M := 1000) (by decide) (by decide)
      have d1' : f_X1_draw 0 1000 σc = some (nI x, sc) := d1
      have d2' : f_X12_draw 1000 σm = some (nI x, sm) := d2
      have c33 : sm.1 1 0 33 = nI (aCom (σm.1 1 0)) := by rw [hk 33 (by decide)]; exact hCo.1
      have c6 : sc.1 1 0 6 = nI (aCom (σm.1 1 0)) := by rw [(rB hR).1.2.2.2.2.2.2.1]; exact c33
      have eM : aMin (sm.1 1 0) = aMin (σm.1 1 0) := by unfold aMin; rw [hk 0 (by decide)]
      rw [d1', d2', Option.bind_some, Option.bind_some]
      simp only [c33, c6]
      by_cases q : x < aCom (σm.1 1 0)
      · have a1 : nI x < nI (aCom (σm.1 1 0)) := nI_lt q (by omega)
        rw [if_pos a1, if_neg (i_nle.mpr a1)]
        -- one comes
        have hI2 := rI hR
        have hW := iv_W hI2
        have hH := iv_H hI2
        have c0 : sc.1 1 0 0 = nI (aW (sm.1 1 0)) := by rw [(rB hR).1.1]; exact hW.1
        have c1 : sc.1 1 0 1 = nI (aH (sm.1 1 0)) := by rw [(rB hR).1.2.1]; exact hH.1
        have pW : 0 < aW (sm.1 1 0) * aH (sm.1 1 0) := Nat.mul_pos (by omega) (by omega)
        have pW2 : aW (sm.1 1 0) * aH (sm.1 1 0) ≤ 8 * 7 := Nat.mul_le_mul hW.2.2 hH.2.2
        obtain ⟨y, sc2, sm2, g1, g2, hy, hR2, hk2⟩ := draw_two hR (M := aW (sm.1 1 0) * aH (sm.1 1 0)) pW (by omega)
        have l00 : (0 : Int32) < nI (aW (sm.1 1 0)) := nI_lt (a := 0) (by omega) (by omega)
        rw [c0, c1, hW.1, hH.1, pk_mul, g1, g2]
        simp only [show ¬ (1 : Int32) = 0 by decide, if_false, l00, if_true, Option.bind_some]
        have hI3 := rI hR2
        have hW3 := iv_W hI3
        have w30 : sm2.1 1 0 30 = nI (aW (sm.1 1 0)) := by rw [hk2 30 (by decide)]; exact hW.1
        have w0 : sc2.1 1 0 0 = nI (aW (sm.1 1 0)) := by rw [(rB hR2).1.1]; exact w30
        have pn : (nI (aW (sm.1 1 0)) != 0) = true := by
          have := nI_ne0 (n := aW (sm.1 1 0)) (by omega) (by omega)
          simpa using this
        have eW : aW (sm2.1 1 0) = aW (sm.1 1 0) := by unfold aW; rw [hk2 30 (by decide)]
        have eH : aH (sm2.1 1 0) = aH (sm.1 1 0) := by unfold aH; rw [hk2 31 (by decide)]
        have eN : aSN (sm2.1 1 0) = aSN (σm.1 1 0) := by unfold aSN; rw [hk2 3 (by decide), hk 3 (by decide)]
        have eM2 : aMin (sm2.1 1 0) = aMin (σm.1 1 0) := by unfold aMin; rw [hk2 0 (by decide), hk 0 (by decide)]
        have hM2 := tp_Min (iv_Top hI3)
        have hSN2 := tp_SN (iv_Top hI3)
        have y56 : y < 56 := by omega
        have dW : nI y / nI (aW (sm.1 1 0)) = nI (y / aW (sm.1 1 0)) := pk_div (by omega) (by omega) (by omega)
        have rW : zrem (nI y) (nI (aW (sm.1 1 0))) = nI (y % aW (sm.1 1 0)) := zrem_nI (by omega) (by omega) (by omega)
        have spot1 : nI y / nI (aW (sm.1 1 0)) * 8 + zrem (nI y) (nI (aW (sm.1 1 0))) = nI (y / aW (sm.1 1 0) * 8 + y % aW (sm.1 1 0)) := by
          rw [dW, rW, show (8 : Int32) = nI 8 from rfl, pk_mul, nI_add]
        have spot2 : (8 : Int32) * (nI y / nI (aW (sm.1 1 0))) + zrem (nI y) (nI (aW (sm.1 1 0))) = nI (y / aW (sm.1 1 0) * 8 + y % aW (sm.1 1 0)) := by
          rw [dW, rW, show (8 : Int32) = nI 8 from rfl, pk_mul, nI_add, Nat.mul_comm 8]
        have spok : sp (sm2.1 1 0) (y / aW (sm.1 1 0) * 8 + y % aW (sm.1 1 0)) = true := sp_of hW.2 hH.2 hy eW eH
        have hSy : sm2.1 1 0 34 = nI (aStay (sm2.1 1 0)) ∧ 1 ≤ aStay (sm2.1 1 0) ∧ aStay (sm2.1 1 0) ≤ 60 := hI3.2.2.2.2.1
        have k3 : sc2.1 1 0 3 = nI (aMin (sm2.1 1 0)) := by rw [(rB hR2).1.2.2.2.1]; exact hM2.1
        have k7 : sc2.1 1 0 7 = nI (aStay (sm2.1 1 0)) := by rw [(rB hR2).1.2.2.2.2.2.2.2.1]; exact hSy.1
        obtain ⟨sc3, a3, hR3⟩ := add_rel hR2 (by omega) spok (nI (aMin (sm2.1 1 0)) + nI (aStay (sm2.1 1 0)) - 1) (nI (aMin (sm2.1 1 0)))
        generalize hs6 : zwI (zwI (zwI (zwI sm2 1 0 (5 + 3 * aSN (sm2.1 1 0)) (nI (y / aW (sm.1 1 0) * 8 + y % aW (sm.1 1 0)))) 1 0 (5 + 3 * aSN (sm2.1 1 0) + 1) (nI (aMin (sm2.1 1 0)) + nI (aStay (sm2.1 1 0)) - 1)) 1 0 (5 + 3 * aSN (sm2.1 1 0) + 2) (nI (aMin (sm2.1 1 0)))) 1 0 3 (nI (aSN (sm2.1 1 0) + 1)) = s6 at hR3
        have eM6 : aMin (s6.1 1 0) = aMin (σm.1 1 0) := by
          rw [← eM2]
          unfold aMin
          rw [← hs6, zw_row, zw_row, zw_row, zw_row, pk_un (by decide), pk_un (by omega), pk_un (by omega), pk_un (by omega)]
        obtain ⟨sc4, sm4, p1, p2, p3, p4⟩ := pass_two hR3 (by rw [eM6]; exact hm) true
        have p1' : j_X1_passMinute_104 0 1 sc3 = some (1, sc4) := p1
        refine ⟨true, sc4, s6, sm4, ?_, ?_, p2, p3, by rw [p4, eM6]⟩
        · rw [w0, pn, zgT, zgT]
          simp only [zb]
          rw [spot1, k3, k7, a3, Option.bind_some, p1']
          rfl
        · have n3 : sm2.1 1 0 3 = nI (aSN (sm2.1 1 0)) := hSN2.1
          have i0 : (5 : Int32) + 3 * nI (aSN (sm2.1 1 0)) + 0 = nI (5 + 3 * aSN (sm2.1 1 0)) := by simp only [zlit, nI_add, pk_mul]; rfl
          have i1 : (5 : Int32) + 3 * nI (aSN (sm2.1 1 0)) + 1 = nI (5 + 3 * aSN (sm2.1 1 0) + 1) := by simp only [zlit, nI_add, pk_mul]
          have i2 : (5 : Int32) + 3 * nI (aSN (sm2.1 1 0)) + 2 = nI (5 + 3 * aSN (sm2.1 1 0) + 2) := by simp only [zlit, nI_add, pk_mul]
          rw [w30, pn, zgT, zgT, n3, i0, i1, i2, spot2, zin_ok (show 5 + 3 * aSN (sm2.1 1 0) < 9248 by omega) (by decide), zin_ok (show 5 + 3 * aSN (sm2.1 1 0) + 1 < 9248 by omega) (by decide), zin_ok (show 5 + 3 * aSN (sm2.1 1 0) + 2 < 9248 by omega) (by decide), nI_clamp (show 5 + 3 * aSN (sm2.1 1 0) < 2 ^ 31 by omega), nI_clamp (show 5 + 3 * aSN (sm2.1 1 0) + 1 < 2 ^ 31 by omega), nI_clamp (show 5 + 3 * aSN (sm2.1 1 0) + 2 < 2 ^ 31 by omega)]
          simp only [zgT, zb]
          generalize ht3 : zwI sm2 1 0 (5 + 3 * aSN (sm2.1 1 0)) (nI (y / aW (sm.1 1 0) * 8 + y % aW (sm.1 1 0))) = t3
          have u0 : t3.1 1 0 0 = nI (aMin (sm2.1 1 0)) := by rw [← ht3, zw_row, pk_un (by omega)]; exact hM2.1
          have u34 : t3.1 1 0 34 = nI (aStay (sm2.1 1 0)) := by rw [← ht3, zw_row, pk_un (by omega)]; exact hSy.1
          rw [u0, u34]
          generalize ht4 : zwI t3 1 0 (5 + 3 * aSN (sm2.1 1 0) + 1) (nI (aMin (sm2.1 1 0)) + nI (aStay (sm2.1 1 0)) - 1) = t4
          have u0' : t4.1 1 0 0 = nI (aMin (sm2.1 1 0)) := by rw [← ht4, zw_row, pk_un (by omega)]; exact u0
          rw [u0']
          generalize ht5 : zwI t4 1 0 (5 + 3 * aSN (sm2.1 1 0) + 2) (nI (aMin (sm2.1 1 0))) = t5
          have u3 : t5.1 1 0 3 = nI (aSN (sm2.1 1 0)) := by rw [← ht5, zw_row, pk_un (by omega), ← ht4, zw_row, pk_un (by omega), ← ht3, zw_row, pk_un (by omega)]; exact n3
          rw [u3, nI_1, ← hs6, ← ht5, ← ht4, ← ht3]
          rfl
      · have a1 : ¬ nI x < nI (aCom (σm.1 1 0)) := nI_nlt (by omega) (by omega)
        rw [if_neg a1, if_pos (i_nlt.mp a1), if_pos trivial]
        obtain ⟨sc2, sm2, e1, e2, e3, e4⟩ := pass_two hR (by rw [eM]; exact hm) false
        exact ⟨false, sc2, sm, sm2, e1, rfl, e2, e3, by rw [e4, eM]⟩
theorem pr_minutes [Inhabited BFT] : PR_minutes Rel := fun x σc σm h => by
  have hM := tp_Min (iv_Top (rI h))
  have s3 : σc.1 1 0 3 = σm.1 1 0 0 := (rB h).1.2.2.2.1
  unfold f_X11_minutes f_X12_minutes
  rw [s3, hM.1]
  rcases in_cs x 1 100 (by decide) (by decide) with ⟨v, v1, v2, rfl, a1, a2, r⟩ | ⟨r, q⟩
  · have a1' : (1 : Int32) ≤ nI v := a1
    have a2' : nI v ≤ (100 : Int32) := i_nlt.mp a2
    have r' : f_X12_isIn (nI v) 1 100 = 1 := r
    have e5 : (500 : Int32) - nI v = nI (500 - v) := pk_sub (a := 500) (by omega)
    rw [if_pos a1', if_pos a2', r', if_neg (show ¬ (1 : Int32) = 0 by decide), e5, nI_add]
    by_cases q : aMin (σm.1 1 0) + v ≤ 500
    · have l1 : ¬ nI (500 - v) < nI (aMin (σm.1 1 0)) := nI_nlt (by omega) (by omega)
      have l2 : ¬ (500 : Int32) < nI (aMin (σm.1 1 0) + v) := nI_nlt (a := 500) (by omega) (by decide)
      rw [if_neg l1, if_neg l2]
      obtain ⟨b, b', f1, f2, hb, hR⟩ := zlp_two (f := fun q : Int32 × Int32 × zG => b_X11_minutes_32 (nI v) q.1 q.2.1 q.2.2) (f' := fun q : Int32 × Int32 × zG => b_X12_minutes_30 (nI v) q.1 q.2.1 q.2.2) v (fun k q q' => (q.1 = q'.1 ∧ q.2.1 = nI k ∧ q'.2.1 = nI k) ∧ Rel q.2.2 q'.2.2 ∧ aMin (q'.2.2.1 1 0) = aMin (σm.1 1 0) + k) (fun b b' => b.1 = b'.1 ∧ Rel b.2 b'.2) (a := ((0 : Int32), (0 : Int32), σc)) (a' := ((0 : Int32), (0 : Int32), σm)) ⟨⟨rfl, rfl, rfl⟩, h, rfl⟩ (by
        rintro k hk ⟨c, _, s⟩ ⟨_, _, s'⟩ ⟨⟨rfl, rfl, rfl⟩, hR, hmm⟩
        right
        have hR' : Rel s s' := hR
        have hmm' : aMin (s'.1 1 0) = aMin (σm.1 1 0) + k := hmm
        obtain ⟨t, t', e1, e2, hK, eK, -⟩ := keep_two hR'
        have emk : aMin (t'.1 1 0) = aMin (σm.1 1 0) + k := by rw [eK]; exact hmm'
        obtain ⟨b, sc, s2, sm, g1, g2, g3, g4, g5⟩ := min_two hK (by omega)
        have l : nI k < nI v := nI_lt hk (by omega)
        unfold b_X11_minutes_32 b_X12_minutes_30 j_X12_minutes_52_30
        rw [if_pos l, if_pos l, e1, e2, Option.bind_some, Option.bind_some, g1, g2, Option.bind_some, Option.bind_some]
        simp only [zb, g3, Option.bind_some, zt_0, nI_1]
        cases b
        · simp only [if_true]
          exact ⟨_, _, rfl, rfl, ⟨by simp, rfl, rfl⟩, g4, by show aMin (sm.1 1 0) = _; omega⟩
        · simp only [Bool.true_eq_false, if_false]
          exact ⟨_, _, rfl, rfl, ⟨rfl, rfl, rfl⟩, g4, by show aMin (sm.1 1 0) = _; omega⟩) (by
        rintro ⟨c, _, s⟩ ⟨_, _, s'⟩ ⟨⟨rfl, rfl, rfl⟩, hR, hmm⟩
        unfold b_X11_minutes_32 b_X12_minutes_30
        rw [if_neg (nI_nlt (Nat.le_refl _) (by omega)), if_neg (nI_nlt (Nat.le_refl _) (by omega))]
        exact ⟨_, _, rfl, rfl, rfl, hR⟩)
      rw [f1, f2, Option.bind_some, Option.bind_some, hb]
      exact ⟨_, _, _, rfl, rfl, hR⟩
    · have l1 : nI (500 - v) < nI (aMin (σm.1 1 0)) := nI_lt (by omega) (by omega)
      have l2 : (500 : Int32) < nI (aMin (σm.1 1 0) + v) := nI_lt (a := 500) (by omega) (by omega)
      rw [if_pos l1, if_pos l2]
      exact ⟨_, _, _, rfl, rfl, h⟩
  · have r' : f_X12_isIn x 1 100 = 0 := r
    rw [r', if_pos rfl]
    rcases q with q | ⟨q1, q2⟩
    · rw [if_neg (show ¬ (1 : Int32) ≤ x from q)]
      exact ⟨_, _, _, rfl, rfl, h⟩
    · rw [if_pos (show (1 : Int32) ≤ x from q1), if_neg (show ¬ x ≤ (100 : Int32) from i_nle.mpr q2)]
      exact ⟨_, _, _, rfl, rfl, h⟩
end PURE
