/-! PURE LAYER: step, undo -/
section PURE
variable {σ σ' σc σm σc' σm' : zG} {g g' : zGa}
/-- what can be undone has changed, and nothing else -/
theorem top_rel [Inhabited BFT] (h : Rel σc σm) (hc : ∀ f i, ¬ ((f = 1 ∨ f = 7 ∨ f = 12 ∨ f = 13 ∨ f = 14) ∧ i = 0) → σc'.1 f i = σc.1 f i) (hc2 : σc'.2 = σc.2) (hm : ∀ f, f ≠ 1 → σm'.1 f = σm.1 f) (hg : ∀ k, 30 ≤ k → σm'.1 1 0 k = σm.1 1 0 k) (hT : Top (σm.1 1 0) (σm'.1 1 0)) (hS : aShN (σm'.1 1 0) = aShN (σm.1 1 0)) (h1 : RSc σc' 0 (σm'.1 1 0)) (h2 : RSt σc' 0 (σm'.1 1 0)) : Rel σc' σm' := by
  have hI := rI h
  have rr : ∀ p : Nat → Nat → Bool, (∀ f i, p f i = true → ¬ ((f = 1 ∨ f = 7 ∨ f = 12 ∨ f = 13 ∨ f = 14) ∧ i = 0)) → REq p σc σc' := fun p hp f i hf => ⟨hc f i (hp f i hf), by rw [hc2]⟩
  have rt : REq rwt σc σc' := rr _ fun f i hf z => by
    unfold rwt at hf
    simp only [Bool.and_eq_true, Bool.not_eq_true', Bool.or_eq_false_iff, beq_eq_false_iff_ne] at hf
    omega
  have r1 : REq (rws 1) σc σc' := rr _ fun f i hf z => by
    unfold rws at hf
    simp only [Bool.or_eq_true, Bool.and_eq_true, beq_iff_eq, decide_eq_true_eq] at hf
    omega
  have rk : REq rwk σc σc' := rr _ fun f i hf z => by
    unfold rwk at hf
    simp only [Bool.or_eq_true, Bool.and_eq_true, beq_iff_eq, decide_eq_true_eq] at hf
    omega
  have fne : ∀ f, f = 0 ∨ f = 3 ∨ f = 4 ∨ f = 38 → σc'.1 f = σc.1 f := fun f hf => funext fun i => hc f i (by omega)
  obtain ⟨q1, q2, q3⟩ := rest_ok h (σc' := σc') (σm' := σm') ⟨r1, by rw [fne 0 (by simp)], fne 3 (by simp), fne 38 (by simp), fne 4 (by simp)⟩ ⟨hm 2 (by decide), hm 8 (by decide), by rw [hm 0 (by decide)], by rw [hm 0 (by decide)], by rw [hm 0 (by decide)], by rw [hm 0 (by decide)]⟩
  exact ⟨rb_top (rB h) rt hg (by omega) (tp_Sh (iv_Top hI)).2 h1 h2, inv_top hg hI hT (by omega), kp_same h.2.2.1 rk (by rw [hm 0 (by decide)]) (hm 3 (by decide)) hg (by omega), q1, q2, q3⟩
theorem pr_step [Inhabited BFT] : PR_step Rel := fun x σc σm h => by
  have hI := rI h
  have hW := iv_W hI
  have hD := iv_Wd hI
  have hT := iv_Top hI
  have s0 : σc.1 1 0 0 = σm.1 1 0 30 := (rB h).1.1
  have s4 : σc.1 1 0 4 = σm.1 1 0 32 := (rB h).1.2.2.2.2.1
  have s5 : σc.1 1 0 5 = σm.1 1 0 1 := (rB h).1.2.2.2.2.2.1
  unfold f_X11_step f_X12_step
  rw [s0, s4, s5, hW.1, hD.1, pk_sub (by omega)]
  rcases in_cs x 0 (aW (σm.1 1 0) - aWide (σm.1 1 0)) (by omega) (by omega) with ⟨v, v1, v2, rfl, a1, a2, r⟩ | ⟨r, q⟩
  · have a1' : (0 : Int32) ≤ nI v := a1
    have a2' : nI v ≤ nI (aW (σm.1 1 0) - aWide (σm.1 1 0)) := i_nlt.mp a2
    have r' : f_X12_isIn (nI v) 0 (nI (aW (σm.1 1 0) - aWide (σm.1 1 0))) = 1 := r
    rw [if_pos a1', if_pos a2', r', if_neg (show ¬ (1 : Int32) = 0 by decide)]
    by_cases q : nI v = σm.1 1 0 1
    · rw [if_pos q, if_pos q]
      exact ⟨_, _, _, rfl, rfl, h⟩
    · rw [if_neg q, if_neg q]
      obtain ⟨sc, sm, e1, e2, hk, em, er⟩ := keep_two h
      rw [e1, e2]
      simp only [Option.bind_some, zb]
      refine ⟨_, _, _, rfl, rfl, ?_⟩
      have eg : (zwI sm 1 0 1 (nI v)).1 1 0 = upd (sm.1 1 0) 1 (nI v) := zw_row sm 1 0 1 (nI v)
      have es : (zwI sc 1 0 5 (nI v)).1 1 0 = upd (sc.1 1 0) 5 (nI v) := zw_row sc 1 0 5 (nI v)
      have hne : ∀ k, k ≠ 1 → (zwI sm 1 0 1 (nI v)).1 1 0 k = sm.1 1 0 k := fun k hk => by rw [eg, pk_un hk]
      have em0 : sm.1 1 0 = σm.1 1 0 := by rw [em]
      have hIu := inv_upd1 (rI hk) (s := v) (by rw [em0]; omega)
      have hTu := iv_Top hIu.1
      refine top_rel hk (fun f i hf => zr_ne (by omega)) rfl (fun f hf => zf_ne hf) (fun k hk => hne k (by omega)) ?_ ?_ ?_ ?_
      · rw [eg]
        exact top_cong (g := upd (sm.1 1 0) 1 (nI v)) (fun k hk => (pk_un (by omega)).symm) hTu
      · unfold aShN; rw [hne 4 (by decide)]
      · obtain ⟨b0, b1, b2, b3, b4, b5, b6, b7, b8, b9⟩ := (rB hk).1
        unfold RSc
        rw [es, eg]
        exact ⟨b0, b1, b2, b3, b4, rfl, b6, b7, b8, b9⟩
      · have hst : RSt sc 0 (sm.1 1 0) := (rB hk).2.1
        have e3 : aSN ((zwI sm 1 0 1 (nI v)).1 1 0) = aSN (sm.1 1 0) := by unfold aSN; rw [hne 3 (by decide)]
        have cne : ∀ f, f ≠ 1 → (zwI sc 1 0 5 (nI v)).1 f 0 = sc.1 f 0 := fun f hf => zr_ne (Or.inl hf)
        unfold RSt at hst ⊢
        rw [e3, hne 3 (by decide), cne 7 (by decide), cne 12 (by decide), cne 13 (by decide), cne 14 (by decide)]
        refine ⟨hst.1, fun i hi => ?_⟩
        rw [hne (5 + 3 * i) (by omega), hne (5 + 3 * i + 1) (by omega), hne (5 + 3 * i + 2) (by omega)]
        exact hst.2 i hi
  · have r' : f_X12_isIn x 0 (nI (aW (σm.1 1 0) - aWide (σm.1 1 0))) = 0 := r
    rw [r', if_pos rfl]
    rcases q with q | ⟨q1, q2⟩
    · rw [if_neg (show ¬ (0 : Int32) ≤ x from q)]
      exact ⟨_, _, _, rfl, rfl, h⟩
    · rw [if_pos (show (0 : Int32) ≤ x from q1), if_neg (i_nle.mpr q2)]
      exact ⟨_, _, _, rfl, rfl, h⟩
/-- back -/
theorem pr_undo [Inhabited BFT] : PR_undo Rel := fun σc σm h => by
  have hI := rI h
  obtain ⟨fi, n, f6, n6, k0, k1, k2, k3, mo⟩ := h.2.2.1
  unfold f_X11_undo f_X12_undo f_X2_goBack
  rw [k1, k2]
  have e0 : (nI n = 0) = (n = 0) := nI_eqI (b := 0) (by omega) (by decide)
  simp only [e0]
  by_cases q : n = 0
  · rw [if_pos q, if_pos q]
    exact ⟨_, _, _, rfl, rfl, h⟩
  · rw [if_neg q, if_neg q, pm1' (by omega)]
    obtain ⟨m, rfl⟩ : ∃ m, n = m + 1 := ⟨n - 1, by omega⟩
    rw [Nat.add_sub_cancel]
    obtain ⟨x1, x2, x3, x4, x5, x6, x7⟩ := k3 m (by omega)
    have x8 := (tp_SN x1).2
    -- the model
    obtain ⟨sm, e, m1, m2, m3⟩ := zlp_run (f := fun q : Int32 × zG => b_X12_undo_21 q.1 q.2) 30 (fun k q => q.1 = nI k ∧ (∀ f, f ≠ 1 → q.2.1 f = (zwI σm 0 0 3 (nI m)).1 f) ∧ (∀ j, 30 ≤ j → q.2.1 1 0 j = σm.1 1 0 j) ∧ ∀ j, j < k → q.2.1 1 0 j = σm.1 3 0 (30 * m + j)) (fun s => (∀ f, f ≠ 1 → s.1 f = (zwI σm 0 0 3 (nI m)).1 f) ∧ (∀ j, 30 ≤ j → s.1 1 0 j = σm.1 1 0 j) ∧ ∀ j, j < 30 → s.1 1 0 j = σm.1 3 0 (30 * m + j)) (a := ((0 : Int32), zwI σm 0 0 3 (nI m))) ⟨rfl, fun _ _ => rfl, fun j _ => by rw [zf_ne (by decide)], fun j hj => absurd hj (Nat.not_lt_zero j)⟩ (by
      rintro k hk ⟨_, s⟩ ⟨rfl, m1, m2, m3⟩
      right
      have l30 : nI k < 30 := nI_lt (b := 30) hk (by decide)
      have s3 : s.1 0 0 3 = nI m := by
        have := m1 0 (by decide)
        show s.1 0 0 3 = _
        rw [this, zw_at, if_pos ⟨rfl, rfl, rfl⟩]
      have sb : s.1 3 = σm.1 3 := by
        have := m1 3 (by decide)
        rw [this, zf_ne (by decide)]
      have ei : (30 : Int32) * nI m + nI k = nI (30 * m + k) := by simp only [zlit, nI_add, pk_mul]
      unfold b_X12_undo_21
      rw [s3, ei]
      simp (disch := omega) only [l30, if_true, zin_nI, show k < 9248 by omega, show 30 * m + k < 180 by omega, decide_true, zgT, nI_clamp, zb, nI_1]
      refine ⟨_, rfl, rfl, fun f hf => ?_, fun j hj => ?_, fun j hj => ?_⟩
      · show (zwI s 1 0 k _).1 f = _
        rw [zf_ne hf]
        exact m1 f hf
      · show (zwI s 1 0 k _).1 1 0 j = _
        rw [zw_at, if_neg (fun z => by omega)]
        exact m2 j hj
      · show (zwI s 1 0 k (s.1 3 0 (30 * m + k))).1 1 0 j = _
        rw [zw_at, sb]
        by_cases z : j = k
        · rw [if_pos ⟨rfl, rfl, z⟩, z]
        · rw [if_neg (fun w => z w.2.2)]
          exact m3 j (by omega)) (by
      rintro ⟨_, s⟩ ⟨rfl, m1, m2, m3⟩
      unfold b_X12_undo_21
      rw [if_neg (show ¬ (nI 30 : Int32) < 30 by decide)]
      exact ⟨_, rfl, m1, m2, m3⟩)
    -- the class
    have hp6 : (fi + m) % 6 < 6 := Nat.mod_lt _ (by decide)
    simp only [zb, e, Option.bind_some, Nat.mul_zero]
    generalize ht1 : zwI σc 2 0 1 (nI m) = t1
    have r1 : ∀ f i, f ≠ 2 → t1.1 f i = σc.1 f i := fun f i hf => by rw [← ht1, zr_ne (Or.inl hf)]
    have u0 : t1.1 2 0 0 = nI fi := by rw [← ht1, zw_at, if_neg (by decide)]; exact k0
    have u1 : t1.1 2 0 1 = nI m := by rw [← ht1, zw_at, if_pos ⟨rfl, rfl, rfl⟩]
    have rem6 : zrem (nI fi + nI m) 6 = nI ((fi + m) % 6) := by
      rw [nI_add]
      exact zrem_nI (a := fi + m) (d := 6) (by omega) (by decide) (by decide)
    rw [u0, u1, rem6]
    generalize hP : (fi + m) % 6 = P
    rw [hP] at hp6 x3 x4 x5 x6 x7
    simp (disch := omega) only [zin_nI, hp6, decide_true, zgT, nI_clamp]
    generalize ht2 : zwI t1 1 0 2 (t1.1 33 0 P) = t2
    have r2 : ∀ f i, f ≠ 1 → t2.1 f i = t1.1 f i := fun f i hf => by rw [← ht2, zr_ne (Or.inl hf)]
    generalize ht3 : zwI t2 1 0 3 (t2.1 34 0 P) = t3
    have r3 : ∀ f i, f ≠ 1 → t3.1 f i = t2.1 f i := fun f i hf => by rw [← ht3, zr_ne (Or.inl hf)]
    generalize ht4 : zwI t3 1 0 5 (t3.1 35 0 P) = t4
    have r4 : ∀ f i, f ≠ 1 → t4.1 f i = t3.1 f i := fun f i hf => by rw [← ht4, zr_ne (Or.inl hf)]
    generalize ht5 : zwI t4 1 0 9 (t4.1 36 0 P) = t5
    have r5 : ∀ f i, f ≠ 1 → t5.1 f i = t4.1 f i := fun f i hf => by rw [← ht5, zr_ne (Or.inl hf)]
    have rall : ∀ f i, f ≠ 1 → f ≠ 2 → t5.1 f i = σc.1 f i := fun f i h1 h2 => by rw [r5 f i h1, r4 f i h1, r3 f i h1, r2 f i h1, r1 f i h2]
    have r1i : ∀ i, i ≠ 0 → t5.1 1 i = σc.1 1 i := fun i hi => by
      rw [← ht5, zr_ne (Or.inr hi), ← ht4, zr_ne (Or.inr hi), ← ht3, zr_ne (Or.inr hi), ← ht2, zr_ne (Or.inr hi), r1 1 i (by decide)]
    have v33 : t1.1 33 0 P = σc.1 33 0 P := by rw [r1 33 0 (by decide)]
    have v34 : t2.1 34 0 P = σc.1 34 0 P := by rw [r2 34 0 (by decide), r1 34 0 (by decide)]
    have v35 : t3.1 35 0 P = σc.1 35 0 P := by rw [r3 35 0 (by decide), r2 35 0 (by decide), r1 35 0 (by decide)]
    have v36 : t4.1 36 0 P = σc.1 36 0 P := by rw [r4 36 0 (by decide), r3 36 0 (by decide), r2 36 0 (by decide), r1 36 0 (by decide)]
    have row1 : t5.1 1 0 = upd (upd (upd (upd (σc.1 1 0) 2 (σc.1 33 0 P)) 3 (σc.1 34 0 P)) 5 (σc.1 35 0 P)) 9 (σc.1 36 0 P) := by
      rw [← ht5, zw_row, v36, ← ht4, zw_row, v35, ← ht3, zw_row, v34, ← ht2, zw_row, v33, r1 1 0 (by decide)]
    have t52 : t5.2 = σc.2 := by rw [← ht5, ← ht4, ← ht3, ← ht2, ← ht1]; rfl
    obtain ⟨c1, c2, c3, c4⟩ := c_copySt (σ := t5) 0 (1 + P) (by omega)
    refine ⟨1, _, sm, rfl, rfl, ?_⟩
    generalize hsc : f_X7_copyFrom 0 (1 + P) t5 = sc
    rw [hsc] at c1 c2 c3 c4
    have er : ∀ k, k < 30 → sm.1 1 0 k = (fun k => σm.1 3 0 (30 * m + k)) k := fun k hk => m3 k hk
    have hT' : Top (σm.1 1 0) (sm.1 1 0) := top_t er x1
    have eS := sh_t er
    have hN := tp_Sh (iv_Top hI)
    have cr : ∀ f i, ¬ ((f = 1 ∨ f = 7 ∨ f = 12 ∨ f = 13 ∨ f = 14) ∧ i = 0) → f ≠ 2 → sc.1 f i = σc.1 f i := fun f i hf h2 => by
      rw [c1 f i (by omega)]
      by_cases z : f = 1
      · subst z; exact r1i i (by omega)
      · exact rall f i z h2
    have rr : ∀ p : Nat → Nat → Bool, (∀ f i, p f i = true → ¬ ((f = 1 ∨ f = 7 ∨ f = 12 ∨ f = 13 ∨ f = 14) ∧ i = 0) ∧ f ≠ 2) → REq p σc sc := fun p hp f i hf => ⟨cr f i (hp f i hf).1 (hp f i hf).2, by rw [c2, t52]⟩
    have rt : REq rwt σc sc := rr _ fun f i hf => by
      unfold rwt rws at hf
      simp only [Bool.and_eq_true, Bool.or_eq_true, Bool.not_eq_true', Bool.or_eq_false_iff, beq_eq_false_iff_ne, beq_iff_eq, decide_eq_true_eq] at hf
      omega
    have rw1 : REq (rws 1) σc sc := rr _ fun f i hf => by
      unfold rws at hf
      simp only [Bool.or_eq_true, Bool.and_eq_true, beq_iff_eq, decide_eq_true_eq] at hf
      omega
    have fne : ∀ f, f = 0 ∨ f = 3 ∨ f = 4 ∨ f = 38 → sc.1 f = σc.1 f := fun f hf => funext fun i => cr f i (by omega) (by omega)
    obtain ⟨q1, q2, q3⟩ := rest_ok h (σc' := sc) (σm' := sm) ⟨rw1, by rw [fne 0 (by simp)], fne 3 (by simp), fne 38 (by simp), fne 4 (by simp)⟩ ⟨by rw [m1 2 (by decide), zf_ne (by decide)], by rw [m1 8 (by decide), zf_ne (by decide)], by rw [m1 0 (by decide)]; simp [zw_at], by rw [m1 0 (by decide)]; simp [zw_at], by rw [m1 0 (by decide)]; simp [zw_at], by rw [m1 0 (by decide)]; simp [zw_at]⟩
    refine ⟨rb_top (rB h) rt m2 (by omega) hN.2 ?_ ?_, inv_top m2 hI hT' (by omega), ⟨fi, m, f6, by omega, ?_, ?_, ?_, fun j hj => ?_, fun j j' h1 h2 => ?_⟩, q1, q2, q3⟩
    · obtain ⟨b0, b1, b2, b3, b4, b5, b6, b7, b8, b9⟩ := (rB h).1
      unfold RSc
      rw [c1 1 0 (by omega), row1, m2 30 (by decide), m2 31 (by decide), m2 32 (by decide), m2 33 (by decide), m2 34 (by decide), m2 35 (by decide)]
      exact ⟨b0, b1, x3.trans (er 2 (by decide)).symm, x4.trans (er 0 (by decide)).symm, b4, x5.trans (er 1 (by decide)).symm, b6, b7, b8, x6.trans (er 4 (by decide)).symm⟩
    · refine rst_t er x8 ⟨?_, fun i hi => ?_⟩
      · show sc.1 7 0 0 = _
        rw [c3, rall 7 _ (by decide) (by decide)]
        exact x7.1
      · show sc.1 12 0 i = _ ∧ sc.1 13 0 i = _ ∧ sc.1 14 0 i = _
        obtain ⟨y1, y2, y3⟩ := c4 i (by omega)
        rw [y1, y2, y3, rall 12 _ (by decide) (by decide), rall 13 _ (by decide) (by decide), rall 14 _ (by decide) (by decide)]
        exact x7.2 i hi
    · rw [c1 2 0 (by omega), r5 2 0 (by decide), r4 2 0 (by decide), r3 2 0 (by decide), r2 2 0 (by decide)]; exact u0
    · rw [c1 2 0 (by omega), r5 2 0 (by decide), r4 2 0 (by decide), r3 2 0 (by decide), r2 2 0 (by decide)]; exact u1
    · rw [m1 0 (by decide), zw_at, if_pos ⟨rfl, rfl, rfl⟩]
    · obtain ⟨y1, y2, y3, y4, y5, y6, y7⟩ := k3 j (by omega)
      have em3 : sm.1 3 = σm.1 3 := by rw [m1 3 (by decide), zf_ne (by decide)]
      have kr : ∀ f, (f = 33 ∨ f = 34 ∨ f = 35 ∨ f = 36) → sc.1 f 0 = σc.1 f 0 := fun f hf => cr f 0 (by omega) (by omega)
      rw [em3, kr 33 (by simp), kr 34 (by simp), kr 35 (by simp), kr 36 (by simp)]
      refine ⟨top_cong m2 y1, ?_, y3, y4, y5, y6, ?_⟩
      · rw [eS]; exact mo j m (by omega) (by omega)
      · have kk : ∀ f, (f = 7 ∨ f = 12 ∨ f = 13 ∨ f = 14) → sc.1 f (1 + (fi + j) % 6) = σc.1 f (1 + (fi + j) % 6) := fun f hf => cr f _ (by omega) (by omega)
        unfold RSt at y7 ⊢
        rw [kk 7 (by simp), kk 12 (by simp), kk 13 (by simp), kk 14 (by simp)]
        exact y7
    · have em3 : sm.1 3 = σm.1 3 := by rw [m1 3 (by decide), zf_ne (by decide)]
      rw [em3]
      exact mo j j' h1 (by omega)
end PURE
