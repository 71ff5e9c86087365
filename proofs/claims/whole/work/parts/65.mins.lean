/-! PURE LAYER: a minute goes by -/
section PURE
variable {σ σ' σc σm σc' σm' : zG} {g g' : zGa}
theorem num_top [Inhabited BFT] (h : Rel σc σm) {q j : Nat} {x : Int32} (hqj : (q = 2 ∧ j = 2) ∨ (q = 3 ∧ j = 0 ∧ ∃ m, m ≤ 500 ∧ x = nI m)) : Rel (zwI σc 1 0 q x) (zwI σm 1 0 j x) := by
  have hI := rI h
  have hT := iv_Top hI
  have hSN := tp_SN hT
  have eg : (zwI σm 1 0 j x).1 1 0 = upd (σm.1 1 0) j x := zw_row σm 1 0 j x
  have es : (zwI σc 1 0 q x).1 1 0 = upd (σc.1 1 0) q x := zw_row σc 1 0 q x
  have hne : ∀ k, k ≠ j → (zwI σm 1 0 j x).1 1 0 k = σm.1 1 0 k := fun k hk => by rw [eg, pk_un hk]
  have e1 : aStep ((zwI σm 1 0 j x).1 1 0) = aStep (σm.1 1 0) := by unfold aStep; rw [hne 1 (by omega)]
  have e3 : aSN ((zwI σm 1 0 j x).1 1 0) = aSN (σm.1 1 0) := by unfold aSN; rw [hne 3 (by omega)]
  have e4 : aShN ((zwI σm 1 0 j x).1 1 0) = aShN (σm.1 1 0) := by unfold aShN; rw [hne 4 (by omega)]
  refine top_rel h (fun f i hf => zr_ne (by omega)) rfl (fun f hf => zf_ne hf) (fun k hk => hne k (by omega)) ?_ e4 ?_ ?_
  · unfold Top
    rw [e1, e3, e4, hne 1 (by omega), hne 3 (by omega), hne 4 (by omega)]
    refine ⟨?_, hT.2.1, hT.2.2.1, hT.2.2.2.1, fun i hi => ?_, hT.2.2.2.2.2⟩
    · rcases hqj with ⟨-, rfl⟩ | ⟨-, rfl, m, hm, rfl⟩
      · have e0 : aMin ((zwI σm 1 0 2 x).1 1 0) = aMin (σm.1 1 0) := by unfold aMin; rw [hne 0 (by omega)]
        rw [e0, hne 0 (by omega)]
        exact hT.1
      · have e0 : aMin ((zwI σm 1 0 0 (nI m)).1 1 0) = m := by unfold aMin; rw [eg, pk_us, nI_clamp (by omega)]
        rw [e0, eg, pk_us]
        exact ⟨rfl, hm⟩
    · rw [hne (5 + 3 * i) (by omega)]
      exact hT.2.2.2.2.1 i hi
  · obtain ⟨b0, b1, b2, b3, b4, b5, b6, b7, b8, b9⟩ := (rB h).1
    unfold RSc
    rw [es, eg]
    rcases hqj with ⟨rfl, rfl⟩ | ⟨rfl, rfl, -⟩
    · exact ⟨b0, b1, rfl, b3, b4, b5, b6, b7, b8, b9⟩
    · exact ⟨b0, b1, b2, rfl, b4, b5, b6, b7, b8, b9⟩
  · have hst : RSt σc 0 (σm.1 1 0) := (rB h).2.1
    have cne : ∀ f, f ≠ 1 → (zwI σc 1 0 q x).1 f 0 = σc.1 f 0 := fun f hf => zr_ne (Or.inl hf)
    unfold RSt at hst ⊢
    rw [e3, hne 3 (by omega), cne 7 (by decide), cne 12 (by decide), cne 13 (by decide), cne 14 (by decide)]
    refine ⟨hst.1, fun i hi => ?_⟩
    rw [hne (5 + 3 * i) (by omega), hne (5 + 3 * i + 1) (by omega), hne (5 + 3 * i + 2) (by omega)]
    exact hst.2 i hi
theorem ushr8 (x : Int32) : ∃ y, y < 2 ^ 24 ∧ zushr x 8 = nI y := by
  obtain ⟨n, hn, rfl⟩ := wb_of32 x
  exact ⟨n / 2 ^ 8, by omega, pk_ushrN hn 8 8 rfl⟩
theorem draw_two [Inhabited BFT] (h : Rel σc σm) {M : Nat} (h0 : 0 < M) (hM : M < 2 ^ 30) : ∃ x sc sm, f_X1_draw 0 (nI M) σc = some (nI x, sc) ∧ f_X12_draw (nI M) σm = some (nI x, sm) ∧ x < M ∧ Rel sc sm ∧ ∀ k, k ≠ 2 → sm.1 1 0 k = σm.1 1 0 k := by
  have e2 : σc.1 1 0 2 = σm.1 1 0 2 := (rB h).1.2.2.1
  obtain ⟨y, hy, ey⟩ := ushr8 ((1664525 : Int32) * σm.1 1 0 2 + 1013904223)
  have p0 : (0 : Int32) < nI M := nI_lt (a := 0) h0 (by omega)
  have pn : (nI M != 0) = true := by
    have := nI_ne0 (n := M) h0 (by omega)
    simpa using this
  have er : zrem (nI y) (nI M) = nI (y % M) := zrem_nI (by omega) h0 (by omega)
  unfold f_X1_draw f_X12_draw
  simp only [zb]
  rw [e2, Int32.mul_comm (σm.1 1 0 2)]
  have r1 : (zwI σc 1 0 2 (1664525 * σm.1 1 0 2 + 1013904223)).1 1 0 2 = 1664525 * σm.1 1 0 2 + 1013904223 := by rw [zw_at, if_pos ⟨rfl, rfl, rfl⟩]
  have r2 : (zwI σm 1 0 2 (1664525 * σm.1 1 0 2 + 1013904223)).1 1 0 2 = 1664525 * σm.1 1 0 2 + 1013904223 := by rw [zw_at, if_pos ⟨rfl, rfl, rfl⟩]
  rw [r1, r2, ey, er, if_pos p0, pn, zgT, zgT]
  exact ⟨_, _, _, rfl, rfl, Nat.mod_lt _ h0, num_top h (Or.inl ⟨rfl, rfl⟩), fun k hk => by rw [zw_at, if_neg (fun z => hk z.2.2)]⟩
/-- one more stranger -/
theorem add_rel [Inhabited BFT] (h : Rel σc σm) (h8 : aSN (σm.1 1 0) < 8) {c : Nat} (hsp : sp (σm.1 1 0) c = true) (u w : Int32) : ∃ sc, f_X7_add 0 (nI c) w u σc = some sc ∧ Rel sc (zwI (zwI (zwI (zwI σm 1 0 (5 + 3 * aSN (σm.1 1 0)) (nI c)) 1 0 (5 + 3 * aSN (σm.1 1 0) + 1) u) 1 0 (5 + 3 * aSN (σm.1 1 0) + 2) w) 1 0 3 (nI (aSN (σm.1 1 0) + 1))) := by
  have hI := rI h
  have hT := iv_Top hI
  have hSN := tp_SN hT
  have hst : RSt σc 0 (σm.1 1 0) := (rB h).2.1
  have hc := sp_56 hI hsp
  generalize hn : aSN (σm.1 1 0) = n
  rw [hn] at h8 hSN
  have l8 : nI n < 8 := nI_lt (b := 8) h8 (by decide)
  have c7 : σc.1 7 0 0 = nI n := by rw [hst.1]; exact hSN.1
  unfold f_X7_add
  rw [c7]
  simp (disch := omega) only [l8, if_true, zin_nI, h8, decide_true, zgT, nI_clamp, zb]
  have f1 : (zwI σc 12 0 n (nI c)).1 7 0 0 = nI n := by rw [zr_ne (Or.inl (by decide))]; exact c7
  rw [f1]
  simp (disch := omega) only [zin_nI, h8, decide_true, zgT, nI_clamp]
  have f2 : (zwI (zwI σc 12 0 n (nI c)) 14 0 n w).1 7 0 0 = nI n := by rw [zr_ne (Or.inl (by decide))]; exact f1
  rw [f2]
  simp (disch := omega) only [zin_nI, h8, decide_true, zgT, nI_clamp]
  have f3 : (zwI (zwI (zwI σc 12 0 n (nI c)) 14 0 n w) 13 0 n u).1 7 0 0 = nI n := by rw [zr_ne (Or.inl (by decide))]; exact f2
  rw [f3, nI_1]
  refine ⟨_, rfl, ?_⟩
  generalize hsc : zwI (zwI (zwI (zwI σc 12 0 n (nI c)) 14 0 n w) 13 0 n u) 7 0 0 (nI (n + 1)) = sc
  generalize hsm : zwI (zwI (zwI (zwI σm 1 0 (5 + 3 * n) (nI c)) 1 0 (5 + 3 * n + 1) u) 1 0 (5 + 3 * n + 2) w) 1 0 3 (nI (n + 1)) = sm
  have eg : sm.1 1 0 = upd (upd (upd (upd (σm.1 1 0) (5 + 3 * n) (nI c)) (5 + 3 * n + 1) u) (5 + 3 * n + 2) w) 3 (nI (n + 1)) := by
    rw [← hsm, zw_row, zw_row, zw_row, zw_row]
  have hne : ∀ k, k ≠ 3 → ¬ (5 + 3 * n ≤ k ∧ k ≤ 5 + 3 * n + 2) → sm.1 1 0 k = σm.1 1 0 k := fun k h1 h2 => by rw [eg, pk_un h1, pk_un (by omega), pk_un (by omega), pk_un (by omega)]
  have v0 : sm.1 1 0 (5 + 3 * n) = nI c := by rw [eg, pk_un (by omega), pk_un (by omega), pk_un (by omega), pk_us]
  have v1 : sm.1 1 0 (5 + 3 * n + 1) = u := by rw [eg, pk_un (by omega), pk_un (by omega), pk_us]
  have v2 : sm.1 1 0 (5 + 3 * n + 2) = w := by rw [eg, pk_un (by omega), pk_us]
  have v3 : sm.1 1 0 3 = nI (n + 1) := by rw [eg, pk_us]
  have e0 : aMin (sm.1 1 0) = aMin (σm.1 1 0) := by unfold aMin; rw [hne 0 (by decide) (by omega)]
  have e1 : aStep (sm.1 1 0) = aStep (σm.1 1 0) := by unfold aStep; rw [hne 1 (by decide) (by omega)]
  have e3 : aSN (sm.1 1 0) = n + 1 := by unfold aSN; rw [v3, nI_clamp (by omega)]
  have e4 : aShN (sm.1 1 0) = aShN (σm.1 1 0) := by unfold aShN; rw [hne 4 (by decide) (by omega)]
  refine top_rel h (fun f i hf => ?_) (by rw [← hsc]; rfl) (fun f hf => ?_) (fun k hk => hne k (by omega) (by omega)) ?_ e4 ?_ ?_
  · rw [← hsc, zr_ne (by omega), zr_ne (by omega), zr_ne (by omega), zr_ne (by omega)]
  · rw [← hsm, zf_ne hf, zf_ne hf, zf_ne hf, zf_ne hf]
  · unfold Top
    rw [e0, e1, e3, e4, hne 0 (by decide) (by omega), hne 1 (by decide) (by omega), hne 4 (by decide) (by omega)]
    refine ⟨hT.1, hT.2.1, ⟨v3, by omega⟩, hT.2.2.2.1, fun i hi => ?_, hT.2.2.2.2.2⟩
    by_cases q : i = n
    · rw [q, v0]; exact ⟨c, hc, rfl, hsp⟩
    · rw [hne (5 + 3 * i) (by omega) (by omega)]
      exact hT.2.2.2.2.1 i (by omega)
  · obtain ⟨b0, b1, b2, b3, b4, b5, b6, b7, b8, b9⟩ := (rB h).1
    unfold RSc
    rw [← hsc, zr_ne (Or.inl (by decide)), zr_ne (Or.inl (by decide)), zr_ne (Or.inl (by decide)), zr_ne (Or.inl (by decide)), hne 30 (by decide) (by omega), hne 31 (by decide) (by omega), hne 2 (by decide) (by omega), hne 0 (by decide) (by omega), hne 32 (by decide) (by omega), hne 1 (by decide) (by omega), hne 33 (by decide) (by omega), hne 34 (by decide) (by omega), hne 35 (by decide) (by omega), hne 4 (by decide) (by omega)]
    exact ⟨b0, b1, b2, b3, b4, b5, b6, b7, b8, b9⟩
  · have s12 : sc.1 12 0 = upd (σc.1 12 0) n (nI c) := by rw [← hsc, zr_ne (Or.inl (by decide)), zr_ne (Or.inl (by decide)), zr_ne (Or.inl (by decide)), zw_row]
    have s14 : sc.1 14 0 = upd (σc.1 14 0) n w := by rw [← hsc, zr_ne (Or.inl (by decide)), zr_ne (Or.inl (by decide)), zw_row, zr_ne (Or.inl (by decide))]
    have s13 : sc.1 13 0 = upd (σc.1 13 0) n u := by rw [← hsc, zr_ne (Or.inl (by decide)), zw_row, zr_ne (Or.inl (by decide)), zr_ne (Or.inl (by decide))]
    have s7 : sc.1 7 0 0 = nI (n + 1) := by rw [← hsc, zw_at, if_pos ⟨rfl, rfl, rfl⟩]
    unfold RSt
    rw [e3, s7, v3, s12, s13, s14]
    refine ⟨rfl, fun i hi => ?_⟩
    by_cases q : i = n
    · rw [q, pk_us, pk_us, pk_us, v0, v1, v2]
      exact ⟨rfl, rfl, rfl⟩
    · rw [pk_un q, pk_un q, pk_un q, hne (5 + 3 * i) (by omega) (by omega), hne (5 + 3 * i + 1) (by omega) (by omega), hne (5 + 3 * i + 2) (by omega) (by omega)]
      exact hst.2 i (by omega)
/-- strangers go -/
theorem leave_two [Inhabited BFT] (h : Rel σc σm) : ∃ sc sm, f_X7_leaveBefore 0 (σm.1 1 0 0) σc = some sc ∧ f_X12_leaveAll σm = some sm ∧ Rel sc sm ∧ ∀ k, k < 3 → sm.1 1 0 k = σm.1 1 0 k := by
  have hI := rI h
  have hT := iv_Top hI
  have hSN := tp_SN hT
  have hst : RSt σc 0 (σm.1 1 0) := (rB h).2.1
  unfold f_X7_leaveBefore f_X12_leaveAll
  obtain ⟨b, b', f1, f2, l, hl, hb1, hb2, hc, hc2, hm, hg, hrow, hsp⟩ := zlp_two (f := fun q : Int32 × Int32 × zG => b_X7_leaveBefore_4 0 (σm.1 1 0 0) q.1 q.2.1 q.2.2) (f' := fun q : Int32 × Int32 × zG => b_X12_leaveAll_4 q.1 q.2.1 q.2.2) (aSN (σm.1 1 0))
    (fun i q q' => ∃ l, l ≤ i ∧ (q.1 = nI l ∧ q'.1 = nI l ∧ q.2.1 = nI i ∧ q'.2.1 = nI i) ∧ (∀ f j, ¬ ((f = 12 ∨ f = 13 ∨ f = 14) ∧ j = 0) → q.2.2.1 f j = σc.1 f j) ∧ q.2.2.2 = σc.2 ∧ (∀ f, f ≠ 1 → q'.2.2.1 f = σm.1 f) ∧ (∀ k, k < 5 ∨ 29 ≤ k → q'.2.2.1 1 0 k = σm.1 1 0 k) ∧ (∀ j, j < aSN (σm.1 1 0) → q.2.2.1 12 0 j = q'.2.2.1 1 0 (5 + 3 * j) ∧ q.2.2.1 13 0 j = q'.2.2.1 1 0 (5 + 3 * j + 1) ∧ q.2.2.1 14 0 j = q'.2.2.1 1 0 (5 + 3 * j + 2)) ∧ ∀ j, j < aSN (σm.1 1 0) → ∃ c, c < 56 ∧ q'.2.2.1 1 0 (5 + 3 * j) = nI c ∧ sp (σm.1 1 0) c = true)
    (fun b b' => ∃ l, l ≤ aSN (σm.1 1 0) ∧ b.1 = nI l ∧ b'.1 = nI l ∧ (∀ f j, ¬ ((f = 12 ∨ f = 13 ∨ f = 14) ∧ j = 0) → b.2.1 f j = σc.1 f j) ∧ b.2.2 = σc.2 ∧ (∀ f, f ≠ 1 → b'.2.1 f = σm.1 f) ∧ (∀ k, k < 5 ∨ 29 ≤ k → b'.2.1 1 0 k = σm.1 1 0 k) ∧ (∀ j, j < aSN (σm.1 1 0) → b.2.1 12 0 j = b'.2.1 1 0 (5 + 3 * j) ∧ b.2.1 13 0 j = b'.2.1 1 0 (5 + 3 * j + 1) ∧ b.2.1 14 0 j = b'.2.1 1 0 (5 + 3 * j + 2)) ∧ ∀ j, j < aSN (σm.1 1 0) → ∃ c, c < 56 ∧ b'.2.1 1 0 (5 + 3 * j) = nI c ∧ sp (σm.1 1 0) c = true)
    (a := ((0 : Int32), (0 : Int32), σc)) (a' := ((0 : Int32), (0 : Int32), σm)) ⟨0, Nat.le_refl _, ⟨rfl, rfl, rfl, rfl⟩, fun _ _ _ => rfl, rfl, fun _ _ => rfl, fun _ _ => rfl, fun j hj => hst.2 j hj, fun j hj => hT.2.2.2.2.1 j hj⟩ (by
      rintro i hi ⟨_, _, s⟩ ⟨_, _, s'⟩ ⟨l, hl, ⟨rfl, rfl, rfl, rfl⟩, hc, hc2, hm, hg, hrow, hsp⟩
      right
      have hc' : ∀ f j, ¬ ((f = 12 ∨ f = 13 ∨ f = 14) ∧ j = 0) → s.1 f j = σc.1 f j := hc
      have hg' : ∀ k, k < 5 ∨ 29 ≤ k → s'.1 1 0 k = σm.1 1 0 k := hg
      have hrow' : ∀ j, j < aSN (σm.1 1 0) → s.1 12 0 j = s'.1 1 0 (5 + 3 * j) ∧ s.1 13 0 j = s'.1 1 0 (5 + 3 * j + 1) ∧ s.1 14 0 j = s'.1 1 0 (5 + 3 * j + 2) := hrow
      have i8 : i < 8 := by omega
      have l8 : l < 8 := by omega
      have c7 : s.1 7 0 0 = nI (aSN (σm.1 1 0)) := by rw [hc' 7 0 (by omega), hst.1]; exact hSN.1
      have m3 : s'.1 1 0 3 = nI (aSN (σm.1 1 0)) := by rw [hg' 3 (by omega)]; exact hSN.1
      have m0 : s'.1 1 0 0 = σm.1 1 0 0 := hg' 0 (by omega)
      have li : nI i < nI (aSN (σm.1 1 0)) := nI_lt hi (by omega)
      have li8 : nI i < 8 := nI_lt (b := 8) i8 (by decide)
      have of1 : f_X12_ofStranger (nI i) 1 s' = some (s'.1 1 0 (5 + 3 * i + 1)) := m_ofStr i8 (by decide)
      obtain ⟨r1, r2, r3⟩ := hrow' i hi
      unfold b_X7_leaveBefore_4 b_X12_leaveAll_4
      rw [c7, m3, of1, m0]
      simp (disch := omega) only [li, li8, if_true, zin_nI, i8, l8, decide_true, zgT, nI_clamp, zb, Option.bind_some, r2]
      by_cases q : σm.1 1 0 0 ≤ s'.1 1 0 (5 + 3 * i + 1)
      · rw [if_pos q, if_neg (i_nlt.mpr q)]
        -- the model's three
        obtain ⟨t, e, t1, t2⟩ := zlp_run (f := fun q : Int32 × zG => b_X12_leaveAll_34 (nI i) (nI l) q.1 q.2) 3 (fun k q => q.1 = nI k ∧ (∀ f, f ≠ 1 → q.2.1 f = s'.1 f) ∧ ∀ j, q.2.1 1 0 j = if 5 + 3 * l ≤ j ∧ j < 5 + 3 * l + k then s'.1 1 0 (j - (5 + 3 * l) + (5 + 3 * i)) else s'.1 1 0 j) (fun t => (∀ f, f ≠ 1 → t.1 f = s'.1 f) ∧ ∀ j, t.1 1 0 j = if 5 + 3 * l ≤ j ∧ j < 5 + 3 * l + 3 then s'.1 1 0 (j - (5 + 3 * l) + (5 + 3 * i)) else s'.1 1 0 j) (a := ((0 : Int32), s')) ⟨rfl, fun _ _ => rfl, fun j => by
            show s'.1 1 0 j = _
            rw [if_neg (by omega)]⟩ (by
          rintro k hk ⟨_, t⟩ ⟨rfl, t1, t2⟩
          right
          have t2' : ∀ j, t.1 1 0 j = if 5 + 3 * l ≤ j ∧ j < 5 + 3 * l + k then s'.1 1 0 (j - (5 + 3 * l) + (5 + 3 * i)) else s'.1 1 0 j := t2
          have l3 : nI k < 3 := nI_lt (b := 3) hk (by decide)
          have ei : (5 : Int32) + 3 * nI l + nI k = nI (5 + 3 * l + k) := by simp only [zlit, nI_add, pk_mul]
          unfold b_X12_leaveAll_34
          rw [if_pos l3, m_ofStr i8 hk, Option.bind_some, ei, zin_ok (show 5 + 3 * l + k < 9248 by omega) (by decide), zgT, nI_clamp (by omega)]
          simp only [zb, nI_1]
          refine ⟨_, rfl, rfl, fun f hf => ?_, fun j => ?_⟩
          · show (zwI t 1 0 _ _).1 f = _
            rw [zf_ne hf]; exact t1 f hf
          · show (zwI t 1 0 (5 + 3 * l + k) (t.1 1 0 (5 + 3 * i + k))).1 1 0 j = _
            rw [zw_at, t2' (5 + 3 * i + k), if_neg (show ¬ (5 + 3 * l ≤ 5 + 3 * i + k ∧ 5 + 3 * i + k < 5 + 3 * l + k) by omega)]
            by_cases z : j = 5 + 3 * l + k
            · rw [if_pos ⟨rfl, rfl, z⟩, if_pos (by omega), z, show 5 + 3 * l + k - (5 + 3 * l) + (5 + 3 * i) = 5 + 3 * i + k by omega]
            · rw [if_neg (fun w => z w.2.2), t2' j]
              by_cases y : 5 + 3 * l ≤ j ∧ j < 5 + 3 * l + k
              · rw [if_pos y, if_pos (by omega)]
              · rw [if_neg y, if_neg (by omega)]) (by
          rintro ⟨_, t⟩ ⟨rfl, t1, t2⟩
          unfold b_X12_leaveAll_34
          rw [if_neg (show ¬ (nI 3 : Int32) < 3 by decide)]
          exact ⟨_, rfl, t1, t2⟩)
        rw [e, Option.bind_some, nI_1, nI_1]
        generalize hs6 : zwI (zwI (zwI s 12 0 l (s.1 12 0 i)) 14 0 l ((zwI s 12 0 l (s.1 12 0 i)).1 14 0 i)) 13 0 l ((zwI (zwI s 12 0 l (s.1 12 0 i)) 14 0 l ((zwI s 12 0 l (s.1 12 0 i)).1 14 0 i)).1 13 0 i) = s6
        have w12 : s6.1 12 0 = upd (s.1 12 0) l (s.1 12 0 i) := by rw [← hs6, zr_ne (Or.inl (by decide)), zr_ne (Or.inl (by decide)), zw_row]
        have w14 : s6.1 14 0 = upd (s.1 14 0) l (s.1 14 0 i) := by rw [← hs6, zr_ne (Or.inl (by decide)), zw_row, zr_ne (Or.inl (by decide))]
        have w13 : s6.1 13 0 = upd (s.1 13 0) l (s.1 13 0 i) := by rw [← hs6, zw_row, zr_ne (Or.inl (by decide)), zr_ne (Or.inl (by decide))]
        have ent : ∀ j d, d < 3 → t.1 1 0 (5 + 3 * j + d) = if j = l then s'.1 1 0 (5 + 3 * i + d) else s'.1 1 0 (5 + 3 * j + d) := fun j d hd => by
          rw [t2]
          by_cases z : j = l
          · rw [if_pos (by omega), if_pos z, show 5 + 3 * j + d - (5 + 3 * l) + (5 + 3 * i) = 5 + 3 * i + d by omega]
          · rw [if_neg (by omega), if_neg z]
        have ent0 : ∀ j, t.1 1 0 (5 + 3 * j) = if j = l then s'.1 1 0 (5 + 3 * i) else s'.1 1 0 (5 + 3 * j) := fun j => ent j 0 (by decide)
        refine ⟨_, _, rfl, rfl, l + 1, by omega, ⟨rfl, rfl, rfl, rfl⟩, fun f j hf => ?_, ?_, fun f hf => ?_, fun k hk => ?_, fun j hj => ?_, fun j hj => ?_⟩
        · show s6.1 f j = _
          rw [← hs6, zr_ne (by omega), zr_ne (by omega), zr_ne (by omega)]
          exact hc' f j hf
        · show s6.2 = _
          rw [← hs6]; exact hc2
        · show t.1 f = _
          rw [t1 f hf]; exact hm f hf
        · show t.1 1 0 k = _
          rw [t2, if_neg (by omega)]
          exact hg' k hk
        · show s6.1 12 0 j = t.1 1 0 (5 + 3 * j) ∧ s6.1 13 0 j = t.1 1 0 (5 + 3 * j + 1) ∧ s6.1 14 0 j = t.1 1 0 (5 + 3 * j + 2)
          rw [w12, w13, w14, ent0, ent j 1 (by decide), ent j 2 (by decide)]
          by_cases z : j = l
          · rw [z, pk_us, pk_us, pk_us, if_pos rfl, if_pos rfl, if_pos rfl]
            exact ⟨r1, r2, r3⟩
          · rw [pk_un z, pk_un z, pk_un z, if_neg z, if_neg z, if_neg z]
            exact hrow' j hj
        · show ∃ c, c < 56 ∧ t.1 1 0 (5 + 3 * j) = nI c ∧ _
          rw [ent0]
          by_cases z : j = l
          · rw [if_pos z]; exact hsp i hi
          · rw [if_neg z]; exact hsp j hj
      · rw [if_neg q, if_pos (i_nle.mp q)]
        exact ⟨_, _, rfl, rfl, l, by omega, ⟨rfl, rfl, nI_1 i, nI_1 i⟩, hc, hc2, hm, hg, hrow, hsp⟩) (by
      rintro ⟨_, _, s⟩ ⟨_, _, s'⟩ ⟨l, hl, ⟨rfl, rfl, rfl, rfl⟩, hc, hc2, hm, hg, hrow, hsp⟩
      have c7 : s.1 7 0 0 = nI (aSN (σm.1 1 0)) := by
        have := hc 7 0 (by omega)
        show s.1 7 0 0 = _
        rw [this, hst.1]; exact hSN.1
      have m3 : s'.1 1 0 3 = nI (aSN (σm.1 1 0)) := by
        have := hg 3 (by omega)
        show s'.1 1 0 3 = _
        rw [this]; exact hSN.1
      unfold b_X7_leaveBefore_4 b_X12_leaveAll_4
      rw [c7, m3, if_neg (nI_nlt (Nat.le_refl _) (by omega)), if_neg (nI_nlt (Nat.le_refl _) (by omega))]
      exact ⟨_, _, rfl, rfl, l, hl, rfl, rfl, hc, hc2, hm, hg, hrow, hsp⟩)
  obtain ⟨b1, b2⟩ := b
  obtain ⟨d1, d2⟩ := b'
  have hb1' : b1 = nI l := hb1
  have hb2' : d1 = nI l := hb2
  subst hb1' hb2'
  rw [f1, f2]
  simp only [Option.bind_some, zb]
  refine ⟨_, _, rfl, rfl, ?_, fun k hk => ?_⟩
  rotate_left
  · rw [zw_at, if_neg (fun z => by omega)]
    exact hg k (by omega)
  have hc' : ∀ f j, ¬ ((f = 12 ∨ f = 13 ∨ f = 14) ∧ j = 0) → b2.1 f j = σc.1 f j := hc
  have hg' : ∀ k, k < 5 ∨ 29 ≤ k → d2.1 1 0 k = σm.1 1 0 k := hg
  have hne : ∀ k, k ≠ 3 → (zwI d2 1 0 3 (nI l)).1 1 0 k = d2.1 1 0 k := fun k hk => by rw [zw_at, if_neg (fun z => hk z.2.2)]
  have v3 : (zwI d2 1 0 3 (nI l)).1 1 0 3 = nI l := by rw [zw_at, if_pos ⟨rfl, rfl, rfl⟩]
  have e0 : aMin ((zwI d2 1 0 3 (nI l)).1 1 0) = aMin (σm.1 1 0) := by unfold aMin; rw [hne 0 (by decide), hg' 0 (by omega)]
  have e1 : aStep ((zwI d2 1 0 3 (nI l)).1 1 0) = aStep (σm.1 1 0) := by unfold aStep; rw [hne 1 (by decide), hg' 1 (by omega)]
  have e3 : aSN ((zwI d2 1 0 3 (nI l)).1 1 0) = l := by unfold aSN; rw [v3, nI_clamp (by omega)]
  have e4 : aShN ((zwI d2 1 0 3 (nI l)).1 1 0) = aShN (σm.1 1 0) := by unfold aShN; rw [hne 4 (by decide), hg' 4 (by omega)]
  have al : ∀ k, k ≠ 3 → k < 5 ∨ 29 ≤ k → (zwI d2 1 0 3 (nI l)).1 1 0 k = σm.1 1 0 k := fun k h1 h2 => by rw [hne k h1, hg' k h2]
  refine top_rel h (fun f i hf => ?_) hc2 (fun f hf => ?_) (fun k hk => al k (by omega) (by omega)) ?_ e4 ?_ ?_
  · rw [zr_ne (by omega)]
    exact hc' f i (by omega)
  · rw [zf_ne hf]; exact hm f hf
  · unfold Top
    rw [e0, e1, e3, e4, al 0 (by decide) (by omega), al 1 (by decide) (by omega), v3, al 4 (by decide) (by omega)]
    refine ⟨hT.1, hT.2.1, ⟨rfl, by omega⟩, hT.2.2.2.1, fun i hi => ?_, hT.2.2.2.2.2⟩
    rw [hne (5 + 3 * i) (by omega)]
    exact hsp i (by omega)
  · obtain ⟨b0, b1, b2', b3, b4, b5, b6, b7, b8, b9⟩ := (rB h).1
    unfold RSc
    rw [zr_ne (Or.inl (by decide)), hc' 1 0 (by omega), al 30 (by decide) (by omega), al 31 (by decide) (by omega), al 2 (by decide) (by omega), al 0 (by decide) (by omega), al 32 (by decide) (by omega), al 1 (by decide) (by omega), al 33 (by decide) (by omega), al 34 (by decide) (by omega), al 35 (by decide) (by omega), al 4 (by decide) (by omega)]
    exact ⟨b0, b1, b2', b3, b4, b5, b6, b7, b8, b9⟩
  · have cne : ∀ f, f ≠ 7 → (zwI b2 7 0 0 (nI l)).1 f 0 = b2.1 f 0 := fun f hf => zr_ne (Or.inl hf)
    unfold RSt
    rw [e3, v3, cne 12 (by decide), cne 13 (by decide), cne 14 (by decide)]
    refine ⟨by rw [zw_at, if_pos ⟨rfl, rfl, rfl⟩], fun i hi => ?_⟩
    rw [hne (5 + 3 * i) (by omega), hne (5 + 3 * i + 1) (by omega), hne (5 + 3 * i + 2) (by omega)]
    exact hrow i (by omega)
end PURE
