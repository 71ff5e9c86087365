/-! PURE LAYER: what is kept; step, undo -/
section PURE
variable {σ σ' σc σm σc' σm' : zG} {g g' : zGa}
theorem sh_t {t t' : zGa} (h : ∀ k, k < 30 → t' k = t k) : aShN t' = aShN t := by unfold aShN; rw [h 4 (by decide)]
theorem top_t {t t' : zGa} (h : ∀ k, k < 30 → t' k = t k) (hT : Top g t) : Top g t' := by
  have a0 : aMin t' = aMin t := by unfold aMin; rw [h 0 (by decide)]
  have a1 : aStep t' = aStep t := by unfold aStep; rw [h 1 (by decide)]
  have a3 : aSN t' = aSN t := by unfold aSN; rw [h 3 (by decide)]
  have a8 := tp_SN hT
  unfold Top at hT ⊢
  rw [a0, a1, a3, sh_t h, h 0 (by decide), h 1 (by decide), h 3 (by decide), h 4 (by decide)]
  refine ⟨hT.1, hT.2.1, hT.2.2.1, hT.2.2.2.1, fun i hi => ?_, hT.2.2.2.2.2⟩
  rw [h (5 + 3 * i) (by omega)]
  exact hT.2.2.2.2.1 i hi
theorem rst_t {t t' : zGa} {s : Nat} (h : ∀ k, k < 30 → t' k = t k) (h8 : aSN t ≤ 8) (hR : RSt σ s t) : RSt σ s t' := by
  have a3 : aSN t' = aSN t := by unfold aSN; rw [h 3 (by decide)]
  unfold RSt at hR ⊢
  rw [a3, h 3 (by decide)]
  refine ⟨hR.1, fun i hi => ?_⟩
  rw [h (5 + 3 * i) (by omega), h (5 + 3 * i + 1) (by omega), h (5 + 3 * i + 2) (by omega)]
  exact hR.2 i hi
/-- the model keeps -/
theorem m_keep49 {n : Nat} (hn : n ≤ 5) (h3 : σ.1 0 0 3 = nI n) : ∃ sm, j_X12_keeps_49 σ = some sm ∧ (∀ f, f ≠ 0 → f ≠ 3 → sm.1 f = σ.1 f) ∧ (∀ k, k ≠ 3 → sm.1 0 0 k = σ.1 0 0 k) ∧ sm.1 0 0 3 = nI (n + 1) ∧ (∀ k, k < 30 → sm.1 3 0 (30 * n + k) = σ.1 1 0 k) ∧ ∀ k, k < 30 * n → sm.1 3 0 k = σ.1 3 0 k := by
  unfold j_X12_keeps_49
  obtain ⟨s, e, h1, h2, h4⟩ := zlp_run (f := fun q : Int32 × zG => b_X12_keeps_51 q.1 q.2) 30 (fun k q => q.1 = nI k ∧ Smf 3 σ q.2 ∧ (∀ j, j < k → q.2.1 3 0 (30 * n + j) = σ.1 1 0 j) ∧ ∀ j, j < 30 * n → q.2.1 3 0 j = σ.1 3 0 j) (fun s => Smf 3 σ s ∧ (∀ j, j < 30 → s.1 3 0 (30 * n + j) = σ.1 1 0 j) ∧ ∀ j, j < 30 * n → s.1 3 0 j = σ.1 3 0 j) (a := ((0 : Int32), σ)) ⟨rfl, Smf.refl _ _, fun j hj => absurd hj (Nat.not_lt_zero j), fun _ _ => rfl⟩ (by
    rintro k hk ⟨_, s⟩ ⟨rfl, h1, h2, h4⟩
    right
    have h1' : Smf 3 σ s := h1
    have l30 : nI k < 30 := nI_lt (b := 30) hk (by decide)
    have e3 : s.1 0 0 3 = nI n := by rw [h1'.1 0 (by decide)]; exact h3
    have ei : (30 : Int32) * nI n + nI k = nI (30 * n + k) := by simp only [zlit, nI_add, pk_mul]
    unfold b_X12_keeps_51
    rw [e3, ei]
    simp (disch := omega) only [l30, if_true, zin_nI, show k < 9248 by omega, show 30 * n + k < 180 by omega, decide_true, zgT, nI_clamp, zb, nI_1]
    refine ⟨_, rfl, rfl, h1'.trans (smf_w 3 s _ _ _), fun j hj => ?_, fun j hj => ?_⟩
    · show (zwI s 3 0 (30 * n + k) (s.1 1 0 k)).1 3 0 (30 * n + j) = _
      rw [zw_at]
      by_cases q : j = k
      · rw [if_pos ⟨rfl, rfl, by omega⟩, h1'.1 1 (by decide), q]
      · rw [if_neg (fun z => by omega)]
        exact h2 j (by omega)
    · show (zwI s 3 0 (30 * n + k) (s.1 1 0 k)).1 3 0 j = _
      rw [zw_at, if_neg (fun z => by omega)]
      exact h4 j hj) (by
    rintro ⟨_, s⟩ ⟨rfl, h1, h2, h4⟩
    unfold b_X12_keeps_51
    rw [if_neg (show ¬ (nI 30 : Int32) < 30 by decide)]
    exact ⟨_, rfl, h1, h2, h4⟩)
  rw [e, Option.bind_some]
  simp only [zb]
  have e3 : s.1 0 0 3 = nI n := by rw [h1.1 0 (by decide)]; exact h3
  rw [e3, nI_1]
  refine ⟨_, rfl, fun f f0 f3 => ?_, fun k hk => ?_, ?_, fun k hk => ?_, fun k hk => ?_⟩
  · rw [zf_ne f0, h1.1 f f3]
  · rw [zw_at, if_neg (fun z => hk z.2.2), h1.1 0 (by decide)]
  · rw [zw_at, if_pos ⟨rfl, rfl, rfl⟩]
  · rw [zf_ne (by decide)]; exact h2 k hk
  · rw [zf_ne (by decide)]; exact h4 k hk
theorem m_keeps {n : Nat} (hn : n ≤ 6) (h3 : σ.1 0 0 3 = nI n) : ∃ sm, f_X12_keeps σ = some sm ∧ (∀ f, f ≠ 0 → f ≠ 3 → sm.1 f = σ.1 f) ∧ (∀ k, k ≠ 3 → sm.1 0 0 k = σ.1 0 0 k) ∧ sm.1 0 0 3 = nI (min n 5 + 1) ∧ (∀ k, k < 30 → sm.1 3 0 (30 * min n 5 + k) = σ.1 1 0 k) ∧ ∀ k, k < 30 * min n 5 → sm.1 3 0 k = σ.1 3 0 (k + 30 * (n - min n 5)) := by
  unfold f_X12_keeps
  rw [h3]
  have e6 : (nI n = 6) = (n = 6) := nI_eqI (b := 6) (by omega) (by decide)
  simp only [e6]
  by_cases q : n = 6
  · subst q
    rw [if_pos rfl]
    obtain ⟨s, e, h1, h2⟩ := zlp_run (f := fun q : Int32 × zG => b_X12_keeps_11 q.1 q.2) 150 (fun k q => q.1 = nI k ∧ Smf 3 σ q.2 ∧ ∀ j, q.2.1 3 0 j = if j < k then σ.1 3 0 (j + 30) else σ.1 3 0 j) (fun s => Smf 3 σ s ∧ ∀ j, s.1 3 0 j = if j < 150 then σ.1 3 0 (j + 30) else σ.1 3 0 j) (a := ((0 : Int32), σ)) ⟨rfl, Smf.refl _ _, fun j => by rw [if_neg (Nat.not_lt_zero j)]⟩ (by
      rintro k hk ⟨_, s⟩ ⟨rfl, h1, h2⟩
      right
      have h1' : Smf 3 σ s := h1
      have h2' : ∀ j, s.1 3 0 j = if j < k then σ.1 3 0 (j + 30) else σ.1 3 0 j := h2
      have l150 : nI k < 150 := nI_lt (b := 150) hk (by decide)
      have ei : nI k + (30 : Int32) = nI (k + 30) := nI_add k 30
      unfold b_X12_keeps_11
      rw [ei]
      simp (disch := omega) only [l150, if_true, zin_nI, show k + 30 < 180 by omega, show k < 180 by omega, decide_true, zgT, nI_clamp, zb, nI_1]
      refine ⟨_, rfl, rfl, h1'.trans (smf_w 3 s _ _ _), fun j => ?_⟩
      show (zwI s 3 0 k (s.1 3 0 (k + 30))).1 3 0 j = _
      rw [zw_at]
      by_cases q : j = k
      · rw [if_pos ⟨rfl, rfl, q⟩, h2', if_neg (by omega), if_pos (by omega), q]
      · rw [if_neg (fun z => q z.2.2), h2']
        by_cases z : j < k
        · rw [if_pos z, if_pos (by omega)]
        · rw [if_neg z, if_neg (by omega)]) (by
      rintro ⟨_, s⟩ ⟨rfl, h1, h2⟩
      unfold b_X12_keeps_11
      rw [if_neg (show ¬ (nI 150 : Int32) < 150 by decide)]
      exact ⟨_, rfl, h1, h2⟩)
    rw [e, Option.bind_some]
    simp only [zb]
    have e3 : s.1 0 0 3 = nI 6 := by rw [h1.1 0 (by decide)]; exact h3
    rw [e3, pm1' (by decide)]
    obtain ⟨sm, a1, a2, a3, a4, a5, a6⟩ := m_keep49 (σ := zwI s 0 0 3 (nI (6 - 1))) (n := 5) (by decide) (by rw [zw_at, if_pos ⟨rfl, rfl, rfl⟩])
    refine ⟨sm, a1, fun f f0 f3 => ?_, fun k hk => ?_, a4, fun k hk => ?_, fun k hk => ?_⟩
    · rw [a2 f f0 f3, zf_ne f0, h1.1 f f3]
    · rw [a3 k hk, zw_at, if_neg (fun z => hk z.2.2), h1.1 0 (by decide)]
    · have := a5 k hk
      rw [zf_ne (by decide), h1.1 1 (by decide)] at this
      exact this
    · have hk' : k < 150 := hk
      have := a6 k hk'
      rw [zf_ne (by decide), h2 k, if_pos hk'] at this
      exact this
  · rw [if_neg q]
    obtain ⟨sm, a1, a2, a3, a4, a5, a6⟩ := m_keep49 (σ := σ) (n := n) (by omega) h3
    have em : min n 5 = n := by omega
    rw [em, Nat.sub_self, Nat.mul_zero]
    exact ⟨sm, a1, a2, a3, a4, a5, fun k hk => by rw [Nat.add_zero]; exact a6 k hk⟩
/-- the class copies strangers -/
theorem c_copySt (i p : Nat) (hne : i ≠ p) : (∀ f j, ¬ ((f = 7 ∨ f = 12 ∨ f = 13 ∨ f = 14) ∧ j = i) → (f_X7_copyFrom i p σ).1 f j = σ.1 f j) ∧ (f_X7_copyFrom i p σ).2 = σ.2 ∧ (f_X7_copyFrom i p σ).1 7 i 0 = σ.1 7 p 0 ∧ ∀ k, k < 8 → (f_X7_copyFrom i p σ).1 12 i k = σ.1 12 p k ∧ (f_X7_copyFrom i p σ).1 13 i k = σ.1 13 p k ∧ (f_X7_copyFrom i p σ).1 14 i k = σ.1 14 p k := by
  unfold f_X7_copyFrom
  simp only [zb]
  refine ⟨fun f j h => ?_, rfl, ?_, fun k hk => ⟨?_, ?_, ?_⟩⟩
  · funext k
    show (if f = 14 ∧ j = i ∧ k < 8 then _ else if f = 13 ∧ j = i ∧ k < 8 then _ else if f = 12 ∧ j = i ∧ k < 8 then _ else if f = 7 ∧ j = i ∧ k = 0 then _ else σ.1 f j k) = _
    rw [if_neg (fun z => h ⟨by omega, z.2.1⟩), if_neg (fun z => h ⟨by omega, z.2.1⟩), if_neg (fun z => h ⟨by omega, z.2.1⟩), if_neg (fun z => h ⟨by omega, z.2.1⟩)]
  · simp [zcpI, zwI]
  · simp [zcpI, zwI, hk]
  · simp [zcpI, zwI, hk]
  · simp [zcpI, zwI, hk]
/-- both keep -/
theorem keep_two [Inhabited BFT] (h : Rel σc σm) : ∃ sc sm, f_X2_keep 0 σc = some sc ∧ f_X12_keeps σm = some sm ∧ Rel sc sm ∧ sm.1 1 = σm.1 1 ∧ (∀ f i, rws 0 f i = true → sc.1 f i = σc.1 f i ∧ sc.2 f i = σc.2 f i) := by
  have hI := rI h
  have hSN := tp_SN (iv_Top hI)
  obtain ⟨fi, n, f6, n6, k0, k1, k2, k3, mo⟩ := h.2.2.1
  obtain ⟨sm, m1, m2, m3, m4, m5, m6⟩ := m_keeps (σ := σm) n6 k2
  -- the class
  have hp6 : (fi + n) % 6 < 6 := Nat.mod_lt _ (by decide)
  have main : ∀ s : zG, (∀ f i, f ≠ 2 → s.1 f i = σc.1 f i) → s.2 = σc.2 → ∃ sc, j_X2_keep_48 0 (nI ((fi + n) % 6)) s = some sc ∧ (∀ f i, ¬ (f = 33 ∨ f = 34 ∨ f = 35 ∨ f = 36) → ¬ ((f = 7 ∨ f = 12 ∨ f = 13 ∨ f = 14) ∧ i = 1 + (fi + n) % 6) → sc.1 f i = s.1 f i) ∧ sc.2 = s.2 ∧ sc.1 33 0 = upd (σc.1 33 0) ((fi + n) % 6) (σc.1 1 0 2) ∧ sc.1 34 0 = upd (σc.1 34 0) ((fi + n) % 6) (σc.1 1 0 3) ∧ sc.1 35 0 = upd (σc.1 35 0) ((fi + n) % 6) (σc.1 1 0 5) ∧ sc.1 36 0 = upd (σc.1 36 0) ((fi + n) % 6) (σc.1 1 0 9) ∧ sc.1 7 (1 + (fi + n) % 6) 0 = σc.1 7 0 0 ∧ ∀ k, k < 8 → sc.1 12 (1 + (fi + n) % 6) k = σc.1 12 0 k ∧ sc.1 13 (1 + (fi + n) % 6) k = σc.1 13 0 k ∧ sc.1 14 (1 + (fi + n) % 6) k = σc.1 14 0 k := by
    intro s hs hs2
    generalize hP : (fi + n) % 6 = P
    rw [hP] at hp6
    unfold j_X2_keep_48
    simp (disch := omega) only [zin_nI, hp6, decide_true, zgT, nI_clamp, zb, Nat.mul_zero]
    generalize ht4 : zwI s 33 0 P (s.1 1 0 2) = t4
    have r4 : ∀ f i, f ≠ 33 → t4.1 f i = s.1 f i := fun f i hf => by rw [← ht4, zr_ne (Or.inl hf)]
    generalize ht5 : zwI t4 34 0 P (t4.1 1 0 3) = t5
    have r5 : ∀ f i, f ≠ 34 → t5.1 f i = t4.1 f i := fun f i hf => by rw [← ht5, zr_ne (Or.inl hf)]
    generalize ht6 : zwI t5 35 0 P (t5.1 1 0 5) = t6
    have r6 : ∀ f i, f ≠ 35 → t6.1 f i = t5.1 f i := fun f i hf => by rw [← ht6, zr_ne (Or.inl hf)]
    generalize ht7 : zwI t6 36 0 P (t6.1 1 0 9) = t7
    have r7 : ∀ f i, f ≠ 36 → t7.1 f i = t6.1 f i := fun f i hf => by rw [← ht7, zr_ne (Or.inl hf)]
    have u2 : t7.2 = s.2 := by rw [← ht7, ← ht6, ← ht5, ← ht4]; rfl
    obtain ⟨c1, c2, c3, c4⟩ := c_copySt (σ := t7) (1 + P) 0 (by omega)
    have cc : ∀ f i, ¬ (f = 7 ∨ f = 12 ∨ f = 13 ∨ f = 14) → (f_X7_copyFrom (1 + P) 0 t7).1 f i = t7.1 f i := fun f i hf => c1 f i (fun z => hf z.1)
    refine ⟨_, rfl, fun f i hf1 hf2 => ?_, by rw [c2, u2], ?_, ?_, ?_, ?_, ?_, fun k hk => ?_⟩
    · rw [c1 f i hf2, r7 f i (by omega), r6 f i (by omega), r5 f i (by omega), r4 f i (by omega)]
    · rw [cc 33 0 (by decide), r7 33 0 (by decide), r6 33 0 (by decide), r5 33 0 (by decide), ← ht4, zw_row, hs 33 0 (by decide), hs 1 0 (by decide)]
    · rw [cc 34 0 (by decide), r7 34 0 (by decide), r6 34 0 (by decide), ← ht5, zw_row, r4 34 0 (by decide), r4 1 0 (by decide), hs 34 0 (by decide), hs 1 0 (by decide)]
    · rw [cc 35 0 (by decide), r7 35 0 (by decide), ← ht6, zw_row, r5 35 0 (by decide), r4 35 0 (by decide), r5 1 0 (by decide), r4 1 0 (by decide), hs 35 0 (by decide), hs 1 0 (by decide)]
    · rw [cc 36 0 (by decide), ← ht7, zw_row, r6 36 0 (by decide), r5 36 0 (by decide), r4 36 0 (by decide), r6 1 0 (by decide), r5 1 0 (by decide), r4 1 0 (by decide), hs 36 0 (by decide), hs 1 0 (by decide)]
    · rw [c3, r7 7 0 (by decide), r6 7 0 (by decide), r5 7 0 (by decide), r4 7 0 (by decide), hs 7 0 (by decide)]
    · obtain ⟨x1, x2, x3⟩ := c4 k hk
      rw [x1, x2, x3]
      have e : ∀ f, f = 12 ∨ f = 13 ∨ f = 14 → t7.1 f 0 = σc.1 f 0 := fun f hf => by rw [r7 f 0 (by omega), r6 f 0 (by omega), r5 f 0 (by omega), r4 f 0 (by omega), hs f 0 (by omega)]
      rw [e 12 (by simp), e 13 (by simp), e 14 (by simp)]
      exact ⟨rfl, rfl, rfl⟩
  have rem6 : zrem (nI fi + nI n) 6 = nI ((fi + n) % 6) := by
    rw [nI_add]
    exact zrem_nI (a := fi + n) (d := 6) (by omega) (by decide) (by decide)
  have hc : ∃ sc fi', f_X2_keep 0 σc = some sc ∧ fi' < 6 ∧ (∀ j, j ≤ min n 5 → (fi' + j) % 6 = (fi + (j + (n - min n 5))) % 6) ∧ sc.1 2 0 0 = nI fi' ∧ sc.1 2 0 1 = nI (min n 5 + 1) ∧ (∀ f i, f ≠ 2 → ¬ (f = 33 ∨ f = 34 ∨ f = 35 ∨ f = 36) → ¬ ((f = 7 ∨ f = 12 ∨ f = 13 ∨ f = 14) ∧ i = 1 + (fi + n) % 6) → sc.1 f i = σc.1 f i) ∧ sc.2 = σc.2 ∧ sc.1 33 0 = upd (σc.1 33 0) ((fi + n) % 6) (σc.1 1 0 2) ∧ sc.1 34 0 = upd (σc.1 34 0) ((fi + n) % 6) (σc.1 1 0 3) ∧ sc.1 35 0 = upd (σc.1 35 0) ((fi + n) % 6) (σc.1 1 0 5) ∧ sc.1 36 0 = upd (σc.1 36 0) ((fi + n) % 6) (σc.1 1 0 9) ∧ sc.1 7 (1 + (fi + n) % 6) 0 = σc.1 7 0 0 ∧ ∀ k, k < 8 → sc.1 12 (1 + (fi + n) % 6) k = σc.1 12 0 k ∧ sc.1 13 (1 + (fi + n) % 6) k = σc.1 13 0 k ∧ sc.1 14 (1 + (fi + n) % 6) k = σc.1 14 0 k := by
    unfold f_X2_keep
    rw [k0, k1, rem6, nI_1, nI_1]
    have l6 : (nI n < 6) = (n < 6) := nI_ltQ (b := 6) (by omega) (by decide)
    simp only [l6, zb]
    by_cases q : n < 6
    · rw [if_pos q]
      obtain ⟨sc, e, a1, a2, a3, a4, a5, a6, a7, a8⟩ := main (zwI σc 2 0 1 (nI (n + 1))) (fun f i hf => zr_ne (Or.inl hf)) rfl
      have em : min n 5 = n := by omega
      rw [em, Nat.sub_self]
      refine ⟨sc, fi, e, f6, fun j _ => by rw [Nat.add_zero], ?_, ?_, fun f i g1 g2 g3 => by rw [a1 f i g2 g3, zr_ne (Or.inl g1)], a2, a3, a4, a5, a6, a7, a8⟩
      · rw [a1 2 0 (by decide) (by omega), zw_at, if_neg (by decide)]; exact k0
      · rw [a1 2 0 (by decide) (by omega), zw_at, if_pos ⟨rfl, rfl, rfl⟩]
    · rw [if_neg q]
      have n6' : n = 6 := by omega
      subst n6'
      have er : zrem (nI (fi + 1)) 6 = nI ((fi + 1) % 6) := zrem_nI (a := fi + 1) (d := 6) (by omega) (by decide) (by decide)
      rw [er]
      obtain ⟨sc, e, a1, a2, a3, a4, a5, a6, a7, a8⟩ := main (zwI σc 2 0 0 (nI ((fi + 1) % 6))) (fun f i hf => zr_ne (Or.inl hf)) rfl
      refine ⟨sc, (fi + 1) % 6, e, Nat.mod_lt _ (by decide), fun j hj => by omega, ?_, ?_, fun f i g1 g2 g3 => by rw [a1 f i g2 g3, zr_ne (Or.inl g1)], a2, a3, a4, a5, a6, a7, a8⟩
      · rw [a1 2 0 (by decide) (by omega), zw_at, if_pos ⟨rfl, rfl, rfl⟩]
      · rw [a1 2 0 (by decide) (by omega), zw_at, if_neg (by decide)]; exact k1
  obtain ⟨sc, fi', e, hf', hj', c0, c1, cr, cr2, c33, c34, c35, c36, c7, c12⟩ := hc
  have em : sm.1 1 = σm.1 1 := m2 1 (by decide) (by decide)
  have rb0 : ∀ b, b = 0 ∨ b = 1 → ∀ f i, rws b f i = true → sc.1 f i = σc.1 f i ∧ sc.2 f i = σc.2 f i := fun b hb f i hr => by
    refine ⟨cr f i ?_ ?_ ?_, by rw [cr2]⟩ <;> intro z <;> unfold rws at hr <;> simp only [Bool.or_eq_true, Bool.and_eq_true, beq_iff_eq, decide_eq_true_eq] at hr <;> omega
  refine ⟨sc, sm, e, m1, ?_, em, rb0 0 (Or.inl rfl)⟩
  have r0 : REq (rws 0) σc sc := rb0 0 (Or.inl rfl)
  have r1 : REq (rws 1) σc sc := rb0 1 (Or.inr rfl)
  have fne : ∀ f, f = 0 ∨ f = 3 ∨ f = 4 ∨ f = 38 → sc.1 f = σc.1 f := fun f hf => funext fun i => cr f i (by omega) (by omega) (by omega)
  obtain ⟨q1, q2, q3⟩ := rest_ok h (σc' := sc) (σm' := sm) ⟨r1, by rw [fne 0 (by simp)], fne 3 (by simp), fne 38 (by simp), fne 4 (by simp)⟩ ⟨m2 2 (by decide) (by decide), m2 8 (by decide) (by decide), m3 4 (by decide), m3 16 (by decide), m3 23 (by decide), m3 25 (by decide)⟩
  refine ⟨?_, by rw [em]; exact hI, ?_, q1, q2, q3⟩
  · rw [em]
    refine rb_top (rB h) (fun f i hr => r0 f i (Bool.and_eq_true_iff.mp hr).1) (fun _ _ => rfl) (Nat.le_refl _) (tp_Sh (iv_Top hI)).2 ?_ ?_
    · unfold RSc; rw [(r0 1 0 rfl).1]; exact (rB h).1
    · unfold RSt
      rw [(r0 7 (7 * 0) rfl).1, (r0 12 (7 * 0) rfl).1, (r0 13 (7 * 0) rfl).1, (r0 14 (7 * 0) rfl).1]
      exact (rB h).2.1
  · have erN : ∀ k, k < 30 → (fun k => sm.1 3 0 (30 * min n 5 + k)) k = σm.1 1 0 k := fun k hk => m5 k hk
    have erO : ∀ j, j < min n 5 → ∀ k, k < 30 → (fun k => sm.1 3 0 (30 * j + k)) k = (fun k => σm.1 3 0 (30 * (j + (n - min n 5)) + k)) k := fun j jl k hk => by
      show sm.1 3 0 (30 * j + k) = σm.1 3 0 (30 * (j + (n - min n 5)) + k)
      rw [m6 (30 * j + k) (by omega), show 30 * j + k + 30 * (n - min n 5) = 30 * (j + (n - min n 5)) + k by rw [Nat.mul_add]; omega]
    refine ⟨fi', min n 5 + 1, hf', by omega, c0, c1, m4, fun j hj => ?_, fun j j' h1 h2 => ?_⟩
    rotate_left
    · rw [sh_t (erO j (by omega))]
      by_cases q : j' = min n 5
      · rw [q, sh_t erN]
        exact (k3 (j + (n - min n 5)) (by omega)).2.1
      · rw [sh_t (erO j' (by omega))]
        exact mo _ _ (by omega) (by omega)
    by_cases q : j = min n 5
    · -- the newest
      have ej : (fi' + j) % 6 = (fi + n) % 6 := by rw [hj' j (by omega), show j + (n - min n 5) = n by omega]
      have er : ∀ k, k < 30 → (fun k => sm.1 3 0 (30 * j + k)) k = σm.1 1 0 k := fun k hk => by
        show sm.1 3 0 (30 * j + k) = _
        rw [q]; exact m5 k hk
      have hT := iv_Top hI
      obtain ⟨b0, b1, b2, b3, b4, b5, b6, b7, b8, b9⟩ := (rB h).1
      have hst := (rB h).2.1
      rw [em, ej, c33, c34, c35, c36, pk_us, pk_us, pk_us, pk_us]
      refine ⟨top_t er hT, by rw [sh_t er]; exact Nat.le_refl _, b2.trans (er 2 (by decide)).symm, b3.trans (er 0 (by decide)).symm, b5.trans (er 1 (by decide)).symm, b9.trans (er 4 (by decide)).symm, rst_t er hSN.2 ⟨?_, fun i hi => ?_⟩⟩
      · rw [c7]; exact hst.1
      · obtain ⟨x1, x2, x3⟩ := c12 i (by omega)
        rw [x1, x2, x3]
        exact hst.2 i hi
    · have jl : j < min n 5 := by omega
      have jn : j + (n - min n 5) < n := by omega
      obtain ⟨x1, x2, x3, x4, x5, x6, x7⟩ := k3 (j + (n - min n 5)) jn
      have ej := hj' j (by omega)
      have er : ∀ k, k < 30 → (fun k => sm.1 3 0 (30 * j + k)) k = (fun k => σm.1 3 0 (30 * (j + (n - min n 5)) + k)) k := fun k hk => by
        show sm.1 3 0 (30 * j + k) = σm.1 3 0 (30 * (j + (n - min n 5)) + k)
        rw [m6 (30 * j + k) (by omega), show 30 * j + k + 30 * (n - min n 5) = 30 * (j + (n - min n 5)) + k by rw [Nat.mul_add]; omega]
      have pne : (fi + (j + (n - min n 5))) % 6 ≠ (fi + n) % 6 := by omega
      rw [em, ej, c33, c34, c35, c36, pk_un pne, pk_un pne, pk_un pne, pk_un pne]
      refine ⟨top_t er x1, by rw [sh_t er]; exact x2, x3.trans (er 2 (by decide)).symm, x4.trans (er 0 (by decide)).symm, x5.trans (er 1 (by decide)).symm, x6.trans (er 4 (by decide)).symm, rst_t er (tp_SN x1).2 ?_⟩
      have rr : ∀ f, (f = 7 ∨ f = 12 ∨ f = 13 ∨ f = 14) → sc.1 f (1 + (fi + (j + (n - min n 5))) % 6) = σc.1 f (1 + (fi + (j + (n - min n 5))) % 6) := fun f hf => cr f _ (by omega) (by omega) (by omega)
      unfold RSt at x7 ⊢
      rw [rr 7 (by simp), rr 12 (by simp), rr 13 (by simp), rr 14 (by simp)]
      exact x7
end PURE
