/-! PURE LAYER: set, paste -/
section PURE
variable {σ σ' σc σm σc' σm' : zG} {g g' : zGa}
/-- a number is told: class cell ks at slot q, model's w at j -/
theorem num_rel [Inhabited BFT] (h : Rel σc σm) {sc sm : zG} (hc : ∀ p : Nat → Nat → Bool, p 1 0 = false → p 2 0 = false → REq p σc sc) (hf : sc.1 0 0 6 = σc.1 0 0 6 ∧ sc.1 3 = σc.1 3 ∧ sc.1 38 = σc.1 38 ∧ sc.1 4 = σc.1 4 ∧ sc.1 2 0 0 = σc.1 2 0 0 ∧ sc.1 2 0 1 = 0) (hs7 : sc.1 7 0 = σc.1 7 0 ∧ sc.1 12 0 = σc.1 12 0 ∧ sc.1 13 0 = σc.1 13 0 ∧ sc.1 14 0 = σc.1 14 0 ∧ sc.1 32 0 = σc.1 32 0)
    (hm : RestM σm sm) (hk : sm.1 0 0 3 = 0) (hg : ∀ k, k ≠ 1 → ¬ (32 ≤ k ∧ k ≤ 35) → sm.1 1 0 k = σm.1 1 0 k) (hI : Inv (sm.1 1 0)) (hsc : RSc sc 0 (sm.1 1 0)) : Rel sc sm := by
  have hSN := tp_SN (iv_Top (rI h))
  have hN := tp_Sh (iv_Top (rI h))
  have eS : aShN (sm.1 1 0) = aShN (σm.1 1 0) := by unfold aShN; rw [hg 4 (by decide) (by decide)]
  have eN : aSN (sm.1 1 0) = aSN (σm.1 1 0) := by unfold aSN; rw [hg 3 (by decide) (by decide)]
  obtain ⟨f1, f2, f3, f4, f5, f6⟩ := hf
  obtain ⟨g7, g12, g13, g14, g32⟩ := hs7
  obtain ⟨q1, q2, q3⟩ := rest_ok h (σc' := sc) (σm' := sm) ⟨hc _ rfl rfl, f1, f2, f3, f4⟩ hm
  refine ⟨rb_gen (rB h) (hc _ rfl rfl) (fun k h1 h2 => hg k (by omega) (by omega)) (by omega) hN.2 hsc ?_ (fun c hc => ?_), hI, kp_zero h.2.2.1 f5 f6 hk, q1, q2, q3⟩
  · have hst := (rB h).2.1
    unfold RSt at hst ⊢
    rw [Nat.mul_zero] at hst ⊢
    rw [eN, hg 3 (by decide) (by decide), g7, g12, g13, g14]
    refine ⟨hst.1, fun i hi => ?_⟩
    rw [hg (5 + 3 * i) (by omega) (by omega), hg (5 + 3 * i + 1) (by omega) (by omega), hg (5 + 3 * i + 2) (by omega) (by omega)]
    exact hst.2 i hi
  · rw [g32, hg (40 + c) (by omega) (by omega)]
    exact (rB h).2.2.2.2.2.2 c hc
theorem top_num (hI : Inv g) (hg : ∀ k, k ≠ 1 → ¬ (32 ≤ k ∧ k ≤ 35) → g' k = g k) (h1 : g' 1 = nI (aStep g') ∧ aStep g' + aWide g' ≤ aW g') : Top g' g' := by
  have hT := iv_Top hI
  have hSN := tp_SN hT
  have a0 : aMin g' = aMin g := by unfold aMin; rw [hg 0 (by decide) (by decide)]
  have eS : aShN g' = aShN g := by unfold aShN; rw [hg 4 (by decide) (by decide)]
  have eN : aSN g' = aSN g := by unfold aSN; rw [hg 3 (by decide) (by decide)]
  have e2 : aW g' = aW g := by unfold aW; rw [hg 30 (by decide) (by decide)]
  have e3 : aH g' = aH g := by unfold aH; rw [hg 31 (by decide) (by decide)]
  have e4 : sp g' = sp g := by funext c; unfold sp; rw [e2, e3]
  unfold Top
  rw [a0, eS, eN, e4, hg 0 (by decide) (by decide), hg 3 (by decide) (by decide), hg 4 (by decide) (by decide)]
  refine ⟨hT.1, h1, hT.2.2.1, hT.2.2.2.1, fun i hi => ?_, fun c hc => ?_⟩
  · rw [hg (5 + 3 * i) (by omega) (by omega)]
    exact hT.2.2.2.2.1 i hi
  · rw [hg (40 + c) (by omega) (by omega)]
    exact hT.2.2.2.2.2 c hc
theorem in_cs (x : Int32) (a b : Nat) (ha : a ≤ b) (hb : b < 2 ^ 30) : (∃ v, a ≤ v ∧ v ≤ b ∧ x = nI v ∧ nI a ≤ x ∧ ¬ nI b < x ∧ f_X12_isIn x (nI a) (nI b) = 1) ∨ (f_X12_isIn x (nI a) (nI b) = 0 ∧ (¬ nI a ≤ x ∨ (nI a ≤ x ∧ nI b < x))) := by
  rcases isIn_lit x a b ha hb with ⟨j, h1, h2, rfl, r⟩ | ⟨-, r, r2⟩
  · exact Or.inl ⟨j, h1, h2, rfl, nI_le h1 (by omega), i_nlt.mpr (nI_le h2 (by omega)), r⟩
  · refine Or.inr ⟨r, ?_⟩
    by_cases q : nI a ≤ x
    · exact Or.inr ⟨q, i_nle.mp fun z => r2 ⟨q, z⟩⟩
    · exact Or.inl q
theorem set_rel [Inhabited BFT] (h : Rel σc σm) {q j v : Nat} (hqj : (q = 6 ∧ j = 33 ∧ v ≤ 1000) ∨ (q = 7 ∧ j = 34 ∧ 1 ≤ v ∧ v ≤ 60) ∨ (q = 8 ∧ j = 35 ∧ v ≤ 99)) : Rel (zwI (zwI σc 1 0 q (nI v)) 2 0 1 0) (zwI (zwI σm 1 0 j (nI v)) 0 0 3 0) := by
  generalize hc : zwI (zwI σc 1 0 q (nI v)) 2 0 1 0 = sc
  generalize hm : zwI (zwI σm 1 0 j (nI v)) 0 0 3 0 = sm
  have eg : sm.1 1 0 = upd (σm.1 1 0) j (nI v) := by
    rw [← hm, zr_ne (Or.inl (by decide))]
    exact zw_row σm 1 0 j (nI v)
  have sc1 : sc.1 1 0 = upd (σc.1 1 0) q (nI v) := by
    rw [← hc, zr_ne (Or.inl (by decide))]
    exact zw_row σc 1 0 q (nI v)
  have jr : 33 ≤ j ∧ j ≤ 35 := by omega
  have vr : v < 2 ^ 31 := by omega
  have hne : ∀ k, k ≠ j → sm.1 1 0 k = σm.1 1 0 k := fun k hk => by rw [eg, pk_un hk]
  have hj : sm.1 1 0 j = nI v := by rw [eg, pk_us]
  have hI := rI h
  have hT := tp_St (iv_Top hI)
  have eW : aW (sm.1 1 0) = aW (σm.1 1 0) := by unfold aW; rw [hne 30 (by omega)]
  have eWd : aWide (sm.1 1 0) = aWide (σm.1 1 0) := by unfold aWide; rw [hne 32 (by omega)]
  have eSt : aStep (sm.1 1 0) = aStep (σm.1 1 0) := by unfold aStep; rw [hne 1 (by omega)]
  have hD := iv_Wd hI
  have hCo : σm.1 1 0 33 = nI (aCom (σm.1 1 0)) ∧ aCom (σm.1 1 0) ≤ 1000 := hI.2.2.2.1
  have hSy : σm.1 1 0 34 = nI (aStay (σm.1 1 0)) ∧ 1 ≤ aStay (σm.1 1 0) ∧ aStay (σm.1 1 0) ≤ 60 := hI.2.2.2.2.1
  have hGr : σm.1 1 0 35 = nI (aGrey (σm.1 1 0)) ∧ aGrey (σm.1 1 0) ≤ 99 := hI.2.2.2.2.2.1
  have hI' : Inv (sm.1 1 0) := by
    refine inv_gen hI (fun k h1 h2 => hne k (by omega)) (hne 30 (by omega)) (hne 31 (by omega)) ?_ ?_ ?_ ?_ ?_ ?_
    · rw [eWd, eW, hne 32 (by omega)]; exact hD
    · unfold aCom
      by_cases z : j = 33
      · subst z; rw [hj, nI_clamp vr]; exact ⟨rfl, by omega⟩
      · rw [hne 33 (by omega)]; exact hCo
    · unfold aStay
      by_cases z : j = 34
      · subst z; rw [hj, nI_clamp vr]; exact ⟨rfl, by omega, by omega⟩
      · rw [hne 34 (by omega)]; exact hSy
    · unfold aGrey
      by_cases z : j = 35
      · subst z; rw [hj, nI_clamp vr]; exact ⟨rfl, by omega⟩
      · rw [hne 35 (by omega)]; exact hGr
    · refine top_num hI (fun k h1 h2 => hne k (by omega)) ?_
      rw [eSt, eWd, eW, hne 1 (by omega)]
      exact hT
    · unfold aShN; rw [hne 4 (by omega)]; exact Nat.le_refl _
  refine num_rel h (fun p h1 h2 => by rw [← hc]; exact (req_w h1).trans (req_w h2)) ?_ ?_ ?_ (by rw [← hm]; simp [zw_at]) (fun k h1 h2 => hne k (by omega)) hI' ?_
  · rw [← hc]
    refine ⟨?_, ?_, ?_, ?_, ?_, ?_⟩
    · rw [zr_ne (Or.inl (by decide)), zr_ne (Or.inl (by decide))]
    · rw [zf_ne (by decide), zf_ne (by decide)]
    · rw [zf_ne (by decide), zf_ne (by decide)]
    · rw [zf_ne (by decide), zf_ne (by decide)]
    · simp [zw_at]
    · simp [zw_at]
  · rw [← hc]
    refine ⟨?_, ?_, ?_, ?_, ?_⟩ <;> rw [zr_ne (Or.inl (by decide)), zr_ne (Or.inl (by decide))]
  · rw [← hm]
    refine ⟨?_, ?_, ?_, ?_, ?_, ?_⟩
    · rw [zf_ne (by decide), zf_ne (by decide)]
    · rw [zf_ne (by decide), zf_ne (by decide)]
    all_goals simp [zw_at]
  · obtain ⟨b0, b1, b2, b3, b4, b5, b6, b7, b8, b9⟩ := (rB h).1
    unfold RSc
    rw [sc1, eg]
    rcases hqj with ⟨rfl, rfl, -⟩ | ⟨rfl, rfl, -⟩ | ⟨rfl, rfl, -⟩
    · exact ⟨b0, b1, b2, b3, b4, b5, rfl, b7, b8, b9⟩
    · exact ⟨b0, b1, b2, b3, b4, b5, b6, rfl, b8, b9⟩
    · exact ⟨b0, b1, b2, b3, b4, b5, b6, b7, rfl, b9⟩
theorem wide_rel [Inhabited BFT] (h : Rel σc σm) {v : Nat} (h1 : 1 ≤ v) (h2 : v ≤ aW (σm.1 1 0)) : Rel (zwI (zwI (zwI σc 1 0 4 (nI v)) 1 0 5 0) 2 0 1 0) (zwI (zwI (zwI σm 1 0 1 0) 1 0 32 (nI v)) 0 0 3 0) := by
  generalize hc : zwI (zwI (zwI σc 1 0 4 (nI v)) 1 0 5 0) 2 0 1 0 = sc
  generalize hm : zwI (zwI (zwI σm 1 0 1 0) 1 0 32 (nI v)) 0 0 3 0 = sm
  have eg : sm.1 1 0 = upd (upd (σm.1 1 0) 1 0) 32 (nI v) := by
    rw [← hm, zr_ne (Or.inl (by decide)), zw_row, zw_row]
  have sc1 : sc.1 1 0 = upd (upd (σc.1 1 0) 4 (nI v)) 5 0 := by
    rw [← hc, zr_ne (Or.inl (by decide)), zw_row, zw_row]
  have hI := rI h
  have hW := iv_W hI
  have hne : ∀ k, k ≠ 1 → k ≠ 32 → sm.1 1 0 k = σm.1 1 0 k := fun k hk hk2 => by rw [eg, pk_un hk2, pk_un hk]
  have e32 : sm.1 1 0 32 = nI v := by rw [eg, pk_us]
  have e1 : sm.1 1 0 1 = 0 := by rw [eg, pk_un (by decide), pk_us]
  have eW : aW (sm.1 1 0) = aW (σm.1 1 0) := by unfold aW; rw [hne 30 (by decide) (by decide)]
  have eWd : aWide (sm.1 1 0) = v := by unfold aWide; rw [e32, nI_clamp (by omega)]
  have eSt : aStep (sm.1 1 0) = 0 := by unfold aStep; rw [e1]; rfl
  have hI' : Inv (sm.1 1 0) := by
    refine inv_gen hI (fun k h1 h2 => hne k (by omega) (by omega)) (hne 30 (by decide) (by decide)) (hne 31 (by decide) (by decide)) ?_ ?_ ?_ ?_ ?_ ?_
    · rw [eWd, eW]; exact ⟨e32, h1, h2⟩
    · unfold aCom; rw [hne 33 (by decide) (by decide)]; exact hI.2.2.2.1
    · unfold aStay; rw [hne 34 (by decide) (by decide)]; exact hI.2.2.2.2.1
    · unfold aGrey; rw [hne 35 (by decide) (by decide)]; exact hI.2.2.2.2.2.1
    · refine top_num hI (fun k h1 h2 => hne k h1 (by omega)) ?_
      rw [eSt, eWd, eW]
      exact ⟨e1, by omega⟩
    · unfold aShN; rw [hne 4 (by decide) (by decide)]; exact Nat.le_refl _
  refine num_rel h (fun p h1 h2 => by rw [← hc]; exact ((req_w h1).trans (req_w h1)).trans (req_w h2)) ?_ ?_ ?_ (by rw [← hm]; simp [zw_at]) (fun k h1 h2 => hne k h1 (by omega)) hI' ?_
  · rw [← hc]
    refine ⟨?_, ?_, ?_, ?_, ?_, ?_⟩
    · rw [zr_ne (Or.inl (by decide)), zr_ne (Or.inl (by decide)), zr_ne (Or.inl (by decide))]
    · rw [zf_ne (by decide), zf_ne (by decide), zf_ne (by decide)]
    · rw [zf_ne (by decide), zf_ne (by decide), zf_ne (by decide)]
    · rw [zf_ne (by decide), zf_ne (by decide), zf_ne (by decide)]
    · simp [zw_at]
    · simp [zw_at]
  · rw [← hc]
    refine ⟨?_, ?_, ?_, ?_, ?_⟩ <;> rw [zr_ne (Or.inl (by decide)), zr_ne (Or.inl (by decide)), zr_ne (Or.inl (by decide))]
  · rw [← hm]
    refine ⟨?_, ?_, ?_, ?_, ?_, ?_⟩
    · rw [zf_ne (by decide), zf_ne (by decide), zf_ne (by decide)]
    · rw [zf_ne (by decide), zf_ne (by decide), zf_ne (by decide)]
    all_goals simp [zw_at]
  · obtain ⟨b0, b1, b2, b3, b4, b5, b6, b7, b8, b9⟩ := (rB h).1
    unfold RSc
    rw [sc1, eg]
    exact ⟨b0, b1, b2, b3, rfl, rfl, b6, b7, b8, b9⟩
theorem m_set98 (σ : zG) {a : Nat} (ha : a < 4) (v : Int32) : j_X12_set_98 (nI a) v σ = some (1, zwI (zwI σ 1 0 (32 + a) v) 0 0 3 0) := by
  unfold j_X12_set_98 f_X12_forgets
  have e : (32 : Int32) + nI a = nI (32 + a) := by simp only [zlit, nI_add]
  rw [e, zin_ok (show 32 + a < 9248 by omega) (by decide), zgT, nI_clamp (by omega)]
  simp only [zb]
theorem pr_set [Inhabited BFT] : PR_set Rel := fun x y σc σm h => by
  have hW := iv_W (rI h)
  have s0 : σc.1 1 0 0 = σm.1 1 0 30 := (rB h).1.1
  unfold f_X11_set f_X12_set f_X1_tell
  by_cases h0 : x = 0
  · subst h0
    have m98 := fun s v => m_set98 s (a := 0) (by decide) v
    simp only [if_true]
    unfold f_X1_tellWide
    rw [s0, hW.1]
    rcases in_cs y 1 (aW (σm.1 1 0)) (by omega) (by omega) with ⟨v, v1, v2, rfl, a1, a2, r⟩ | ⟨r, q⟩
    · have a1' : (1 : Int32) ≤ nI v := a1
      have r' : f_X12_isIn (nI v) 1 (nI (aW (σm.1 1 0))) = 1 := r
      rw [if_pos a1', if_neg a2, r']
      have m98' : j_X12_set_98 0 (nI v) (zwI σm 1 0 1 0) = _ := m98 (zwI σm 1 0 1 0) (nI v)
      simp only [zb, show zbl (1 : Int32) = true from rfl, zgT, Option.bind_some, show ¬ (1 : Int32) = 0 by decide, if_false, m98', f_X2_forget]
      exact ⟨_, _, _, rfl, rfl, wide_rel h v1 v2⟩
    · have r' : f_X12_isIn y 1 (nI (aW (σm.1 1 0))) = 0 := r
      rw [r']
      simp only [if_true]
      rcases q with q | ⟨q1, q2⟩
      · rw [if_neg (show ¬ (1 : Int32) ≤ y from q)]
        exact ⟨_, _, _, rfl, rfl, h⟩
      · rw [if_pos (show (1 : Int32) ≤ y from q1), if_pos q2]
        exact ⟨_, _, _, rfl, rfl, h⟩
  by_cases h1 : x = 1
  · subst h1
    simp only [show ¬ (1 : Int32) = 0 by decide, if_false, if_true]
    rcases in_cs y 0 1000 (by decide) (by decide) with ⟨v, v1, v2, rfl, a1, a2, r⟩ | ⟨r, q⟩
    · have a1' : (0 : Int32) ≤ nI v := a1
      have a2' : ¬ (1000 : Int32) < nI v := a2
      have r' : f_X12_isIn (nI v) 0 1000 = 1 := r
      have m98' : j_X12_set_98 1 (nI v) σm = _ := m_set98 σm (a := 1) (by decide) (nI v)
      rw [if_pos a1', if_neg a2', r']
      simp only [zb, show zbl (1 : Int32) = true from rfl, zgT, Option.bind_some, show ¬ (1 : Int32) = 0 by decide, if_false, m98', f_X2_forget]
      exact ⟨_, _, _, rfl, rfl, set_rel h (Or.inl ⟨rfl, rfl, v2⟩)⟩
    · have r' : f_X12_isIn y 0 1000 = 0 := r
      rw [r']
      simp only [if_true]
      rcases q with q | ⟨q1, q2⟩
      · rw [if_neg (show ¬ (0 : Int32) ≤ y from q)]
        exact ⟨_, _, _, rfl, rfl, h⟩
      · rw [if_pos (show (0 : Int32) ≤ y from q1), if_pos (show (1000 : Int32) < y from q2)]
        exact ⟨_, _, _, rfl, rfl, h⟩
  by_cases h2 : x = 2
  · subst h2
    simp only [show ¬ (2 : Int32) = 0 by decide, show ¬ (2 : Int32) = 1 by decide, if_false, if_true]
    rcases in_cs y 1 60 (by decide) (by decide) with ⟨v, v1, v2, rfl, a1, a2, r⟩ | ⟨r, q⟩
    · have a1' : (1 : Int32) ≤ nI v := a1
      have a2' : ¬ (60 : Int32) < nI v := a2
      have r' : f_X12_isIn (nI v) 1 60 = 1 := r
      have m98' : j_X12_set_98 2 (nI v) σm = _ := m_set98 σm (a := 2) (by decide) (nI v)
      rw [if_pos a1', if_neg a2', r']
      simp only [zb, show zbl (1 : Int32) = true from rfl, zgT, Option.bind_some, show ¬ (1 : Int32) = 0 by decide, if_false, m98', f_X2_forget]
      exact ⟨_, _, _, rfl, rfl, set_rel h (Or.inr (Or.inl ⟨rfl, rfl, v1, v2⟩))⟩
    · have r' : f_X12_isIn y 1 60 = 0 := r
      rw [r']
      simp only [if_true]
      rcases q with q | ⟨q1, q2⟩
      · rw [if_neg (show ¬ (1 : Int32) ≤ y from q)]
        exact ⟨_, _, _, rfl, rfl, h⟩
      · rw [if_pos (show (1 : Int32) ≤ y from q1), if_pos (show (60 : Int32) < y from q2)]
        exact ⟨_, _, _, rfl, rfl, h⟩
  by_cases h3 : x = 3
  · subst h3
    simp only [show ¬ (3 : Int32) = 0 by decide, show ¬ (3 : Int32) = 1 by decide, show ¬ (3 : Int32) = 2 by decide, if_false, if_true]
    rcases in_cs y 0 99 (by decide) (by decide) with ⟨v, v1, v2, rfl, a1, a2, r⟩ | ⟨r, q⟩
    · have a1' : (0 : Int32) ≤ nI v := a1
      have a2' : ¬ (99 : Int32) < nI v := a2
      have r' : f_X12_isIn (nI v) 0 99 = 1 := r
      have m98' : j_X12_set_98 3 (nI v) σm = _ := m_set98 σm (a := 3) (by decide) (nI v)
      rw [if_pos a1', if_neg a2', r']
      simp only [zb, show zbl (1 : Int32) = true from rfl, zgT, Option.bind_some, show ¬ (1 : Int32) = 0 by decide, if_false, m98', f_X2_forget]
      exact ⟨_, _, _, rfl, rfl, set_rel h (Or.inr (Or.inr ⟨rfl, rfl, v2⟩))⟩
    · have r' : f_X12_isIn y 0 99 = 0 := r
      rw [r']
      simp only [if_true]
      rcases q with q | ⟨q1, q2⟩
      · rw [if_neg (show ¬ (0 : Int32) ≤ y from q)]
        exact ⟨_, _, _, rfl, rfl, h⟩
      · rw [if_pos (show (0 : Int32) ≤ y from q1), if_pos (show (99 : Int32) < y from q2)]
        exact ⟨_, _, _, rfl, rfl, h⟩
  simp only [h0, h1, h2, h3, if_false]
  exact ⟨_, _, _, rfl, rfl, h⟩
/-- a spot of the picture is told -/
theorem paste_rel [Inhabited BFT] (h : Rel σc σm) {c : Nat} (hc56 : c < 56) {v : Int32} (hv : v = -1 ∨ ∃ i, i < aShN (σm.1 1 0) ∧ v = nI i) : Rel (zwI (zwI σc 32 0 c v) 2 0 1 0) (zwI (zwI σm 1 0 (40 + c) v) 0 0 3 0) := by
  generalize hc : zwI (zwI σc 32 0 c v) 2 0 1 0 = sc
  generalize hm : zwI (zwI σm 1 0 (40 + c) v) 0 0 3 0 = sm
  have eg : sm.1 1 0 = upd (σm.1 1 0) (40 + c) v := by rw [← hm, zr_ne (Or.inl (by decide)), zw_row]
  have sc32 : sc.1 32 0 = upd (σc.1 32 0) c v := by rw [← hc, zr_ne (Or.inl (by decide)), zw_row]
  have hI := rI h
  have hN := tp_Sh (iv_Top hI)
  have hSN := tp_SN (iv_Top hI)
  have hne : ∀ k, k ≠ 40 + c → sm.1 1 0 k = σm.1 1 0 k := fun k hk => by rw [eg, pk_un hk]
  have e40 : sm.1 1 0 (40 + c) = v := by rw [eg, pk_us]
  have lt : ∀ k, k < 40 → sm.1 1 0 k = σm.1 1 0 k := fun k hk => hne k (by omega)
  have aa : aW (sm.1 1 0) = aW (σm.1 1 0) ∧ aH (sm.1 1 0) = aH (σm.1 1 0) ∧ aWide (sm.1 1 0) = aWide (σm.1 1 0) ∧ aStep (sm.1 1 0) = aStep (σm.1 1 0) ∧ aMin (sm.1 1 0) = aMin (σm.1 1 0) ∧ aSN (sm.1 1 0) = aSN (σm.1 1 0) ∧ aShN (sm.1 1 0) = aShN (σm.1 1 0) := by
    refine ⟨?_, ?_, ?_, ?_, ?_, ?_, ?_⟩
    · unfold aW; rw [lt 30 (by decide)]
    · unfold aH; rw [lt 31 (by decide)]
    · unfold aWide; rw [lt 32 (by decide)]
    · unfold aStep; rw [lt 1 (by decide)]
    · unfold aMin; rw [lt 0 (by decide)]
    · unfold aSN; rw [lt 3 (by decide)]
    · unfold aShN; rw [lt 4 (by decide)]
  obtain ⟨w1, w2, w3, w4, w5, w6, w7⟩ := aa
  have esp : sp (sm.1 1 0) = sp (σm.1 1 0) := by funext c; unfold sp; rw [w1, w2]
  have hT := iv_Top hI
  have hTop : Top (sm.1 1 0) (sm.1 1 0) := by
    unfold Top
    rw [w1, w3, w4, w5, w6, w7, esp, lt 0 (by decide), lt 1 (by decide), lt 3 (by decide), lt 4 (by decide)]
    refine ⟨hT.1, hT.2.1, hT.2.2.1, hT.2.2.2.1, fun i hi => ?_, fun d hd => ?_⟩
    · rw [lt (5 + 3 * i) (by omega)]
      exact hT.2.2.2.2.1 i hi
    · by_cases q : d = c
      · rw [q, e40]; exact hv
      · rw [hne (40 + d) (by omega)]
        exact hT.2.2.2.2.2 d hd
  have rest : ∀ k, 36 ≤ k → (k < 40 ∨ 104 ≤ k) → sm.1 1 0 k = σm.1 1 0 k := fun k h1 h2 => hne k (by omega)
  have hI' : Inv (sm.1 1 0) := by
    refine inv_gen hI rest (lt 30 (by decide)) (lt 31 (by decide)) ?_ ?_ ?_ ?_ hTop (by omega)
    · rw [w1, w3, lt 32 (by decide)]; exact iv_Wd hI
    · unfold aCom; rw [lt 33 (by decide)]; exact hI.2.2.2.1
    · unfold aStay; rw [lt 34 (by decide)]; exact hI.2.2.2.2.1
    · unfold aGrey; rw [lt 35 (by decide)]; exact hI.2.2.2.2.2.1
  have rC : ∀ p : Nat → Nat → Bool, p 32 0 = false → p 2 0 = false → REq p σc sc := fun p h1 h2 => by rw [← hc]; exact (req_w h1).trans (req_w h2)
  obtain ⟨q1, q2, q3⟩ := rest_ok h (σc' := sc) (σm' := sm) ⟨rC _ rfl rfl, by rw [← hc, zr_ne (Or.inl (by decide)), zr_ne (Or.inl (by decide))], by rw [← hc, zf_ne (by decide), zf_ne (by decide)], by rw [← hc, zf_ne (by decide), zf_ne (by decide)], by rw [← hc, zf_ne (by decide), zf_ne (by decide)]⟩ ⟨by rw [← hm, zf_ne (by decide), zf_ne (by decide)], by rw [← hm, zf_ne (by decide), zf_ne (by decide)], by rw [← hm]; simp [zw_at], by rw [← hm]; simp [zw_at], by rw [← hm]; simp [zw_at], by rw [← hm]; simp [zw_at]⟩
  have fne : ∀ f i, f ≠ 32 → f ≠ 2 → sc.1 f i = σc.1 f i := fun f i h1 h2 => by rw [← hc, zr_ne (Or.inl h2), zr_ne (Or.inl h1)]
  refine ⟨rb_gen (rB h) (rC _ rfl rfl) rest (by omega) hN.2 ?_ ?_ (fun d hd => ?_), hI', kp_zero h.2.2.1 ?_ ?_ ?_, q1, q2, q3⟩
  · have hsc := (rB h).1
    unfold RSc at hsc ⊢
    rw [fne 1 0 (by decide) (by decide), lt 30 (by decide), lt 31 (by decide), lt 2 (by decide), lt 0 (by decide), lt 32 (by decide), lt 1 (by decide), lt 33 (by decide), lt 34 (by decide), lt 35 (by decide), lt 4 (by decide)]
    exact hsc
  · have hst := (rB h).2.1
    unfold RSt at hst ⊢
    rw [w6, lt 3 (by decide), fne 7 _ (by decide) (by decide), fne 12 _ (by decide) (by decide), fne 13 _ (by decide) (by decide), fne 14 _ (by decide) (by decide)]
    refine ⟨hst.1, fun i hi => ?_⟩
    rw [lt (5 + 3 * i) (by omega), lt (5 + 3 * i + 1) (by omega), lt (5 + 3 * i + 2) (by omega)]
    exact hst.2 i hi
  · rw [sc32]
    by_cases q : d = c
    · rw [q, pk_us, e40]
    · rw [pk_un q, hne (40 + d) (by omega)]
      exact (rB h).2.2.2.2.2.2 d hd
  · rw [← hc]; simp [zw_at]
  · rw [← hc]; simp [zw_at]
  · rw [← hm]; simp [zw_at]
theorem pr_paste [Inhabited BFT] : PR_paste Rel := fun x y σc σm h => by
  have hN := tp_Sh (iv_Top (rI h))
  unfold f_X11_paste f_X12_paste
  rcases sp_cs h x with ⟨c, hc, rfl, hsp, e1, e2⟩ | ⟨e1, e2⟩
  · have j23 : ∀ v, j_X12_paste_23 (nI c) v σm = some (1, zwI (zwI σm 1 0 (40 + c) v) 0 0 3 0) := fun v => by
      unfold j_X12_paste_23 f_X12_forgets
      have e : (40 : Int32) + nI c = nI (40 + c) := by simp only [zlit, nI_add]
      rw [e, zin_ok (show 40 + c < 9248 by omega) (by decide), zgT, nI_clamp (by omega)]
      simp only [zb]
    rw [e1, e2, rN (rB h), hN.1, zin_ok hc (by decide), nI_clamp (show c < 2 ^ 31 by omega)]
    simp only [Option.bind_some, show ¬ (1 : Int32) = 0 by decide, if_false, zgT, zb, f_X2_forget, j23]
    by_cases q : y = -1
    · subst q
      have l1 : ¬ nI (aShN (σm.1 1 0)) ≤ -1 := by
        rw [fa_le, nI_toInt (by omega), show (-1 : Int32).toInt = -1 from rfl]
        omega
      simp only [show (-1 : Int32) ≤ -1 by decide, l1, if_true, if_false]
      exact ⟨_, _, _, rfl, rfl, paste_rel h hc (Or.inl rfl)⟩
    · simp only [q, if_false]
      rcases sh_cs h y with ⟨i, hi, rfl, e3, e4⟩ | ⟨e3, e4⟩
      · have l0 : (-1 : Int32) ≤ nI i := by
          rw [fa_le, nI_toInt (by omega), show (-1 : Int32).toInt = -1 from rfl]
          omega
        have l1 : ¬ nI (aShN (σm.1 1 0)) ≤ nI i := nI_ge hi (by omega)
        rw [e4]
        simp only [l0, l1, if_true, if_false, Option.bind_some, show ¬ (1 : Int32) = 0 by decide]
        exact ⟨_, _, _, rfl, rfl, paste_rel h hc (Or.inr ⟨i, hi, rfl⟩)⟩
      · rw [e4]
        simp only [Option.bind_some, if_true]
        refine ⟨0, σc, σm, ?_, rfl, h⟩
        by_cases a : (-1 : Int32) ≤ y
        · have b : nI (aShN (σm.1 1 0)) ≤ y := by
            by_cases b : nI (aShN (σm.1 1 0)) ≤ y
            · exact b
            · exfalso
              have b' := i_nle.mp b
              have hr := (range_of (x := y) (n := aShN (σm.1 1 0)) (by omega)).mp ⟨by
                have e0 : (0 : Int32).toInt = 0 := rfl
                have em : (-1 : Int32).toInt = -1 := rfl
                have q' : y.toInt ≠ (-1 : Int32).toInt := fun e => q ((fa_eq _ _).mpr e)
                rw [fa_le] at a ⊢
                omega, b'⟩
              obtain ⟨j, hj, rfl⟩ := hr
              unfold f_X12_isShot at e4
              rw [hN.1] at e4
              rcases below (nI j) (n := aShN (σm.1 1 0)) (by omega) with ⟨_, _, _, r⟩ | ⟨n, _, _⟩
              · rw [r] at e4
                cases e4
              · exact n j hj rfl
          simp only [a, b, if_true]
        · simp only [a, if_false]
  · rw [e1, e2]
    exact ⟨_, _, _, rfl, rfl, h⟩
end PURE
