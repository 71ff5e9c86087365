/-! PURE LAYER: shots' own numbers; hours, judged, whenShot, exposed, steps -/
section PURE
variable {σ σc σm : zG} {g : zGa}
theorem rSh (h : RB σ 0 g) {i : Nat} (hi : i < aShN g) : RSh σ i g i := by
  have := h.2.2.2.2.2.1 i hi
  rw [Nat.mul_zero, Nat.zero_add] at this
  exact this
theorem m_ofShot {i f : Nat} (hi : i < 10) (hf : f < 134) : f_X12_ofShot (nI i) (nI f) σ = some (σ.1 1 0 (152 + 134 * i + f)) := by
  unfold f_X12_ofShot
  have e : (152 : Int32) + 134 * nI i + nI f = nI (152 + 134 * i + f) := by simp only [zlit, nI_add, pk_mul]
  rw [e, zin_ok (show 152 + 134 * i + f < 9248 by omega) (by decide), zgT, nI_clamp (by omega)]
theorem m_sWho {i c : Nat} (hi : i < 10) (hc : c < 64) : f_X12_ofShot (nI i) (4 + nI c) σ = some (σ.1 1 0 (152 + 134 * i + 4 + c)) := by
  have e : (4 : Int32) + nI c = nI (4 + c) := by simp only [zlit, nI_add]
  rw [e, m_ofShot hi (by omega), Nat.add_assoc (152 + 134 * i)]
theorem m_sTone {i c : Nat} (hi : i < 10) (hc : c < 64) : f_X12_ofShot (nI i) (68 + nI c) σ = some (σ.1 1 0 (152 + 134 * i + 68 + c)) := by
  have e : (68 : Int32) + nI c = nI (68 + c) := by simp only [zlit, nI_add]
  rw [e, m_ofShot hi (by omega), Nat.add_assoc (152 + 134 * i)]
/-- a spot in a shot: in view, clear, covered -/
def sV (g : zGa) (i c : Nat) : Bool := !decide (g (152 + 134 * i + 4 + c) = -2)
def sF (g : zGa) (i c : Nat) : Bool := decide (g (152 + 134 * i + 4 + c) = -1)
def sK (g : zGa) (i c : Nat) : Bool := decide (0 ≤ g (152 + 134 * i + 4 + c))
theorem s_cs (hI : Inv g) {i c : Nat} (hi : i < aShN g) (hc : c < 64) : (g (152 + 134 * i + 4 + c) = -2 ∧ sV g i c = false ∧ sF g i c = false ∧ sK g i c = false) ∨ (g (152 + 134 * i + 4 + c) = -1 ∧ sV g i c = true ∧ sF g i c = true ∧ sK g i c = false) ∨ (∃ w, w < 20 ∧ g (152 + 134 * i + 4 + c) = nI w ∧ sV g i c = true ∧ sF g i c = false ∧ sK g i c = true) := by
  unfold sV sF sK
  have two : g (152 + 134 * i + 4 + c) = -2 → g (152 + 134 * i + 4 + c) = -2 ∧ (!decide (g (152 + 134 * i + 4 + c) = -2)) = false ∧ decide (g (152 + 134 * i + 4 + c) = -1) = false ∧ decide (0 ≤ g (152 + 134 * i + 4 + c)) = false := fun e => by rw [e]; decide
  by_cases h56 : c < 56
  · rcases (hI.2.2.2.2.2.2.2.2.2.2.1 i hi c h56).1 with e | e | ⟨w, hw, e⟩
    · exact Or.inl (two e)
    · exact Or.inr (Or.inl (by rw [e]; decide))
    · refine Or.inr (Or.inr ⟨w, hw, e, ?_⟩)
      rw [e]
      have h1 : ¬ nI w = -2 := fun q => by
        have := nI_toInt (n := w) (by omega)
        rw [q] at this
        have e2 : (-2 : Int32).toInt = -2 := rfl
        omega
      have h2 : ¬ nI w = -1 := by rw [nI_nm1 (by omega)]; exact id
      have h3 : (0 : Int32) ≤ nI w := nI_pos' (by omega)
      simp [h1, h2, h3]
  · exact Or.inl (two (iv_Sh2 hI hi (by omega) hc))
theorem sV_eq (hI : Inv g) {i c : Nat} (hi : i < aShN g) (hc : c < 64) : sV g i c = (sF g i c || sK g i c) := by
  rcases s_cs hI hi hc with ⟨-, a, b, d⟩ | ⟨-, a, b, d⟩ | ⟨w, -, -, a, b, d⟩ <;> rw [a, b, d] <;> rfl
theorem sV_sp (hI : Inv g) {i c : Nat} (hi : i < aShN g) (hc : c < 64) (h : sV g i c = true) : c < 56 ∧ sp g c = true := by
  have hn : ¬ g (152 + 134 * i + 4 + c) = -2 := fun q => by
    unfold sV at h
    rw [q] at h
    exact absurd h (by decide)
  have h56 : c < 56 := by
    refine Nat.lt_of_not_le fun q => hn (iv_Sh2 hI hi q hc)
  exact ⟨h56, (hI.2.2.2.2.2.2.2.2.2.2.1 i hi c h56).2.2 hn⟩
theorem c_view (hR : RB σ 0 g) {i c : Nat} (hi : i < aShN g) (hc : c < 64) : lb (σ.2 11 i 3) c = sV g i c := (rSh hR hi).2.2.2.1 c hc
theorem c_cov (hR : RB σ 0 g) {i c : Nat} (hi : i < aShN g) (hc : c < 64) : lb (σ.2 11 i 4) c = sK g i c := (rSh hR hi).2.2.2.2.1 c hc
theorem c_clear (hI : Inv g) (hR : RB σ 0 g) {i c : Nat} (hi : i < aShN g) (hc : c < 64) : lb (f_X6_clearSpots i σ) c = sF g i c := by
  unfold f_X6_clearSpots
  rw [lb_and, lb_not _ hc, c_view hR hi hc, c_cov hR hi hc]
  rcases s_cs hI hi hc with ⟨-, a, b, d⟩ | ⟨-, a, b, d⟩ | ⟨w, -, -, a, b, d⟩ <;> rw [a, b, d] <;> rfl
theorem c_who_tone (hR : RB σ 0 g) {i c : Nat} (hi : i < aShN g) (hc : c < 56) (hv : sV g i c = true) : σ.1 30 i c = g (152 + 134 * i + 4 + c) ∧ σ.1 29 i c = g (152 + 134 * i + 68 + c) := (rSh hR hi).2.2.2.2.2 c hc (fun q => by unfold sV at hv; rw [q] at hv; exact absurd hv (by decide))
theorem m_clearIn {i c : Nat} (hi : i < 10) (hc : c < 64) : f_X12_isClearIn (nI i) (nI c) σ = some (zt (sF (σ.1 1 0) i c)) := by
  unfold f_X12_isClearIn sF
  rw [m_sWho hi hc, Option.bind_some]
  by_cases h : σ.1 1 0 (152 + 134 * i + 4 + c) = -1 <;> simp [h, zt]
theorem m_hasView {i c : Nat} (hi : i < 10) (hc : c < 64) : f_X12_hasInView (nI i) (nI c) σ = some (zt (sV (σ.1 1 0) i c)) := by
  unfold f_X12_hasInView sV
  rw [m_sWho hi hc, Option.bind_some]
  by_cases h : σ.1 1 0 (152 + 134 * i + 4 + c) = -2 <;> simp [h, zt]
theorem sh10 (hI : Inv g) {i : Nat} (hi : i < aShN g) : i < 10 := by have := tp_Sh (iv_Top hI); omega
theorem m_coveredIn {i : Nat} (hi : i < 10) : f_X12_coveredIn (nI i) σ = some (nI (fb_ct (sK (σ.1 1 0) i) 64)) := by
  unfold f_X12_coveredIn
  rw [zlp_for (a := ((0 : Int32), (0 : Int32))) (fun k => (nI (fb_ct (sK (σ.1 1 0) i) k), nI k)) 64 (b := nI (fb_ct (sK (σ.1 1 0) i) 64)) rfl ?_ ?_]
  · rfl
  · intro k hk
    have e64 : nI k < 64 := nI_lt (b := 64) hk (by decide)
    unfold b_X12_coveredIn_4
    rw [m_sWho hi hk]
    simp only [e64, if_true, Option.bind_some, fb_ct_succ, nI_1]
    unfold sK
    by_cases h : 0 ≤ σ.1 1 0 (152 + 134 * i + 4 + k)
    · simp only [h, if_true, decide_true]
    · simp only [h, if_false, decide_false]
      simp
  · unfold b_X12_coveredIn_4
    simp (disch := omega) only [zlit, nI_ltQ, Nat.lt_irrefl, if_false]
theorem pr_shot [Inhabited BFT] : PR_shot Rel := fun x y σc σm h => by
  unfold f_X11_shot f_X12_shot
  rcases sh_cs h x with ⟨i, hi, rfl, e1, e2⟩ | ⟨e1, e2⟩
  · have hr := rSh (rB h) hi
    have i10 := sh10 (rI h) hi
    have bc : f_J13_bitCount_95d88 (σc.2 11 i 4) = nI (fb_ct (sK (σm.1 1 0) i) 64) := by
      rw [bitc]
      congr 1
      exact fb_ct_cong fun c hc => c_cov (rB h) hi hc
    have a0 : f_X12_ofShot (nI i) 0 σm = some (σm.1 1 0 (152 + 134 * i + 0)) := m_ofShot i10 (by decide)
    have a1 : f_X12_ofShot (nI i) 1 σm = some (σm.1 1 0 (152 + 134 * i + 1)) := m_ofShot i10 (by decide)
    have a2 : f_X12_ofShot (nI i) 2 σm = some (σm.1 1 0 (152 + 134 * i + 2)) := m_ofShot i10 (by decide)
    rw [e1, e2, isIn03]
    simp only [Option.bind_some, zoc, zt_0, hr.1, hr.2.1, hr.2.2.1, bc, show ¬ (1 : Int32) = 0 by decide, if_false]
    by_cases h0 : y = 0
    · subst h0; exact ⟨_, rfl, by simp [a0], h⟩
    by_cases h1 : y = 1
    · subst h1; exact ⟨_, rfl, by simp [a1], h⟩
    by_cases h2 : y = 2
    · subst h2; exact ⟨_, rfl, by simp [a2], h⟩
    by_cases h3 : y = 3
    · subst h3
      rw [m_coveredIn i10]
      exact ⟨_, rfl, rfl, h⟩
    simp only [h0, h1, h2, h3, if_false, or_self, decide_false, if_true]
    exact ⟨_, rfl, rfl, h⟩
  · rw [e1, e2]
    exact ⟨_, rfl, rfl, h⟩
theorem pr_book [Inhabited BFT] : PR_book Rel := fun x y z σc σm h => by
  unfold f_X11_book f_X12_book
  rcases sh_cs h x with ⟨i, hi, rfl, e1, e2⟩ | ⟨e1, e2⟩
  · have i10 := sh10 (rI h) hi
    rcases sp_cs h y with ⟨c, hc, rfl, hsp, e3, e4⟩ | ⟨e3, e4⟩
    · rw [e1, e2, e3, e4, m_hasView i10 (show c < 64 by omega), isIn01, m_sWho i10 (show c < 64 by omega), m_sTone i10 (show c < 64 by omega), zin_ok hc (by decide), nI_clamp (by omega)]
      simp only [Option.bind_some, zoc, zgT, show ¬ (1 : Int32) = 0 by decide, if_false]
      rw [holds_lb _ (show c < 64 by omega), c_view (rB h) hi (show c < 64 by omega)]
      simp only [zt_0]
      cases hv : sV (σm.1 1 0) i c
      · exact ⟨_, rfl, rfl, h⟩
      · obtain ⟨w1, w2⟩ := c_who_tone (rB h) hi hc hv
        rw [w1, w2]
        by_cases h0 : z = 0
        · subst h0; exact ⟨_, rfl, rfl, h⟩
        by_cases h1 : z = 1
        · subst h1; exact ⟨_, rfl, rfl, h⟩
        simp only [h0, h1, if_false, or_self, decide_false, if_true, Bool.true_eq_false]
        exact ⟨_, rfl, rfl, h⟩
    · rw [e1, e2, e3, e4]
      exact ⟨_, rfl, rfl, h⟩
  · rw [e1, e2]
    exact ⟨_, rfl, rfl, h⟩
/-- what was found -/
def FR (n : Nat) (s : zG) (many first last : Int32) : Prop := s.1 5 0 4 = nI n ∧ many = nI n ∧ (0 < n → s.1 5 0 5 = first ∧ s.1 5 0 6 = last) ∧ (n = 0 → first = -1 ∧ last = -1)
theorem fr_find {n : Nat} {s : zG} {many first last : Int32} (h : FR n s many first last) (hn : n < 1000) (m : Int32) : FR (n + 1) (f_X9_find m s) (many + 1) (if many = 0 then m else first) m ∧ SmC s (f_X9_find m s) := by
  obtain ⟨h1, rfl, h3, h4⟩ := h
  have e0 : (nI n = 0) = (n = 0) := nI_eqI (b := 0) (by omega) (by decide)
  have sm : ∀ t, SmC s (j_X9_find_16 m t 0 s) := fun t => by
    unfold j_X9_find_16
    simp only [zb]
    exact (smC_f ((smf_w 5 _ _ _ _).trans ((smf_w 5 _ _ _ _).trans (smf_w 5 _ _ _ _))) rfl)
  have vals : ∀ t, (j_X9_find_16 m t 0 s).1 5 0 4 = nI (n + 1) ∧ (j_X9_find_16 m t 0 s).1 5 0 5 = t ∧ (j_X9_find_16 m t 0 s).1 5 0 6 = m := fun t => by
    unfold j_X9_find_16
    simp only [zb]
    refine ⟨?_, ?_, ?_⟩
    · simp [zw_at, h1, nI_1]
    · simp [zw_at]
    · simp [zw_at]
  unfold f_X9_find
  rw [h1]
  simp only [e0]
  by_cases hz : n = 0
  · rw [if_pos hz, if_pos hz]
    obtain ⟨v1, v2, v3⟩ := vals m
    exact ⟨⟨v1, nI_1 n, fun _ => ⟨v2, v3⟩, fun q => by omega⟩, sm m⟩
  · rw [if_neg hz, if_neg hz]
    obtain ⟨v1, v2, v3⟩ := vals (s.1 5 0 5)
    exact ⟨⟨v1, nI_1 n, fun _ => ⟨by rw [v2]; exact (h3 (by omega)).1, v3⟩, fun q => by omega⟩, sm _⟩
theorem fr_found {n : Nat} {s : zG} {many first last : Int32} (h : FR n s many first last) (hn : n < 1000) (x d : Int32) : f_X9_found x d s = f_X11_oneOf x many first last d := by
  obtain ⟨h1, rfl, h3, h4⟩ := h
  unfold f_X9_found j_X9_found_12 j_X9_found_30
  rw [h1]
  by_cases hz : n = 0
  · obtain ⟨rfl, rfl⟩ := h4 hz
    subst hz
    rfl
  · have p0 : (0 : Int32) < nI n := nI_lt (a := 0) (by omega) (by omega)
    obtain ⟨e1, e2⟩ := h3 (by omega)
    rw [if_pos p0, e1, e2]
    rfl
theorem pr_hours [Inhabited BFT] : PR_hours Rel := fun x y z σc σm h => by
  unfold f_X11_hours f_X12_hours f_X9_findHours
  rcases sp_cs h x with ⟨c, hc, rfl, hsp, e1, e2⟩ | ⟨e1, e2⟩
  · rw [e1, e2]
    simp only [Option.bind_some, show ¬ (1 : Int32) = 0 by decide, if_false, zb]
    have hr : (0 ≤ y ∧ ¬ (99 : Int32) < y ∧ f_X12_isIn y 0 99 = 1) ∨ (¬ 0 ≤ y ∧ f_X12_isIn y 0 99 = 0) ∨ (0 ≤ y ∧ (99 : Int32) < y ∧ f_X12_isIn y 0 99 = 0) := by
      rw [isIn_zt]
      by_cases a : 0 ≤ y
      · by_cases b : y ≤ 99
        · exact Or.inl ⟨a, i_nlt.mpr b, by simp [a, b, zt]⟩
        · exact Or.inr (Or.inr ⟨a, i_nle.mp b, by simp [b, zt]⟩)
      · exact Or.inr (Or.inl ⟨a, by simp [a, zt]⟩)
    rcases hr with ⟨a, b, r⟩ | ⟨a, r⟩ | ⟨a, b, r⟩
    · simp only [a, b, r, if_true, if_false, show ¬ (1 : Int32) = 0 by decide]
      have hc64 : c < 64 := by omega
      obtain ⟨b, b', f1, f2, n, hn, hF, hC, hM⟩ := zlp_two (f := fun q : Int32 × zG => b_X9_findHours_7 (nI c) y q.1 q.2) (f' := fun q : Int32 × Int32 × Int32 × Int32 × zG => b_X12_hours_41 (nI c) y q.1 q.2.1 q.2.2.1 q.2.2.2.1 q.2.2.2.2) 501
        (fun k q q' => (q.1 = nI k ∧ q'.2.2.2.1 = nI k) ∧ ∃ n, n ≤ k ∧ FR n q.2 q'.1 q'.2.1 q'.2.2.1 ∧ SmC σc q.2 ∧ SmL σm q'.2.2.2.2)
        (fun b b' => ∃ n, n ≤ 501 ∧ FR n b b'.1 b'.2.1 b'.2.2.1 ∧ SmC σc b ∧ SmL σm b'.2.2.2)
        (a := ((0 : Int32), zwI σc 5 0 4 (0 : Int32))) (a' := ((0 : Int32), (-1 : Int32), (-1 : Int32), (0 : Int32), σm))
        ⟨⟨rfl, rfl⟩, 0, Nat.le_refl _, ⟨by simp [zw_at]; rfl, rfl, fun q => absurd q (Nat.lt_irrefl 0), fun _ => ⟨rfl, rfl⟩⟩, smC_w rfl, SmL.refl _⟩ (by
          rintro k hk ⟨_, s⟩ ⟨many, first, last, _, s'⟩ ⟨⟨rfl, rfl⟩, n, hn, hF, hC, hM⟩
          right
          obtain ⟨t, e1, h1⟩ := c_shade' h hC (m := k) hc64
          obtain ⟨t', e2, h2⟩ := m_shade' h hM (m := k) hc64
          have hle : nI k ≤ (500 : Int32) := nI_le (b := 500) (by omega) (by decide)
          have hF' : FR n t many first last := by
            have e5 : t.1 5 = s.1 5 := h1.1 5 (by decide) (by decide)
            unfold FR
            rw [e5]
            exact hF
          unfold b_X9_findHours_7 b_X12_hours_41
          simp only [hle, if_true, e1, e2, Option.bind_some, zb]
          by_cases hv : shd (σm.1 1 0) c k = y
          · rw [if_pos hv, if_pos hv]
            obtain ⟨g1, g2⟩ := fr_find hF' (by omega) (nI k)
            refine ⟨_, (many + 1, if many = 0 then nI k else first, nI k, nI k + 1, t'), rfl, ?_, ⟨nI_1 k, nI_1 k⟩, n + 1, by omega, g1, (hC.trans h1.c).trans g2, h2⟩
            split <;> rfl
          · rw [if_neg hv, if_neg hv]
            exact ⟨_, _, rfl, rfl, ⟨nI_1 k, nI_1 k⟩, n, by omega, hF', hC.trans h1.c, h2⟩) (by
          rintro ⟨_, s⟩ ⟨many, first, last, _, s'⟩ ⟨⟨rfl, rfl⟩, n, hn, hF, hC, hM⟩
          have hle : ¬ nI 501 ≤ (500 : Int32) := by decide
          unfold b_X9_findHours_7 b_X12_hours_41
          simp only [hle, if_false]
          exact ⟨_, _, rfl, rfl, n, hn, hF, hC, hM⟩)
      rw [f1, f2, isIn02]
      simp only [Option.bind_some, zt_0, fr_found hF (by omega)]
      unfold f_X11_oneOf
      by_cases h0 : z = 0
      · subst h0; exact ⟨_, _, _, rfl, rfl, rel_same hC hM.m h⟩
      by_cases h1 : z = 1
      · subst h1; exact ⟨_, _, _, rfl, rfl, rel_same hC hM.m h⟩
      by_cases h2 : z = 2
      · subst h2; exact ⟨_, _, _, rfl, rfl, rel_same hC hM.m h⟩
      simp only [h0, h1, h2, if_false, or_self, decide_false, if_true]
      exact ⟨_, _, _, rfl, rfl, rel_same hC (SmM.refl _) h⟩
    · simp only [a, r, if_false, if_true]
      exact ⟨_, _, _, rfl, rfl, h⟩
    · simp only [a, b, r, if_true]
      exact ⟨_, _, _, rfl, rfl, h⟩
  · rw [e1, e2]
    exact ⟨_, _, _, rfl, rfl, h⟩
end PURE
section PURE
variable {σ σc σm : zG} {g : zGa}
/-- the first clear spot whose tone is not its shade -/
noncomputable def jdp (g : zGa) (i m c : Nat) : Bool := sF g i c && !decide (g (152 + 134 * i + 68 + c) = shd g c m)
noncomputable def jdg (g : zGa) (i m : Nat) : Int32 := if fa_first (jdp g i m) 64 < 64 then nI (fa_first (jdp g i m) 64) else -1
theorem c_judge [Inhabited BFT] (h : Rel σc σm) {s : zG} (hs : SmC σc s) {i m : Nat} (hi : i < aShN (σm.1 1 0)) : ∃ sc, f_X9_firstUnlike i (nI m) s = some (jdg (σm.1 1 0) i m, sc) ∧ SmA s sc := by
  have hRs : RB s 0 (σm.1 1 0) := by rw [rb_same hs]; exact rB h
  unfold f_X9_firstUnlike
  obtain ⟨r, e, hr⟩ := zlp_run (f := fun q : Int32 × zG => b_X9_firstUnlike_8 i s (nI m) q.1 q.2) 56 (fun c q => q.1 = nI c ∧ SmA s q.2 ∧ ∀ j, j < c → jdp (σm.1 1 0) i m j = false)
    (fun r => (∃ c t, r = Sum.inl (nI c, t) ∧ c < 56 ∧ SmA s t ∧ jdp (σm.1 1 0) i m c = true ∧ ∀ j, j < c → jdp (σm.1 1 0) i m j = false) ∨ (∃ t, r = Sum.inr t ∧ SmA s t ∧ ∀ j, j < 56 → jdp (σm.1 1 0) i m j = false))
    (a := ((0 : Int32), s)) ⟨rfl, SmA.refl _, fun j hj => absurd hj (Nat.not_lt_zero j)⟩ (by
      rintro c hc ⟨_, t⟩ ⟨rfl, hT, hno⟩
      have l56 : nI c < 56 := nI_lt (b := 56) hc (by decide)
      have nxt : jdp (σm.1 1 0) i m c = false → ∀ j, j < c + 1 → jdp (σm.1 1 0) i m j = false := fun q j hj => by
        rcases Nat.lt_succ_iff_lt_or_eq.mp hj with z | z
        · exact hno j z
        · rw [z]; exact q
      unfold b_X9_firstUnlike_8
      rw [holds_lb _ (show c < 64 by omega), c_clear (rI h) hRs hi (show c < 64 by omega), zin_ok hc (by decide), zgT, nI_clamp (by omega)]
      simp only [l56, if_true, zt_0]
      cases hf : sF (σm.1 1 0) i c
      · right
        exact ⟨_, rfl, nI_1 c, hT, nxt (by unfold jdp; rw [hf]; rfl)⟩
      · obtain ⟨t', e1, h1⟩ := c_shade' h (hs.trans hT.c) (c := c) (m := m) (by omega)
        have hv : sV (σm.1 1 0) i c = true := by rw [sV_eq (rI h) hi (by omega), hf]; rfl
        have ht : t.1 29 i c = σm.1 1 0 (152 + 134 * i + 68 + c) := by
          rw [hT.1 29 (by decide) (by decide)]
          exact (c_who_tone hRs hi hc hv).2
        rw [e1, ht]
        simp only [Bool.true_eq_false, if_false, Option.bind_some]
        by_cases hq : σm.1 1 0 (152 + 134 * i + 68 + c) = shd (σm.1 1 0) c m
        · right
          rw [if_pos hq]
          exact ⟨_, rfl, nI_1 c, hT.trans h1, nxt (by unfold jdp; simp [hq])⟩
        · left
          rw [if_neg hq]
          exact ⟨_, rfl, Or.inl ⟨c, t', rfl, hc, hT.trans h1, by unfold jdp; simp [hf, hq], hno⟩⟩) (by
      rintro ⟨_, t⟩ ⟨rfl, hT, hno⟩
      unfold b_X9_firstUnlike_8
      rw [if_neg (show ¬ (nI 56 : Int32) < 56 by decide)]
      exact ⟨_, rfl, Or.inr ⟨t, rfl, hT, hno⟩⟩)
  rw [e, Option.bind_some]
  unfold jdg
  rcases hr with ⟨c, t, rfl, hc, hT, hp, hno⟩ | ⟨t, rfl, hT, hno⟩
  · rw [ff_eq (show c < 64 by omega) hp hno, if_pos (by omega)]
    exact ⟨t, rfl, hT⟩
  · rw [if_neg (ff_none fun j hj => ?_)]
    · exact ⟨t, rfl, hT⟩
    · by_cases h56 : j < 56
      · exact hno j h56
      · have : sF (σm.1 1 0) i j = false := by
          unfold sF
          rw [iv_Sh2 (rI h) hi (by omega) hj]
          decide
        unfold jdp
        rw [this]
        rfl
theorem m_judge [Inhabited BFT] (h : Rel σc σm) {s : zG} (hs : SmL σm s) {i m : Nat} (hi : i < aShN (σm.1 1 0)) : ∃ sm, f_X12_judgedBy (nI i) (nI m) s = some (jdg (σm.1 1 0) i m, sm) ∧ SmL σm sm := by
  have i10 := sh10 (rI h) hi
  unfold f_X12_judgedBy
  obtain ⟨r, e, hr⟩ := zlp_run (f := fun q : Int32 × zG => b_X12_judgedBy_2 (nI i) (nI m) q.1 q.2) 64 (fun c q => q.1 = nI c ∧ SmL σm q.2 ∧ ∀ j, j < c → jdp (σm.1 1 0) i m j = false)
    (fun r => (∃ c t, r = Sum.inl (nI c, t) ∧ c < 64 ∧ SmL σm t ∧ jdp (σm.1 1 0) i m c = true ∧ ∀ j, j < c → jdp (σm.1 1 0) i m j = false) ∨ (∃ t, r = Sum.inr t ∧ SmL σm t ∧ ∀ j, j < 64 → jdp (σm.1 1 0) i m j = false))
    (a := ((0 : Int32), s)) ⟨rfl, hs, fun j hj => absurd hj (Nat.not_lt_zero j)⟩ (by
      rintro c hc ⟨_, t⟩ ⟨rfl, hT, hno⟩
      have l64 : nI c < 64 := nI_lt (b := 64) hc (by decide)
      have g1 : t.1 1 = σm.1 1 := hT.1 1 (by decide) (by decide)
      have nxt : jdp (σm.1 1 0) i m c = false → ∀ j, j < c + 1 → jdp (σm.1 1 0) i m j = false := fun q j hj => by
        rcases Nat.lt_succ_iff_lt_or_eq.mp hj with z | z
        · exact hno j z
        · rw [z]; exact q
      unfold b_X12_judgedBy_2
      rw [m_clearIn i10 hc, m_sTone i10 hc, g1]
      simp only [l64, if_true, zt_0, Option.bind_some]
      cases hf : sF (σm.1 1 0) i c
      · right
        exact ⟨_, rfl, nI_1 c, hT, nxt (by unfold jdp; rw [hf]; rfl)⟩
      · obtain ⟨t', e1, h1⟩ := m_shade' h hT (c := c) (m := m) hc
        rw [e1]
        simp only [Bool.true_eq_false, if_false, Option.bind_some]
        by_cases hq : σm.1 1 0 (152 + 134 * i + 68 + c) = shd (σm.1 1 0) c m
        · right
          rw [if_pos hq]
          exact ⟨_, rfl, nI_1 c, h1, nxt (by unfold jdp; simp [hq])⟩
        · left
          rw [if_neg hq]
          exact ⟨_, rfl, Or.inl ⟨c, t', rfl, hc, h1, by unfold jdp; simp [hf, hq], hno⟩⟩) (by
      rintro ⟨_, t⟩ ⟨rfl, hT, hno⟩
      unfold b_X12_judgedBy_2
      rw [if_neg (show ¬ (nI 64 : Int32) < 64 by decide)]
      exact ⟨_, rfl, Or.inr ⟨t, rfl, hT, hno⟩⟩)
  rw [e, Option.bind_some]
  unfold jdg
  rcases hr with ⟨c, t, rfl, hc, hT, hp, hno⟩ | ⟨t, rfl, hT, hno⟩
  · rw [ff_eq hc hp hno, if_pos hc]
    exact ⟨t, rfl, hT⟩
  · rw [if_neg (ff_none hno)]
    exact ⟨t, rfl, hT⟩
theorem pr_judged [Inhabited BFT] : PR_judged Rel := fun x y σc σm h => by
  unfold f_X11_judged f_X12_judged
  rcases sh_cs h x with ⟨i, hi, rfl, e1, e2⟩ | ⟨e1, e2⟩
  · rcases min_cs y with ⟨m, hm, rfl, e3, e4⟩ | ⟨e3, e4⟩
    · obtain ⟨sc, e5, h5⟩ := c_judge h (SmC.refl σc) (m := m) hi
      obtain ⟨sm, e6, h6⟩ := m_judge h (SmL.refl σm) (m := m) hi
      rw [e1, e2, e3, e4]
      simp only [Option.bind_some, zoc, show ¬ (1 : Int32) = 0 by decide, if_false, e5, e6]
      exact ⟨_, _, _, rfl, rfl, rel_same h5.c h6.m h⟩
    · rw [e1, e2, e3, e4]
      exact ⟨_, _, _, rfl, rfl, h⟩
  · rw [e1, e2]
    exact ⟨_, _, _, rfl, rfl, h⟩
theorem pr_whenShot [Inhabited BFT] : PR_whenShot Rel := fun x z σc σm h => by
  unfold f_X11_whenShot f_X12_whenShot f_X9_findAlike
  rcases sh_cs h x with ⟨i, hi, rfl, e1, e2⟩ | ⟨e1, e2⟩
  · rw [e1, e2]
    simp only [Option.bind_some, zoc, show ¬ (1 : Int32) = 0 by decide, if_false, zb]
    obtain ⟨b, b', f1, f2, n, hn, hF, hC, hM⟩ := zlp_two (f := fun q : Int32 × zG => b_X9_findAlike_7 i q.1 q.2) (f' := fun q : Int32 × Int32 × Int32 × Int32 × zG => b_X12_whenShot_31 (nI i) q.1 q.2.1 q.2.2.1 q.2.2.2.1 q.2.2.2.2) 501
      (fun k q q' => (q.1 = nI k ∧ q'.2.2.2.1 = nI k) ∧ ∃ n, n ≤ k ∧ FR n q.2 q'.1 q'.2.1 q'.2.2.1 ∧ SmC σc q.2 ∧ SmL σm q'.2.2.2.2)
      (fun b b' => ∃ n, n ≤ 501 ∧ FR n b b'.1 b'.2.1 b'.2.2.1 ∧ SmC σc b ∧ SmL σm b'.2.2.2)
      (a := ((0 : Int32), zwI σc 5 0 4 (0 : Int32))) (a' := ((0 : Int32), (-1 : Int32), (-1 : Int32), (0 : Int32), σm))
      ⟨⟨rfl, rfl⟩, 0, Nat.le_refl _, ⟨by simp [zw_at]; rfl, rfl, fun q => absurd q (Nat.lt_irrefl 0), fun _ => ⟨rfl, rfl⟩⟩, smC_w rfl, SmL.refl _⟩ (by
        rintro k hk ⟨_, s⟩ ⟨many, first, last, _, s'⟩ ⟨⟨rfl, rfl⟩, n, hn, hF, hC, hM⟩
        right
        obtain ⟨t, e1, h1⟩ := c_judge h hC (m := k) hi
        obtain ⟨t', e2, h2⟩ := m_judge h hM (m := k) hi
        have hle : nI k ≤ (500 : Int32) := nI_le (b := 500) (by omega) (by decide)
        have hF' : FR n t many first last := by
          have e5 : t.1 5 = s.1 5 := h1.1 5 (by decide) (by decide)
          unfold FR
          rw [e5]
          exact hF
        unfold b_X9_findAlike_7 b_X12_whenShot_31
        simp only [hle, if_true, e1, e2, Option.bind_some, zb]
        by_cases hv : jdg (σm.1 1 0) i k = -1
        · rw [if_pos hv, if_pos hv]
          obtain ⟨g1, g2⟩ := fr_find hF' (by omega) (nI k)
          refine ⟨_, (many + 1, if many = 0 then nI k else first, nI k, nI k + 1, t'), rfl, ?_, ⟨nI_1 k, nI_1 k⟩, n + 1, by omega, g1, (hC.trans h1.c).trans g2, h2⟩
          split <;> rfl
        · rw [if_neg hv, if_neg hv]
          exact ⟨_, _, rfl, rfl, ⟨nI_1 k, nI_1 k⟩, n, by omega, hF', hC.trans h1.c, h2⟩) (by
        rintro ⟨_, s⟩ ⟨many, first, last, _, s'⟩ ⟨⟨rfl, rfl⟩, n, hn, hF, hC, hM⟩
        have hle : ¬ nI 501 ≤ (500 : Int32) := by decide
        unfold b_X9_findAlike_7 b_X12_whenShot_31
        simp only [hle, if_false]
        exact ⟨_, _, rfl, rfl, n, hn, hF, hC, hM⟩)
    rw [f1, f2, isIn02]
    simp only [Option.bind_some, zt_0, fr_found hF (by omega)]
    unfold f_X11_oneOf
    by_cases h0 : z = 0
    · subst h0; exact ⟨_, _, _, rfl, rfl, rel_same hC hM.m h⟩
    by_cases h1 : z = 1
    · subst h1; exact ⟨_, _, _, rfl, rfl, rel_same hC hM.m h⟩
    by_cases h2 : z = 2
    · subst h2; exact ⟨_, _, _, rfl, rfl, rel_same hC hM.m h⟩
    simp only [h0, h1, h2, if_false, or_self, decide_false, if_true]
    exact ⟨_, _, _, rfl, rfl, rel_same hC (SmM.refl _) h⟩
  · rw [e1, e2]
    exact ⟨_, _, _, rfl, rfl, h⟩
theorem pr_exposed [Inhabited BFT] : PR_exposed Rel := fun x y u z σc σm h => by
  unfold f_X11_exposed f_X12_exposed f_X9_meanTone
  rcases span_cs x y with ⟨a, n, hn, rfl, rfl, e1, e2⟩ | ⟨e1, e2⟩
  · rcases sp_cs h u with ⟨c, hc, rfl, hsp, e3, e4⟩ | ⟨e3, e4⟩
    · have hc64 : c < 64 := by omega
      rw [e1, e2, e3, e4, isIn01, c_minC h hc64 hn, m_covMany (rI h) hc64 hn]
      simp only [Option.bind_some, zt_0, show ¬ (1 : Int32) = 0 by decide, if_false]
      by_cases h0 : z = 0
      · subst h0; exact ⟨_, _, _, rfl, rfl, h⟩
      by_cases h1 : z = 1
      · subst h1
        have sub : nI (a + n) - nI a + 1 = nI (n + 1) := by rw [pk_sub (by omega), Nat.add_sub_cancel_left, nI_1]
        have p0 : (0 : Int32) < nI (n + 1) := nI_lt (a := 0) (by omega) (by omega)
        have pn : (nI (n + 1) != 0) = true := by
          have := nI_ne0 (n := n + 1) (by omega) (by omega)
          simpa using this
        obtain ⟨b, b', f1, f2, hb, hC, hM⟩ := zlp_two (f := fun q : Int32 × Int32 × zG => b_X9_meanTone_6 (nI (a + n)) (nI c) q.1 q.2.1 q.2.2) (f' := fun q : Int32 × Int32 × zG => b_X12_exposed_47 (nI (a + n)) (nI c) q.1 q.2.1 q.2.2) (n + 1)
          (fun k q q' => (q.1 = q'.1 ∧ q.2.1 = nI (a + k) ∧ q'.2.1 = nI (a + k)) ∧ SmC σc q.2.2 ∧ SmL σm q'.2.2)
          (fun b b' => b.1 = b'.1 ∧ SmC σc b.2 ∧ SmL σm b'.2) (a := ((0 : Int32), nI a, σc)) (a' := ((0 : Int32), nI a, σm)) ⟨⟨rfl, rfl, rfl⟩, SmC.refl _, SmL.refl _⟩ (by
            rintro k hk ⟨v, _, s⟩ ⟨_, _, s'⟩ ⟨⟨rfl, rfl, rfl⟩, hC, hM⟩
            right
            obtain ⟨t, e1, h1⟩ := c_tone' h hC (m := a + k) hc64 (by omega)
            obtain ⟨t', e2, h2⟩ := m_tone' h hM (m := a + k) hc64 (by omega)
            have hle : nI (a + k) ≤ nI (a + n) := nI_le (by omega) (by omega)
            unfold b_X9_meanTone_6 b_X12_exposed_47
            simp only [hle, if_true, e1, e2, Option.bind_some]
            exact ⟨_, _, rfl, rfl, ⟨rfl, nI_1 _, nI_1 _⟩, h1, h2⟩) (by
            rintro ⟨v, _, s⟩ ⟨_, _, s'⟩ ⟨⟨rfl, rfl, rfl⟩, hC, hM⟩
            have hle : ¬ nI (a + (n + 1)) ≤ nI (a + n) := nI_ge (by omega) (by omega)
            unfold b_X9_meanTone_6 b_X12_exposed_47
            simp only [hle, if_false]
            exact ⟨_, _, rfl, rfl, rfl, hC, hM⟩)
        rw [f1, f2]
        simp only [Option.bind_some, sub, p0, pn, zgT, show ¬ (1 : Int32) = 0 by decide, if_true, if_false, or_true, decide_true, Bool.true_eq_false, hb]
        exact ⟨_, _, _, rfl, rfl, rel_same hC hM.m h⟩
      simp only [h0, h1, if_false, or_self, decide_false, if_true]
      exact ⟨_, _, _, rfl, rfl, h⟩
    · rw [e1, e2, e3, e4]
      exact ⟨_, _, _, rfl, rfl, h⟩
  · rw [e1, e2]
    exact ⟨_, _, _, rfl, rfl, h⟩
end PURE
