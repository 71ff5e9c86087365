/-! PURE LAYER: a bridge anew -/
def bgn (w h k : Nat) : Int32 := if k = 30 then nI w else if k = 31 then nI h else if k = 32 then nI w else if k = 34 then 5 else if k = 35 then 20 else if 40 ≤ k ∧ k < 104 then -1 else 0
section PURE
variable {σ σ' σc σm σc' σm' : zG} {g g' : zGa}
theorem inv_fresh {w h : Nat} (hw : 2 ≤ w ∧ w ≤ 8) (hh : 2 ≤ h ∧ h ≤ 7) (hg : ∀ k, k < 9248 → k ≠ 2 → g k = bgn w h k) : Inv g := by
  have z : ∀ k, k < 9248 → k ≠ 2 → k ≠ 30 → k ≠ 31 → k ≠ 32 → k ≠ 34 → k ≠ 35 → ¬ (40 ≤ k ∧ k < 104) → g k = 0 := fun k h0 h1 h2 h3 h4 h5 h6 h7 => by
    rw [hg k h0 h1]
    unfold bgn
    rw [if_neg h2, if_neg h3, if_neg h4, if_neg h5, if_neg h6, if_neg h7]
  have e30 : g 30 = nI w := hg 30 (by decide) (by decide)
  have e31 : g 31 = nI h := hg 31 (by decide) (by decide)
  have e32 : g 32 = nI w := hg 32 (by decide) (by decide)
  have e33 : g 33 = 0 := z 33 (by decide) (by decide) (by decide) (by decide) (by decide) (by decide) (by decide) (by decide)
  have e34 : g 34 = 5 := hg 34 (by decide) (by decide)
  have e35 : g 35 = 20 := hg 35 (by decide) (by decide)
  have e36 : g 36 = 0 := z 36 (by decide) (by decide) (by decide) (by decide) (by decide) (by decide) (by decide) (by decide)
  have e0 : g 0 = 0 := z 0 (by decide) (by decide) (by decide) (by decide) (by decide) (by decide) (by decide) (by decide)
  have e1 : g 1 = 0 := z 1 (by decide) (by decide) (by decide) (by decide) (by decide) (by decide) (by decide) (by decide)
  have e3 : g 3 = 0 := z 3 (by decide) (by decide) (by decide) (by decide) (by decide) (by decide) (by decide) (by decide)
  have e4 : g 4 = 0 := z 4 (by decide) (by decide) (by decide) (by decide) (by decide) (by decide) (by decide) (by decide)
  have a30 : aW g = w := by unfold aW; rw [e30, nI_clamp (by omega)]
  have a31 : aH g = h := by unfold aH; rw [e31, nI_clamp (by omega)]
  have a32 : aWide g = w := by unfold aWide; rw [e32, nI_clamp (by omega)]
  have a33 : aCom g = 0 := by unfold aCom; rw [e33]; rfl
  have a34 : aStay g = 5 := by unfold aStay; rw [e34]; rfl
  have a35 : aGrey g = 20 := by unfold aGrey; rw [e35]; rfl
  have a36 : aWN g = 0 := by unfold aWN; rw [e36]; rfl
  have a0 : aMin g = 0 := by unfold aMin; rw [e0]; rfl
  have a1 : aStep g = 0 := by unfold aStep; rw [e1]; rfl
  have a3 : aSN g = 0 := by unfold aSN; rw [e3]; rfl
  have a4 : aShN g = 0 := by unfold aShN; rw [e4]; rfl
  have lw : ∀ k, k < 2 → LawI g k := fun k hk => by
    have e : g (37 + k) = 0 := z (37 + k) (by omega) (by omega) (by omega) (by omega) (by omega) (by omega) (by omega) (by omega)
    have a : aLN g k = 0 := by unfold aLN; rw [e]; rfl
    unfold LawI
    rw [a, e]
    exact ⟨⟨rfl, by decide⟩, fun i hi => absurd hi (Nat.not_lt_zero i)⟩
  unfold Inv
  rw [a30, a31, a32, a33, a34, a35, a36, a4, e30, e31, e32, e33, e34, e35, e36]
  refine ⟨⟨rfl, hw⟩, ⟨rfl, hh⟩, ⟨rfl, by omega, by omega⟩, ⟨rfl, by decide⟩, ⟨rfl, by decide, by decide⟩, ⟨rfl, by decide⟩, ⟨rfl, by decide⟩, fun k hk => absurd hk (Nat.not_lt_zero k), ⟨lw 0 (by decide), lw 1 (by decide)⟩, ?_, fun i hi => absurd hi (Nat.not_lt_zero i), fun i hi => absurd hi (Nat.not_lt_zero i)⟩
  unfold Top
  rw [a0, a1, a3, a4, a30, a32, e0, e1, e3, e4]
  refine ⟨⟨rfl, by decide⟩, ⟨rfl, by omega⟩, ⟨rfl, by decide⟩, ⟨rfl, by decide⟩, fun i hi => absurd hi (Nat.not_lt_zero i), fun c hc => Or.inl ?_⟩
  rw [hg (40 + c) (by omega) (by omega)]
  unfold bgn
  rw [if_neg (by omega), if_neg (by omega), if_neg (by omega), if_neg (by omega), if_neg (by omega), if_pos (by omega)]
/-- what a fresh bridge of the class holds -/
def Frs (σ : zG) (w h : Nat) : Prop := (σ.1 1 0 0 = nI w ∧ σ.1 1 0 1 = nI h ∧ σ.1 1 0 3 = 0 ∧ σ.1 1 0 4 = nI w ∧ σ.1 1 0 5 = 0 ∧ σ.1 1 0 6 = 0 ∧ σ.1 1 0 7 = 5 ∧ σ.1 1 0 8 = 20 ∧ σ.1 1 0 9 = 0) ∧ σ.1 7 0 0 = 0 ∧ σ.1 8 0 0 = 0 ∧ σ.1 10 0 0 = 0 ∧ σ.1 10 1 0 = 0 ∧ (∀ m, m < 501 → σ.2 22 0 m = 0) ∧ ∀ c, c < 56 → σ.1 32 0 c = -1
theorem rb_fresh {w h : Nat} (hw : 2 ≤ w ∧ w ≤ 8) (hh : 2 ≤ h ∧ h ≤ 7) (hg : ∀ k, k < 9248 → k ≠ 2 → g k = bgn w h k) (hF : Frs σ w h) (h2 : σ.1 1 0 2 = g 2) : RB σ 0 g := by
  obtain ⟨⟨f0, f1, f3, f4, f5, f6, f7, f8, f9⟩, g7, g8, g10, g11, g22, g32⟩ := hF
  have hI := inv_fresh hw hh hg
  have e36 : g 36 = 0 := hg 36 (by decide) (by decide)
  have e3 : g 3 = 0 := hg 3 (by decide) (by decide)
  have e4 : g 4 = 0 := hg 4 (by decide) (by decide)
  have e37 : g 37 = 0 := hg 37 (by decide) (by decide)
  have e38 : g 38 = 0 := hg 38 (by decide) (by decide)
  have a36 : aWN g = 0 := by unfold aWN; rw [e36]; rfl
  have a3 : aSN g = 0 := by unfold aSN; rw [e3]; rfl
  have a4 : aShN g = 0 := by unfold aShN; rw [e4]; rfl
  have a37 : aLN g 0 = 0 := by unfold aLN; rw [show g (37 + 0) = 0 from e37]; rfl
  have a38 : aLN g 1 = 0 := by unfold aLN; rw [show g (37 + 1) = 0 from e38]; rfl
  refine ⟨⟨f0.trans (hg 30 (by decide) (by decide)).symm, f1.trans (hg 31 (by decide) (by decide)).symm, h2, f3.trans (hg 0 (by decide) (by decide)).symm, f4.trans (hg 32 (by decide) (by decide)).symm, f5.trans (hg 1 (by decide) (by decide)).symm, f6.trans (hg 33 (by decide) (by decide)).symm, f7.trans (hg 34 (by decide) (by decide)).symm, f8.trans (hg 35 (by decide) (by decide)).symm, f9.trans e4.symm⟩, ⟨g7.trans e3.symm, fun i hi => by rw [a3] at hi; exact absurd hi (Nat.not_lt_zero i)⟩, ⟨g8.trans e36.symm, fun i hi => by rw [a36] at hi; exact absurd hi (Nat.not_lt_zero i)⟩, ⟨fun i hi => by rw [a36] at hi; exact absurd hi (Nat.not_lt_zero i), fun m hm c hc => ?_⟩, ⟨⟨g10.trans e37.symm, fun i hi => by rw [a37] at hi; exact absurd hi (Nat.not_lt_zero i)⟩, ⟨g11.trans e38.symm, fun i hi => by rw [a38] at hi; exact absurd hi (Nat.not_lt_zero i)⟩⟩, fun i hi => by rw [a4] at hi; exact absurd hi (Nat.not_lt_zero i), fun c hc => ?_⟩
  · rw [g22 m hm, lb_0, a36]
    constructor
    · intro q; cases q
    · rintro ⟨k, hk, -⟩; exact absurd hk (Nat.not_lt_zero k)
  · rw [g32 c hc, hg (40 + c) (by omega) (by omega)]
    unfold bgn
    rw [if_neg (by omega), if_neg (by omega), if_neg (by omega), if_neg (by omega), if_neg (by omega), if_pos (by omega)]
theorem c_anew (σ : zG) (w h : Nat) : Frs (f_X1_startAnew 0 (nI w) (nI h) σ) w h ∧ (f_X1_startAnew 0 (nI w) (nI h) σ).1 1 0 2 = σ.1 1 0 2 ∧ (∀ p : Nat → Nat → Bool, p 1 0 = false → p 7 0 = false → p 8 0 = false → p 10 0 = false → p 10 1 = false → p 21 0 = false → p 22 0 = false → p 32 0 = false → REq p σ (f_X1_startAnew 0 (nI w) (nI h) σ)) ∧ ∀ f, f ≠ 1 → f ≠ 7 → f ≠ 8 → f ≠ 10 → f ≠ 21 → f ≠ 32 → (f_X1_startAnew 0 (nI w) (nI h) σ).1 f = σ.1 f := by
  refine ⟨?_, ?_, fun p p1 p7 p8 p10 p11 p21 p22 p32 => ?_, fun f h1 h7 h8 h10 h21 h32 => ?_⟩
  · unfold f_X1_startAnew f_X5_clear f_X3_clear Frs
    simp only [zb, Nat.mul_zero, Nat.zero_add]
    refine ⟨⟨?_, ?_, ?_, ?_, ?_, ?_, ?_, ?_, ?_⟩, ?_, ?_, ?_, ?_, fun m hm => ?_, fun c hc => ?_⟩ <;> simp [zwI, zflI, zflB, zflL] <;> omega
  · unfold f_X1_startAnew f_X5_clear f_X3_clear
    simp [zb, zwI, zflI, zflB, zflL]
  · unfold f_X1_startAnew f_X5_clear f_X3_clear
    simp only [zb, Nat.mul_zero, Nat.zero_add]
    exact (((((((((((((((((req_w p1).trans (req_w p1)).trans (req_w p1)).trans (req_w p1)).trans (req_w p1)).trans (req_w p1)).trans (req_w p1)).trans (req_w p1)).trans (req_w p1)).trans (req_w p7)).trans (req_w p8)).trans (req_fl p21)).trans (req_flL p22)).trans (req_w p10)).trans (req_w p10)).trans (req_w p11)).trans (req_w p11)).trans (req_fl p32)
  · unfold f_X1_startAnew f_X5_clear f_X3_clear
    funext i k
    simp [zb, zwI, zflI, zflB, zflL, h1, h7, h8, h10, h21, h32]
theorem m_begins (σ : zG) (w h : Nat) : ∃ sm, f_X12_begins (nI w) (nI h) σ = some sm ∧ (∀ f, f ≠ 0 → f ≠ 1 → sm.1 f = σ.1 f) ∧ (∀ k, k ≠ 3 → sm.1 0 0 k = σ.1 0 0 k) ∧ sm.1 0 0 3 = 0 ∧ sm.1 1 0 2 = σ.1 1 0 2 ∧ ∀ k, k < 9248 → k ≠ 2 → sm.1 1 0 k = bgn w h k := by
  unfold f_X12_begins
  obtain ⟨s, e, h1, h2⟩ := zlp_run (f := fun q : Int32 × zG => b_X12_begins_10 q.1 q.2) 9248 (fun k q => q.1 = nI k ∧ Smf 1 σ q.2 ∧ ∀ j, j < k → q.2.1 1 0 j = 0) (fun s => Smf 1 σ s ∧ ∀ j, j < 9248 → s.1 1 0 j = 0) (a := ((0 : Int32), σ)) ⟨rfl, Smf.refl _ _, fun j hj => absurd hj (Nat.not_lt_zero j)⟩ (by
    rintro k hk ⟨_, s⟩ ⟨rfl, h1, h2⟩
    right
    have l : nI k < 9248 := nI_lt (b := 9248) hk (by decide)
    unfold b_X12_begins_10
    simp (disch := omega) only [l, if_true, zin_nI, hk, decide_true, zgT, nI_clamp, zb, nI_1]
    refine ⟨_, rfl, rfl, h1.trans (smf_w 1 s _ _ _), fun j hj => ?_⟩
    show (zwI s 1 0 k 0).1 1 0 j = 0
    rw [zw_at]
    by_cases q : j = k
    · rw [if_pos ⟨rfl, rfl, q⟩]
    · rw [if_neg (fun z => q z.2.2)]
      exact h2 j (by omega)) (by
    rintro ⟨_, s⟩ ⟨rfl, h1, h2⟩
    unfold b_X12_begins_10
    rw [if_neg (show ¬ (nI 9248 : Int32) < 9248 by decide)]
    exact ⟨_, rfl, h1, h2⟩)
  rw [e, Option.bind_some]
  simp only [zb]
  generalize ht : zwI (zwI (zwI (zwI (zwI (zwI s 1 0 2 (σ.1 1 0 2)) 1 0 30 (nI w)) 1 0 31 (nI h)) 1 0 32 (nI w)) 1 0 34 5) 1 0 35 20 = t
  have gt : t.1 1 0 = upd (upd (upd (upd (upd (upd (s.1 1 0) 2 (σ.1 1 0 2)) 30 (nI w)) 31 (nI h)) 32 (nI w)) 34 5) 35 20 := by
    rw [← ht, zw_row, zw_row, zw_row, zw_row, zw_row, zw_row]
  have ft : ∀ f, f ≠ 1 → t.1 f = σ.1 f := fun f hf => by
    rw [← ht, zf_ne hf, zf_ne hf, zf_ne hf, zf_ne hf, zf_ne hf, zf_ne hf]
    exact h1.1 f hf
  obtain ⟨u, e2, u1, u2⟩ := zlp_run (f := fun q : Int32 × zG => b_X12_begins_83 q.1 q.2) 64 (fun k q => q.1 = nI k ∧ (∀ f, f ≠ 1 → q.2.1 f = σ.1 f) ∧ ∀ j, q.2.1 1 0 j = if 40 ≤ j ∧ j < 40 + k then -1 else t.1 1 0 j) (fun u => (∀ f, f ≠ 1 → u.1 f = σ.1 f) ∧ ∀ j, u.1 1 0 j = if 40 ≤ j ∧ j < 40 + 64 then -1 else t.1 1 0 j) (a := ((0 : Int32), t)) ⟨rfl, ft, fun j => by
      show t.1 1 0 j = _
      rw [if_neg (by omega)]⟩ (by
    rintro k hk ⟨_, u⟩ ⟨rfl, u1, u2⟩
    right
    have u2' : ∀ j, u.1 1 0 j = if 40 ≤ j ∧ j < 40 + k then -1 else t.1 1 0 j := u2
    have l : nI k < 64 := nI_lt (b := 64) hk (by decide)
    have ei : (40 : Int32) + nI k = nI (40 + k) := by simp only [zlit, nI_add]
    unfold b_X12_begins_83
    rw [ei]
    simp (disch := omega) only [l, if_true, zin_nI, show 40 + k < 9248 by omega, decide_true, zgT, nI_clamp, zb, nI_1]
    refine ⟨_, rfl, rfl, fun f hf => ?_, fun j => ?_⟩
    · show (zwI u 1 0 (40 + k) (-1)).1 f = _
      rw [zf_ne hf]; exact u1 f hf
    · show (zwI u 1 0 (40 + k) (-1)).1 1 0 j = _
      rw [zw_at]
      by_cases q : j = 40 + k
      · rw [if_pos ⟨rfl, rfl, q⟩, if_pos (by omega)]
      · rw [if_neg (fun z => q z.2.2), u2' j]
        by_cases y : 40 ≤ j ∧ j < 40 + k
        · rw [if_pos y, if_pos (by omega)]
        · rw [if_neg y, if_neg (by omega)]) (by
    rintro ⟨_, u⟩ ⟨rfl, u1, u2⟩
    unfold b_X12_begins_83
    rw [if_neg (show ¬ (nI 64 : Int32) < 64 by decide)]
    exact ⟨_, rfl, u1, u2⟩)
  rw [e2, Option.bind_some]
  refine ⟨_, rfl, fun f f0 f1 => ?_, fun k hk => ?_, ?_, ?_, fun k hk k2 => ?_⟩
  · rw [zf_ne f0]; exact u1 f f1
  · rw [zw_at, if_neg (fun z => hk z.2.2), u1 0 (by decide)]
  · rw [zw_at, if_pos ⟨rfl, rfl, rfl⟩]
  · rw [zf_ne (by decide), u2, if_neg (by omega), gt]
    rfl
  · rw [zf_ne (by decide), u2]
    unfold bgn
    by_cases q : 40 ≤ k ∧ k < 104
    · rw [if_pos q, if_neg (by omega), if_neg (by omega), if_neg (by omega), if_neg (by omega), if_neg (by omega), if_pos q]
    · rw [if_neg q, if_neg q, gt]
      unfold upd
      by_cases k35 : k = 35
      · subst k35; rfl
      by_cases k34 : k = 34
      · subst k34; rfl
      by_cases k32 : k = 32
      · subst k32; rfl
      by_cases k31 : k = 31
      · subst k31; rfl
      by_cases k30 : k = 30
      · subst k30; rfl
      simp only [k35, k34, k32, k31, k30, k2, if_false]
      exact h2 k hk
theorem bridge_rel [Inhabited BFT] (h : Rel σc σm) {w v : Nat} (hw : 2 ≤ w ∧ w ≤ 8) (hv : 2 ≤ v ∧ v ≤ 7) : ∃ sm, f_X12_begins (nI w) (nI v) σm = some sm ∧ Rel (zwI (f_X1_startAnew 0 (nI w) (nI v) σc) 2 0 1 0) sm := by
  obtain ⟨sm, e, m1, m2, m3, m4, m5⟩ := m_begins σm w v
  obtain ⟨hF, f2, fr, fo⟩ := c_anew σc w v
  refine ⟨sm, e, ?_⟩
  generalize hsc : f_X1_startAnew 0 (nI w) (nI v) σc = s at hF f2 fr fo ⊢
  have s2 : s.1 1 0 2 = sm.1 1 0 2 := by rw [f2, m4]; exact (rB h).1.2.2.1
  have rowe : ∀ f i, f ≠ 2 → (zwI s 2 0 1 0).1 f i = s.1 f i := fun f i hf => zr_ne (Or.inl hf)
  have hF' : Frs (zwI s 2 0 1 0) w v := by
    unfold Frs at hF ⊢
    rw [rowe 1 0 (by decide), rowe 7 0 (by decide), rowe 8 0 (by decide), rowe 10 0 (by decide), rowe 10 1 (by decide), rowe 32 0 (by decide)]
    exact hF
  have r1 : REq (rws 1) σc (zwI s 2 0 1 0) := (fr _ rfl rfl rfl rfl rfl rfl rfl rfl).trans (req_w rfl)
  have fo' : ∀ f, f = 0 ∨ f = 3 ∨ f = 4 ∨ f = 38 → (zwI s 2 0 1 0).1 f = σc.1 f := fun f hf => by
    rw [zf_ne (by omega)]
    exact fo f (by omega) (by omega) (by omega) (by omega) (by omega) (by omega)
  obtain ⟨q1, q2, q3⟩ := rest_ok h (σc' := zwI s 2 0 1 0) (σm' := sm) ⟨r1, by rw [fo' 0 (by simp)], fo' 3 (by simp), fo' 38 (by simp), fo' 4 (by simp)⟩ ⟨m1 2 (by decide) (by decide), m1 8 (by decide) (by decide), m2 4 (by decide), m2 16 (by decide), m2 23 (by decide), m2 25 (by decide)⟩
  refine ⟨rb_fresh hw hv m5 hF' (by rw [rowe 1 0 (by decide)]; exact s2), inv_fresh hw hv m5, kp_zero h.2.2.1 ?_ ?_ m3, q1, q2, q3⟩
  · rw [zw_at, if_neg (by decide)]
    have := fo 2 (by decide) (by decide) (by decide) (by decide) (by decide) (by decide)
    rw [this]
  · rw [zw_at, if_pos ⟨rfl, rfl, rfl⟩]
theorem pr_bridge [Inhabited BFT] : PR_bridge Rel := fun x y σc σm h => by
  unfold f_X11_bridge f_X12_bridge
  rcases in_cs x 2 8 (by decide) (by decide) with ⟨w, w1, w2, rfl, a1, a2, r⟩ | ⟨r, q⟩
  · have a1' : (2 : Int32) ≤ nI w := a1
    have a2' : nI w ≤ (8 : Int32) := i_nlt.mp a2
    have r' : f_X12_isIn (nI w) 2 8 = 1 := r
    rw [if_pos a1', if_pos a2', r', if_neg (show ¬ (1 : Int32) = 0 by decide)]
    rcases in_cs y 2 7 (by decide) (by decide) with ⟨v, v1, v2, rfl, c1, c2, s⟩ | ⟨s, q⟩
    · have c1' : (2 : Int32) ≤ nI v := c1
      have c2' : ¬ (7 : Int32) < nI v := c2
      have s' : f_X12_isIn (nI v) 2 7 = 1 := s
      obtain ⟨sm, e, hR⟩ := bridge_rel h ⟨w1, w2⟩ ⟨v1, v2⟩
      rw [if_pos c1', if_neg c2', s', if_neg (show ¬ (1 : Int32) = 0 by decide), e]
      simp only [zb, Option.bind_some, f_X2_forget]
      exact ⟨_, _, _, rfl, rfl, hR⟩
    · have s' : f_X12_isIn y 2 7 = 0 := s
      rw [s', if_pos rfl]
      rcases q with q | ⟨q1, q2⟩
      · rw [if_neg (show ¬ (2 : Int32) ≤ y from q)]
        exact ⟨_, _, _, rfl, rfl, h⟩
      · rw [if_pos (show (2 : Int32) ≤ y from q1), if_pos (show (7 : Int32) < y from q2)]
        exact ⟨_, _, _, rfl, rfl, h⟩
  · have r' : f_X12_isIn x 2 8 = 0 := r
    rw [r', if_pos rfl]
    rcases q with q | ⟨q1, q2⟩
    · rw [if_neg (show ¬ (2 : Int32) ≤ x from q)]
      exact ⟨_, _, _, rfl, rfl, h⟩
    · rw [if_pos (show (2 : Int32) ≤ x from q1), if_neg (show ¬ x ≤ (8 : Int32) from i_nle.mpr q2)]
      exact ⟨_, _, _, rfl, rfl, h⟩
end PURE
