/-! PURE LAYER: text, a law -/
section PURE
variable {σ σ' σc σm sc sm : zG} {B : Nat → Nat} {n T k kk : Nat}
theorem c_textL (hkk : kk < 2) (σ : zG) : f_X11_text (nI (kk + 1)) σ = (f_X4_start σ).bind (fun q1 => (f_X4_readLaw (nI (108 + kk)) (nI (114 + 3 * kk)) (nI (117 + 4 * kk)) q1).bind (fun q6 => some ((f_X11_tellLaw kk q6.1 q6.2).1, zwI (f_X11_tellLaw kk q6.1 q6.2).2 3 0 1 0))) := by
  have h : kk = 0 ∨ kk = 1 := by omega
  rcases h with rfl | rfl
  · rfl
  · rfl
theorem m_textL (hkk : kk < 2) (σ : zG) : f_X12_text (nI (kk + 1)) σ = (f_X12_next0 (zwI (zwI (zwI (zwI (zwI σ 0 0 23 0) 0 0 25 (-1)) 0 0 21 0) 0 0 17 0) 0 0 12 (nI (kk + 1)))).bind (fun q6 => (f_X12_readsLaw q6).bind (fun q7 => if q7.1 = 0 then some (-1, zwI (zwI (zwI q7.2 0 0 16 0) 0 0 23 ((zwI q7.2 0 0 16 0).1 0 0 21)) 0 0 25 ((zwI (zwI q7.2 0 0 16 0) 0 0 23 ((zwI q7.2 0 0 16 0).1 0 0 21)).1 0 0 22)) else (f_X12_putsLaw (nI kk) (zwI q7.2 0 0 16 0)).bind (fun q13 => some (q13.1, q13.2)))) := by
  have h : kk = 0 ∨ kk = 1 := by omega
  rcases h with rfl | rfl
  · rfl
  · rfl
theorem top_cong3 {g g' t : zGa} (h : ∀ k, (30 ≤ k ∧ k ≤ 32) ∨ (40 ≤ k ∧ k < 96) → g' k = g k) (hT : Top g t) : Top g' t := by
  have e1 : aWide g' = aWide g := congrArg Int32.toNatClampNeg (h 32 (by decide))
  have e2 : aW g' = aW g := congrArg Int32.toNatClampNeg (h 30 (by decide))
  have e3 : aH g' = aH g := congrArg Int32.toNatClampNeg (h 31 (by decide))
  have e4 : sp g' = sp g := by funext c; unfold sp; rw [e2, e3]
  unfold Top at hT ⊢
  rw [e1, e2, e4]
  refine ⟨hT.1, hT.2.1, hT.2.2.1, hT.2.2.2.1, hT.2.2.2.2.1, fun c hc => ?_⟩
  rw [h (40 + c) (by omega)]
  exact hT.2.2.2.2.2 c hc
theorem kp_same3 {σc' σm' : zG} (h : RKp σc σm) (h1 : REq rwk σc σc') (h2 : σm'.1 0 0 3 = σm.1 0 0 3) (h3 : σm'.1 3 = σm.1 3) (hg : ∀ k, (30 ≤ k ∧ k ≤ 32) ∨ (40 ≤ k ∧ k < 96) → σm'.1 1 0 k = σm.1 1 0 k) (hS : aShN (σm.1 1 0) ≤ aShN (σm'.1 1 0)) : RKp σc' σm' := by
  obtain ⟨fi, n, a, b, c, d, e, f, mo⟩ := h
  refine ⟨fi, n, a, b, by rw [(h1 2 0 rfl).1]; exact c, by rw [(h1 2 0 rfl).1]; exact d, by rw [h2]; exact e, fun j hj => ?_, by rw [h3]; exact mo⟩
  obtain ⟨f1, f2, f3, f4, f5, f6, f7⟩ := f j hj
  have rr : ∀ f, (f = 7 ∨ f = 12 ∨ f = 13 ∨ f = 14) → rwk f (1 + (fi + j) % 6) = true := fun f hf => by
    have : (fi + j) % 6 < 6 := Nat.mod_lt _ (by decide)
    rcases hf with rfl | rfl | rfl | rfl <;> simp [rwk] <;> omega
  rw [h3, (h1 33 0 rfl).1, (h1 34 0 rfl).1, (h1 35 0 rfl).1, (h1 36 0 rfl).1]
  refine ⟨top_cong3 hg f1, by omega, f3, f4, f5, f6, ?_⟩
  unfold RSt at f7 ⊢
  rw [(h1 7 _ (rr 7 (by simp))).1, (h1 12 _ (rr 12 (by simp))).1, (h1 13 _ (rr 13 (by simp))).1, (h1 14 _ (rr 14 (by simp))).1]
  exact f7
theorem text_law [Inhabited BFT] (hkk : kk < 2) (h : Rel σc σm) : ∃ r sc sm, f_X11_text (nI (kk + 1)) σc = some (r, sc) ∧ f_X12_text (nI (kk + 1)) σm = some (r, sm) ∧ Rel sc sm := by
  obtain ⟨B, n, hct, hn, h16, hb⟩ := rel_ct h
  obtain ⟨T, s1, hE, e1, hc, h3, h4, f1⟩ := c_begin hct
  have g0 : FrA arPM σm (zwI (zwI (zwI (zwI (zwI σm 0 0 23 0) 0 0 25 (-1)) 0 0 21 0) 0 0 17 0) 0 0 12 (nI (kk + 1))) := ((((fra_w rfl).w rfl).w rfl).w rfl).w rfl
  have p16 : (zwI (zwI (zwI (zwI (zwI σm 0 0 23 0) 0 0 25 (-1)) 0 0 21 0) 0 0 17 0) 0 0 12 (nI (kk + 1))).1 0 0 16 = nI n := by simp [zw_at]; exact h16
  have p12 : (zwI (zwI (zwI (zwI (zwI σm 0 0 23 0) 0 0 25 (-1)) 0 0 21 0) 0 0 17 0) 0 0 12 (nI (kk + 1))).1 0 0 12 = nI (kk + 1) := by simp [zw_at]
  have p17 : (zwI (zwI (zwI (zwI (zwI σm 0 0 23 0) 0 0 25 (-1)) 0 0 21 0) 0 0 17 0) 0 0 12 (nI (kk + 1))).1 0 0 17 = nI (hdd B n 0) := by simp [zw_at]; rfl
  have p23 : (zwI (zwI (zwI (zwI (zwI σm 0 0 23 0) 0 0 25 (-1)) 0 0 21 0) 0 0 17 0) 0 0 12 (nI (kk + 1))).1 0 0 23 = 0 := by simp [zw_at]
  have p25 : (zwI (zwI (zwI (zwI (zwI σm 0 0 23 0) 0 0 25 (-1)) 0 0 21 0) 0 0 17 0) 0 0 12 (nI (kk + 1))).1 0 0 25 = -1 := by simp [zw_at]
  rw [c_textL hkk, m_textL hkk]
  generalize zwI (zwI (zwI (zwI (zwI σm 0 0 23 0) 0 0 25 (-1)) 0 0 21 0) 0 0 17 0) 0 0 12 (nI (kk + 1)) = t0 at *
  have hmt : MT t0 B n (kk + 1) := ⟨hn, p16, fun k hk => ⟨(hb k hk).1, by rw [g0.1 8 0 k rfl]; exact (hb k hk).2⟩, p12, by omega⟩
  obtain ⟨t1, e2, hm, f2⟩ := m_to (k := 0) hmt p17
  obtain ⟨b, s2, t2, u1, u2, u3, u4, u5, u6⟩ := ls_law hE hkk hc hm h3 h4
  rw [e1, Option.bind_some, u1, Option.bind_some, e2, Option.bind_some, u2, Option.bind_some]
  dsimp only
  have fa : FrA arP σc s2 := (fSP f1).trans (fCP u3)
  have ga : FrA arPM σm t2 := (g0.trans (fNP f2)).trans (fMP u4)
  cases b with
  | false =>
    have bd := u6 rfl
    rw [if_pos (show zt false = 0 from rfl)]
    refine ⟨-1, zwI s2 3 0 1 0, _, rfl, rfl, read_rel h (fa.w rfl) (((ga.w rfl).w rfl).w rfl) ?_ ?_ ⟨?_, ?_⟩⟩
    · rw [zw_at, if_pos ⟨rfl, rfl, rfl⟩]
    · simp [zw_at]
    · simp [zw_at]; exact bd.1
    · simp [zw_at]; exact bd.2
  | true =>
    obtain ⟨k, L, X, v1, v2, v3, v4, v5, v6, v7⟩ := u5 rfl
    rw [if_neg (show ¬ zt true = 0 by decide)]
    have w13 : (zwI t2 0 0 16 0).1 0 0 13 = nI X.length := by rw [zw_at, if_neg (by decide)]; exact v5
    have w14 : (zwI t2 0 0 16 0).1 0 0 14 = nI L.length := by rw [zw_at, if_neg (by decide)]; exact v1.2.2.2.1.1
    obtain ⟨t3, q1, q2, q3, q4, q5, q6⟩ := m_putsLaw hkk v4 v2 w13 w14
    have et : f_X11_tellLaw kk (zt true) s2 = ((f_X3_copyFrom kk 2 s2).1 10 kk 0, f_X3_copyFrom kk 2 s2) := by
      unfold f_X11_tellLaw
      rw [if_neg (show ¬ zt true = 0 by decide)]
      rfl
    obtain ⟨c1, c2, c3, c4⟩ := c_copyLaw hkk s2
    rw [q1, et, Option.bind_some]
    dsimp only
    have hg : ∀ j, ¬ lrg kk j → t3.1 1 0 j = σm.1 1 0 j := fun j hj => by
      rw [q6 j hj, zw_at, if_neg (fun z => absurd z.1 (by decide))]
      exact ga.1 1 0 j rfl
    obtain ⟨hLaw, hRl⟩ := law_ok (g := t3.1 1 0) (σ := zwI (f_X3_copyFrom kk 2 s2) 3 0 1 0) (q := kk) v4 v2 v7 v1.2.2.2.2.1 v3 v1.2.2.1 v6 v1.2.2.2.1 q3 (fun i hi => by
        obtain ⟨x, y, z⟩ := q4 i hi
        rw [x, y, z]
        exact ⟨by rw [zw_at, if_neg (fun z => absurd z.1 (by decide))], by rw [zw_at, if_neg (fun z => absurd z.1 (by decide))], by rw [zw_at, if_neg (fun z => absurd z.1 (by decide))]⟩) (fun j hj => by rw [q5 j hj, zw_at, if_neg (fun z => absurd z.1 (by decide))])
      (by rw [zw_at, if_neg (fun z => absurd z.1 (by decide))]; exact c1) (fun j hj => by rw [zw_at, if_neg (fun z => absurd z.1 (by decide))]; exact c2 j hj) (fun i hi => by
        rw [zw_at, if_neg (fun z => absurd z.1 (by decide)), zw_at, if_neg (fun z => absurd z.1 (by decide)), zw_at, if_neg (fun z => absurd z.1 (by decide))]
        exact c3 i hi)
    have er : (f_X3_copyFrom kk 2 s2).1 10 kk 0 = nI X.length := by rw [c1]; exact v3.1
    have hfin : FrA (fun f i k => arP f i k || ((f == 10 || (f == 23 || (f == 24 || (f == 25 || f == 26)))) && i == kk)) σc (zwI (f_X3_copyFrom kk 2 s2) 3 0 1 0) := by
      refine ((fa.mono fun f i k a => ?_).trans (c4.mono fun f i k a => ?_)).w rfl
      · simp only [Bool.or_eq_false_iff] at a; exact a.1
      · simp only [Bool.or_eq_false_iff] at a; exact a.2
    have mfin : FrA (fun f i k => arPM f i k || ar1 f i k) σm t3 := by
      refine (((ga.w (f := 0) (i := 0) (k := 16) (x := 0) rfl).mono fun f i k a => ?_)).trans (q2.mono fun f i k a => ?_)
      · simp only [Bool.or_eq_false_iff] at a; exact a.1
      · simp only [Bool.or_eq_false_iff] at a; exact a.2
    obtain ⟨r1, r2, r3, -, -, r6⟩ := h
    refine ⟨nI X.length, _, t3, by rw [er], rfl, ?_, inv_put r2 hkk hg hLaw, ?_, ⟨0, by decide, ?_, ?_, fun k hk => absurd hk (Nat.not_lt_zero k)⟩, ⟨?_, ?_⟩, ?_⟩
    · refine rb_put r1 r2 hkk hg (fr_req hfin fun f i k hp => ?_) hRl
      unfold rwp2 at hp
      simp only [Bool.and_eq_true] at hp
      rw [rws_P 0 f i k (by decide) hp.1]
      have := hp.2
      simp at this ⊢
      intro hf z
      omega
    · refine kp_same3 r3 (fr_req hfin fun f i k hp => ?_) (by rw [mfin.1 0 0 3 rfl]) (funext fun i => funext fun k => mfin.1 3 i k rfl) (fun k h1 => ?_) ?_
      · rw [rwk_P f i k hp]
        unfold rwk at hp
        simp at hp ⊢
        omega
      · exact hg k (by unfold lrg; omega)
      · have : aShN (t3.1 1 0) = aShN (σm.1 1 0) := congrArg Int32.toNatClampNeg (hg 4 (by unfold lrg; omega))
        omega
    · rw [zw_at, if_pos ⟨rfl, rfl, rfl⟩]; rfl
    · rw [q2.1 0 0 16 rfl, zw_at, if_pos ⟨rfl, rfl, rfl⟩]; rfl
    · rw [zw_at, if_neg (by decide), c4.1 4 0 3 rfl, q2.1 0 0 23 rfl, zw_at, if_neg (by decide), u4.1 0 0 23 rfl, f2.1 0 0 23 rfl, p23]
      exact v1.2.2.2.2.2.2.2.1
    · rw [zw_at, if_neg (by decide), c4.1 4 0 4 rfl, q2.1 0 0 25 rfl, zw_at, if_neg (by decide), u4.1 0 0 25 rfl, f2.1 0 0 25 rfl, p25]
      exact v1.2.2.2.2.2.2.2.2
    · exact im_ok r6 (fr_req hfin fun f i k hp => by
        rw [rws_P 1 f i k (by decide) hp]
        unfold rws at hp
        simp at hp ⊢
        omega) (hfin.1 0 0 6 (by simp [arP])) (funext fun i => funext fun k => mfin.1 2 i k rfl) (by rw [mfin.1 0 0 4 rfl])
end PURE
