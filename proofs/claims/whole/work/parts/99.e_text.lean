/-! PURE LAYER: text, the walkers -/
theorem fYP {σ σ' : zG} (h : FrA (arY 0) σ σ') : FrA arP σ σ' := h.mono fun f i k a => by unfold arP at a; unfold arY; simp at a ⊢; omega
theorem fXP {σ σ' : zG} (h : FrA (arX 0) σ σ') : FrA arPM σ σ' := h.mono fun f i k a => by unfold arPM at a; unfold arX arV arR; simp at a ⊢; omega
section PURE
variable {σ σ' σc σm sc sm : zG} {B : Nat → Nat} {n T k W H c0 cm : Nat} {K : List Nat}
theorem plK_val (hW : W ≤ 8) (hH : H ≤ 7) (hsp : spW W H c0) (m : Nat) : plK W H c0 cm K m = -1 ∨ ∃ c, c < 56 ∧ plK W H c0 cm K m = nI c ∧ spW W H c := by
  unfold plK
  by_cases a : cm ≤ m ∧ m - cm ≤ K.length
  · rw [if_pos a]
    cases e : wpos W H c0 (K.take (m - cm)) with
    | none => exact Or.inl rfl
    | some c =>
      have h2 := wpos_sp hW hH hsp e
      refine Or.inr ⟨c, ?_, rfl, h2⟩
      unfold spW at h2
      omega
  · rw [if_neg a]
    exact Or.inl rfl
theorem c_text0 (σ : zG) : f_X11_text 0 σ = (f_X4_start σ).bind (fun q1 => (f_X11_tellWalkers q1).bind (fun q9 => some (q9.1, zwI q9.2 3 0 1 0))) := rfl
theorem m_text0 (σ : zG) : f_X12_text 0 σ = (f_X12_next0 (zwI (zwI (zwI (zwI (zwI σ 0 0 23 0) 0 0 25 (-1)) 0 0 21 0) 0 0 17 0) 0 0 12 (nI 0))).bind (fun q6 => (f_X12_readsWalkers q6).bind (fun q7 => if q7.1 = 0 then some (-1, zwI (zwI (zwI q7.2 0 0 16 0) 0 0 23 ((zwI q7.2 0 0 16 0).1 0 0 21)) 0 0 25 ((zwI (zwI q7.2 0 0 16 0) 0 0 23 ((zwI q7.2 0 0 16 0).1 0 0 21)).1 0 0 22)) else (f_X12_putsWalkers (zwI q7.2 0 0 16 0)).bind (fun q13 => some (q13.1, q13.2)))) := rfl
theorem text_walk [Inhabited BFT] (h : Rel σc σm) : ∃ r sc sm, f_X11_text 0 σc = some (r, sc) ∧ f_X12_text 0 σm = some (r, sm) ∧ Rel sc sm := by
  obtain ⟨B, n, hct, hn, h16, hb⟩ := rel_ct h
  obtain ⟨T, s1, hE, e1, hc, h3, h4, f1⟩ := c_begin hct
  have g0 : FrA arPM σm (zwI (zwI (zwI (zwI (zwI σm 0 0 23 0) 0 0 25 (-1)) 0 0 21 0) 0 0 17 0) 0 0 12 (nI 0)) := ((((fra_w rfl).w rfl).w rfl).w rfl).w rfl
  have p16 : (zwI (zwI (zwI (zwI (zwI σm 0 0 23 0) 0 0 25 (-1)) 0 0 21 0) 0 0 17 0) 0 0 12 (nI 0)).1 0 0 16 = nI n := by simp [zw_at]; exact h16
  have p12 : (zwI (zwI (zwI (zwI (zwI σm 0 0 23 0) 0 0 25 (-1)) 0 0 21 0) 0 0 17 0) 0 0 12 (nI 0)).1 0 0 12 = nI 0 := by simp [zw_at]
  have p17 : (zwI (zwI (zwI (zwI (zwI σm 0 0 23 0) 0 0 25 (-1)) 0 0 21 0) 0 0 17 0) 0 0 12 (nI 0)).1 0 0 17 = nI (hdd B n 0) := by simp [zw_at]; rfl
  have p23 : (zwI (zwI (zwI (zwI (zwI σm 0 0 23 0) 0 0 25 (-1)) 0 0 21 0) 0 0 17 0) 0 0 12 (nI 0)).1 0 0 23 = 0 := by simp [zw_at]
  have p25 : (zwI (zwI (zwI (zwI (zwI σm 0 0 23 0) 0 0 25 (-1)) 0 0 21 0) 0 0 17 0) 0 0 12 (nI 0)).1 0 0 25 = -1 := by simp [zw_at]
  rw [c_text0, m_text0]
  generalize zwI (zwI (zwI (zwI (zwI σm 0 0 23 0) 0 0 25 (-1)) 0 0 21 0) 0 0 17 0) 0 0 12 (nI 0) = t0 at *
  have hmt : MT t0 B n 0 := ⟨hn, p16, fun k hk => ⟨(hb k hk).1, by rw [g0.1 8 0 k rfl]; exact (hb k hk).2⟩, p12, by omega⟩
  obtain ⟨t1, e2, hm, f2⟩ := m_to (k := 0) hmt p17
  rw [e1, Option.bind_some, e2, Option.bind_some]
  have fa1 : FrA arP σc s1 := fSP f1
  have ga1 : FrA arPM σm t1 := g0.trans (fNP f2)
  have h' := h
  obtain ⟨r1, r2, r3, -, -, r6⟩ := h'
  have eg : t1.1 1 0 = σm.1 1 0 := funext fun k => ga1.1 1 0 k rfl
  obtain ⟨W, hW⟩ : ∃ W, aW (σm.1 1 0) = W := ⟨_, rfl⟩
  obtain ⟨H, hH⟩ : ∃ H, aH (σm.1 1 0) = H := ⟨_, rfl⟩
  have eW : σc.1 1 0 0 = nI W := by rw [r1.1.1, ← hW]; exact r2.1.1
  have eH : σc.1 1 0 1 = nI H := by rw [r1.1.2.1, ← hH]; exact r2.2.1.1
  have hW8 : W ≤ 8 := by rw [← hW]; exact r2.1.2.2
  have hH7 : H ≤ 7 := by rw [← hH]; exact r2.2.1.2.2
  have esp : ∀ c, spW W H c → sp (σm.1 1 0) c = true := fun c hc => by
    unfold sp
    rw [hW, hH, decide_eq_true hc.1, decide_eq_true hc.2]
    rfl
  unfold f_X11_tellWalkers
  rw [fa1.1 1 0 0 rfl, fa1.1 1 0 1 rfl, eW, eH]
  rcases ws_walkers (W := W) (H := H) hE hc hm h3 h4 (by rw [eg]; exact r2) (by rw [eg]; exact hW) (by rw [eg]; exact hH) with ⟨N, s2, t2, a2, b2, hN, h8, h15, hD, k3, k4, f3, g3⟩ | ⟨s2, t2, a2, b2, bd, f3, g3⟩
  · have fa : FrA arP σc s2 := fa1.trans (fYP f3)
    have ga : FrA arPM σm t2 := ga1.trans (fXP g3)
    rw [a2, Option.bind_some, b2, Option.bind_some, if_neg (show ¬ (1 : Int32) = 0 by decide), if_neg (show ¬ (1 : Int32) = 0 by decide)]
    obtain ⟨c1, c2, c3, c4⟩ := c_copyWalk s2
    simp only [zb]
    generalize f_X10_copyFrom 0 1 s2 = s3 at *
    have w1 : s3.1 1 0 0 = nI W := by rw [c4.1 1 0 0 rfl, fa.1 1 0 0 rfl]; exact eW
    have w2 : s3.1 1 0 1 = nI H := by rw [c4.1 1 0 1 rfl, fa.1 1 0 1 rfl]; exact eH
    obtain ⟨s4, d1, d2, d3, d4, d5⟩ := c_walk (σ := s3) hW8 hH7 hN (by rw [c1]; exact h8) (fun i m => t2.1 7 0 (501 * i + m)) (fun i hi => by
      obtain ⟨t, cm, c, P, ⟨-, y2, y3, y4⟩, ⟨-, x2, x3, x4⟩, -, -, -, z4⟩ := hD i hi
      obtain ⟨v1, v2, v3, v4⟩ := c2 i (by omega)
      refine ⟨cm, c, P, y2, y3, y4, by rw [v2]; exact x2, by rw [v3]; exact x3, ⟨by rw [v4]; exact x4.1, x4.2.1, fun j hj => ?_⟩, z4⟩
      have hP8 := x4.2.1
      obtain ⟨u1, u2⟩ := c3 (8 * i + j) (by omega)
      rw [u1, u2]
      exact x4.2.2 j hj)
    obtain ⟨t3, q1, q2, q3, q4, q5, q6, q7⟩ := m_putsW (σ := zwI t2 0 0 16 0) hN (by rw [zw_at, if_neg (by decide)]; exact h15)
    rw [w1, w2, d1, Option.bind_some, q1, Option.bind_some]
    unfold f_X2_forget
    simp only [zb]
    rw [Option.bind_some]
    have t6 : ∀ j, (zwI t2 0 0 16 0).1 6 0 j = t2.1 6 0 j := fun j => by rw [zw_at, if_neg (fun z => absurd z.1 (by decide))]
    have t7 : ∀ j, (zwI t2 0 0 16 0).1 7 0 j = t2.1 7 0 j := fun j => by rw [zw_at, if_neg (fun z => absurd z.1 (by decide))]
    have sf : ∀ f i k, ¬ (f = 2 ∧ i = 0 ∧ k = 1) → ¬ (f = 3 ∧ i = 0 ∧ k = 1) → (zwI (zwI s4 2 0 1 0) 3 0 1 0).1 f i k = s4.1 f i k := fun f i k n2 n3 => by rw [zw_at, if_neg n3, zw_at, if_neg n2]
    have so : ∀ f i k, f ≠ 21 → f ≠ 2 → f ≠ 3 → (zwI (zwI s4 2 0 1 0) 3 0 1 0).1 f i k = s3.1 f i k := fun f i k n1 n2 n3 => by
      rw [sf f i k (fun z => n2 z.1) (fun z => n3 z.1)]
      exact d2 f i k (fun z => n1 z.1)
    have e8 : (zwI s4 2 0 1 0).1 8 0 0 = nI N := by rw [zw_at, if_neg (by decide), d2 8 0 0 (by decide), c1]; exact h8
    have hg : ∀ j, ¬ wrg j → t3.1 1 0 j = σm.1 1 0 j := fun j hj => by
      rw [q7 j hj, zw_at, if_neg (fun z => absurd z.1 (by decide))]
      exact ga.1 1 0 j rfl
    have aN : aWN (t3.1 1 0) = N := by unfold aWN; rw [q4, nI_clamp (by omega)]
    have epl : ∀ i, i < N → ∀ m, m < 501 → pl (t3.1 1 0) i m = t2.1 7 0 (501 * i + m) := fun i hi m hm => by
      have := q6 (501 * i + m) (by omega)
      rw [t7] at this
      unfold pl
      rw [Nat.add_assoc]
      exact this
    have rq : ∀ p : Nat → Nat → Bool, (∀ f i, p f i = true → (∀ k, arP f i k = false) ∧ (∀ k, arCW f i k = false) ∧ ¬ (f = 21 ∧ i = 0) ∧ ¬ (f = 22 ∧ i = 0) ∧ ¬ (f = 2 ∧ i = 0) ∧ ¬ (f = 3 ∧ i = 0)) → REq p σc (zwI (zwI s4 2 0 1 0) 3 0 1 0) := fun p hp f i hi => by
      obtain ⟨p1, p2, p3, p4, p5, p6⟩ := hp f i hi
      refine ⟨funext fun k => ?_, funext fun k => ?_⟩
      · rw [sf f i k (fun z => p5 ⟨z.1, z.2.1⟩) (fun z => p6 ⟨z.1, z.2.1⟩), d2 f i k p3, c4.1 f i k (p2 k)]
        exact fa.1 f i k (p1 k)
      · show s4.2 f i k = _
        rw [d3 f i k p4, c4.2, fa.2]
    have mfin : FrA (fun f i k => arPM f i k || arZ f i k) σm t3 := by
      refine (((ga.w (f := 0) (i := 0) (k := 16) (x := 0) rfl).mono fun f i k a => ?_)).trans (q2.mono fun f i k a => ?_)
      · simp only [Bool.or_eq_false_iff] at a; exact a.1
      · simp only [Bool.or_eq_false_iff] at a; exact a.2
    refine ⟨nI N, _, t3, by rw [e8], rfl, ?_, ?_, kp_zero r3 ?_ ?_ q3, ⟨0, by decide, ?_, ?_, fun k hk => absurd hk (Nat.not_lt_zero k)⟩, ⟨?_, ?_⟩, ?_⟩
    · refine rb_walk r1 r2 hg (rq _ fun f i hp => ?_) ?_ ?_
      · unfold rwv at hp
        simp only [Bool.and_eq_true] at hp
        refine ⟨fun k => rws_P 0 f i k (by decide) hp.1, fun k => ?_, ?_, ?_, ?_, ?_⟩
        · unfold rws at hp
          unfold arCW
          simp at hp ⊢
          omega
        all_goals
          unfold rws at hp
          simp at hp ⊢
          omega
      · unfold RWk
        rw [aN, q4]
        refine ⟨by rw [so 8 (2 * 0) 0 (by decide) (by decide) (by decide)]; exact c1.trans h8, fun i hi => ?_⟩
        obtain ⟨t, cm, c, P, -, ⟨x1, x2, x3, -⟩, z1, z2, z3, -⟩ := hD i hi
        obtain ⟨v1, v2, v3, -⟩ := c2 i (by omega)
        have y0 := q5 (4 * i) (by omega)
        have y1 := q5 (4 * i + 1) (by omega)
        have y2 := q5 (4 * i + 2) (by omega)
        rw [t6] at y0 y1 y2
        rw [so 15 (2 * 0) i (by decide) (by decide) (by decide), so 16 (2 * 0) i (by decide) (by decide) (by decide), so 17 (2 * 0) i (by decide) (by decide) (by decide)]
        refine ⟨?_, ?_, ?_⟩
        · rw [y0, z1]; exact v1.trans x1
        · rw [Nat.add_assoc, y1, z2]; exact v2.trans x2
        · rw [Nat.add_assoc, y2, z3]; exact v3.trans x3
      · unfold RPa
        rw [aN]
        refine ⟨fun i hi m hm => ?_, fun m hm c hc => ?_⟩
        · rw [sf 21 0 _ (by simp) (by simp), epl i hi m hm]
          exact d4 i hi m hm
        · show lb (s4.2 22 0 m) c = true ↔ _
          rw [d5 m hm c hc]
          constructor
          · rintro ⟨i, hi, e⟩
            exact ⟨i, hi, by rw [epl i hi m hm]; exact e⟩
          · rintro ⟨i, hi, e⟩
            rw [epl i hi m hm] at e
            exact ⟨i, hi, e⟩
    · refine inv_walk r2 hg hN q4 fun i hi => ?_
      obtain ⟨t, cm, c, P, ⟨y1, y2, y3, y4⟩, -, z1, z2, z3, z4⟩ := hD i hi
      have y0 := q5 (4 * i) (by omega)
      rw [t6] at y0
      refine ⟨⟨t, y1, by rw [y0]; exact z1⟩, fun m hm => ?_⟩
      rw [epl i hi m hm, z4 m hm]
      rcases plK_val (cm := cm) (K := ways P) hW8 hH7 y3 m with e | ⟨c', u1, u2, u3⟩
      · exact Or.inl e
      · exact Or.inr ⟨c', u1, u2, esp c' u3⟩
    · rw [sf 2 0 0 (by decide) (by decide), d2 2 0 0 (by decide), c4.1 2 0 0 rfl]
      exact fa.1 2 0 0 rfl
    · rw [zw_at, if_neg (by decide), zw_at, if_pos ⟨rfl, rfl, rfl⟩]
    · rw [zw_at, if_pos ⟨rfl, rfl, rfl⟩]; rfl
    · rw [q2.1 0 0 16 rfl, zw_at, if_pos ⟨rfl, rfl, rfl⟩]; rfl
    · rw [so 4 0 3 (by decide) (by decide) (by decide), c4.1 4 0 3 rfl, k3, q2.1 0 0 23 rfl, zw_at, if_neg (by decide), g3.1 0 0 23 rfl, f2.1 0 0 23 rfl, p23]
    · rw [so 4 0 4 (by decide) (by decide) (by decide), c4.1 4 0 4 rfl, k4, q2.1 0 0 25 rfl, zw_at, if_neg (by decide), g3.1 0 0 25 rfl, f2.1 0 0 25 rfl, p25]
    · refine im_ok r6 (rq _ fun f i hp => ?_) ?_ (funext fun i => funext fun k => mfin.1 2 i k rfl) (by rw [mfin.1 0 0 4 rfl])
      · refine ⟨fun k => rws_P 1 f i k (by decide) hp, fun k => ?_, ?_, ?_, ?_, ?_⟩
        · unfold rws at hp
          unfold arCW
          simp at hp ⊢
          omega
        all_goals
          unfold rws at hp
          simp at hp ⊢
          omega
      · rw [so 0 0 6 (by decide) (by decide) (by decide), c4.1 0 0 6 rfl]
        exact fa.1 0 0 6 rfl
  · have fa : FrA arP σc s2 := fa1.trans (fYP f3)
    have ga : FrA arPM σm t2 := ga1.trans (fXP g3)
    rw [a2, Option.bind_some, b2, Option.bind_some, if_pos (show (0 : Int32) = 0 from rfl), if_pos (show (0 : Int32) = 0 from rfl), Option.bind_some]
    refine ⟨-1, zwI s2 3 0 1 0, _, rfl, rfl, read_rel h (fa.w rfl) (((ga.w rfl).w rfl).w rfl) ?_ ?_ ⟨?_, ?_⟩⟩
    · rw [zw_at, if_pos ⟨rfl, rfl, rfl⟩]
    · simp [zw_at]
    · simp [zw_at]; exact bd.1
    · simp [zw_at]; exact bd.2
theorem pr_text [Inhabited BFT] : PR_text Rel := fun x σc σm h => by
  by_cases h0 : x = 0
  · subst h0; exact text_walk h
  · by_cases h1 : x = 1
    · subst h1; exact text_law (kk := 0) (by decide) h
    · by_cases h2 : x = 2
      · subst h2; exact text_law (kk := 1) (by decide) h
      · exact text_no h0 h1 h2 h
end PURE
