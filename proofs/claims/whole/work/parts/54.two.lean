/-! PURE LAYER: two, stander -/
section PURE
variable {σ σc σm : zG} {g : zGa}
/-- what is hidden in a minute of the view -/
def hdX (σ : zG) (g : zGa) (m : Nat) : Int64 := covX σ 0 g m &&& colX (aStep g) (aWide g) (aH g)
theorem hd_bits (hI : Inv g) (hR : RB σ 0 g) {m : Nat} (hm : m < 501) : bitsL (fun c => vw g c && covB g c m) 64 = hdX σ g m := bits_eq (by decide) fun i hi => by
  unfold hdX
  rw [lb_and, lb_covX hI hR.2.2.2.1 hi hm, lb_view hI hi, Bool.and_comm]
  simp [hi]
def tz (σ : zG) (g : zGa) (M i j : Nat) : Bool := decide (hdX σ g (M + i) &&& hdX σ g (M + j) = 0)
def tq (σ : zG) (g : zGa) (M N i : Nat) : Nat := fa_first (fun d => tz σ g M i (i + 1 + d)) (N - i)
def tp (σ : zG) (g : zGa) (M N i : Nat) : Bool := decide (tq σ g M N i < N - i)
theorem ff_succ {p : Nat → Bool} {n : Nat} (h : p n = false) {β : Type} (B : Nat → β) (E : β) : (if fa_first p (n + 1) < n + 1 then B (fa_first p (n + 1)) else E) = if fa_first p n < n then B (fa_first p n) else E := by
  by_cases q : fa_first p n < n
  · have h1 := fa_first_yes p n q
    have h2 : fa_first p (n + 1) = fa_first p n := ff_eq (by omega) h1 (fun j hj => fa_first_no p n j hj)
    rw [h2, if_pos (by omega), if_pos q]
  · rw [if_neg q, if_neg (ff_none fun j hj => ?_)]
    have hn : fa_first p n = n := Nat.le_antisymm (fa_first_le p n) (Nat.not_lt.mp q)
    rcases Nat.lt_succ_iff_lt_or_eq.mp hj with z | z
    · exact fa_first_no p n j (by omega)
    · rw [z]; exact h
theorem pr_two [Inhabited BFT] : PR_two Rel := fun x σc σm h => by
  have hm := tp_Min (iv_Top (rI h))
  have s3 : σc.1 1 0 3 = σm.1 1 0 0 := (rB h).1.2.2.2.1
  obtain ⟨N, hN⟩ : ∃ N, N = min 60 (500 - aMin (σm.1 1 0)) := ⟨_, rfl⟩
  have N60 : N ≤ 60 := by omega
  have NM : aMin (σm.1 1 0) + N ≤ 500 := by omega
  have eC : zmin 60 (500 - nI (aMin (σm.1 1 0))) + 1 = nI (N + 1) := by
    have e1 : (500 : Int32) - nI (aMin (σm.1 1 0)) = nI (500 - aMin (σm.1 1 0)) := pk_sub (a := 500) (by omega)
    have e2 : zmin 60 (nI (500 - aMin (σm.1 1 0))) = nI N := by
      unfold zmin
      by_cases q : 500 - aMin (σm.1 1 0) < 60
      · rw [if_pos (show nI (500 - aMin (σm.1 1 0)) < 60 from nI_lt (b := 60) q (by decide))]
        congr 1
        omega
      · rw [if_neg (show ¬ nI (500 - aMin (σm.1 1 0)) < 60 from nI_nlt (b := 60) (by omega) (by omega)), show N = 60 by omega]
        exact fa_lit 60
    rw [e1, e2, nI_1]
  have eM : f_X12_lesser 500 (nI (aMin (σm.1 1 0)) + 60) = nI (aMin (σm.1 1 0) + N) := by
    have e1 : nI (aMin (σm.1 1 0)) + 60 = nI (aMin (σm.1 1 0) + 60) := nI_add _ 60
    rw [e1]
    unfold f_X12_lesser
    by_cases q : 500 < aMin (σm.1 1 0) + 60
    · rw [if_pos (show 500 < nI (aMin (σm.1 1 0) + 60) from nI_lt (a := 500) q (by omega)), show aMin (σm.1 1 0) + N = 500 by omega]
      exact fa_lit 500
    · rw [if_neg (show ¬ 500 < nI (aMin (σm.1 1 0) + 60) from nI_nlt (b := aMin (σm.1 1 0) + 60) (a := 500) (by omega) (by decide))]
      congr 1
      omega
  -- the class's rows
  obtain ⟨sc, f1, hC, hv⟩ := zlp_run (f := fun q : Int32 × zG => b_X9_clearTogether_31 (nI (N + 1)) (colX (aStep (σm.1 1 0)) (aWide (σm.1 1 0)) (aH (σm.1 1 0))) q.1 q.2) (N + 1) (fun k q => q.1 = nI k ∧ SmC σc q.2 ∧ ∀ i, i < k → q.2.2 43 0 i = hdX σc (σm.1 1 0) (aMin (σm.1 1 0) + i)) (fun s => SmC σc s ∧ ∀ i, i < N + 1 → s.2 43 0 i = hdX σc (σm.1 1 0) (aMin (σm.1 1 0) + i)) (a := ((0 : Int32), σc)) ⟨rfl, SmC.refl _, fun i hi => absurd hi (Nat.not_lt_zero i)⟩ (by
    rintro k hk ⟨_, s⟩ ⟨rfl, hs, hv⟩
    right
    have hRs : RB s 0 (σm.1 1 0) := by rw [rb_same hs]; exact rB h
    have l1 : nI k < nI (N + 1) := nI_lt hk (by omega)
    have l2 : nI k ≤ 60 := nI_le (b := 60) (by omega) (by decide)
    have e3 : s.1 1 0 3 + nI k = nI (aMin (σm.1 1 0) + k) := by rw [(hs 1 rfl).1, s3, hm.1, nI_add]
    have eX : covX s 0 (σm.1 1 0) (aMin (σm.1 1 0) + k) &&& colX (aStep (σm.1 1 0)) (aWide (σm.1 1 0)) (aH (σm.1 1 0)) = hdX σc (σm.1 1 0) (aMin (σm.1 1 0) + k) := by
      unfold hdX covX
      rw [(hs 22 rfl).2]
    unfold b_X9_clearTogether_31
    simp (disch := omega) only [l1, l2, if_true, e3, c_coverIn (iv_Top (rI h)) hRs.2.1 (show aMin (σm.1 1 0) + k < 501 by omega), Option.bind_some, zin_nI, show k < 61 by omega, decide_true, zgT, nI_clamp, zb, eX]
    refine ⟨_, rfl, nI_1 k, hs.trans (smC_wL rfl), fun i hi => ?_⟩
    show (if 43 = 43 ∧ 0 = 0 ∧ i = k then _ else s.2 43 0 i) = _
    by_cases q : i = k
    · rw [if_pos ⟨rfl, rfl, q⟩, q]
    · rw [if_neg (fun z => q z.2.2)]
      exact hv i (by omega)) (by
    rintro ⟨_, s⟩ ⟨rfl, hs, hv⟩
    have l1 : ¬ nI (N + 1) < nI (N + 1) := nI_nlt (Nat.le_refl _) (by omega)
    unfold b_X9_clearTogether_31
    simp only [l1, if_false]
    exact ⟨_, rfl, hs, hv⟩)
  -- the model's
  obtain ⟨sm, f2, hM, hw⟩ := zlp_run (f := fun q : Int32 × zG => b_X12_two_34 σm q.1 q.2) (N + 1) (fun k q => q.1 = nI (aMin (σm.1 1 0) + k) ∧ q.2.1 = σm.1 ∧ ∀ i, i < k → q.2.2 14 0 i = hdX σc (σm.1 1 0) (aMin (σm.1 1 0) + i)) (fun s => s.1 = σm.1 ∧ ∀ i, i < N + 1 → s.2 14 0 i = hdX σc (σm.1 1 0) (aMin (σm.1 1 0) + i)) (a := (nI (aMin (σm.1 1 0)), σm)) ⟨rfl, rfl, fun i hi => absurd hi (Nat.not_lt_zero i)⟩ (by
    rintro k hk ⟨_, s⟩ ⟨rfl, hs, hv⟩
    right
    have hs' : s.1 = σm.1 := hs
    have l1 : nI (aMin (σm.1 1 0) + k) ≤ nI (aMin (σm.1 1 0) + N) := nI_le (by omega) (by omega)
    have e3 : nI (aMin (σm.1 1 0) + k) - s.1 1 0 0 = nI k := by rw [hs', hm.1, pk_sub (by omega), Nat.add_sub_cancel_left]
    obtain ⟨t, f3, ht, hu⟩ := zlp_run (f := fun q : Int32 × zG => b_X12_two_56 (nI (aMin (σm.1 1 0) + k)) q.1 q.2) 64 (fun c q => q.1 = nI c ∧ q.2.1 = σm.1 ∧ ∀ i, i < k + 1 → q.2.2 14 0 i = if i = k then bitsL (fun c => vw (σm.1 1 0) c && covB (σm.1 1 0) c (aMin (σm.1 1 0) + k)) c else hdX σc (σm.1 1 0) (aMin (σm.1 1 0) + i)) (fun t => t.1 = σm.1 ∧ ∀ i, i < k + 1 → t.2 14 0 i = hdX σc (σm.1 1 0) (aMin (σm.1 1 0) + i)) (a := ((0 : Int32), zwL s 14 0 k 0)) ⟨rfl, hs, fun i hi => by
        show (if 14 = 14 ∧ 0 = 0 ∧ i = k then (0 : Int64) else s.2 14 0 i) = _
        by_cases q : i = k
        · rw [if_pos ⟨rfl, rfl, q⟩, if_pos q]; rfl
        · rw [if_neg (fun z => q z.2.2), if_neg q]
          exact hv i (by omega)⟩ (by
      rintro c hc ⟨_, t⟩ ⟨rfl, ht, hu⟩
      right
      have ht' : t.1 = σm.1 := ht
      have hu' : ∀ i, i < k + 1 → t.2 14 0 i = if i = k then bitsL (fun c => vw (σm.1 1 0) c && covB (σm.1 1 0) c (aMin (σm.1 1 0) + k)) c else hdX σc (σm.1 1 0) (aMin (σm.1 1 0) + i) := hu
      have hIt : Inv (t.1 1 0) := by rw [ht']; exact rI h
      have l64 : nI c < 64 := nI_lt (b := 64) hc (by decide)
      have e4 : nI (aMin (σm.1 1 0) + k) - t.1 1 0 0 = nI k := by rw [ht', hm.1, pk_sub (by omega), Nat.add_sub_cancel_left]
      have ebk : t.2 14 0 k = bitsL (fun c => vw (σm.1 1 0) c && covB (σm.1 1 0) c (aMin (σm.1 1 0) + k)) c := by rw [hu' k (by omega), if_pos rfl]
      unfold b_X12_two_56
      rw [m_isInView hIt hc, m_covB hIt hc (show aMin (σm.1 1 0) + k < 501 by omega), e4, ht']
      simp (disch := omega) only [l64, if_true, Option.bind_some, zt_0, zin_nI, show k < 61 by omega, decide_true, zgT, nI_clamp, zb, ebk]
      have stay : (vw (σm.1 1 0) c && covB (σm.1 1 0) c (aMin (σm.1 1 0) + k)) = false → ∀ i, i < k + 1 → t.2 14 0 i = if i = k then bitsL (fun c => vw (σm.1 1 0) c && covB (σm.1 1 0) c (aMin (σm.1 1 0) + k)) (c + 1) else hdX σc (σm.1 1 0) (aMin (σm.1 1 0) + i) := fun q i hi => by
        rw [hu' i hi, bitsL, q]
        rfl
      cases hvw : vw (σm.1 1 0) c
      · simp only [if_true]
        exact ⟨_, rfl, nI_1 c, ht, stay (by rw [hvw]; rfl)⟩
      · cases hcv : covB (σm.1 1 0) c (aMin (σm.1 1 0) + k)
        · simp only [Bool.true_eq_false, if_false, if_true]
          exact ⟨_, rfl, nI_1 c, ht, stay (by rw [hvw, hcv]; rfl)⟩
        · simp only [Bool.true_eq_false, if_false]
          refine ⟨_, rfl, nI_1 c, ht, fun i hi => ?_⟩
          show (if 14 = 14 ∧ 0 = 0 ∧ i = k then _ else t.2 14 0 i) = _
          by_cases q : i = k
          · rw [if_pos ⟨rfl, rfl, q⟩, if_pos q, bitsL, hvw, hcv]
            rfl
          · rw [if_neg (fun z => q z.2.2), hu' i hi, if_neg q, if_neg q]) (by
      rintro ⟨_, t⟩ ⟨rfl, ht, hu⟩
      unfold b_X12_two_56
      rw [if_neg (show ¬ (nI 64 : Int32) < 64 by decide)]
      refine ⟨_, rfl, ht, fun i hi => ?_⟩
      have hu' : t.2 14 0 i = _ := hu i hi
      rw [hu', hd_bits (rI h) (rB h) (show aMin (σm.1 1 0) + k < 501 by omega)]
      split
      · rename_i q; rw [q]
      · rfl)
    unfold b_X12_two_34
    rw [e3, hm.1, eM]
    simp (disch := omega) only [l1, if_true, zin_nI, show k < 61 by omega, decide_true, zgT, nI_clamp, zb, f3, Option.bind_some]
    exact ⟨_, rfl, by rw [nI_1, Nat.add_assoc], ht, hu⟩) (by
    rintro ⟨_, s⟩ ⟨rfl, hs, hv⟩
    have l1 : ¬ nI (aMin (σm.1 1 0) + (N + 1)) ≤ nI (aMin (σm.1 1 0) + N) := nI_ge (by omega) (by omega)
    unfold b_X12_two_34
    rw [hm.1, eM]
    simp only [l1, if_false]
    exact ⟨_, rfl, hs, hv⟩)
  have hSO : SmO σm sm := ⟨fun f _ => by rw [hM], fun k _ => by rw [hM]⟩
  -- the search
  have srC : zlp (fun q : Int32 => b_X9_clearTogether_80 (nI (N + 1)) sc q) (0 : Int32) = some (if fa_first (tp σc (σm.1 1 0) (aMin (σm.1 1 0)) N) N < N then Sum.inl (nI (fa_first (tp σc (σm.1 1 0) (aMin (σm.1 1 0)) N) N), nI (fa_first (tp σc (σm.1 1 0) (aMin (σm.1 1 0)) N) N + 1 + tq σc (σm.1 1 0) (aMin (σm.1 1 0)) N (fa_first (tp σc (σm.1 1 0) (aMin (σm.1 1 0)) N) N))) else Sum.inr ()) := by
    rw [zlp_find (a := (0 : Int32)) (fun i => nI i) (tp σc (σm.1 1 0) (aMin (σm.1 1 0)) N) (N + 1) (fun i => Sum.inl (nI i, nI (i + 1 + tq σc (σm.1 1 0) (aMin (σm.1 1 0)) N i))) (E := Sum.inr ()) rfl ?_ ?_]
    · rw [ff_succ (p := tp σc (σm.1 1 0) (aMin (σm.1 1 0)) N) (n := N) (by unfold tp; rw [Nat.sub_self]; exact decide_eq_false (Nat.not_lt_zero _)) (fun i => (Sum.inl (nI i, nI (i + 1 + tq σc (σm.1 1 0) (aMin (σm.1 1 0)) N i)) : (Int32 × Int32) ⊕ Unit)) (Sum.inr ())]
    · intro i hi
      have l1 : nI i < nI (N + 1) := nI_lt hi (by omega)
      have l2 : nI i ≤ 60 := nI_le (b := 60) (by omega) (by decide)
      have inner : zlp (fun q : Int32 => b_X9_clearTogether_100 (nI (N + 1)) (nI i) sc q) (nI (i + 1)) = some (if tq σc (σm.1 1 0) (aMin (σm.1 1 0)) N i < N - i then Sum.inl (nI (i + 1 + tq σc (σm.1 1 0) (aMin (σm.1 1 0)) N i)) else Sum.inr ()) := by
        unfold tq
        refine zlp_find (fun d => nI (i + 1 + d)) (fun d => tz σc (σm.1 1 0) (aMin (σm.1 1 0)) i (i + 1 + d)) (N - i) (fun d => Sum.inl (nI (i + 1 + d))) rfl ?_ ?_
        · intro d hd
          have l3 : nI (i + 1 + d) < nI (N + 1) := nI_lt (by omega) (by omega)
          have l4 : nI (i + 1 + d) ≤ 60 := nI_le (b := 60) (by omega) (by decide)
          unfold b_X9_clearTogether_100 tz
          simp (disch := omega) only [l3, l4, if_true, zin_nI, show i < 61 by omega, show i + 1 + d < 61 by omega, decide_true, zgT, nI_clamp, lcmp0, hv i (by omega), hv (i + 1 + d) (by omega), nI_1]
          by_cases q : hdX σc (σm.1 1 0) (aMin (σm.1 1 0) + i) &&& hdX σc (σm.1 1 0) (aMin (σm.1 1 0) + (i + 1 + d)) = 0
          · rw [if_pos q, if_pos (decide_eq_true q)]
          · rw [if_neg q, if_neg (by rw [decide_eq_false q]; exact Bool.false_ne_true)]
            rfl
        · have l3 : ¬ nI (i + 1 + (N - i)) < nI (N + 1) := nI_nlt (by omega) (by omega)
          unfold b_X9_clearTogether_100
          simp only [l3, if_false]
      unfold b_X9_clearTogether_80 tp
      simp only [l1, l2, if_true, nI_1, inner, Option.bind_some]
      by_cases q : tq σc (σm.1 1 0) (aMin (σm.1 1 0)) N i < N - i <;> simp [q]
    · have l1 : ¬ nI (N + 1) < nI (N + 1) := nI_nlt (Nat.le_refl _) (by omega)
      unfold b_X9_clearTogether_80
      simp only [l1, if_false]
  have srM : zlp (fun q : Int32 => b_X12_two_116 σm sm q) (0 : Int32) = some (if fa_first (tp σc (σm.1 1 0) (aMin (σm.1 1 0)) N) N < N then Sum.inl (nI (fa_first (tp σc (σm.1 1 0) (aMin (σm.1 1 0)) N) N), nI (fa_first (tp σc (σm.1 1 0) (aMin (σm.1 1 0)) N) N + 1 + tq σc (σm.1 1 0) (aMin (σm.1 1 0)) N (fa_first (tp σc (σm.1 1 0) (aMin (σm.1 1 0)) N) N))) else Sum.inr ()) := by
    have eN : f_X12_lesser 500 (σm.1 1 0 0 + 60) - sm.1 1 0 0 = nI N := by rw [hM, hm.1, eM, pk_sub (by omega), Nat.add_sub_cancel_left]
    refine zlp_find (fun i => nI i) (tp σc (σm.1 1 0) (aMin (σm.1 1 0)) N) N (fun i => Sum.inl (nI i, nI (i + 1 + tq σc (σm.1 1 0) (aMin (σm.1 1 0)) N i))) rfl ?_ ?_
    · intro i hi
      have l1 : nI i < nI N := nI_lt hi (by omega)
      have inner : zlp (fun q : Int32 => b_X12_two_133 σm sm (nI i) q) (nI (i + 1)) = some (if tq σc (σm.1 1 0) (aMin (σm.1 1 0)) N i < N - i then Sum.inl (nI (i + 1 + tq σc (σm.1 1 0) (aMin (σm.1 1 0)) N i)) else Sum.inr ()) := by
        unfold tq
        refine zlp_find (fun d => nI (i + 1 + d)) (fun d => tz σc (σm.1 1 0) (aMin (σm.1 1 0)) i (i + 1 + d)) (N - i) (fun d => Sum.inl (nI (i + 1 + d))) rfl ?_ ?_
        · intro d hd
          have l3 : nI (i + 1 + d) ≤ nI N := nI_le (by omega) (by omega)
          unfold b_X12_two_133 tz
          simp (disch := omega) only [eN, l3, if_true, zin_nI, show i < 61 by omega, show i + 1 + d < 61 by omega, decide_true, zgT, nI_clamp, lcmp0, hw i (by omega), hw (i + 1 + d) (by omega), nI_1]
          by_cases q : hdX σc (σm.1 1 0) (aMin (σm.1 1 0) + i) &&& hdX σc (σm.1 1 0) (aMin (σm.1 1 0) + (i + 1 + d)) = 0
          · rw [if_pos q, if_pos (decide_eq_true q)]
          · rw [if_neg q, if_neg (by rw [decide_eq_false q]; exact Bool.false_ne_true)]
            rfl
        · have l3 : ¬ nI (i + 1 + (N - i)) ≤ nI N := nI_ge (by omega) (by omega)
          unfold b_X12_two_133
          simp only [eN, l3, if_false]
      unfold b_X12_two_116 tp
      simp only [eN, l1, if_true, nI_1, inner, Option.bind_some]
      by_cases q : tq σc (σm.1 1 0) (aMin (σm.1 1 0)) N i < N - i <;> simp [q]
    · have l1 : ¬ nI N < nI N := nI_nlt (Nat.le_refl _) (by omega)
      unfold b_X12_two_116
      simp only [eN, l1, if_false]
  have cm : sc.1 1 0 3 = sm.1 1 0 0 := by rw [(hC 1 rfl).1, s3, hM]
  unfold f_X11_two f_X12_two f_X9_clearTogether j_X9_clearTogether_77
  rw [c_viewNow (rI h) (rB h).1, s3, hm.1, isIn01]
  simp only [zb, eC, f1, f2, Option.bind_some, srC, srM, zt_0, cm]
  by_cases h0 : x = 0
  · subst h0
    simp only [if_true, true_or, decide_true, Bool.true_eq_false, if_false]
    split
    · exact ⟨_, _, _, rfl, rfl, rel_same hC hSO.m h⟩
    · exact ⟨_, _, _, rfl, rfl, rel_same hC hSO.m h⟩
  by_cases h1 : x = 1
  · subst h1
    simp only [show ¬ (1 : Int32) = 0 by decide, if_true, or_true, decide_true, Bool.true_eq_false, if_false]
    split
    · exact ⟨_, _, _, rfl, rfl, rel_same hC hSO.m h⟩
    · exact ⟨_, _, _, rfl, rfl, rel_same hC hSO.m h⟩
  simp only [h0, h1, if_false, or_self, decide_false, if_true]
  exact ⟨_, _, _, rfl, rfl, h⟩
end PURE
