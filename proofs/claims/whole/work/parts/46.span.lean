/-! PURE LAYER: loop rules; questions over minutes -/
theorem zlp_run {α β : Type} {f : α → Option (α ⊕ β)} (n : Nat) (P : Nat → α → Prop) (Q : β → Prop) {a : α} (ha : P 0 a) (h : ∀ k, k < n → ∀ q, P k q → (∃ b, f q = some (.inr b) ∧ Q b) ∨ ∃ q', f q = some (.inl q') ∧ P (k + 1) q') (he : ∀ q, P n q → ∃ b, f q = some (.inr b) ∧ Q b) : ∃ b, zlp f a = some b ∧ Q b := by
  have key : ∀ j k, k + j = n → ∀ q, P k q → ∃ b, zlp f q = some b ∧ Q b := by
    intro j
    induction j with
    | zero =>
      intro k hk q hq
      have : k = n := by omega
      subst this
      obtain ⟨b, e, hb⟩ := he q hq
      exact ⟨b, zlp_done e, hb⟩
    | succ j ih =>
      intro k hk q hq
      rcases h k (by omega) q hq with ⟨b, e, hb⟩ | ⟨q', e, hq'⟩
      · exact ⟨b, zlp_done e, hb⟩
      · rw [zlp_step e]
        exact ih (k + 1) (by omega) q' hq'
  exact key n 0 (by omega) a ha
/-- two loops, step by step alike -/
theorem zlp_two {α β α' β' : Type} {f : α → Option (α ⊕ β)} {f' : α' → Option (α' ⊕ β')} (n : Nat) (P : Nat → α → α' → Prop) (Q : β → β' → Prop) {a : α} {a' : α'} (ha : P 0 a a')
    (h : ∀ k, k < n → ∀ q q', P k q q' → (∃ b b', f q = some (.inr b) ∧ f' q' = some (.inr b') ∧ Q b b') ∨ ∃ r r', f q = some (.inl r) ∧ f' q' = some (.inl r') ∧ P (k + 1) r r') (he : ∀ q q', P n q q' → ∃ b b', f q = some (.inr b) ∧ f' q' = some (.inr b') ∧ Q b b') : ∃ b b', zlp f a = some b ∧ zlp f' a' = some b' ∧ Q b b' := by
  have key : ∀ j k, k + j = n → ∀ q q', P k q q' → ∃ b b', zlp f q = some b ∧ zlp f' q' = some b' ∧ Q b b' := by
    intro j
    induction j with
    | zero =>
      intro k hk q q' hq
      have : k = n := by omega
      subst this
      obtain ⟨b, b', e, e', hb⟩ := he q q' hq
      exact ⟨b, b', zlp_done e, zlp_done e', hb⟩
    | succ j ih =>
      intro k hk q q' hq
      rcases h k (by omega) q q' hq with ⟨b, b', e, e', hb⟩ | ⟨r, r', e, e', hr⟩
      · exact ⟨b, b', zlp_done e, zlp_done e', hb⟩
      · rw [zlp_step e, zlp_step e']
        exact ih (k + 1) (by omega) r r' hr
  exact key n 0 (by omega) a a' ha
theorem i_nlt {a b : Int32} : ¬ a < b ↔ b ≤ a := ⟨fa_of_nlt, fun h q => by rw [fa_lt] at q; rw [fa_le] at h; omega⟩
theorem i_nle {a b : Int32} : ¬ a ≤ b ↔ b < a := ⟨fa_of_nle, fun h q => by rw [fa_le] at q; rw [fa_lt] at h; omega⟩
theorem zwI_zwI (σ : zG) (f i k : Nat) (x y : Int32) : zwI (zwI σ f i k x) f i k y = zwI σ f i k y := by
  unfold zwI
  refine Prod.ext (funext fun f' => funext fun i' => funext fun k' => ?_) rfl
  by_cases h : f' = f ∧ i' = i ∧ k' = k <;> simp [h]
theorem zwI_self (σ : zG) (f i k : Nat) : zwI σ f i k (σ.1 f i k) = σ := by
  unfold zwI
  refine Prod.ext (funext fun f' => funext fun i' => funext fun k' => ?_) rfl
  by_cases h : f' = f ∧ i' = i ∧ k' = k
  · simp [h]
  · simp [h]
/-- only the first thirty have changed -/
theorem top_cong {g g' t : zGa} (h : ∀ k, 30 ≤ k → g' k = g k) (hT : Top g t) : Top g' t := by
  have e1 : aWide g' = aWide g := congrArg Int32.toNatClampNeg (h 32 (by decide))
  have e2 : aW g' = aW g := congrArg Int32.toNatClampNeg (h 30 (by decide))
  have e3 : aH g' = aH g := congrArg Int32.toNatClampNeg (h 31 (by decide))
  have e4 : sp g' = sp g := by funext c; unfold sp; rw [e2, e3]
  unfold Top at hT ⊢
  rw [e1, e2, e4]
  refine ⟨hT.1, hT.2.1, hT.2.2.1, hT.2.2.2.1, hT.2.2.2.2.1, fun c hc => ?_⟩
  rw [h (40 + c) (by omega)]
  exact hT.2.2.2.2.2 c hc
theorem law_cong {g g' : zGa} (h : ∀ k, 30 ≤ k → g' k = g k) (k : Nat) : LawI g' k = LawI g k := by
  have e0 : aLN g' k = aLN g k := congrArg Int32.toNatClampNeg (h (37 + k) (by omega))
  have e1 : lop g' k = lop g k := by funext j; unfold lop; rw [h _ (by omega)]
  have e2 : lov g' k = lov g k := by funext j; unfold lov; rw [h _ (by omega)]
  have e3 : lFrom g' k = lFrom g k := by funext j; unfold lFrom; rw [h _ (by omega)]
  have e4 : lMid g' k = lMid g k := by funext j; unfold lMid; rw [h _ (by omega)]
  have e5 : lTo g' k = lTo g k := by funext j; unfold lTo; rw [h _ (by omega)]
  unfold LawI
  rw [e0, e1, e2, e3, e4, e5]
  simp (disch := omega) only [h]
theorem inv_top {g g' : zGa} (h : ∀ k, 30 ≤ k → g' k = g k) (hI : Inv g) (hT : Top g g') (hS : aShN g' ≤ aShN g) : Inv g' := by
  have e1 : aWide g' = aWide g := congrArg Int32.toNatClampNeg (h 32 (by decide))
  have e2 : aW g' = aW g := congrArg Int32.toNatClampNeg (h 30 (by decide))
  have e3 : aH g' = aH g := congrArg Int32.toNatClampNeg (h 31 (by decide))
  have e4 : sp g' = sp g := by funext c; unfold sp; rw [e2, e3]
  have e5 : aCom g' = aCom g := congrArg Int32.toNatClampNeg (h 33 (by decide))
  have e6 : aStay g' = aStay g := congrArg Int32.toNatClampNeg (h 34 (by decide))
  have e7 : aGrey g' = aGrey g := congrArg Int32.toNatClampNeg (h 35 (by decide))
  have e8 : aWN g' = aWN g := congrArg Int32.toNatClampNeg (h 36 (by decide))
  have e9 : pl g' = pl g := by funext k m; unfold pl; rw [h _ (by omega)]
  have hT' := top_cong h hT
  obtain ⟨a1, a2, a3, a4, a5, a6, a7, a8, a9, -, b1, b2⟩ := hI
  unfold Inv
  rw [e1, e2, e3, e4, e5, e6, e7, e8, e9, law_cong h, law_cong h, h 30 (by decide), h 31 (by decide), h 32 (by decide), h 33 (by decide), h 34 (by decide), h 35 (by decide), h 36 (by decide)]
  refine ⟨a1, a2, a3, a4, a5, a6, a7, fun k hk => ?_, a9, hT', fun i hi c hc => ?_, fun i hi c h1 h2 => ?_⟩
  · rw [h _ (by omega)]
    exact a8 k hk
  · rw [h _ (by omega), h _ (by omega)]
    exact b1 i (by omega) c hc
  · rw [h _ (by omega)]
    exact b2 i (by omega) c h1 h2
/-- all of them so far -/
def alls (e : Nat → Bool) (b : Bool) : Nat → Bool
  | 0 => b
  | k + 1 => alls e b k && e k
theorem alls_false {e : Nat → Bool} {b : Bool} {k : Nat} (h : alls e b k = false) : ∀ n, alls e b (k + n) = false
  | 0 => h
  | n + 1 => by
    show (alls e b (k + n) && e (k + n)) = false
    rw [alls_false h n]
    rfl
section PURE
variable {σ σc σm : zG} {g : zGa}
theorem pr_row [Inhabited BFT] : PR_row Rel := fun x σc σm h => by
  have hm := tp_Min (iv_Top (rI h))
  have s3 : σc.1 1 0 3 = σm.1 1 0 0 := (rB h).1.2.2.2.1
  have key : ∃ b b', zlp (fun q : Int32 × Int32 × Int32 × Int32 => b_X9_longestFree_26 (colX (aStep (σm.1 1 0)) (aWide (σm.1 1 0)) (aH (σm.1 1 0))) σc q.1 q.2.1 q.2.2.1 q.2.2.2) ((0 : Int32), (0 : Int32), (-1 : Int32), nI (aMin (σm.1 1 0))) = some b ∧ zlp (fun q : Int32 × Int32 × Int32 × Int32 => b_X12_row_26 σm q.1 q.2.1 q.2.2.1 q.2.2.2) ((0 : Int32), (-1 : Int32), (0 : Int32), nI (aMin (σm.1 1 0))) = some b' ∧ b = b' := by
    refine zlp_two (501 - aMin (σm.1 1 0)) (fun k q q' => ∃ a b c, q = (a, b, c, nI (aMin (σm.1 1 0) + k)) ∧ q' = (b, c, a, nI (aMin (σm.1 1 0) + k))) (fun b b' => b = b') ⟨_, _, _, rfl, rfl⟩ ?_ ?_
    · rintro k hk _ _ ⟨a, b, c, rfl, rfl⟩
      right
      have hle : nI (aMin (σm.1 1 0) + k) ≤ (500 : Int32) := nI_le (b := 500) (by omega) (by decide)
      unfold b_X9_longestFree_26 b_X12_row_26
      simp only [hle, if_true]
      rw [c_empty (rI h) (rB h) (by omega), m_empty (rI h) (by omega)]
      simp only [Option.bind_some, zt_0]
      unfold j_X9_longestFree_55_26 j_X12_row_51_26
      generalize (if emp (σm.1 1 0) (aMin (σm.1 1 0) + k) = false then (0 : Int32) else a + 1) = t
      cases emp (σm.1 1 0) (aMin (σm.1 1 0) + k)
      · simp only [if_true]
        by_cases hb : b < 0
        · rw [if_pos hb, if_neg (i_nle.mpr hb)]
          exact ⟨_, _, rfl, rfl, _, _, _, by rw [nI_1, Nat.add_assoc], by rw [nI_1, Nat.add_assoc]⟩
        · rw [if_neg hb, if_pos (i_nlt.mp hb)]
          exact ⟨_, _, rfl, rfl, _, _, _, by rw [nI_1, Nat.add_assoc], by rw [nI_1, Nat.add_assoc]⟩
      · simp only [Bool.true_eq_false, if_false]
        by_cases hb : b < a + 1
        · rw [if_pos hb, if_neg (i_nle.mpr hb)]
          exact ⟨_, _, rfl, rfl, _, _, _, by rw [nI_1, Nat.add_assoc], by rw [nI_1, Nat.add_assoc]⟩
        · rw [if_neg hb, if_pos (i_nlt.mp hb)]
          exact ⟨_, _, rfl, rfl, _, _, _, by rw [nI_1, Nat.add_assoc], by rw [nI_1, Nat.add_assoc]⟩
    · rintro _ _ ⟨a, b, c, rfl, rfl⟩
      have he : ¬ nI (aMin (σm.1 1 0) + (501 - aMin (σm.1 1 0))) ≤ (500 : Int32) := nI_ge (a := 500) (by omega) (by omega)
      unfold b_X9_longestFree_26 b_X12_row_26
      simp only [he, if_false]
      exact ⟨_, _, rfl, rfl, rfl⟩
  obtain ⟨b, b', e1, e2, rfl⟩ := key
  unfold f_X11_row f_X9_longestFree f_X12_row
  rw [c_viewNow (rI h) (rB h).1, Option.bind_some, s3, hm.1, e1, e2, isIn01]
  simp only [Option.bind_some, zt_0]
  by_cases h0 : x = 0
  · subst h0; exact ⟨_, rfl, rfl, h⟩
  by_cases h1 : x = 1
  · subst h1; exact ⟨_, rfl, rfl, h⟩
  simp only [h0, h1, if_false, or_self, decide_false, if_true]
  exact ⟨_, rfl, rfl, h⟩
theorem pr_nobody [Inhabited BFT] : PR_nobody Rel := fun x σc σm h => by
  have s6 : σc.1 1 0 6 = σm.1 1 0 33 := (rB h).1.2.2.2.2.2.2.1
  unfold f_X11_nobody f_X12_nobody
  rcases isIn_lit x 0 500 (by decide) (by decide) with ⟨n, -, hn, rfl, r⟩ | ⟨-, r, r2⟩
  · have r' : f_X12_isIn (nI n) 0 500 = 1 := r
    have p0 : (0 : Int32) ≤ nI n := nI_pos' (by omega)
    have p1 : ¬ (500 : Int32) < nI n := i_nlt.mpr (nI_le (b := 500) hn (by decide))
    have key : ∃ b b', zlp (fun q : Int32 × Int32 => b_X11_nobody_19 (nI n) σc q.1 q.2) ((1000000 : Int32), (0 : Int32)) = some b ∧ zlp (fun q : Int32 × Int32 => b_X12_nobody_19 (nI n) σm q.1 q.2) ((1000000 : Int32), (0 : Int32)) = some b' ∧ b = b' := by
      refine zlp_two n (fun k q q' => q = q' ∧ q.2 = nI k) (fun b b' => b = b') ⟨rfl, rfl⟩ ?_ ?_
      · rintro k hk ⟨v, _⟩ _ ⟨rfl, rfl⟩
        right
        unfold b_X11_nobody_19 b_X12_nobody_19 f_X11_part
        simp only [s6, nI_lt hk (show n < 2 ^ 31 by omega), if_true]
        exact ⟨_, _, rfl, rfl, rfl, nI_1 k⟩
      · rintro ⟨v, _⟩ _ ⟨rfl, rfl⟩
        unfold b_X11_nobody_19 b_X12_nobody_19
        simp only [nI_nlt (Nat.le_refl n) (show n < 2 ^ 31 by omega), if_false]
        exact ⟨_, _, rfl, rfl, rfl⟩
    obtain ⟨b, b', e1, e2, rfl⟩ := key
    rw [r', e1, e2]
    simp only [p0, p1, if_true, if_false]
    exact ⟨_, rfl, rfl, h⟩
  · have r' : f_X12_isIn x 0 500 = 0 := r
    rw [r']
    refine ⟨-1, ?_, rfl, h⟩
    by_cases h1 : 0 ≤ x
    · by_cases h2 : (500 : Int32) < x
      · simp [h1, h2]
      · exact absurd ⟨h1, i_nlt.mp h2⟩ r2
    · simp [h1]
set_option maxRecDepth 20000 in
theorem near_eq : ∀ c, c < 56 → ∀ d, d < 56 → f_X9_areNear (nI c) (nI d) = zt (decide (f_X12_apart (nI c) (nI d) < 2)) := by
  unfold f_X9_areNear f_X12_apart j_X12_apart_30
  decide +kernel
theorem pr_twos [Inhabited BFT] : PR_twos Rel := fun x σc σm h => by
  have hN := iv_WN (rI h)
  have w0 : σc.1 8 0 0 = σm.1 1 0 36 := (rB h).2.2.1.1
  unfold f_X11_twos f_X12_twos f_X9_pairsIn
  rcases min_cs x with ⟨m, hm, rfl, e3, e4⟩ | ⟨e3, e4⟩
  · have key : ∃ b b', zlp (fun q : Int32 × Int32 => b_X9_pairsIn_4 σc (nI m) q.1 q.2) ((0 : Int32), (0 : Int32)) = some b ∧ zlp (fun q : Int32 × Int32 => b_X12_twos_13 σm (nI m) q.1 q.2) ((0 : Int32), (0 : Int32)) = some b' ∧ b = b' := by
      refine zlp_two (aWN (σm.1 1 0)) (fun k q q' => q = q' ∧ q.2 = nI k) (fun b b' => b = b') ⟨rfl, rfl⟩ ?_ ?_
      · rintro k hk ⟨v, _⟩ _ ⟨rfl, rfl⟩
        right
        have key2 : ∃ b b', zlp (fun q : Int32 × Int32 => b_X9_pairsIn_21 (nI k) (nI m) σc q.1 q.2) (v, (0 : Int32)) = some b ∧ zlp (fun q : Int32 × Int32 => b_X12_twos_27 (nI k) (nI m) σm q.1 q.2) (v, (0 : Int32)) = some b' ∧ b = b' := by
          refine zlp_two k (fun j q q' => q = q' ∧ q.2 = nI j) (fun b b' => b = b') ⟨rfl, rfl⟩ ?_ ?_
          · rintro j hj ⟨u, _⟩ _ ⟨rfl, rfl⟩
            right
            unfold b_X9_pairsIn_21 b_X12_twos_27
            simp only [nI_lt hj (show k < 2 ^ 31 by omega), if_true, c_spotIn (rI h) (rB h).2.2.2.1 hk hm, c_spotIn (rI h) (rB h).2.2.2.1 (show j < aWN (σm.1 1 0) by omega) hm, m_place (σ := σm) (show k < 12 by omega) hm, m_place (σ := σm) (show j < 12 by omega) hm, Option.bind_some]
            rcases iv_Pl (rI h) hk hm with e | ⟨c, hc, e, -⟩
            · rw [e]
              simp only [f_X9_areNear, if_true]
              exact ⟨_, _, rfl, rfl, by simp, nI_1 j⟩
            · have nc : (nI c = -1) = False := nI_nm1 (by omega)
              simp only [e, nc, if_false]
              rcases iv_Pl (rI h) (show j < aWN (σm.1 1 0) by omega) hm with e' | ⟨d, hd, e', -⟩
              · have : f_X9_areNear (nI c) (-1) = 0 := by unfold f_X9_areNear; simp
                simp only [e', this, if_true]
                exact ⟨_, _, rfl, rfl, by simp, nI_1 j⟩
              · have nd : (nI d = -1) = False := nI_nm1 (by omega)
                simp only [e', nd, near_eq c hc d hd, zt_0, if_false]
                by_cases ha : f_X12_apart (nI c) (nI d) < 2
                · simp only [ha, decide_true, Bool.true_eq_false, if_false, if_true]
                  exact ⟨_, _, rfl, rfl, rfl, nI_1 j⟩
                · simp only [ha, decide_false, if_false, if_true]
                  exact ⟨_, _, rfl, rfl, by simp, nI_1 j⟩
          · rintro ⟨u, _⟩ _ ⟨rfl, rfl⟩
            unfold b_X9_pairsIn_21 b_X12_twos_27
            simp only [nI_nlt (Nat.le_refl k) (show k < 2 ^ 31 by omega), if_false]
            exact ⟨_, _, rfl, rfl, rfl⟩
        obtain ⟨b, b', e1, e2, rfl⟩ := key2
        unfold b_X9_pairsIn_4 b_X12_twos_13
        simp only [w0, hN.1, nI_lt hk (show aWN (σm.1 1 0) < 2 ^ 31 by omega), if_true, e1, e2, Option.bind_some]
        exact ⟨_, _, rfl, rfl, rfl, nI_1 k⟩
      · rintro ⟨v, _⟩ _ ⟨rfl, rfl⟩
        unfold b_X9_pairsIn_4 b_X12_twos_13
        simp only [w0, hN.1, nI_nlt (Nat.le_refl _) (show aWN (σm.1 1 0) < 2 ^ 31 by omega), if_false]
        exact ⟨_, _, rfl, rfl, rfl⟩
    obtain ⟨b, b', e1, e2, rfl⟩ := key
    rw [e3, e4, e1, Option.bind_some, if_neg (by decide), e2]
    exact ⟨_, rfl, rfl, h⟩
  · rw [e3, e4]
    exact ⟨_, rfl, rfl, h⟩
/-- spots that are never clear -/
def nevX (σ : zG) (g : zGa) (a : Nat) (V : Int64) : Nat → Int64
  | 0 => V
  | k + 1 => nevX σ g a V k &&& covX σ 0 g (a + k)
theorem lb_nevX (hI : Inv g) (hP : RPa σ 0 g) {a c : Nat} {V : Int64} (hc : c < 64) : ∀ k, a + k ≤ 501 → lb (nevX σ g a V k) c = alls (fun k => covB g c (a + k)) (lb V c) k
  | 0, _ => rfl
  | k + 1, hk => by
    rw [nevX, lb_and, lb_nevX hI hP hc k (by omega), lb_covX hI hP hc (by omega)]
    rfl
theorem m_alls {f : Int32 × Int32 → Option ((Int32 × Int32) ⊕ Int32)} {a n : Nat} (e : Nat → Bool) (b : Bool) (h : ∀ k, k < n → ∀ v, f (v, nI (a + k)) = if v = 0 then some (.inr v) else some (.inl (zt (e k), nI (a + k + 1)))) (he : ∀ v, f (v, nI (a + n)) = some (.inr v)) : zlp f (zt b, nI a) = some (zt (alls e b n)) := by
  obtain ⟨r, e1, rfl⟩ := zlp_run (f := f) n (fun k q => q = (zt (alls e b k), nI (a + k))) (fun r => r = zt (alls e b n)) (a := (zt b, nI a)) rfl (fun k hk q hq => by
    subst hq
    rw [h k hk]
    simp only [zt_0]
    cases hb : alls e b k
    · left
      refine ⟨_, if_pos rfl, ?_⟩
      have := alls_false hb (n - k)
      rw [Nat.add_sub_cancel' (by omega)] at this
      rw [this]
    · right
      refine ⟨_, if_neg (by decide), ?_⟩
      show _ = (zt (alls e b k && e k), _)
      rw [hb]
      rfl) (fun q hq => by
    subst hq
    exact ⟨_, he _, rfl⟩)
  exact e1
theorem pr_never [Inhabited BFT] : PR_never Rel := fun x y σc σm h => by
  unfold f_X11_never f_X12_never f_X9_neverClear
  rcases span_cs x y with ⟨a, n, hn, rfl, rfl, e1, e2⟩ | ⟨e1, e2⟩
  · rw [e1, e2, c_viewNow (rI h) (rB h).1, Option.bind_some, if_neg (by decide), if_neg (by decide)]
    rw [zlp_for (a := (colX (aStep (σm.1 1 0)) (aWide (σm.1 1 0)) (aH (σm.1 1 0)), nI a)) (fun k => (nevX σc (σm.1 1 0) a (colX (aStep (σm.1 1 0)) (aWide (σm.1 1 0)) (aH (σm.1 1 0))) k, nI (a + k))) (n + 1) (b := nevX σc (σm.1 1 0) a (colX (aStep (σm.1 1 0)) (aWide (σm.1 1 0)) (aH (σm.1 1 0))) (n + 1)) rfl ?_ ?_]
    · refine ⟨_, rfl, ?_, h⟩
      rw [zlp_for (a := ((0 : Int64), (0 : Int32))) (fun c => (bitsL (fun c => alls (fun k => covB (σm.1 1 0) c (a + k)) (vw (σm.1 1 0) c) (n + 1)) c, nI c)) 64 (b := nevX σc (σm.1 1 0) a (colX (aStep (σm.1 1 0)) (aWide (σm.1 1 0)) (aH (σm.1 1 0))) (n + 1)) rfl ?_ ?_]
      · rfl
      · intro c hc
        unfold b_X12_never_17
        rw [m_isInView (rI h) hc, bitsL]
        simp (disch := omega) only [Option.bind_some, zlit, nI_ltQ, hc, if_true]
        rw [m_alls (n := n + 1) (fun k => covB (σm.1 1 0) c (a + k)) (vw (σm.1 1 0) c) ?_ ?_]
        · unfold j_X12_never_62_17
          simp only [Option.bind_some, zt_0', zlit, nI_add]
          cases alls (fun k => covB (σm.1 1 0) c (a + k)) (vw (σm.1 1 0) c) (n + 1) <;> simp
        · intro k hk v
          unfold b_X12_never_35
          simp (disch := omega) only [nI_leQ, show a + k ≤ a + n by omega, if_true, m_covB (rI h) hc (show a + k < 501 by omega), Option.bind_some, nI_1]
        · intro v
          unfold b_X12_never_35
          simp (disch := omega) only [nI_leQ, show ¬ a + (n + 1) ≤ a + n by omega, if_false]
      · unfold b_X12_never_17
        have e : bitsL (fun c => alls (fun k => covB (σm.1 1 0) c (a + k)) (vw (σm.1 1 0) c) (n + 1)) 64 = nevX σc (σm.1 1 0) a (colX (aStep (σm.1 1 0)) (aWide (σm.1 1 0)) (aH (σm.1 1 0))) (n + 1) := bits_eq (by decide) fun i hi => by
          rw [lb_nevX (rI h) (rB h).2.2.2.1 hi _ (by omega), lb_view (rI h) hi]
          simp [hi]
        rw [e]
        rfl
    · intro k hk
      unfold b_X9_neverClear_11
      simp (disch := omega) only [nI_leQ, show a + k ≤ a + n by omega, if_true, c_coverIn (iv_Top (rI h)) (rB h).2.1 (show a + k < 501 by omega), Option.bind_some, nI_1]
      rfl
    · unfold b_X9_neverClear_11
      simp (disch := omega) only [nI_leQ, show ¬ a + (n + 1) ≤ a + n by omega, if_false]
  · rw [e1, e2]
    exact ⟨_, rfl, rfl, h⟩
end PURE
