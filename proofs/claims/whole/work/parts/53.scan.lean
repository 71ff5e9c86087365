/-! PURE LAYER: steps, two, copies, enough, stander -/
/-- the model's scratch -/
def zms (f : Nat) : Bool := f == 0 || f == 9 || f == 10 || f == 11 || f == 12 || f == 13 || f == 14
def zmk (k : Nat) : Bool := k == 31 || k == 33 || k == 34
def SmO (σ σ' : zG) : Prop := (∀ f, zms f = false → σ'.1 f = σ.1 f) ∧ ∀ k, zmk k = false → σ'.1 0 0 k = σ.1 0 0 k
theorem SmO.refl (σ : zG) : SmO σ σ := ⟨fun _ _ => rfl, fun _ _ => rfl⟩
theorem SmO.trans {a b c : zG} (h : SmO a b) (h2 : SmO b c) : SmO a c := ⟨fun f hf => (h2.1 f hf).trans (h.1 f hf), fun k hk => (h2.2 k hk).trans (h.2 k hk)⟩
theorem SmO.m {σ σ' : zG} (h : SmO σ σ') : SmM σ σ' := ⟨h.1 1 rfl, h.1 2 rfl, h.1 3 rfl, h.1 8 rfl, h.2 3 rfl, h.2 4 rfl, h.2 16 rfl, h.2 23 rfl, h.2 25 rfl⟩
theorem smO_w {σ : zG} {f i k : Nat} {x : Int32} (h : zms f = true) (h0 : f ≠ 0) : SmO σ (zwI σ f i k x) := by
  refine ⟨fun f' h' => ?_, fun k' _ => ?_⟩
  · funext i' k'
    show (if f' = f ∧ i' = i ∧ k' = k then x else σ.1 f' i' k') = _
    rw [if_neg]
    rintro ⟨rfl, -⟩
    rw [h] at h'
    cases h'
  · show (if 0 = f ∧ 0 = i ∧ k' = k then x else σ.1 0 0 k') = _
    rw [if_neg]
    rintro ⟨e, -⟩
    exact h0 e.symm
theorem smO_w0 {σ : zG} {k : Nat} {x : Int32} (h : zmk k = true) : SmO σ (zwI σ 0 0 k x) := by
  refine ⟨fun f' h' => ?_, fun k' h' => ?_⟩
  · funext i' k'
    show (if f' = 0 ∧ i' = 0 ∧ k' = k then x else σ.1 f' i' k') = _
    rw [if_neg]
    rintro ⟨rfl, -⟩
    cases h'
  · show (if 0 = 0 ∧ 0 = 0 ∧ k' = k then x else σ.1 0 0 k') = _
    rw [if_neg]
    rintro ⟨-, -, rfl⟩
    rw [h] at h'
    cases h'
theorem smO_wL {σ : zG} {f i k : Nat} {x : Int64} : SmO σ (zwL σ f i k x) := ⟨fun _ _ => rfl, fun _ _ => rfl⟩
section PURE
variable {σ σc σm : zG} {g : zGa}
/-- another step -/
theorem who_upd1 (v : Int32) (c : Int32) (m : Nat) : who (upd g 1 v) c m = who g c m := by
  have e1 : aWN (upd g 1 v) = aWN g := by unfold aWN; rw [pk_un (by decide)]
  have e2 : aSN (upd g 1 v) = aSN g := by unfold aSN; rw [pk_un (by decide)]
  have e3 : ∀ k, pl (upd g 1 v) k m = pl g k m := fun k => by unfold pl; rw [pk_un (by omega)]
  have e4 : ∀ i x, stAt (upd g 1 v) i x = stAt g i x := fun i x => by unfold stAt; rw [pk_un (by omega), pk_un (by omega)]
  have e5 : ∀ i, upd g 1 v (5 + 3 * i) = g (5 + 3 * i) := fun i => pk_un (by omega)
  unfold who
  simp only [e1, e2, e3, e4, e5]
theorem covB_upd1 (v : Int32) (c m : Nat) : covB (upd g 1 v) c m = covB g c m := by
  unfold covB
  rw [who_upd1]
theorem inv_upd1 (hI : Inv g) {s : Nat} (hs : s + aWide g ≤ aW g) : Inv (upd g 1 (nI s)) ∧ aStep (upd g 1 (nI s)) = s := by
  have hW := iv_W hI
  have hT := iv_Top hI
  have e0 : upd g 1 (nI s) 0 = g 0 := pk_un (by decide)
  have e1 : upd g 1 (nI s) 1 = nI s := pk_us
  have e3 : upd g 1 (nI s) 3 = g 3 := pk_un (by decide)
  have e4 : upd g 1 (nI s) 4 = g 4 := pk_un (by decide)
  have e5 : ∀ i, upd g 1 (nI s) (5 + 3 * i) = g (5 + 3 * i) := fun i => pk_un (by omega)
  have a0 : aMin (upd g 1 (nI s)) = aMin g := by unfold aMin; rw [e0]
  have a1 : aStep (upd g 1 (nI s)) = s := by unfold aStep; rw [e1, nI_clamp (by omega)]
  have a3 : aSN (upd g 1 (nI s)) = aSN g := by unfold aSN; rw [e3]
  have a4 : aShN (upd g 1 (nI s)) = aShN g := by unfold aShN; rw [e4]
  refine ⟨inv_top (fun k hk => pk_un (by omega)) hI ?_ (by rw [a4]; exact Nat.le_refl _), a1⟩
  unfold Top
  rw [a0, a1, a3, a4, e0, e1, e3, e4]
  simp only [e5]
  exact ⟨hT.1, ⟨trivial, hs⟩, hT.2.2.1, hT.2.2.2.1, hT.2.2.2.2.1, hT.2.2.2.2.2⟩
def frN (g : zGa) (a n : Nat) : Nat := fb_ct (fun k => emp g (a + k)) n
theorem c_minFree {V : Int64} {e : Nat → Bool} (hV : ∀ m, m < 501 → f_X1_isFree 0 V (nI m) σ = some (zt (e m))) {a n : Nat} (hn : a + n ≤ 500) : f_X9_minutesFree V (nI a) (nI (a + n)) σ = some (nI (fb_ct (fun k => e (a + k)) (n + 1))) := by
  unfold f_X9_minutesFree
  rw [zlp_for (a := ((0 : Int32), nI a)) (fun k => (nI (fb_ct (fun k => e (a + k)) k), nI (a + k))) (n + 1) (b := nI (fb_ct (fun k => e (a + k)) (n + 1))) rfl ?_ ?_]
  · rfl
  · intro k hk
    unfold b_X9_minutesFree_6
    simp (disch := omega) only [nI_leQ, show a + k ≤ a + n by omega, if_true, hV (a + k) (by omega), Option.bind_some, zt_0, nI_1, fb_ct_succ]
    cases he : e (a + k) <;> simp [Nat.add_assoc]
  · unfold b_X9_minutesFree_6
    simp (disch := omega) only [nI_leQ, show ¬ a + (n + 1) ≤ a + n by omega, if_false]
theorem m_minFree (hI : Inv (σ.1 1 0)) {a n : Nat} (hn : a + n ≤ 500) : zlp (fun q : Int32 × Int32 => b_X12_steps_60 (nI (a + n)) σ q.1 q.2) ((0 : Int32), nI a) = some (nI (frN (σ.1 1 0) a (n + 1))) := by
  rw [zlp_for (a := ((0 : Int32), nI a)) (fun k => (nI (frN (σ.1 1 0) a k), nI (a + k))) (n + 1) (b := nI (frN (σ.1 1 0) a (n + 1))) rfl ?_ ?_]
  · intro k hk
    unfold b_X12_steps_60 frN
    simp (disch := omega) only [nI_leQ, show a + k ≤ a + n by omega, if_true, m_empty hI (show a + k < 501 by omega), Option.bind_some, zt_0, nI_1, fb_ct_succ]
    cases he : emp (σ.1 1 0) (a + k) <;> simp [Nat.add_assoc]
  · unfold b_X12_steps_60
    simp (disch := omega) only [nI_leQ, show ¬ a + (n + 1) ≤ a + n by omega, if_false]
theorem pr_steps [Inhabited BFT] : PR_steps Rel := fun x y σc σm h => by
  have hW := iv_W (rI h)
  have hD := iv_Wd (rI h)
  have s0 : σc.1 1 0 0 = σm.1 1 0 30 := (rB h).1.1
  have s4 : σc.1 1 0 4 = σm.1 1 0 32 := (rB h).1.2.2.2.2.1
  unfold f_X11_steps f_X12_steps f_X9_bestStep
  rcases span_cs x y with ⟨a, n, hn, rfl, rfl, e1, e2⟩ | ⟨e1, e2⟩
  · have row : ∀ v, (zwI σm 1 0 1 v).1 1 0 = upd (σm.1 1 0) 1 v := fun v => zw_row σm 1 0 1 v
    obtain ⟨b, b', f1, f2, hb, v, hv⟩ := zlp_two (f := fun q : Int32 × Int32 × Int32 => b_X9_bestStep_8 σc (nI a) (nI (a + n)) q.1 q.2.1 q.2.2) (f' := fun q : Int32 × Int32 × Int32 × zG => b_X12_steps_26 (nI (a + n)) (nI a) q.1 q.2.1 q.2.2.1 q.2.2.2) (aW (σm.1 1 0) - aWide (σm.1 1 0) + 1)
      (fun k q q' => (q.1 = q'.1 ∧ q.2.1 = q'.2.1) ∧ (q.2.2 = nI k ∧ q'.2.2.1 = nI k) ∧ ∃ v, q'.2.2.2 = zwI σm 1 0 1 v)
      (fun b b' => b = b'.1 ∧ ∃ v, b'.2 = zwI σm 1 0 1 v) (a := ((0 : Int32), (-1 : Int32), (0 : Int32))) (a' := ((0 : Int32), (-1 : Int32), (0 : Int32), σm))
      ⟨⟨rfl, rfl⟩, ⟨rfl, rfl⟩, σm.1 1 0 1, (zwI_self σm 1 0 1).symm⟩ (by
        rintro k hk ⟨b1, m1, _⟩ ⟨_, _, _, _⟩ ⟨⟨rfl, rfl⟩, ⟨rfl, rfl⟩, v, rfl⟩
        right
        obtain ⟨hI', hst⟩ := inv_upd1 (rI h) (s := k) (by omega)
        have ew : aWide (upd (σm.1 1 0) 1 (nI k)) = aWide (σm.1 1 0) := by unfold aWide; rw [pk_un (by decide)]
        have eh : aH (upd (σm.1 1 0) 1 (nI k)) = aH (σm.1 1 0) := by unfold aH; rw [pk_un (by decide)]
        have hfree : ∀ m, m < 501 → f_X1_isFree 0 (colX k (aWide (σm.1 1 0)) (aH (σm.1 1 0))) (nI m) σc = some (zt (emp (upd (σm.1 1 0) 1 (nI k)) m)) := fun m hm => by
          rw [c_isFree (b := 0) (rI h) (rB h).2.1 (rB h).2.2.2.1 (V := colX k (aWide (σm.1 1 0)) (aH (σm.1 1 0))) (p := vw (upd (σm.1 1 0) 1 (nI k))) (fun c hc => by
            have := lb_view hI' hc
            rw [hst, ew, eh] at this
            exact this) hm]
          unfold emp cvN
          simp only [covB_upd1]
        have cf := c_minFree hfree hn
        have mf := m_minFree (σ := zwI σm 1 0 1 (nI k)) (by rw [row]; exact hI') hn
        rw [row] at mf
        have w30 : ∀ v, (zwI σm 1 0 1 v).1 1 0 30 = σm.1 1 0 30 := fun v => by simp [zw_at]
        have w32 : ∀ v, (zwI σm 1 0 1 v).1 1 0 32 = σm.1 1 0 32 := fun v => by simp [zw_at]
        have hle : nI k ≤ nI (aW (σm.1 1 0) - aWide (σm.1 1 0)) := nI_le (by omega) (by omega)
        unfold b_X9_bestStep_8 b_X12_steps_26
        simp only [s0, s4, w30, w32, hW.1, hD.1, pk_sub (show aWide (σm.1 1 0) ≤ aW (σm.1 1 0) by omega), hle, if_true, c_columns (rI h) (rB h).1, Option.bind_some, cf, zb, zwI_zwI, mf]
        show ∃ r r', (if m1 < nI (frN (upd (σm.1 1 0) 1 (nI k)) a (n + 1)) then _ else _) = _ ∧ (if nI (frN (upd (σm.1 1 0) 1 (nI k)) a (n + 1)) ≤ m1 then _ else _) = _ ∧ _
        by_cases hb : m1 < nI (frN (upd (σm.1 1 0) 1 (nI k)) a (n + 1))
        · rw [if_pos hb, if_neg (i_nle.mpr hb)]
          exact ⟨_, _, rfl, rfl, ⟨rfl, rfl⟩, ⟨nI_1 k, nI_1 k⟩, _, rfl⟩
        · rw [if_neg hb, if_pos (i_nlt.mp hb)]
          exact ⟨_, _, rfl, rfl, ⟨rfl, rfl⟩, ⟨nI_1 k, nI_1 k⟩, _, rfl⟩) (by
        rintro ⟨b1, m1, _⟩ ⟨_, _, _, _⟩ ⟨⟨rfl, rfl⟩, ⟨rfl, rfl⟩, v, rfl⟩
        have w30 : ∀ v, (zwI σm 1 0 1 v).1 1 0 30 = σm.1 1 0 30 := fun v => by simp [zw_at]
        have w32 : ∀ v, (zwI σm 1 0 1 v).1 1 0 32 = σm.1 1 0 32 := fun v => by simp [zw_at]
        have hle : ¬ nI (aW (σm.1 1 0) - aWide (σm.1 1 0) + 1) ≤ nI (aW (σm.1 1 0) - aWide (σm.1 1 0)) := nI_ge (by omega) (by omega)
        unfold b_X9_bestStep_8 b_X12_steps_26
        simp only [s0, s4, w30, w32, hW.1, hD.1, pk_sub (show aWide (σm.1 1 0) ≤ aW (σm.1 1 0) by omega), hle, if_false]
        exact ⟨_, _, rfl, rfl, rfl, v, rfl⟩)
    obtain ⟨b1, b2⟩ := b'
    have hv' : b2 = zwI σm 1 0 1 v := hv
    subst hv'
    have hb' : b = b1 := hb
    subst hb'
    rw [e1, e2, f1, f2]
    simp only [show ¬ (1 : Int32) = 0 by decide, if_false, Option.bind_some, zb, zwI_zwI, zwI_self]
    exact ⟨_, _, rfl, rfl, h⟩
  · rw [e1, e2]
    exact ⟨_, _, rfl, rfl, h⟩
/-- the chances -/
def chc (e : Int32) : Nat → Nat → Int32
  | 0, j => if j = 0 then 1000000 else 0
  | i + 1, j => chc e i j * e / 1000 + (if j = 0 then 0 else chc e i (j - 1) * (1000 - e) / 1000)
theorem i_z (x : Int32) : (0 : Int32) * x / 1000 = 0 := by
  rw [Int32.zero_mul]
  decide
theorem chc_0 (e : Int32) : ∀ i j, i < j → chc e i j = 0
  | 0, j, h => by
    show (if j = 0 then (1000000 : Int32) else 0) = 0
    rw [if_neg (by omega)]
  | i + 1, j, h => by
    show chc e i j * e / 1000 + (if j = 0 then 0 else chc e i (j - 1) * (1000 - e) / 1000) = 0
    rw [chc_0 e i j (by omega), if_neg (by omega), chc_0 e i (j - 1) (by omega), i_z, i_z]
    decide
def chs (e : Int32) (n : Nat) : Nat → Int32
  | 0 => 0
  | k + 1 => chs e n k + chc e n (n / 2 + 1 + k)
def cpv (e : Int32) (n : Nat) : Int32 := chs e n (n - n / 2)
theorem half_nI {n : Nat} (h : n < 100) : nI n / 2 + 1 = nI (n / 2 + 1) := by
  have := pk_div (a := n) (d := 2) (by omega) (by decide) (by decide)
  rw [show (2 : Int32) = nI 2 from rfl, this, nI_1]
theorem c_most {n : Nat} (h1 : 1 ≤ n) (h15 : n ≤ 15) (e : Int32) : ∃ sc, f_X9_mostRight (nI n) e σ = some (cpv e n, sc) ∧ SmC σ sc := by
  unfold f_X9_mostRight
  simp only [zb]
  have h0 : ∀ p, p < 16 → (zwI (zflI σ 44 0 16 0) 44 0 0 1000000).1 44 0 p = chc e 0 p := fun p hp => by
    show (if 44 = 44 ∧ 0 = 0 ∧ p = 0 then (1000000 : Int32) else if 44 = 44 ∧ 0 = 0 ∧ p < 16 then 0 else σ.1 44 0 p) = if p = 0 then 1000000 else 0
    by_cases q : p = 0 <;> simp [q, hp]
  obtain ⟨s, f1, hs, hv⟩ := zlp_run (f := fun q : Int32 × zG => b_X9_mostRight_18 (nI n) e q.1 q.2) n (fun i q => q.1 = nI (i + 1) ∧ SmC σ q.2 ∧ ∀ p, p < 16 → q.2.1 44 0 p = chc e i p) (fun s => SmC σ s ∧ ∀ p, p < 16 → s.1 44 0 p = chc e n p) (a := ((1 : Int32), zwI (zflI σ 44 0 16 0) 44 0 0 1000000)) ⟨rfl, (smC_fl rfl).trans (smC_w rfl), h0⟩ (by
    rintro i hi ⟨_, s⟩ ⟨rfl, hs, hv⟩
    right
    have hv' : ∀ p, p < 16 → s.1 44 0 p = chc e i p := hv
    obtain ⟨t, f2, ht, hw⟩ := zlp_run (f := fun q : Int32 × zG => b_X9_mostRight_32 e q.1 q.2) (i + 1) (fun d q => q.1 = nI (i + 1 - d) ∧ SmC σ q.2 ∧ ∀ p, p < 16 → q.2.1 44 0 p = if i + 1 - d < p then chc e (i + 1) p else chc e i p) (fun t => SmC σ t ∧ ∀ p, p < 16 → t.1 44 0 p = if 0 < p then chc e (i + 1) p else chc e i p) (a := (nI (i + 1), s)) ⟨rfl, hs, fun p hp => by
        show s.1 44 0 p = _
        rw [hv' p hp]
        split
        · rw [chc_0 e i p (by omega), chc_0 e (i + 1) p (by omega)]
        · rfl⟩ (by
      rintro d hd ⟨_, t⟩ ⟨rfl, ht, hw⟩
      right
      have hw' : ∀ p, p < 16 → t.1 44 0 p = if i + 1 - d < p then chc e (i + 1) p else chc e i p := hw
      have p0 : (0 : Int32) < nI (i + 1 - d) := nI_lt (a := 0) (by omega) (by omega)
      unfold b_X9_mostRight_32 f_X11_part
      simp (disch := omega) only [p0, if_true, pm1, pm1', zin_nI, show i + 1 - d < 16 by omega, show i + 1 - d - 1 < 16 by omega, decide_true, zgT, nI_clamp, zb]
      refine ⟨_, rfl, by show nI (i + 1 - d - 1) = _; rw [Nat.sub_sub], ht.trans (smC_w rfl), fun p hp => ?_⟩
      show (if 44 = 44 ∧ 0 = 0 ∧ p = i + 1 - d then _ else t.1 44 0 p) = _
      by_cases q : p = i + 1 - d
      · rw [if_pos ⟨rfl, rfl, q⟩, hw' _ (by omega), hw' _ (by omega), if_neg (by omega), if_neg (by omega), if_pos (by omega), q]
        show _ = chc e i (i + 1 - d) * e / 1000 + (if i + 1 - d = 0 then 0 else chc e i (i + 1 - d - 1) * (1000 - e) / 1000)
        rw [if_neg (by omega)]
      · rw [if_neg (fun z => q z.2.2), hw' p hp]
        by_cases q2 : i + 1 - d < p
        · rw [if_pos q2, if_pos (by omega)]
        · rw [if_neg q2, if_neg (by omega)]) (by
      rintro ⟨_, t⟩ ⟨rfl, ht, hw⟩
      unfold b_X9_mostRight_32
      rw [Nat.sub_self]
      rw [if_neg (show ¬ (0 : Int32) < nI 0 by decide)]
      refine ⟨_, rfl, ht, fun p hp => ?_⟩
      have := hw p hp
      rw [Nat.sub_self] at this
      exact this)
    have l1 : nI (i + 1) ≤ nI n := nI_le (by omega) (by omega)
    have l2 : nI (i + 1) ≤ 15 := nI_le (b := 15) (by omega) (by decide)
    unfold b_X9_mostRight_18
    simp only [l1, l2, if_true, f2, Option.bind_some, zb]
    refine ⟨_, rfl, nI_1 _, ht.trans (smC_w rfl), fun p hp => ?_⟩
    show (if 44 = 44 ∧ 0 = 0 ∧ p = 0 then f_X11_part (t.1 44 0 0) e else t.1 44 0 p) = _
    by_cases q : p = 0
    · rw [if_pos ⟨rfl, rfl, q⟩, hw 0 (by decide), if_neg (by decide), q]
      show chc e i 0 * e / 1000 = chc e i 0 * e / 1000 + 0
      rw [Int32.add_zero]
    · rw [if_neg (fun z => q z.2.2), hw p hp, if_pos (by omega)]) (by
    rintro ⟨_, s⟩ ⟨rfl, hs, hv⟩
    have l1 : ¬ nI (n + 1) ≤ nI n := nI_ge (by omega) (by omega)
    unfold b_X9_mostRight_18
    simp only [l1, if_false]
    exact ⟨_, rfl, hs, hv⟩)
  rw [f1, Option.bind_some]
  unfold j_X9_mostRight_101
  rw [half_nI (by omega), zlp_for (a := ((0 : Int32), nI (n / 2 + 1))) (fun k => (chs e n k, nI (n / 2 + 1 + k))) (n - n / 2) (b := cpv e n) rfl ?_ ?_]
  · exact ⟨s, rfl, hs⟩
  · intro k hk
    have l1 : nI (n / 2 + 1 + k) ≤ nI n := nI_le (by omega) (by omega)
    have l2 : nI (n / 2 + 1 + k) ≤ 15 := nI_le (b := 15) (by omega) (by decide)
    unfold b_X9_mostRight_110
    simp (disch := omega) only [l1, l2, if_true, zin_nI, show n / 2 + 1 + k < 16 by omega, decide_true, zgT, nI_clamp, hv (n / 2 + 1 + k) (by omega), nI_1]
    rfl
  · have l1 : ¬ nI (n / 2 + 1 + (n - n / 2)) ≤ nI n := nI_ge (by omega) (by omega)
    unfold b_X9_mostRight_110
    simp only [l1, if_false]
    rfl
theorem m_most {n : Nat} (h1 : 1 ≤ n) (h15 : n ≤ 15) (hodd : n % 2 = 1) {e : Int32} (he : f_X12_isIn e 0 1000 = 1) : ∃ sm, f_X12_copies (nI n) e σ = some (cpv e n, sm) ∧ SmO σ sm := by
  have hin : f_X12_isIn (nI n) 1 15 = 1 := by
    rcases isIn_lit (nI n) 1 15 (by decide) (by decide) with ⟨j, -, -, -, r⟩ | ⟨q, -, -⟩
    · exact r
    · exact absurd rfl (q n h1 h15)
  have hrem : ¬ zrem (nI n) 2 = 0 := by
    have := zrem_nI (a := n) (d := 2) (by omega) (by decide) (by decide)
    rw [show (2 : Int32) = nI 2 from rfl, this, hodd]
    decide
  unfold f_X12_copies
  simp only [hin, hrem, he, show ¬ (1 : Int32) = 0 by decide, if_false]
  obtain ⟨s0, f0, hs0, hv0⟩ := zlp_run (f := fun q : Int32 × zG => b_X12_copies_31 (nI n) q.1 q.2) (n + 1) (fun i q => q.1 = nI i ∧ SmO σ q.2 ∧ ∀ p, p < i → q.2.1 13 0 p = chc e 0 p) (fun s => SmO σ s ∧ ∀ p, p < n + 1 → s.1 13 0 p = chc e 0 p) (a := ((0 : Int32), σ)) ⟨rfl, SmO.refl _, fun p hp => absurd hp (Nat.not_lt_zero p)⟩ (by
    rintro i hi ⟨_, s⟩ ⟨rfl, hs, hv⟩
    right
    have l1 : nI i ≤ nI n := nI_le (by omega) (by omega)
    have e0 : (nI i = 0) = (i = 0) := nI_eqI (b := 0) (by omega) (by decide)
    unfold b_X12_copies_31
    simp (disch := omega) only [l1, if_true, e0, zin_nI, show i < 17 by omega, decide_true, zgT, nI_clamp, zb]
    have key : ∀ x, x = chc e 0 i → SmO σ (zwI s 13 0 i x) ∧ ∀ p, p < i + 1 → (zwI s 13 0 i x).1 13 0 p = chc e 0 p := fun x hx => ⟨hs.trans (smO_w rfl (by decide)), fun p hp => by
      show (if 13 = 13 ∧ 0 = 0 ∧ p = i then x else s.1 13 0 p) = _
      by_cases q : p = i
      · rw [if_pos ⟨rfl, rfl, q⟩, hx, q]
      · rw [if_neg (fun z => q z.2.2)]
        exact hv p (by omega)⟩
    by_cases q : i = 0
    · rw [if_pos q]
      obtain ⟨k1, k2⟩ := key 1000000 (by rw [q]; rfl)
      exact ⟨_, rfl, nI_1 i, k1, k2⟩
    · rw [if_neg q]
      obtain ⟨k1, k2⟩ := key 0 (by rw [chc, if_neg q])
      exact ⟨_, rfl, nI_1 i, k1, k2⟩) (by
    rintro ⟨_, s⟩ ⟨rfl, hs, hv⟩
    have l1 : ¬ nI (n + 1) ≤ nI n := nI_ge (by omega) (by omega)
    unfold b_X12_copies_31
    simp only [l1, if_false]
    exact ⟨_, rfl, hs, hv⟩)
  rw [f0, Option.bind_some]
  obtain ⟨s, f1, hs, hv⟩ := zlp_run (f := fun q : Int32 × zG => b_X12_copies_61 (nI n) e q.1 q.2) n (fun i q => q.1 = nI i ∧ SmO σ q.2 ∧ ∀ p, p < n + 1 → q.2.1 13 0 p = chc e i p) (fun s => SmO σ s ∧ ∀ p, p < n + 1 → s.1 13 0 p = chc e n p) (a := ((0 : Int32), s0)) ⟨rfl, hs0, hv0⟩ (by
    rintro i hi ⟨_, s⟩ ⟨rfl, hs, hv⟩
    right
    have hv' : ∀ p, p < n + 1 → s.1 13 0 p = chc e i p := hv
    obtain ⟨t, f2, ht, hw⟩ := zlp_run (f := fun q : Int32 × zG => b_X12_copies_69 e q.1 q.2) (n + 1) (fun d q => ((d ≤ n ∧ q.1 = nI (n - d)) ∨ (d = n + 1 ∧ q.1 = -1)) ∧ SmO σ q.2 ∧ ∀ p, p < n + 1 → q.2.1 13 0 p = if n < p + d then chc e (i + 1) p else chc e i p) (fun t => SmO σ t ∧ ∀ p, p < n + 1 → t.1 13 0 p = chc e (i + 1) p) (a := (nI n, s)) ⟨Or.inl ⟨Nat.zero_le _, rfl⟩, hs, fun p hp => by
        show s.1 13 0 p = _
        rw [hv' p hp, if_neg (by omega)]⟩ (by
      rintro d hd ⟨x, t⟩ ⟨hx, ht, hw⟩
      right
      have hx' : x = nI (n - d) := by
        rcases hx with ⟨-, q⟩ | ⟨q, -⟩
        · exact q
        · omega
      subst hx'
      have hw' : ∀ p, p < n + 1 → t.1 13 0 p = if n < p + d then chc e (i + 1) p else chc e i p := hw
      have p0 : (0 : Int32) ≤ nI (n - d) := nI_pos' (by omega)
      have e0 : (nI (n - d) = 0) = (n - d = 0) := nI_eqI (b := 0) (by omega) (by decide)
      have key : ∀ x, x = chc e (i + 1) (n - d) → SmO σ (zwI t 13 0 (n - d) x) ∧ ∀ p, p < n + 1 → (zwI t 13 0 (n - d) x).1 13 0 p = if n < p + (d + 1) then chc e (i + 1) p else chc e i p := fun x hx => ⟨ht.trans (smO_w rfl (by decide)), fun p hp => by
        show (if 13 = 13 ∧ 0 = 0 ∧ p = n - d then x else t.1 13 0 p) = _
        by_cases q : p = n - d
        · rw [if_pos ⟨rfl, rfl, q⟩, hx, if_pos (by omega), q]
        · rw [if_neg (fun z => q z.2.2), hw' p hp]
          by_cases q2 : n < p + d
          · rw [if_pos q2, if_pos (by omega)]
          · rw [if_neg q2, if_neg (by omega)]⟩
      unfold b_X12_copies_69
      simp (disch := omega) only [p0, if_true, e0, zin_nI, show n - d < 17 by omega, decide_true, zgT, nI_clamp, zb, hw' (n - d) (by omega), show ¬ n < n - d + d by omega, if_false]
      by_cases q : n - d = 0
      · rw [if_pos q]
        obtain ⟨k1, k2⟩ := key _ (show chc e i (n - d) * e / 1000 + 0 = chc e (i + 1) (n - d) by rw [chc, if_pos q])
        refine ⟨_, rfl, Or.inr ⟨by omega, ?_⟩, k1, k2⟩
        show nI (n - d) + (-1) = -1
        rw [q]
        decide
      · rw [if_neg q]
        have m1 : nI (n - d) - 1 = nI (n - d - 1) := pm1' (by omega)
        have hh := hw' (n - d - 1) (by omega)
        rw [if_neg (by omega)] at hh
        simp (disch := omega) only [m1, zin_nI, show n - d - 1 < 17 by omega, decide_true, zgT, nI_clamp, hh]
        obtain ⟨k1, k2⟩ := key _ (show chc e i (n - d) * e / 1000 + chc e i (n - d - 1) * (1000 - e) / 1000 = chc e (i + 1) (n - d) by rw [chc, if_neg q])
        refine ⟨_, rfl, Or.inl ⟨by omega, ?_⟩, k1, k2⟩
        show nI (n - d) + (-1) = nI (n - (d + 1))
        rw [pm1 (by omega), Nat.sub_sub]) (by
      rintro ⟨x, t⟩ ⟨hx, ht, hw⟩
      have hx' : x = -1 := by
        rcases hx with ⟨q, -⟩ | ⟨-, q⟩
        · omega
        · exact q
      subst hx'
      unfold b_X12_copies_69
      rw [if_neg (show ¬ (0 : Int32) ≤ -1 by decide)]
      refine ⟨_, rfl, ht, fun p hp => ?_⟩
      have := hw p hp
      rw [if_pos (by omega)] at this
      exact this)
    have l1 : nI i < nI n := nI_lt hi (by omega)
    unfold b_X12_copies_61
    simp only [l1, if_true, f2, Option.bind_some]
    exact ⟨_, rfl, nI_1 i, ht, hw⟩) (by
    rintro ⟨_, s⟩ ⟨rfl, hs, hv⟩
    have l1 : ¬ nI n < nI n := nI_nlt (Nat.le_refl _) (by omega)
    unfold b_X12_copies_61
    simp only [l1, if_false]
    exact ⟨_, rfl, hs, hv⟩)
  rw [f1, Option.bind_some, half_nI (by omega), zlp_for (a := ((0 : Int32), nI (n / 2 + 1))) (fun k => (chs e n k, nI (n / 2 + 1 + k))) (n - n / 2) (b := cpv e n) rfl ?_ ?_]
  · exact ⟨s, rfl, hs⟩
  · intro k hk
    have l1 : nI (n / 2 + 1 + k) ≤ nI n := nI_le (by omega) (by omega)
    unfold b_X12_copies_144
    simp (disch := omega) only [l1, if_true, zin_nI, show n / 2 + 1 + k < 17 by omega, decide_true, zgT, nI_clamp, hv (n / 2 + 1 + k) (by omega), nI_1]
    rfl
  · have l1 : ¬ nI (n / 2 + 1 + (n - n / 2)) ≤ nI n := nI_ge (by omega) (by omega)
    unfold b_X12_copies_144
    simp only [l1, if_false]
    rfl
theorem pr_copies [Inhabited BFT] : PR_copies Rel := fun x y σc σm h => by
  by_cases hx : (1 : Int32) ≤ x ∧ x ≤ 15
  · obtain ⟨n, hn, rfl⟩ := nI_of2 (M := 15) (n := 15) rfl (i_nlt.mpr (by
        have h1 := hx.1
        rw [fa_le] at h1 ⊢
        have e1 : (1 : Int32).toInt = 1 := rfl
        have e0 : (0 : Int32).toInt = 0 := rfl
        omega)) hx.2
    have h1 : 1 ≤ n := by
      have h1 := hx.1
      rw [fa_le, nI_toInt (by omega)] at h1
      have e1 : (1 : Int32).toInt = 1 := rfl
      omega
    by_cases hodd : n % 2 = 1
    · by_cases hy : (0 : Int32) ≤ y ∧ y ≤ 1000
      · have he : f_X12_isIn y 0 1000 = 1 := by rw [isIn_zt, decide_eq_true hy]; rfl
        obtain ⟨sc, e1, s1⟩ := c_most (σ := σc) h1 hn y
        obtain ⟨sm, e2, s2⟩ := m_most (σ := σm) h1 hn hodd he
        have hrem : ¬ zrem (nI n) 2 = 0 := by
          have := zrem_nI (a := n) (d := 2) (by omega) (by decide) (by decide)
          rw [show (2 : Int32) = nI 2 from rfl, this, hodd]
          decide
        refine ⟨_, sc, sm, ?_, e2, rel_same s1 s2.m h⟩
        unfold f_X11_copies
        simp only [hx.1, hx.2, hy.1, i_nlt.mpr hy.2, hrem, if_true, if_false, e1, Option.bind_some]
      · have he : f_X12_isIn y 0 1000 = 0 := by rw [isIn_zt, decide_eq_false hy]; rfl
        refine ⟨-1, σc, σm, ?_, ?_, h⟩
        · unfold f_X11_copies
          by_cases a : (0 : Int32) ≤ y
          · have : (1000 : Int32) < y := i_nle.mp fun q => hy ⟨a, q⟩
            simp only [a, this, if_true, ite_self]
          · simp only [a, if_false, ite_self]
        · unfold f_X12_copies
          simp only [he, if_true, ite_self]
    · have hrem : zrem (nI n) 2 = 0 := by
        have := zrem_nI (a := n) (d := 2) (by omega) (by decide) (by decide)
        rw [show (2 : Int32) = nI 2 from rfl, this, show n % 2 = 0 by omega]
        rfl
      refine ⟨-1, σc, σm, ?_, ?_, h⟩
      · unfold f_X11_copies
        simp only [hrem, if_true, ite_self]
      · unfold f_X12_copies
        simp only [hrem, if_true, ite_self]
  · have hin : f_X12_isIn x 1 15 = 0 := by rw [isIn_zt, decide_eq_false hx]; rfl
    refine ⟨-1, σc, σm, ?_, ?_, h⟩
    · unfold f_X11_copies
      by_cases a : (1 : Int32) ≤ x
      · have : ¬ x ≤ 15 := fun q => hx ⟨a, q⟩
        simp only [a, this, if_true, if_false]
      · simp only [a, if_false]
    · unfold f_X12_copies
      simp only [hin, if_true]
theorem pr_enough [Inhabited BFT] : PR_enough Rel := fun x y σc σm h => by
  unfold f_X11_enough f_X12_enough
  by_cases hx : (0 : Int32) ≤ x ∧ x ≤ 1000
  · have he : f_X12_isIn x 0 1000 = 1 := by rw [isIn_zt, decide_eq_true hx]; rfl
    by_cases hy : (0 : Int32) ≤ y ∧ y ≤ 1000000
    · have hy' : f_X12_isIn y 0 1000000 = 1 := by rw [isIn_zt, decide_eq_true hy]; rfl
      obtain ⟨b, b', f1, f2, hq⟩ := zlp_two (f := fun q : Int32 × zG => b_X11_enough_26 x y q.1 q.2) (f' := fun q : Int32 × zG => b_X12_enough_26 x y q.1 q.2) 8
        (fun k q q' => (q.1 = nI (2 * k + 1) ∧ q'.1 = nI (2 * k + 1)) ∧ SmC σc q.2 ∧ SmO σm q'.2)
        (fun b b' => (∃ r sc sm, b = Sum.inl (r, sc) ∧ b' = Sum.inl (r, sm) ∧ SmC σc sc ∧ SmO σm sm) ∨ (∃ sc sm, b = Sum.inr sc ∧ b' = Sum.inr sm ∧ SmC σc sc ∧ SmO σm sm))
        (a := ((1 : Int32), σc)) (a' := ((1 : Int32), σm)) ⟨⟨rfl, rfl⟩, SmC.refl _, SmO.refl _⟩ (by
          rintro k hk ⟨_, s⟩ ⟨_, s'⟩ ⟨⟨rfl, rfl⟩, hs, hs'⟩
          obtain ⟨sc, e1, s1⟩ := c_most (σ := s) (n := 2 * k + 1) (by omega) (by omega) x
          obtain ⟨sm, e2, s2⟩ := m_most (σ := s') (n := 2 * k + 1) (by omega) (by omega) (by omega) he
          have l1 : nI (2 * k + 1) ≤ 15 := nI_le (b := 15) (by omega) (by decide)
          have st : nI (2 * k + 1) + 2 = nI (2 * (k + 1) + 1) := by
            rw [show (2 : Int32) = nI 2 from rfl, nI_add]
            congr 1
          unfold b_X11_enough_26 b_X12_enough_26
          simp only [l1, if_true, e1, e2, Option.bind_some]
          by_cases q : y ≤ cpv x (2 * k + 1)
          · left
            rw [if_pos q, if_pos q]
            exact ⟨_, _, rfl, rfl, Or.inl ⟨_, _, _, rfl, rfl, hs.trans s1, hs'.trans s2⟩⟩
          · right
            rw [if_neg q, if_neg q]
            exact ⟨_, _, rfl, rfl, ⟨st, st⟩, hs.trans s1, hs'.trans s2⟩) (by
          rintro ⟨_, s⟩ ⟨_, s'⟩ ⟨⟨rfl, rfl⟩, hs, hs'⟩
          have l1 : ¬ nI (2 * 8 + 1) ≤ 15 := by decide
          unfold b_X11_enough_26 b_X12_enough_26
          simp only [l1, if_false]
          exact ⟨_, _, rfl, rfl, Or.inr ⟨_, _, rfl, rfl, hs, hs'⟩⟩)
      rw [f1, f2]
      simp only [hx.1, hx.2, hy.1, i_nlt.mpr hy.2, he, hy', if_true, if_false, show ¬ (1 : Int32) = 0 by decide, Option.bind_some]
      rcases hq with ⟨r, sc, sm, rfl, rfl, h1, h2⟩ | ⟨sc, sm, rfl, rfl, h1, h2⟩
      · exact ⟨_, _, _, rfl, rfl, rel_same h1 h2.m h⟩
      · exact ⟨_, _, _, rfl, rfl, rel_same h1 h2.m h⟩
    · have hy' : f_X12_isIn y 0 1000000 = 0 := by rw [isIn_zt, decide_eq_false hy]; rfl
      refine ⟨-1, σc, σm, ?_, ?_, h⟩
      · by_cases a : (0 : Int32) ≤ y
        · have : (1000000 : Int32) < y := i_nle.mp fun q => hy ⟨a, q⟩
          simp only [a, this, if_true, ite_self]
        · simp only [a, if_false, ite_self]
      · simp only [hy', if_true, ite_self]
  · have he : f_X12_isIn x 0 1000 = 0 := by rw [isIn_zt, decide_eq_false hx]; rfl
    refine ⟨-1, σc, σm, ?_, ?_, h⟩
    · by_cases a : (0 : Int32) ≤ x
      · have : ¬ x ≤ 1000 := fun q => hx ⟨a, q⟩
        simp only [a, this, if_true, if_false]
      · simp only [a, if_false]
    · simp only [he, if_true]
end PURE
