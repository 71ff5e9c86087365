/-! PURE LAYER: feed, set, paste -/
def Sm2 (a b : Nat) (σ σ' : zG) : Prop := (∀ f, f ≠ a → f ≠ b → σ'.1 f = σ.1 f) ∧ σ'.2 = σ.2
theorem Sm2.refl (a b : Nat) (σ : zG) : Sm2 a b σ σ := ⟨fun _ _ _ => rfl, rfl⟩
theorem Sm2.trans {a b : Nat} {x y z : zG} (h : Sm2 a b x y) (h2 : Sm2 a b y z) : Sm2 a b x z := ⟨fun f h1 h3 => (h2.1 f h1 h3).trans (h.1 f h1 h3), h2.2.trans h.2⟩
theorem sm2_a {a b : Nat} {σ : zG} {i k : Nat} {x : Int32} : Sm2 a b σ (zwI σ a i k x) := ⟨fun _ h1 _ => zf_ne h1, rfl⟩
theorem sm2_b {a b : Nat} {σ : zG} {i k : Nat} {x : Int32} : Sm2 a b σ (zwI σ b i k x) := ⟨fun _ _ h1 => zf_ne h1, rfl⟩
theorem sm2_req {a b : Nat} {p : Nat → Nat → Bool} {σ σ' : zG} (h : Sm2 a b σ σ') (ha : ∀ i, p a i = false) (hb : ∀ i, p b i = false) : REq p σ σ' := fun f i hp => ⟨by rw [h.1 f (fun e => by rw [e, ha] at hp; cases hp) (fun e => by rw [e, hb] at hp; cases hp)], by rw [h.2]⟩
/-- bytes -/
theorem byt (x : Int32) {s : Nat} (hs : s ≤ 24) : zi2c (zi2c (zushr x (nI s) &&& 255)) = zshr x (nI s) &&& 255 ∧ ∃ j, j < 256 ∧ zshr x (nI s) &&& 255 = nI j := by
  have e : zushr x (nI s) &&& 255 = zshr x (nI s) &&& 255 := b_ext fun i hi => by
    rw [b_and, b_and, b_255]
    by_cases q : i < 8
    · have h1 : bt (zushr x (nI s)) i = bt x (s + i) := b_ushr s (by omega) x i
      have h2 := b_sshr s (by omega) x hi
      rw [if_pos (by omega)] at h2
      have h2' : bt (zshr x (nI s)) i = bt x (s + i) := h2
      rw [h1, h2']
    · rw [decide_eq_false q, Bool.and_false, Bool.and_false]
  obtain ⟨j, hj, ej⟩ := pk_andE (zshr x (nI s)) (m := 255) 8 rfl
  have hj' : j < 256 := hj
  have c : ∀ j, j < 256 → zi2c (nI j) = nI j := fun j hj => by
    unfold zi2c
    rw [pk_char, pk_tn (by omega), Nat.mod_eq_of_lt (by omega)]
  rw [e, ej, c j hj', c j hj']
  exact ⟨rfl, j, hj', rfl⟩
section PURE
variable {σ σ' σc σm σc' σm' : zG} {g g' : zGa}
/-- only the tape has changed -/
theorem tape_rel [Inhabited BFT] (h : Rel σc σm) (hc : Sm2 3 38 σc σc') (hm : ∀ f, f ≠ 0 → f ≠ 8 → σm'.1 f = σm.1 f) (hk : ∀ k, k ≠ 16 → σm'.1 0 0 k = σm.1 0 0 k) (ht : RTp σc' σm') : Rel σc' σm' := by
  obtain ⟨h1, h2, h3, -, h5, h6⟩ := h
  have em : σm'.1 1 = σm.1 1 := hm 1 (by decide) (by decide)
  have r0 : ∀ p : Nat → Nat → Bool, (∀ i, p 3 i = false) → (∀ i, p 38 i = false) → REq p σc σc' := fun p ha hb => sm2_req hc ha hb
  refine ⟨?_, by rw [em]; exact h2, ?_, ht, ?_, ?_⟩
  · rw [em]
    refine rb_top h1 (r0 _ (fun _ => rfl) (fun _ => rfl)) (fun _ _ => rfl) (Nat.le_refl _) (tp_Sh (iv_Top h2)).2 ?_ ?_
    · unfold RSc; rw [hc.1 1 (by decide) (by decide)]; exact h1.1
    · unfold RSt
      rw [hc.1 7 (by decide) (by decide), hc.1 12 (by decide) (by decide), hc.1 13 (by decide) (by decide), hc.1 14 (by decide) (by decide)]
      exact h1.2.1
  · exact kp_same h3 (r0 _ (fun _ => rfl) (fun _ => rfl)) (hk 3 (by decide)) (hm 3 (by decide) (by decide)) (fun k _ => by rw [em]) (by rw [em]; exact Nat.le_refl _)
  · unfold RFa at h5 ⊢
    rw [hc.1 4 (by decide) (by decide), hk 23 (by decide), hk 25 (by decide)]
    exact h5
  · exact im_ok h6 (r0 _ (fun _ => rfl) (fun _ => rfl)) (by rw [hc.1 0 (by decide) (by decide)]) (hm 2 (by decide) (by decide)) (hk 4 (by decide))
theorem c_append (x : Int32) {n : Nat} (h : σ.1 3 0 1 = nI n) (hn : n + 4 ≤ 400) : ∃ s, f_X8_append x σ = some s ∧ Sm2 3 38 σ s ∧ s.1 3 0 1 = nI (n + 4) ∧ (∀ k, k < n → s.1 38 0 k = σ.1 38 0 k) ∧ ∀ d, d < 4 → s.1 38 0 (n + d) = zshr x (nI (24 - 8 * d)) &&& 255 := by
  unfold f_X8_append
  obtain ⟨s, e, h1, h2, h3, h4⟩ := zlp_run (f := fun q : Int32 × zG => b_X8_append_3 x q.1 q.2) 4 (fun d q => ((d < 4 ∧ q.1 = nI (24 - 8 * d)) ∨ (d = 4 ∧ q.1 = -8)) ∧ Sm2 3 38 σ q.2 ∧ q.2.1 3 0 1 = nI (n + d) ∧ (∀ k, k < n → q.2.1 38 0 k = σ.1 38 0 k) ∧ ∀ d', d' < d → q.2.1 38 0 (n + d') = zshr x (nI (24 - 8 * d')) &&& 255) (fun s => Sm2 3 38 σ s ∧ s.1 3 0 1 = nI (n + 4) ∧ (∀ k, k < n → s.1 38 0 k = σ.1 38 0 k) ∧ ∀ d, d < 4 → s.1 38 0 (n + d) = zshr x (nI (24 - 8 * d)) &&& 255) (a := ((24 : Int32), σ)) ⟨Or.inl ⟨by decide, rfl⟩, Sm2.refl _ _ _, h, fun _ _ => rfl, fun d hd => absurd hd (Nat.not_lt_zero d)⟩ (by
    rintro d hd ⟨v, s⟩ ⟨hv, hS, h1, h2, h3⟩
    right
    have hv' : v = nI (24 - 8 * d) := by
      rcases hv with ⟨-, q⟩ | ⟨q, -⟩
      · exact q
      · omega
    subst hv'
    have h1' : s.1 3 0 1 = nI (n + d) := h1
    have p0 : (0 : Int32) ≤ nI (24 - 8 * d) := nI_pos' (by omega)
    have l4 : nI (n + d) < 400 := nI_lt (b := 400) (by omega) (by decide)
    unfold b_X8_append_3
    rw [h1']
    simp (disch := omega) only [p0, l4, if_true, zin_nI, show n + d < 400 by omega, decide_true, zgT, nI_clamp, zb, (byt x (show 24 - 8 * d ≤ 24 by omega)).1]
    generalize hs3 : zwI s 38 0 (n + d) (zshr x (nI (24 - 8 * d)) &&& 255) = s3
    have e3 : s3.1 3 0 1 = nI (n + d) := by rw [← hs3, zf_ne (by decide)]; exact h1'
    rw [e3, nI_1]
    refine ⟨_, rfl, ?_, ?_, ?_, ?_, ?_⟩
    · by_cases q : d = 3
      · right
        subst q
        exact ⟨rfl, show nI (24 - 8 * 3) + (-8) = -8 by decide⟩
      · left
        refine ⟨by omega, ?_⟩
        show nI (24 - 8 * d) + (-8) = nI (24 - 8 * (d + 1))
        have hd4 : d = 0 ∨ d = 1 ∨ d = 2 := by omega
        rcases hd4 with rfl | rfl | rfl <;> decide
    · rw [← hs3]; exact (hS.trans sm2_b).trans sm2_a
    · show (zwI s3 3 0 1 (nI (n + d + 1))).1 3 0 1 = _
      rw [zw_at, if_pos ⟨rfl, rfl, rfl⟩]
      rfl
    · intro k hk
      show (zwI s3 3 0 1 (nI (n + d + 1))).1 38 0 k = _
      rw [zf_ne (by decide), ← hs3, zw_at, if_neg (fun z => by omega)]
      exact h2 k hk
    · intro d' hd'
      show (zwI s3 3 0 1 (nI (n + d + 1))).1 38 0 (n + d') = _
      rw [zf_ne (by decide), ← hs3, zw_at]
      by_cases q : d' = d
      · rw [if_pos ⟨rfl, rfl, by omega⟩, q]
      · rw [if_neg (fun z => by omega)]
        exact h3 d' (by omega)) (by
    rintro ⟨v, s⟩ ⟨hv, hS, h1, h2, h3⟩
    have hv' : v = -8 := by
      rcases hv with ⟨q, -⟩ | ⟨-, q⟩
      · omega
      · exact q
    subst hv'
    unfold b_X8_append_3
    rw [if_neg (show ¬ (0 : Int32) ≤ -8 by decide)]
    exact ⟨_, rfl, hS, h1, h2, h3⟩)
  rw [e]
  exact ⟨s, rfl, h1, h2, h3, h4⟩
def fda (a b c d e : Int32) (k : Nat) : Int32 := if k < 4 then a else if k < 8 then b else if k < 12 then c else if k < 16 then d else e
def fdb (a b c d e : Int32) (k : Nat) : Int32 := zshr (fda a b c d e k) (nI (24 - 8 * (k % 4))) &&& 255
theorem pr_feed [Inhabited BFT] : PR_feed Rel := fun x1 x2 x3 x4 x5 σc σm h => by
  obtain ⟨n, hn, t1, t2, t3⟩ := h.2.2.2.1
  unfold f_X11_feed f_X12_feed
  rw [t1, t2]
  have ea : nI n + 20 = nI (n + 20) := nI_add n 20
  rw [ea]
  by_cases hle : n ≤ 380
  · have l1 : ¬ (380 : Int32) < nI n := nI_nlt (a := 380) (by omega) (by decide)
    have l2 : ¬ (400 : Int32) < nI (n + 20) := nI_nlt (a := 400) (by omega) (by decide)
    rw [if_neg l1, if_neg l2]
    obtain ⟨s1, a1, b1, c1, d1, f1⟩ := c_append (σ := σc) x1 t1 (by omega)
    obtain ⟨s2, a2, b2, c2, d2, f2⟩ := c_append (σ := s1) x2 c1 (by omega)
    obtain ⟨s3, a3, b3, c3, d3, f3⟩ := c_append (σ := s2) x3 c2 (by omega)
    obtain ⟨s4, a4, b4, c4, d4, f4⟩ := c_append (σ := s3) x4 c3 (by omega)
    obtain ⟨s5, a5, b5, c5, d5, f5⟩ := c_append (σ := s4) x5 c4 (by omega)
    simp only [a1, a2, a3, a4, a5, Option.bind_some]
    have old : ∀ k, k < n → s5.1 38 0 k = σc.1 38 0 k := fun k hk => by
      rw [d5 k (by omega), d4 k (by omega), d3 k (by omega), d2 k (by omega), d1 k hk]
    have new : ∀ k, k < 20 → s5.1 38 0 (n + k) = fdb x1 x2 x3 x4 x5 k := fun k hk => by
      unfold fdb fda
      by_cases q1 : k < 4
      · have := f1 k q1
        rw [if_pos q1, d5 _ (by omega), d4 _ (by omega), d3 _ (by omega), d2 _ (by omega), this, Nat.mod_eq_of_lt q1]
      by_cases q2 : k < 8
      · have := f2 (k - 4) (by omega)
        rw [show n + 4 + (k - 4) = n + k by omega] at this
        rw [if_neg q1, if_pos q2, d5 _ (by omega), d4 _ (by omega), d3 _ (by omega), this, show k % 4 = k - 4 by omega]
      by_cases q3 : k < 12
      · have := f3 (k - 8) (by omega)
        rw [show n + 4 + 4 + (k - 8) = n + k by omega] at this
        rw [if_neg q1, if_neg q2, if_pos q3, d5 _ (by omega), d4 _ (by omega), this, show k % 4 = k - 8 by omega]
      by_cases q4 : k < 16
      · have := f4 (k - 12) (by omega)
        rw [show n + 4 + 4 + 4 + (k - 12) = n + k by omega] at this
        rw [if_neg q1, if_neg q2, if_neg q3, if_pos q4, d5 _ (by omega), this, show k % 4 = k - 12 by omega]
      · have := f5 (k - 16) (by omega)
        rw [show n + 4 + 4 + 4 + 4 + (k - 16) = n + k by omega] at this
        rw [if_neg q1, if_neg q2, if_neg q3, if_neg q4, this, show k % 4 = k - 16 by omega]
    obtain ⟨sm, e, m1, m2, m3, m4, m5⟩ := zlp_run (f := fun q : Int32 × zG => b_X12_feed_18 x1 x2 x3 x4 x5 q.1 q.2) 20 (fun k q => q.1 = nI k ∧ (∀ f, f ≠ 0 → f ≠ 8 → q.2.1 f = σm.1 f) ∧ (∀ j, j ≠ 16 → q.2.1 0 0 j = σm.1 0 0 j) ∧ q.2.1 0 0 16 = nI (n + k) ∧ (∀ j, j < n → q.2.1 8 0 j = σm.1 8 0 j) ∧ ∀ d, d < k → q.2.1 8 0 (n + d) = fdb x1 x2 x3 x4 x5 d) (fun s => (∀ f, f ≠ 0 → f ≠ 8 → s.1 f = σm.1 f) ∧ (∀ j, j ≠ 16 → s.1 0 0 j = σm.1 0 0 j) ∧ s.1 0 0 16 = nI (n + 20) ∧ (∀ j, j < n → s.1 8 0 j = σm.1 8 0 j) ∧ ∀ d, d < 20 → s.1 8 0 (n + d) = fdb x1 x2 x3 x4 x5 d) (a := ((0 : Int32), σm)) ⟨rfl, fun _ _ _ => rfl, fun _ _ => rfl, t2, fun _ _ => rfl, fun d hd => absurd hd (Nat.not_lt_zero d)⟩ (by
      rintro k hk ⟨_, s⟩ ⟨rfl, m1, m2, m3, m4, m5⟩
      right
      have m3' : s.1 0 0 16 = nI (n + k) := m3
      have l20 : nI k < 20 := nI_lt (b := 20) hk (by decide)
      have key : ∀ v, v = fda x1 x2 x3 x4 x5 k → ∃ q', j_X12_feed_71_18 (nI k) v s = some (Sum.inl q') ∧ q'.1 = nI (k + 1) ∧ (∀ f, f ≠ 0 → f ≠ 8 → q'.2.1 f = σm.1 f) ∧ (∀ j, j ≠ 16 → q'.2.1 0 0 j = σm.1 0 0 j) ∧ q'.2.1 0 0 16 = nI (n + (k + 1)) ∧ (∀ j, j < n → q'.2.1 8 0 j = σm.1 8 0 j) ∧ ∀ d, d < k + 1 → q'.2.1 8 0 (n + d) = fdb x1 x2 x3 x4 x5 d := fun v hv => by
        have er : (24 : Int32) - 8 * zrem (nI k) 4 = nI (24 - 8 * (k % 4)) := by
          have := zrem_nI (a := k) (d := 4) (by omega) (by decide) (by decide)
          rw [show (4 : Int32) = nI 4 from rfl, this, show (8 : Int32) = nI 8 from rfl, pk_mul, show (24 : Int32) = nI 24 from rfl, pk_sub (by omega)]
        unfold j_X12_feed_71_18
        rw [m3', er]
        simp (disch := omega) only [zin_nI, show n + k < 400 by omega, decide_true, zgT, nI_clamp, zb]
        have ev : zshr v (nI (24 - 8 * (k % 4))) &&& 255 = fdb x1 x2 x3 x4 x5 k := by unfold fdb; rw [hv]
        rw [ev]
        generalize hs6 : zwI s 8 0 (n + k) (fdb x1 x2 x3 x4 x5 k) = s6
        have e6 : s6.1 0 0 16 = nI (n + k) := by rw [← hs6, zf_ne (by decide)]; exact m3'
        rw [e6, nI_1, nI_1]
        refine ⟨_, rfl, rfl, fun f h0 h8 => ?_, fun j hj => ?_, ?_, fun j hj => ?_, fun d hd => ?_⟩
        · show (zwI s6 0 0 16 _).1 f = _
          rw [zf_ne h0, ← hs6, zf_ne h8]
          exact m1 f h0 h8
        · show (zwI s6 0 0 16 _).1 0 0 j = _
          rw [zw_at, if_neg (fun z => hj z.2.2), ← hs6, zf_ne (by decide)]
          exact m2 j hj
        · show (zwI s6 0 0 16 _).1 0 0 16 = _
          rw [zw_at, if_pos ⟨rfl, rfl, rfl⟩]
          rfl
        · show (zwI s6 0 0 16 _).1 8 0 j = _
          rw [zf_ne (by decide), ← hs6, zw_at, if_neg (fun z => by omega)]
          exact m4 j hj
        · show (zwI s6 0 0 16 _).1 8 0 (n + d) = _
          rw [zf_ne (by decide), ← hs6, zw_at]
          by_cases q : d = k
          · rw [if_pos ⟨rfl, rfl, by omega⟩, q]
          · rw [if_neg (fun z => by omega)]
            exact m5 d (by omega)
      have l4 : (nI k < 4) = (k < 4) := nI_ltQ (b := 4) (by omega) (by decide)
      have l8 : (nI k < 8) = (k < 8) := nI_ltQ (b := 8) (by omega) (by decide)
      have l12 : (nI k < 12) = (k < 12) := nI_ltQ (b := 12) (by omega) (by decide)
      have l16 : (nI k < 16) = (k < 16) := nI_ltQ (b := 16) (by omega) (by decide)
      unfold b_X12_feed_18
      rw [if_pos l20]
      simp only [l4, l8, l12, l16]
      by_cases q1 : k < 4
      · rw [if_pos q1]; exact key _ (by unfold fda; rw [if_pos q1])
      rw [if_neg q1]
      by_cases q2 : k < 8
      · rw [if_pos q2]; exact key _ (by unfold fda; rw [if_neg q1, if_pos q2])
      rw [if_neg q2]
      by_cases q3 : k < 12
      · rw [if_pos q3]; exact key _ (by unfold fda; rw [if_neg q1, if_neg q2, if_pos q3])
      rw [if_neg q3]
      by_cases q4 : k < 16
      · rw [if_pos q4]; exact key _ (by unfold fda; rw [if_neg q1, if_neg q2, if_neg q3, if_pos q4])
      rw [if_neg q4]
      exact key _ (by unfold fda; rw [if_neg q1, if_neg q2, if_neg q3, if_neg q4])) (by
      rintro ⟨_, s⟩ ⟨rfl, m1, m2, m3, m4, m5⟩
      unfold b_X12_feed_18
      rw [if_neg (show ¬ (nI 20 : Int32) < 20 by decide)]
      exact ⟨_, rfl, m1, m2, m3, m4, m5⟩)
    rw [e, Option.bind_some, m3]
    have e5 : s5.1 3 0 1 = nI (n + 20) := c5
    rw [e5]
    refine ⟨_, _, _, rfl, rfl, tape_rel h ((((b1.trans b2).trans b3).trans b4).trans b5) m1 m2 ⟨n + 20, by omega, e5, m3, fun k hk => ?_⟩⟩
    by_cases q : k < n
    · rw [old k q, m4 k q]
      exact t3 k q
    · obtain ⟨d, rfl⟩ : ∃ d, k = n + d := ⟨k - n, by omega⟩
      rw [new d (by omega), m5 d (by omega)]
      obtain ⟨j, hj, ej⟩ := (byt (fda x1 x2 x3 x4 x5 d) (s := 24 - 8 * (d % 4)) (by omega)).2
      exact ⟨j, hj, ej, ej⟩
  · have l1 : (380 : Int32) < nI n := nI_lt (a := 380) (by omega) (by omega)
    have l2 : (400 : Int32) < nI (n + 20) := nI_lt (a := 400) (by omega) (by omega)
    rw [if_pos l1, if_pos l2]
    exact ⟨_, _, _, rfl, rfl, h⟩
/-- numbers of the bridge and its picture anew, walkers, laws and shots as they were -/
def rwp (f i : Nat) : Bool := rwt f i && !(f == 32)
theorem inv_gen (hI : Inv g) (h : ∀ k, 36 ≤ k → (k < 40 ∨ 104 ≤ k) → g' k = g k) (h30 : g' 30 = g 30) (h31 : g' 31 = g 31) (hWd : g' 32 = nI (aWide g') ∧ 1 ≤ aWide g' ∧ aWide g' ≤ aW g') (hC : g' 33 = nI (aCom g') ∧ aCom g' ≤ 1000) (hSt : g' 34 = nI (aStay g') ∧ 1 ≤ aStay g' ∧ aStay g' ≤ 60) (hG : g' 35 = nI (aGrey g') ∧ aGrey g' ≤ 99) (hT : Top g' g') (hS : aShN g' ≤ aShN g) : Inv g' := by
  have e2 : aW g' = aW g := congrArg Int32.toNatClampNeg h30
  have e3 : aH g' = aH g := congrArg Int32.toNatClampNeg h31
  have e4 : sp g' = sp g := by funext c; unfold sp; rw [e2, e3]
  have e8 : aWN g' = aWN g := congrArg Int32.toNatClampNeg (h 36 (by decide) (by decide))
  have e9 : pl g' = pl g := by funext k m; unfold pl; rw [h _ (by omega) (by omega)]
  have lw : ∀ k, k < 2 → LawI g' k = LawI g k := fun k hk => by
    have f0 : aLN g' k = aLN g k := congrArg Int32.toNatClampNeg (h (37 + k) (by omega) (by omega))
    have f1 : lop g' k = lop g k := by funext j; unfold lop; rw [h _ (by omega) (by omega)]
    have f2 : lov g' k = lov g k := by funext j; unfold lov; rw [h _ (by omega) (by omega)]
    have f3 : lFrom g' k = lFrom g k := by funext j; unfold lFrom; rw [h _ (by omega) (by omega)]
    have f4 : lMid g' k = lMid g k := by funext j; unfold lMid; rw [h _ (by omega) (by omega)]
    have f5 : lTo g' k = lTo g k := by funext j; unfold lTo; rw [h _ (by omega) (by omega)]
    unfold LawI
    rw [f0, f1, f2, f3, f4, f5]
    simp (disch := omega) only [h]
  obtain ⟨a1, a2, -, -, -, -, a7, a8, a9, -, b1, b2⟩ := hI
  unfold Inv
  rw [e2, e3, e4, e8, e9, lw 0 (by decide), lw 1 (by decide), h30, h31, h 36 (by decide) (by decide)]
  rw [e2] at hWd
  refine ⟨a1, a2, hWd, hC, hSt, hG, a7, fun k hk => ?_, a9, hT, fun i hi c hc => ?_, fun i hi c h1 h2 => ?_⟩
  · rw [h _ (by omega) (by omega)]
    exact a8 k hk
  · rw [h _ (by omega) (by omega), h _ (by omega) (by omega)]
    exact b1 i (by omega) c hc
  · rw [h _ (by omega) (by omega)]
    exact b2 i (by omega) c h1 h2
theorem rb_gen (h : RB σ 0 g) (hr : REq rwp σ σ') (hg : ∀ k, 36 ≤ k → (k < 40 ∨ 104 ≤ k) → g' k = g k) (hS : aShN g' ≤ aShN g) (h10 : aShN g ≤ 10) (h1 : RSc σ' 0 g') (h2 : RSt σ' (7 * 0) g') (h3 : ∀ c, c < 56 → σ'.1 32 0 c = g' (40 + c)) : RB σ' 0 g' := by
  obtain ⟨-, -, a1, a2, ⟨a3, a4⟩, a5, -⟩ := h
  have e8 : aWN g' = aWN g := congrArg Int32.toNatClampNeg (hg 36 (by decide) (by decide))
  have e9 : pl g' = pl g := by funext k m; unfold pl; rw [hg _ (by omega) (by omega)]
  have lw : ∀ q k, k < 2 → (q = 0 ∨ q = 1) → RLw σ q g k → RLw σ' q g' k := fun q k hk hq hl => by
    have e0 : aLN g' k = aLN g k := congrArg Int32.toNatClampNeg (hg (37 + k) (by omega) (by omega))
    have e1 : lop g' k = lop g k := by funext j; unfold lop; rw [hg _ (by omega) (by omega)]
    have e2 : lov g' k = lov g k := by funext j; unfold lov; rw [hg _ (by omega) (by omega)]
    have e3 : lFrom g' k = lFrom g k := by funext j; unfold lFrom; rw [hg _ (by omega) (by omega)]
    have e5 : lTo g' k = lTo g k := by funext j; unfold lTo; rw [hg _ (by omega) (by omega)]
    have rr : ∀ f, (f = 10 ∨ f = 23 ∨ f = 24 ∨ f = 25 ∨ f = 26) → rwp f q = true := fun f hf => by
      rcases hq with rfl | rfl <;> rcases hf with rfl | rfl | rfl | rfl | rfl <;> rfl
    unfold RLw at hl ⊢
    rw [(hr 10 q (rr 10 (by simp))).1, (hr 23 q (rr 23 (by simp))).1, (hr 24 q (rr 24 (by simp))).1, (hr 25 q (rr 25 (by simp))).1, (hr 26 q (rr 26 (by simp))).1, e0, e1, e2, e3, e5, hg (37 + k) (by omega) (by omega)]
    refine ⟨hl.1, fun i hi => ?_⟩
    rw [hg (7512 + 16 * k + i) (by omega) (by omega), hg (7544 + 16 * k + i) (by omega) (by omega), hg (7576 + 16 * k + i) (by omega) (by omega)]
    exact hl.2 i hi
  refine ⟨h1, h2, ?_, ?_, ⟨lw _ 0 (by decide) (Or.inl rfl) a3, lw _ 1 (by decide) (Or.inr rfl) a4⟩, fun i hi => ?_, h3⟩
  · unfold RWk at a1 ⊢
    rw [e8, (hr 8 (2 * 0) rfl).1, (hr 15 (2 * 0) rfl).1, (hr 16 (2 * 0) rfl).1, (hr 17 (2 * 0) rfl).1, hg 36 (by decide) (by decide)]
    refine ⟨a1.1, fun i hi => ?_⟩
    rw [hg (104 + 4 * i) (by omega) (by omega), hg (104 + 4 * i + 1) (by omega) (by omega), hg (104 + 4 * i + 2) (by omega) (by omega)]
    exact a1.2 i hi
  · unfold RPa at a2 ⊢
    rw [e8, e9, (hr 21 0 rfl).1, (hr 22 0 rfl).2]
    exact a2
  · have := a5 i (by omega)
    have rr : ∀ f, (f = 11 ∨ f = 29 ∨ f = 30) → rwp f (10 * 0 + i) = true := fun f hf => by
      rcases hf with rfl | rfl | rfl <;> simp [rwp, rwt, rws] <;> omega
    unfold RSh at this ⊢
    rw [(hr 11 _ (rr 11 (by simp))).1, (hr 11 _ (rr 11 (by simp))).2, (hr 29 _ (rr 29 (by simp))).1, (hr 30 _ (rr 30 (by simp))).1]
    simp (disch := omega) only [hg]
    exact this
end PURE
