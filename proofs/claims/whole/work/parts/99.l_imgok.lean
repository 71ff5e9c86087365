/-! PURE LAYER: image relates -/
def iT : Inhabited BFT := ⟨(true : Bool)⟩
def iF : Inhabited BFT := ⟨(false : Bool)⟩
theorem bfI_T : @bfI iT = 1 := rfl
theorem bfI_F : @bfI iF = 0 := rfl
def cX : List (Nat × Nat) := (1, 1) :: nB1
/-- all but the image -/
def Rel0 (σc σm : zG) : Prop := RB σc 0 (σm.1 1 0) ∧ Inv (σm.1 1 0) ∧ RKp σc σm ∧ RTp σc σm ∧ RFa σc σm
section PURE
variable {σ σ' s σc σm sm σ1 : zG} {g g' : zGa} {b p N : Nat}
theorem cx_sh : ∀ j, j < 10 → (11, 10 * 0 + j) ∉ cX ∧ (29, 10 * 0 + j) ∉ cX ∧ (30, 10 * 0 + j) ∉ cX := by decide
theorem cx_st : ∀ j, j < 6 → (7, 1 + j) ∉ cX ∧ (12, 1 + j) ∉ cX ∧ (13, 1 + j) ∉ cX ∧ (14, 1 + j) ∉ cX := by decide
theorem cb_data (hN : N ≤ 10) (hD : ∀ f i k, f ≠ 0 → (f, i) ∉ cX → zlyC.2.1 f k ≠ 2 → σ'.1 f i k = σ.1 f i k) (hL : ∀ f i k, (f, i) ∉ cX → σ'.2 f i k = σ.2 f i k) : CB σ' σ 0 0 N := by
  have t1 : ∀ k, k < 10 → zlyC.2.1 1 k ≠ 2 := by decide
  have z : ¬ (0 : Nat) = 2 := by decide
  refine ⟨fun k hk => hD 1 0 k (by decide) (by decide) (t1 k hk), ⟨hD 7 _ 0 (by decide) (by decide) (by decide), fun j hj => ⟨hD 12 _ j (by decide) (by decide) z, hD 13 _ j (by decide) (by decide) z, hD 14 _ j (by decide) (by decide) z⟩⟩, ⟨hD 8 _ 0 (by decide) (by decide) (by decide), fun j hj => ⟨hD 15 _ j (by decide) (by decide) z, hD 16 _ j (by decide) (by decide) z, hD 17 _ j (by decide) (by decide) z⟩⟩, ⟨fun j hj => hD 21 0 j (by decide) (by decide) z, fun j hj => hL 22 0 j (by decide)⟩, fun q hq => ?_, fun j hj => ?_, fun c hc => hD 32 0 c (by decide) (by decide) z⟩
  · have hq2 : q = 0 ∨ q = 1 := by omega
    rcases hq2 with rfl | rfl
    · exact ⟨hD 10 _ 0 (by decide) (by decide) (by decide), fun j hj => hD 23 _ j (by decide) (by decide) z, fun j hj => ⟨hD 24 _ j (by decide) (by decide) z, hD 25 _ j (by decide) (by decide) z, hD 26 _ j (by decide) (by decide) z⟩⟩
    · exact ⟨hD 10 _ 0 (by decide) (by decide) (by decide), fun j hj => hD 23 _ j (by decide) (by decide) z, fun j hj => ⟨hD 24 _ j (by decide) (by decide) z, hD 25 _ j (by decide) (by decide) z, hD 26 _ j (by decide) (by decide) z⟩⟩
  · obtain ⟨x, y, w⟩ := cx_sh j (by omega)
    exact ⟨⟨hD 11 _ 0 (by decide) x (by decide), hD 11 _ 1 (by decide) x (by decide), hD 11 _ 2 (by decide) x (by decide), hL 11 _ 3 x, hL 11 _ 4 x⟩, fun c hc => ⟨hD 29 _ c (by decide) y z, hD 30 _ c (by decide) w z⟩⟩
theorem rel0_data (h : Rel0 σ σm) (hD : ∀ f i k, f ≠ 0 → (f, i) ∉ cX → zlyC.2.1 f k ≠ 2 → σ'.1 f i k = σ.1 f i k) (hL : ∀ f i k, (f, i) ∉ cX → σ'.2 f i k = σ.2 f i k) : Rel0 σ' σm := by
  have z : ¬ (0 : Nat) = 2 := by decide
  obtain ⟨r1, r2, r3, r4, r5⟩ := h
  refine ⟨rb_copy r1 r2 (cb_data (tp_Sh (iv_Top r2)).2 hD hL) (fun _ _ => rfl), r2, ?_, ?_, ?_⟩
  · obtain ⟨fi, n, a, b, c, d, e, f, mo⟩ := r3
    refine ⟨fi, n, a, b, by rw [hD 2 0 0 (by decide) (by decide) (by decide)]; exact c, by rw [hD 2 0 1 (by decide) (by decide) (by decide)]; exact d, e, fun j hj => ?_, mo⟩
    obtain ⟨f1, f2, f3, f4, f5, f6, f7⟩ := f j hj
    obtain ⟨x1, x2, x3, x4⟩ := cx_st ((fi + j) % 6) (Nat.mod_lt _ (by decide))
    refine ⟨f1, f2, by rw [hD 33 0 _ (by decide) (by decide) z]; exact f3, by rw [hD 34 0 _ (by decide) (by decide) z]; exact f4, by rw [hD 35 0 _ (by decide) (by decide) z]; exact f5, by rw [hD 36 0 _ (by decide) (by decide) z]; exact f6, ?_⟩
    unfold RSt at f7 ⊢
    refine ⟨by rw [hD 7 _ 0 (by decide) x1 (by decide)]; exact f7.1, fun i hi => ?_⟩
    rw [hD 12 _ i (by decide) x2 z, hD 13 _ i (by decide) x3 z, hD 14 _ i (by decide) x4 z]
    exact f7.2 i hi
  · obtain ⟨n, a, b, c, d⟩ := r4
    refine ⟨n, a, by rw [hD 3 0 1 (by decide) (by decide) (by decide)]; exact b, c, fun k hk => ?_⟩
    rw [hD 38 0 k (by decide) (by decide) z]
    exact d k hk
  · unfold RFa
    rw [hD 4 0 3 (by decide) (by decide) (by decide), hD 4 0 4 (by decide) (by decide) (by decide)]
    exact r5
theorem cb_rows (h : REq (rws 0) σ σ') (hN : N ≤ 10) : CB σ' σ 0 0 N := by
  have r : ∀ f i k, rws 0 f i = true → σ'.1 f i k = σ.1 f i k := fun f i k hp => congrFun (h f i hp).1 k
  have r2 : ∀ f i k, rws 0 f i = true → σ'.2 f i k = σ.2 f i k := fun f i k hp => congrFun (h f i hp).2 k
  refine ⟨fun k hk => r 1 0 k rfl, ⟨r 7 _ 0 rfl, fun j hj => ⟨r 12 _ j rfl, r 13 _ j rfl, r 14 _ j rfl⟩⟩, ⟨r 8 _ 0 rfl, fun j hj => ⟨r 15 _ j rfl, r 16 _ j rfl, r 17 _ j rfl⟩⟩, ⟨fun j hj => r 21 0 j rfl, fun j hj => r2 22 0 j rfl⟩, fun q hq => ?_, fun j hj => ?_, fun c hc => r 32 0 c rfl⟩
  · have hq2 : q = 0 ∨ q = 1 := by omega
    rcases hq2 with rfl | rfl
    · exact ⟨r 10 _ 0 rfl, fun j hj => r 23 _ j rfl, fun j hj => ⟨r 24 _ j rfl, r 25 _ j rfl, r 26 _ j rfl⟩⟩
    · exact ⟨r 10 _ 0 rfl, fun j hj => r 23 _ j rfl, fun j hj => ⟨r 24 _ j rfl, r 25 _ j rfl, r 26 _ j rfl⟩⟩
  · have hh : ∀ f, (f = 11 ∨ f = 29 ∨ f = 30) → rws 0 f (10 * 0 + j) = true := fun f hf => by
      rcases hf with rfl | rfl | rfl <;> simp [rws] <;> omega
    exact ⟨⟨r 11 _ 0 (hh 11 (by simp)), r 11 _ 1 (hh 11 (by simp)), r 11 _ 2 (hh 11 (by simp)), r2 11 _ 3 (hh 11 (by simp)), r2 11 _ 4 (hh 11 (by simp))⟩, fun c hc => ⟨r 29 _ c (hh 29 (by simp)), r 30 _ c (hh 30 (by simp))⟩⟩
theorem rws_B1 (f i : Nat) (h : rws 0 f i = true) : rwB 1 f i = false := by
  unfold rws at h
  unfold rwB
  simp at h ⊢
  omega
theorem rws_B0 (f i : Nat) (h : rws 1 f i = true) : rwB 0 f i = false := by
  unfold rws at h
  unfold rwB
  simp at h ⊢
  omega
theorem rwk_B1 (f i : Nat) (h : rwk f i = true) : rwB 1 f i = false := by
  unfold rwk at h
  unfold rwB
  simp at h ⊢
  omega
theorem img_take {x : Int32} (hx : x ≠ 0) (h : Rel0 σ1 σm) (h6 : σ1.1 0 0 6 = 1) : ∃ s sm, f_X1_copyFrom 1 0 σ1 = some s ∧ FrT σ1 s ∧ f_X12_image x σm = some (1, sm) ∧ @Rel iT s sm := by
  obtain ⟨r1, r2, r3, r4, r5⟩ := h
  have hSh := tp_Sh (iv_Top r2)
  have h9 : σ1.1 1 0 9 = nI (aShN (σm.1 1 0)) := r1.1.2.2.2.2.2.2.2.2.2.trans hSh.1
  obtain ⟨s, e1, hC, hE, hF⟩ := c_copyB (b := 1) (p := 0) rfl hSh.2 h9
  obtain ⟨sm, e2, m1, m2, m3⟩ := m_imgT hx σm
  have g1 : sm.1 1 = σm.1 1 := funext fun i => funext fun k => m3 1 i k (fun z => absurd z.1 (by decide)) (fun z => absurd z.1 (by decide))
  have g3 : sm.1 3 = σm.1 3 := funext fun i => funext fun k => m3 3 i k (fun z => absurd z.1 (by decide)) (fun z => absurd z.1 (by decide))
  have g0 : ∀ k, k ≠ 4 → sm.1 0 0 k = σm.1 0 0 k := fun k hk => m3 0 0 k (fun z => absurd z.1 (by decide)) (fun z => hk z.2.2)
  have g8 : ∀ k, sm.1 8 0 k = σm.1 8 0 k := fun k => m3 8 0 k (fun z => absurd z.1 (by decide)) (fun z => absurd z.1 (by decide))
  have q0 : REq (rws 0) σ1 s := fun f i hp => hE f i (rws_B1 f i hp)
  refine ⟨s, sm, e1, hF, e2, ?_, by rw [g1]; exact r2, ?_, ?_, ?_, ?_⟩
  · rw [g1]
    exact rb_copy r1 r2 (cb_rows q0 hSh.2) (fun _ _ => rfl)
  · exact kp_same r3 (fun f i hp => hE f i (rwk_B1 f i hp)) (g0 3 (by decide)) g3 (fun k _ => by rw [g1]) (by rw [g1]; exact Nat.le_refl _)
  · obtain ⟨n, a, b, c, d⟩ := r4
    refine ⟨n, a, by rw [(hE 3 0 rfl).1]; exact b, by rw [g0 16 (by decide)]; exact c, fun k hk => ?_⟩
    rw [(hE 38 0 rfl).1, g8]
    exact d k hk
  · unfold RFa
    rw [(hE 4 0 rfl).1, g0 23 (by decide), g0 25 (by decide)]
    exact r5
  · refine ⟨by rw [(hE 0 0 rfl).1]; exact h6, m2, fun _ => ⟨rb_copy r1 r2 hC m1, inv_9 r2 m1⟩⟩
theorem img_back (h : Rel0 σ1 σm) (h6 : σ1.1 0 0 6 = 1) (h4 : σm.1 0 0 4 = 1) (hB : RB σ1 1 (σm.1 2 0)) (hI : Inv (σm.1 2 0)) : ∃ s sm, f_X1_copyFrom 0 1 σ1 = some s ∧ FrT σ1 s ∧ FrT s (f_X2_forget s) ∧ f_X12_image 0 σm = some (1, sm) ∧ @Rel iT (f_X2_forget s) sm := by
  obtain ⟨r1, r2, r3, r4, r5⟩ := h
  have hSh := tp_Sh (iv_Top hI)
  have h9 : σ1.1 1 1 9 = nI (aShN (σm.1 2 0)) := hB.1.2.2.2.2.2.2.2.2.2.trans hSh.1
  obtain ⟨s, e1, hC, hE, hF⟩ := c_copyB (b := 0) (p := 1) rfl hSh.2 h9
  obtain ⟨sm, e2, m1, m2, m4, m3⟩ := m_imgB (σ := σm) (by rw [h4]; decide)
  have g2 : sm.1 2 = σm.1 2 := funext fun i => funext fun k => m3 2 i k (fun z => absurd z.1 (by decide)) (fun z => absurd z.1 (by decide))
  have g0 : ∀ k, k ≠ 3 → k ≠ 4 → sm.1 0 0 k = σm.1 0 0 k := fun k h1 h2 => m3 0 0 k (fun z => absurd z.1 (by decide)) (fun z => by rcases z.2.2 with e | e; exact h1 e; exact h2 e)
  have g8 : ∀ k, sm.1 8 0 k = σm.1 8 0 k := fun k => m3 8 0 k (fun z => absurd z.1 (by decide)) (fun z => absurd z.1 (by decide))
  have ef : f_X2_forget s = zwI s 2 0 1 0 := rfl
  have qf0 : REq (rws 0) s (f_X2_forget s) := req_w rfl
  have qf1 : REq (rws 1) s (f_X2_forget s) := req_w rfl
  have q1 : REq (rws 1) σ1 s := fun f i hp => hE f i (rws_B0 f i hp)
  have hRB : RB s 0 (sm.1 1 0) := rb_copy hB hI hC m1
  have hI' : Inv (sm.1 1 0) := inv_9 hI m1
  refine ⟨s, sm, e1, hF, ?_, e2, ?_, hI', kp_zero r3 ?_ ?_ m4, ?_, ?_, ?_⟩
  · rw [ef]; exact FrT_w rfl
  · exact rb_copy hRB hI' (cb_rows qf0 (tp_Sh (iv_Top hI')).2) (fun _ _ => rfl)
  · rw [ef, zw_at, if_neg (by decide), (hE 2 0 rfl).1]
  · rw [ef, zw_at, if_pos ⟨rfl, rfl, rfl⟩]
  · obtain ⟨n, a, b, c, d⟩ := r4
    refine ⟨n, a, by rw [ef, zw_at, if_neg (by decide), (hE 3 0 rfl).1]; exact b, by rw [g0 16 (by decide) (by decide)]; exact c, fun k hk => ?_⟩
    rw [ef, zw_at, if_neg (fun z => absurd z.1 (by decide)), (hE 38 0 rfl).1, g8]
    exact d k hk
  · unfold RFa
    rw [ef, zw_at, if_neg (by decide), zw_at, if_neg (by decide), (hE 4 0 rfl).1, g0 23 (by decide) (by decide), g0 25 (by decide) (by decide)]
    exact r5
  · refine ⟨by rw [ef, zw_at, if_neg (by decide), (hE 0 0 rfl).1]; exact h6, m2, fun _ => ?_⟩
    rw [g2, rb_rows qf1 hSh.2, rb_rows q1 hSh.2]
    exact ⟨hB, hI⟩
end PURE
