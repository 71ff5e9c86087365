/-! PURE LAYER: one walker, read on both sides -/
def arE (w f i k : Nat) : Bool := f == 7 && decide (501 * w ≤ k)
theorem eR {σ σ' : zG} {w : Nat} (h : FrA (arE w) σ σ') : FrA (arR w) σ σ' := h.mono fun f i k a => by unfold arR at a; unfold arE; simp only [Bool.or_eq_false_iff] at a; exact a.1
def WD (W H N : Nat) (σc σm : zG) : Prop := ∀ i, i < N → ∃ (t cm c : Nat) (P : List (Nat × Nat)), (t ≤ 99 ∧ cm ≤ 500 ∧ spW W H c ∧ okP P) ∧ (σc.1 15 1 i = nI t ∧ σc.1 16 1 i = nI cm ∧ σc.1 17 1 i = nI c ∧ WP σc 1 i P) ∧ (σm.1 6 0 (4 * i) = nI t ∧ σm.1 6 0 (4 * i + 1) = nI cm ∧ σm.1 6 0 (4 * i + 2) = nI c ∧ ∀ m, m < 501 → σm.1 7 0 (501 * i + m) = plK W H c cm (ways P) m)
section PURE
variable {σ σ' σc σm sc sm : zG} {B : Nat → Nat} {n T k i0 N : Nat} {P : List (Nat × Nat)} {W H w c0 cm : Nat} {K : List Nat}
theorem WD.fr (h : WD W H N σc σm) (hc : FrA (arY N) σc sc) (hm : FrA (arX N) σm sm) : WD W H N sc sm := fun i hi => by
  obtain ⟨t, cm, c, P, h1, ⟨h2, h3, h4, h5⟩, h6, h7, h8, h9⟩ := h i hi
  have y15 : arY N 15 1 i = false := by unfold arY; simp; omega
  have y16 : arY N 16 1 i = false := by unfold arY; simp; omega
  have y17 : arY N 17 1 i = false := by unfold arY; simp; omega
  have y18 : arY N 18 1 i = false := by unfold arY; simp; omega
  have x6 : ∀ a, a < 4 → arX N 6 0 (4 * i + a) = false := fun a ha => by unfold arX arV arR; simp; omega
  have x7 : ∀ m, m < 501 → arX N 7 0 (501 * i + m) = false := fun m hm => by unfold arX arV arR; simp; omega
  refine ⟨t, cm, c, P, h1, ⟨?_, ?_, ?_, ?_, h5.2.1, fun j hj => ?_⟩, ?_, ?_, ?_, fun m hmm => ?_⟩
  · rw [hc.1 15 1 i y15]; exact h2
  · rw [hc.1 16 1 i y16]; exact h3
  · rw [hc.1 17 1 i y17]; exact h4
  · rw [hc.1 18 1 i y18]; exact h5.1
  · have h8 := h5.2.1
    have y19 : arY N 19 1 (8 * i + j) = false := by unfold arY; simp; omega
    have y20 : arY N 20 1 (8 * i + j) = false := by unfold arY; simp; omega
    rw [hc.1 19 1 _ y19, hc.1 20 1 _ y20]
    exact h5.2.2 j hj
  · rw [hm.1 6 0 (4 * i) (x6 0 (by decide))]; exact h6
  · rw [hm.1 6 0 _ (x6 1 (by decide))]; exact h7
  · rw [hm.1 6 0 _ (x6 2 (by decide))]; exact h8
  · rw [hm.1 7 0 _ (x7 m hmm)]; exact h9 m hmm
theorem m_fillRow (h15 : σ.1 0 0 15 = nI w) (hw : w < 12) : ∃ s, zlp (fun q : Int32 × zG => b_X12_aWalker_66 q.1 q.2) ((0 : Int32), σ) = some s ∧ FrA (arE w) σ s ∧ ∀ m, m < 501 → s.1 7 0 (501 * w + m) = -1 := by
  refine zlp_run (f := fun q : Int32 × zG => b_X12_aWalker_66 q.1 q.2) 501 (fun v q => q.1 = nI v ∧ FrA (arE w) σ q.2 ∧ ∀ m, m < v → q.2.1 7 0 (501 * w + m) = -1) (fun s => FrA (arE w) σ s ∧ ∀ m, m < 501 → s.1 7 0 (501 * w + m) = -1) ⟨rfl, FrA.refl _ _, fun m hm => absurd hm (Nat.not_lt_zero m)⟩ ?_ ?_
  · rintro v hv ⟨i, s⟩ ⟨hi, hf, hr⟩
    have hi' : i = nI v := hi
    subst hi'
    have hf' : FrA (arE w) σ s := hf
    have s15 : s.1 0 0 15 = nI w := by rw [hf'.1 0 0 15 rfl]; exact h15
    have e5 : (501 : Int32) * nI w = nI (501 * w) := pk_mul 501 w
    refine Or.inr ⟨(nI (v + 1), zwI s 7 0 (501 * w + v) (-1)), ?_, rfl, hf'.w (by unfold arE; simp), fun m hm => ?_⟩
    · show b_X12_aWalker_66 (nI v) s = _
      unfold b_X12_aWalker_66
      rw [if_pos (show nI v < (501 : Int32) from nI_lt (b := 501) hv (by decide)), s15, e5, nI_add, zin_ok (show 501 * w + v < 6012 by omega) (by decide), nI_clamp (show 501 * w + v < 2 ^ 31 by omega), zgT, nI_1]
      rfl
    · show (zwI s 7 0 (501 * w + v) (-1)).1 7 0 (501 * w + m) = -1
      rw [zw_at]
      by_cases e : m = v
      · rw [if_pos ⟨rfl, rfl, by omega⟩]
      · rw [if_neg (fun z => by omega)]; exact hr m (by omega)
  · rintro ⟨i, s⟩ ⟨hi, hf, hr⟩
    have hi' : i = nI 501 := hi
    subst hi'
    refine ⟨s, ?_, hf, hr⟩
    show b_X12_aWalker_66 (nI 501) s = _
    unfold b_X12_aWalker_66
    rw [if_neg (show ¬ nI 501 < (501 : Int32) from nI_nlt (b := 501) (Nat.le_refl 501) (by decide))]
theorem m_enter (h15 : σ.1 0 0 15 = nI w) (hw : w < 12) (hcm : cm ≤ 500) (hr : ∀ m, m < 501 → σ.1 7 0 (501 * w + m) = -1) : ∃ s, f_X12_isThere (nI c0) (zwI σ 0 0 28 (nI cm)) = some s ∧ MR W H w c0 cm [] s ∧ FrA (arR w) σ s := by
  have m7 : ∀ j, arR w 7 0 (501 * w + j) = true := fun j => by unfold arR; simp
  have g28 : (zwI σ 0 0 28 (nI cm)).1 0 0 28 = nI cm := by rw [zw_at, if_pos ⟨rfl, rfl, rfl⟩]
  have g15 : (zwI σ 0 0 28 (nI cm)).1 0 0 15 = nI w := by rw [zw_at, if_neg (by decide)]; exact h15
  have g7 : ∀ j, (zwI σ 0 0 28 (nI cm)).1 7 0 j = σ.1 7 0 j := fun j => by rw [zw_at, if_neg (fun z => absurd z.1 (by decide))]
  have gf : FrA (arR w) σ (zwI σ 0 0 28 (nI cm)) := fra_w rfl
  generalize zwI σ 0 0 28 (nI cm) = s0 at g28 g15 g7 gf ⊢
  unfold f_X12_isThere j_X12_isThere_29
  have e5 : (501 : Int32) * nI w = nI (501 * w) := pk_mul 501 w
  simp only [zb]
  rw [g28, g15, if_pos (show nI cm ≤ 500 from nI_le (b := 500) hcm (by decide)), e5, nI_add, zin_ok (show 501 * w + cm < 6012 by omega) (by decide), zgT, nI_clamp (show 501 * w + cm < 2 ^ 31 by omega)]
  have g1 : (zwI (zwI s0 7 0 (501 * w + cm) (nI c0)) 0 0 27 (nI c0)).1 0 0 28 = nI cm := by rw [zw_at, if_neg (by decide), zw_at, if_neg (fun z => absurd z.1 (by decide))]; exact g28
  rw [g1, nI_1]
  refine ⟨_, rfl, ⟨?_, fun m hm => ?_, ?_, fun _ => ?_⟩, gf.trans (((fra_w (m7 _)).w rfl).w rfl)⟩
  · rw [zw_at, if_neg (by decide), zw_at, if_neg (by decide), zw_at, if_neg (fun z => absurd z.1 (by decide))]; exact g15
  · rw [zw_at, if_neg (fun z => absurd z.1 (by decide)), zw_at, if_neg (fun z => absurd z.1 (by decide)), zw_at, plK_nil]
    by_cases q : m = cm
    · rw [if_pos ⟨rfl, rfl, by omega⟩, if_pos q]
    · rw [if_neg (fun z => by omega), if_neg q, g7]; exact hr m hm
  · rw [zw_at, if_neg (by decide), zw_at, if_pos ⟨rfl, rfl, rfl⟩]; rfl
  · rw [zw_at, if_pos ⟨rfl, rfl, rfl⟩]; rfl
theorem ws_walker (hE : EvT B n T) (h : WQ B n T k σc σm) (hN : N ≤ 12) (hc8 : σc.1 8 1 0 = nI N) (hm15 : σm.1 0 0 15 = nI N) (hD : WD W H N σc σm) (hI : Inv (σm.1 1 0)) (eW : aW (σm.1 1 0) = W) (eH : aH (σm.1 1 0) = H) :
    (∃ k' sc sm, f_X4_readWalker (nI W) (nI H) σc = some (1, sc) ∧ f_X12_aWalker σm = some (1, sm) ∧ N < 12 ∧ WQ B n T k' sc sm ∧ sc.1 8 1 0 = nI (N + 1) ∧ sm.1 0 0 15 = nI (N + 1) ∧ WD W H (N + 1) sc sm ∧ FrA (arY N) σc sc ∧ FrA (arX N) σm sm) ∨
    ∃ sc sm, f_X4_readWalker (nI W) (nI H) σc = some (0, sc) ∧ f_X12_aWalker σm = some (0, sm) ∧ BdF sc sm ∧ FrA (arY N) σc sc ∧ FrA (arX N) σm sm := by
  have q := tkW hE h 100 8 (by decide) (by decide) (by decide)
  have c2 : (σc.1 4 0 8 = (100 : Int32)) = (knd B n k = 100) := q.1
  have m2 : (σm.1 0 0 18 = (8 : Int32)) = (knd B n k = 100) := q.2
  have hk := h.1.2.2.1
  unfold f_X4_readWalker f_X12_aWalker
  simp only [c2, m2]
  by_cases a : knd B n k = 100
  · rw [if_pos a, if_pos a, hc8, hm15]
    by_cases n12 : N = 12
    · right
      obtain ⟨x, y, a1, a2, a3, a4, a5⟩ := ws_fail hE h 3
      rw [n12, if_pos (show (12 : Int32) ≤ nI 12 by decide), if_pos (show nI 12 = 12 from rfl), a1, a2]
      exact ⟨x, y, rfl, rfl, a3, wY a4, vX a5⟩
    · have n12' : N < 12 := by omega
      have hkT := ev_lt hE hk (by omega)
      have y15 : ∀ f, (f = 15 ∨ f = 16 ∨ f = 17 ∨ f = 18) → arY N f 1 N = true := fun f hf => by unfold arY; simp; omega
      have x6 : ∀ a, arX N 6 0 (4 * N + a) = true := fun a => by unfold arX arV arR; simp
      rw [if_neg (show ¬ (12 : Int32) ≤ nI N from nI_ge (b := 12) n12' (by decide)), if_neg (show ¬ nI N = (12 : Int32) from fun z => n12 ((nI_eq (a := N) (b := 12) (by omega) (by decide)).mp z)), zin_ok n12' (by decide), nI_clamp (show N < 2 ^ 31 by omega)]
      simp only [zgT]
      obtain ⟨s1, t1, a1, b1, h1, f1, g1⟩ := ws_adv hE h hkT
      have need8 : f_X12_need (8 : Int32) σm = some (1, t1) := by
        unfold f_X12_need
        simp only [m2]
        rw [if_pos a, b1]
        rfl
      rw [a1, Option.bind_some]
      have h1' := h1.wc (f := 18) (i := 1) (j := N) 0 rfl (by decide)
      have F1 : FrA (arY N) σc (zwI s1 18 1 N 0) := (wY f1).w (y15 18 (by decide))
      have G1 : FrA (arX N) σm t1 := vX (vN g1)
      have u18 : (zwI s1 18 1 N 0).1 18 1 N = 0 := by rw [zw_at, if_pos ⟨rfl, rfl, rfl⟩]
      have m1 : t1.1 0 0 15 = nI N := by rw [g1.1 0 0 15 rfl]; exact hm15
      simp only [zb]
      generalize zwI s1 18 1 N 0 = s1' at h1' F1 u18 ⊢
      rcases ws_num hE h1' 0 99 (by decide) (by decide) with ⟨v, s2, t2, v1, v2, -, a2, b2, e26, h2, f2, g2⟩ | ⟨s2, t2, a2, b2, bd, f2, g2⟩
      · have a2' : f_X4_readNumber (0 : Int32) (99 : Int32) s1' = some (nI v, s2) := a2
        have b2' : f_X12_number (0 : Int32) (99 : Int32) t1 = some (1, t2) := b2
        have m2' : t2.1 0 0 15 = nI N := by rw [g2.1 0 0 15 rfl]; exact m1
        have told0 : f_X12_told (0 : Int32) (8 : Int32) (99 : Int32) σm = some (1, zwI t2 6 0 (4 * N + 0) (nI v)) := m_told n12' 0 v (by decide) need8 b2' m2' e26
        rw [a2', Option.bind_some, told0, Option.bind_some, if_neg (show ¬ (1 : Int32) = 0 by decide)]
        dsimp only
        have w15 : (zwI s2 15 1 N (nI v)).1 15 1 N = nI v := by rw [zw_at, if_pos ⟨rfl, rfl, rfl⟩]
        have w18 : (zwI s2 15 1 N (nI v)).1 18 1 N = 0 := by rw [zw_at, if_neg (fun z => absurd z.1 (by decide)), f2.1 18 1 N rfl]; exact u18
        have n0 : (zwI t2 6 0 (4 * N + 0) (nI v)).1 6 0 (4 * N) = nI v := by rw [zw_at, if_pos ⟨rfl, rfl, rfl⟩]
        have m3 : (zwI t2 6 0 (4 * N + 0) (nI v)).1 0 0 15 = nI N := by rw [zw_at, if_neg (fun z => absurd z.1 (by decide))]; exact m2'
        have h3 := (h2.wc (f := 15) (i := 1) (j := N) (nI v) rfl (by decide)).wm (f := 6) (i := 0) (j := 4 * N + 0) (nI v) rfl
        have F3 : FrA (arY N) σc (zwI s2 15 1 N (nI v)) := (F1.trans (wY f2)).w (y15 15 (by decide))
        have G3 : FrA (arX N) σm (zwI t2 6 0 (4 * N + 0) (nI v)) := (G1.trans (vX g2)).w (x6 0)
        generalize zwI s2 15 1 N (nI v) = s3 at w15 w18 h3 F3 ⊢
        generalize zwI t2 6 0 (4 * N + 0) (nI v) = t3 at n0 m3 h3 G3 ⊢
        rw [w15, if_neg (show ¬ (nI v = -1) by rw [nI_nm1 (by omega)]; exact id)]
        obtain ⟨b, s4, t4, a4, b4, f4, g4, k4, l4⟩ := ws_pass hE h3 101 9 (by decide) (by decide) (by decide) (by decide)
        have a4' : f_X4_pass (101 : Int32) s3 = some (zt b, s4) := a4
        have b4' : f_X12_need (9 : Int32) t3 = some (zt b, t4) := b4
        rw [a4', Option.bind_some]
        dsimp only
        cases b with
        | false =>
          right
          rw [if_pos (show zt false = 0 from rfl), m_told0 b4', Option.bind_some, if_pos rfl]
          exact ⟨s4, t4, rfl, rfl, l4 rfl, F3.trans (wY f4), G3.trans (vX g4)⟩
        | true =>
          rw [if_neg (show ¬ zt true = 0 by decide)]
          have h4 := k4 rfl
          rcases ws_num hE h4 0 500 (by decide) (by decide) with ⟨cm, s5, t5, -, hcm, -, a5, b5, e26', h5, f5, g5⟩ | ⟨s5, t5, a5, b5, bd, f5, g5⟩
          · have a5' : f_X4_readNumber (0 : Int32) (500 : Int32) s4 = some (nI cm, s5) := a5
            have b5' : f_X12_number (0 : Int32) (500 : Int32) t4 = some (1, t5) := b5
            have m5' : t5.1 0 0 15 = nI N := by rw [g5.1 0 0 15 rfl, g4.1 0 0 15 rfl]; exact m3
            have told1 : f_X12_told (1 : Int32) (9 : Int32) (500 : Int32) t3 = some (1, zwI t5 6 0 (4 * N + 1) (nI cm)) := m_told n12' 1 cm (by decide) b4' b5' m5' e26'
            rw [a5', Option.bind_some, told1, Option.bind_some, if_neg (show ¬ (1 : Int32) = 0 by decide)]
            dsimp only
            have W15 : (zwI s5 16 1 N (nI cm)).1 15 1 N = nI v := by rw [zw_at, if_neg (fun z => absurd z.1 (by decide)), f5.1 15 1 N rfl, f4.1 15 1 N rfl]; exact w15
            have W16 : (zwI s5 16 1 N (nI cm)).1 16 1 N = nI cm := by rw [zw_at, if_pos ⟨rfl, rfl, rfl⟩]
            have W18 : (zwI s5 16 1 N (nI cm)).1 18 1 N = 0 := by rw [zw_at, if_neg (fun z => absurd z.1 (by decide)), f5.1 18 1 N rfl, f4.1 18 1 N rfl]; exact w18
            have N0 : (zwI t5 6 0 (4 * N + 1) (nI cm)).1 6 0 (4 * N) = nI v := by rw [zw_at, if_neg (fun z => by omega), g5.1 6 0 _ rfl, g4.1 6 0 _ rfl]; exact n0
            have N1 : (zwI t5 6 0 (4 * N + 1) (nI cm)).1 6 0 (4 * N + 1) = nI cm := by rw [zw_at, if_pos ⟨rfl, rfl, rfl⟩]
            have M5 : (zwI t5 6 0 (4 * N + 1) (nI cm)).1 0 0 15 = nI N := by rw [zw_at, if_neg (fun z => absurd z.1 (by decide))]; exact m5'
            have h6 := (h5.wc (f := 16) (i := 1) (j := N) (nI cm) rfl (by decide)).wm (f := 6) (i := 0) (j := 4 * N + 1) (nI cm) rfl
            have F6 : FrA (arY N) σc (zwI s5 16 1 N (nI cm)) := ((F3.trans (wY f4)).trans (wY f5)).w (y15 16 (by decide))
            have G6 : FrA (arX N) σm (zwI t5 6 0 (4 * N + 1) (nI cm)) := ((G3.trans (vX g4)).trans (vX g5)).w (x6 1)
            generalize zwI s5 16 1 N (nI cm) = s6 at W15 W16 W18 h6 F6 ⊢
            generalize zwI t5 6 0 (4 * N + 1) (nI cm) = t6 at N0 N1 M5 h6 G6 ⊢
            rw [W16, if_neg (show ¬ (nI cm = -1) by rw [nI_nm1 (by omega)]; exact id)]
            obtain ⟨b, s7, t7, a7, b7, f7, g7, k7, l7⟩ := ws_pass hE h6 102 10 (by decide) (by decide) (by decide) (by decide)
            have a7' : f_X4_pass (102 : Int32) s6 = some (zt b, s7) := a7
            have b7' : f_X12_need (10 : Int32) t6 = some (zt b, t7) := b7
            have eSp : f_X12_spotTold t6 = if zt b = 0 then some ((0 : Int32), t7) else mSP t7 := by
              unfold f_X12_spotTold
              rw [b7', Option.bind_some]
              rfl
            rw [a7', Option.bind_some, eSp]
            dsimp only
            cases b with
            | false =>
              right
              rw [if_pos (show zt false = 0 from rfl), if_pos (show zt false = 0 from rfl), Option.bind_some, if_pos rfl]
              exact ⟨s7, t7, rfl, rfl, l7 rfl, F6.trans (wY f7), G6.trans (vX g7)⟩
            | true =>
              rw [if_neg (show ¬ zt true = 0 by decide), if_neg (show ¬ zt true = 0 by decide)]
              have h7 := k7 rfl
              have G7 : FrA (arX N) σm t7 := G6.trans (vX g7)
              have e1 : t7.1 1 0 = σm.1 1 0 := funext fun k => G7.1 1 0 k rfl
              have M7 : t7.1 0 0 15 = nI N := by rw [g7.1 0 0 15 rfl]; exact M5
              rcases ws_spot (W := W) (H := H) (w := N) hE h7 (by rw [e1]; exact hI) (by rw [e1]; exact eW) (by rw [e1]; exact eH) n12' M7 with ⟨c, s8, t8, hsp, a8, b8, h8, f8, g8⟩ | ⟨s8, t8, a8, b8, bd, f8, g8⟩
              · rw [a8, Option.bind_some, b8, Option.bind_some, if_neg (show ¬ (1 : Int32) = 0 by decide)]
                dsimp only
                have V15 : (zwI s8 17 1 N (nI c)).1 15 1 N = nI v := by rw [zw_at, if_neg (fun z => absurd z.1 (by decide)), f8.1 15 1 N rfl, f7.1 15 1 N rfl]; exact W15
                have V16 : (zwI s8 17 1 N (nI c)).1 16 1 N = nI cm := by rw [zw_at, if_neg (fun z => absurd z.1 (by decide)), f8.1 16 1 N rfl, f7.1 16 1 N rfl]; exact W16
                have V17 : (zwI s8 17 1 N (nI c)).1 17 1 N = nI c := by rw [zw_at, if_pos ⟨rfl, rfl, rfl⟩]
                have V18 : (zwI s8 17 1 N (nI c)).1 18 1 N = 0 := by rw [zw_at, if_neg (fun z => absurd z.1 (by decide)), f8.1 18 1 N rfl, f7.1 18 1 N rfl]; exact W18
                have U0 : (zwI t8 6 0 (4 * N + 2) (nI c)).1 6 0 (4 * N) = nI v := by rw [zw_at, if_neg (fun z => by omega), g8.1 6 0 _ rfl, g7.1 6 0 _ rfl]; exact N0
                have U1 : (zwI t8 6 0 (4 * N + 2) (nI c)).1 6 0 (4 * N + 1) = nI cm := by rw [zw_at, if_neg (fun z => by omega), g8.1 6 0 _ rfl, g7.1 6 0 _ rfl]; exact N1
                have U2 : (zwI t8 6 0 (4 * N + 2) (nI c)).1 6 0 (4 * N + 2) = nI c := by rw [zw_at, if_pos ⟨rfl, rfl, rfl⟩]
                have M8 : (zwI t8 6 0 (4 * N + 2) (nI c)).1 0 0 15 = nI N := by rw [zw_at, if_neg (fun z => absurd z.1 (by decide)), g8.1 0 0 15 rfl]; exact M7
                have h9 := (h8.wc (f := 17) (i := 1) (j := N) (nI c) rfl (by decide)).wm (f := 6) (i := 0) (j := 4 * N + 2) (nI c) rfl
                have F9 : FrA (arY N) σc (zwI s8 17 1 N (nI c)) := ((F6.trans (wY f7)).trans (wY f8)).w (y15 17 (by decide))
                have G9 : FrA (arX N) σm (zwI t8 6 0 (4 * N + 2) (nI c)) := (G7.trans (vX g8)).w (x6 2)
                generalize zwI s8 17 1 N (nI c) = s9 at V15 V16 V17 V18 h9 F9 ⊢
                generalize zwI t8 6 0 (4 * N + 2) (nI c) = t9 at U0 U1 U2 M8 h9 G9 ⊢
                have c64 : c < 64 := by
                  have hW8 := hI.1.2.2
                  have hH7 := hI.2.1.2.2
                  rw [eW] at hW8
                  rw [eH] at hH7
                  unfold spW at hsp
                  omega
                rw [V17, if_neg (show ¬ (nI c = -1) by rw [nI_nm1 (by omega)]; exact id)]
                obtain ⟨tA, bA, gA, rA⟩ := m_fillRow M8 n12'
                have mA : tA.1 0 0 15 = nI N := by rw [gA.1 0 0 15 rfl]; exact M8
                obtain ⟨tB, bB, MB, gB⟩ := m_enter (σ := tA) (W := W) (H := H) (c0 := c) mA n12' hcm rA
                have A1 : tA.1 6 0 (4 * N + 1) = nI cm := by rw [gA.1 6 0 _ rfl]; exact U1
                have A2 : (zwI tA 0 0 28 (nI cm)).1 6 0 (4 * N + 2) = nI c := by rw [zw_at, if_neg (fun z => absurd z.1 (by decide)), gA.1 6 0 _ rfl]; exact U2
                have A3 : (zwI tA 0 0 28 (nI cm)).1 0 0 15 = nI N := by rw [zw_at, if_neg (by decide)]; exact mA
                have e4 : (4 : Int32) * nI N = nI (4 * N) := pk_mul 4 N
                have e41 : nI (4 * N) + (1 : Int32) = nI (4 * N + 1) := nI_add (4 * N) 1
                have e42 : nI (4 * N) + (2 : Int32) = nI (4 * N + 2) := nI_add (4 * N) 2
                rw [bA, Option.bind_some, mA, e4, e41, zin_ok (show 4 * N + 1 < 48 by omega) (by decide), zgT, nI_clamp (show 4 * N + 1 < 2 ^ 31 by omega), A1, A3, e4, e42, zin_ok (show 4 * N + 2 < 48 by omega) (by decide), zgT, nI_clamp (show 4 * N + 2 < 2 ^ 31 by omega), A2, bB, Option.bind_some]
                have GRB : FrA (arR N) t9 tB := (eR gA).trans gB
                have hB := h9.fr (FrA.refl _ _) rfl (rT GRB)
                have GB : FrA (arX N) σm tB := G9.trans (rX GRB)
                have eB : tB.1 1 0 = σm.1 1 0 := funext fun k => GB.1 1 0 k rfl
                have wl := ws_wayL hE n12' n12' hcm hsp 8 [] _ s9 tB rfl hB ⟨V18, by decide, fun j hj => absurd hj (Nat.not_lt_zero j)⟩ (fun x hx => absurd hx (by simp)) MB (by rw [eB]; exact hI) (by rw [eB]; exact eW) (by rw [eB]; exact eH)
                unfold f_X4_readWay f_X12_someParts
                rcases wl with ⟨x, y, r1, r2, r3, r4, k', P, r5, r6, r7, r8⟩ | ⟨x, y, r1, r2, r3, r4, r5⟩
                · have r1' := r1
                  have r2' := r2
                  have e0 : nI (List.length ([] : List (Nat × Nat))) = (0 : Int32) := rfl
                  rw [e0] at r1' r2'
                  rw [r1', Option.bind_some, r2', if_neg (show ¬ (1 : Int32) = 0 by decide), nI_1]
                  dsimp only
                  have hx := r5.wc (f := 8) (i := 1) (j := 0) (nI (N + 1)) rfl (by decide)
                  have X8 : (zwI x 8 1 0 (nI (N + 1))).1 8 1 0 = nI (N + 1) := by rw [zw_at, if_pos ⟨rfl, rfl, rfl⟩]
                  have X15 : (zwI x 8 1 0 (nI (N + 1))).1 15 1 N = nI v := by rw [zw_at, if_neg (fun z => absurd z.1 (by decide)), r3.1 15 1 N rfl]; exact V15
                  have X16 : (zwI x 8 1 0 (nI (N + 1))).1 16 1 N = nI cm := by rw [zw_at, if_neg (fun z => absurd z.1 (by decide)), r3.1 16 1 N rfl]; exact V16
                  have X17 : (zwI x 8 1 0 (nI (N + 1))).1 17 1 N = nI c := by rw [zw_at, if_neg (fun z => absurd z.1 (by decide)), r3.1 17 1 N rfl]; exact V17
                  have XP : WP (zwI x 8 1 0 (nI (N + 1))) 1 N P := ⟨by rw [zw_at, if_neg (fun z => absurd z.1 (by decide))]; exact r6.1, r6.2.1, fun j hj => by rw [zw_at, if_neg (fun z => absurd z.1 (by decide)), zw_at, if_neg (fun z => absurd z.1 (by decide))]; exact r6.2.2 j hj⟩
                  have FX : FrA (arY N) σc (zwI x 8 1 0 (nI (N + 1))) := (F9.trans (iY r3)).w rfl
                  have GX : FrA (arX N) σm y := GB.trans (uX r4)
                  generalize zwI x 8 1 0 (nI (N + 1)) = x' at hx X8 X15 X16 X17 XP FX ⊢
                  obtain ⟨b, s', t', a', b', f', g', k'', l'⟩ := ws_pass hE hx 59 159 (by decide) (by decide) (by decide) (by decide)
                  have a'' : f_X4_pass (59 : Int32) x' = some (zt b, s') := a'
                  have b'' : f_X12_need (159 : Int32) y = some (zt b, t') := b'
                  rw [a'', Option.bind_some, b'', Option.bind_some]
                  dsimp only
                  rw [zbl_zt, zgT, zgT, Option.bind_some]
                  dsimp only
                  cases b with
                  | false =>
                    right
                    rw [if_pos (show zt false = 0 from rfl)]
                    exact ⟨s', t', rfl, rfl, l' rfl, FX.trans (wY f'), GX.trans (vX g')⟩
                  | true =>
                    left
                    rw [if_neg (show ¬ zt true = 0 by decide)]
                    have y15' : y.1 0 0 15 = nI N := r8.1
                    have q15 : t'.1 0 0 15 = nI N := by rw [g'.1 0 0 15 rfl]; exact y15'
                    rw [q15, nI_1]
                    have FS : FrA (arY N) σc s' := FX.trans (wY f')
                    have GS : FrA (arX N) σm (zwI t' 0 0 15 (nI (N + 1))) := (GX.trans (vX g')).w (by unfold arX arV arR; simp)
                    refine ⟨_, s', zwI t' 0 0 15 (nI (N + 1)), rfl, rfl, n12', (k'' rfl).wm _ rfl, by rw [f'.1 8 1 0 rfl]; exact X8, by rw [zw_at, if_pos ⟨rfl, rfl, rfl⟩], fun i hi => ?_, FS, GS⟩
                    by_cases iN : i = N
                    · rw [iN]
                      refine ⟨v, cm, c, P, ⟨v2, hcm, hsp, r7⟩, ⟨by rw [f'.1 15 1 N rfl]; exact X15, by rw [f'.1 16 1 N rfl]; exact X16, by rw [f'.1 17 1 N rfl]; exact X17, XP.fr f'⟩, ?_, ?_, ?_, fun m hm => ?_⟩
                      · rw [zw_at, if_neg (fun z => absurd z.1 (by decide)), g'.1 6 0 _ rfl, r4.1 6 0 _ rfl, GRB.1 6 0 _ rfl]; exact U0
                      · rw [zw_at, if_neg (fun z => absurd z.1 (by decide)), g'.1 6 0 _ rfl, r4.1 6 0 _ rfl, GRB.1 6 0 _ rfl]; exact U1
                      · rw [zw_at, if_neg (fun z => absurd z.1 (by decide)), g'.1 6 0 _ rfl, r4.1 6 0 _ rfl, GRB.1 6 0 _ rfl]; exact U2
                      · rw [zw_at, if_neg (fun z => absurd z.1 (by decide)), g'.1 7 0 _ rfl]; exact r8.2.1 m hm
                    · exact hD.fr FS GS i (by omega)
                · right
                  have r1' := r1
                  have r2' := r2
                  have e0 : nI (List.length ([] : List (Nat × Nat))) = (0 : Int32) := rfl
                  rw [e0] at r1' r2'
                  rw [r1', Option.bind_some, r2', Option.bind_some, if_pos rfl, if_pos rfl]
                  exact ⟨x, y, rfl, rfl, r3, F9.trans (iY r4), GB.trans (uX r5)⟩
              · right
                rw [a8, Option.bind_some, b8, Option.bind_some, if_pos rfl]
                dsimp only
                rw [if_pos (show (zwI s8 17 1 N (-1)).1 17 1 N = -1 by rw [zw_at, if_pos ⟨rfl, rfl, rfl⟩])]
                exact ⟨_, t8, rfl, rfl, bd.wc _ (by decide), ((F6.trans (wY f7)).trans (wY f8)).w (y15 17 (by decide)), G7.trans (vX g8)⟩
          · right
            have a5' : f_X4_readNumber (0 : Int32) (500 : Int32) s4 = some (-1, s5) := a5
            have b5' : f_X12_number (0 : Int32) (500 : Int32) t4 = some (0, t5) := b5
            rw [a5', Option.bind_some, m_told1 b4' b5', Option.bind_some, if_pos rfl]
            dsimp only
            rw [if_pos (show (zwI s5 16 1 N (-1)).1 16 1 N = -1 by rw [zw_at, if_pos ⟨rfl, rfl, rfl⟩])]
            exact ⟨_, t5, rfl, rfl, bd.wc _ (by decide), ((F3.trans (wY f4)).trans (wY f5)).w (y15 16 (by decide)), (G3.trans (vX g4)).trans (vX g5)⟩
      · right
        have a2' : f_X4_readNumber (0 : Int32) (99 : Int32) s1' = some (-1, s2) := a2
        have b2' : f_X12_number (0 : Int32) (99 : Int32) t1 = some (0, t2) := b2
        rw [a2', Option.bind_some, m_told1 need8 b2', Option.bind_some, if_pos rfl]
        dsimp only
        rw [if_pos (show (zwI s2 15 1 N (-1)).1 15 1 N = -1 by rw [zw_at, if_pos ⟨rfl, rfl, rfl⟩])]
        exact ⟨_, t2, rfl, rfl, bd.wc _ (by decide), (F1.trans (wY f2)).w (y15 15 (by decide)), G1.trans (vX g2)⟩
  · right
    obtain ⟨x, y, a1, a2, a3, a4, a5⟩ := ws_fail hE h 1
    rw [if_neg a, if_neg a, a1, a2]
    exact ⟨x, y, rfl, rfl, a3, wY a4, vX a5⟩
end PURE
