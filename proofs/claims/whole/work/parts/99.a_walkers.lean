/-! PURE LAYER: all walkers, read on both sides -/
theorem yY {σ σ' : zG} {i0 : Nat} (h : FrA (arY i0) σ σ') : FrA (arY 0) σ σ' := h.mono fun f i k a => by unfold arY at *; simp at a ⊢; omega
theorem xX {σ σ' : zG} {w : Nat} (h : FrA (arX w) σ σ') : FrA (arX 0) σ σ' := h.mono fun f i k a => by unfold arX arV arR at *; simp at a ⊢; omega
section PURE
variable {σ σ' σc σm sc sm : zG} {B : Nat → Nat} {n T k i0 N : Nat} {P : List (Nat × Nat)} {W H w c0 cm : Nat} {K : List Nat}
theorem ws_walkersL (hE : EvT B n T) : ∀ (d N k : Nat) (σc σm : zG), N + d = 13 → N ≤ 12 → WQ B n T k σc σm → σc.1 8 1 0 = nI N → σm.1 0 0 15 = nI N → WD W H N σc σm → Inv (σm.1 1 0) → aW (σm.1 1 0) = W → aH (σm.1 1 0) = H →
    (∃ N' sc sm, (zlp (fun q : Int32 × zG => b_X4_readWalkers_10 (nI W) (nI H) q.1 q.2) (nI N, σc)).bind (Sum.elim (fun e5 : zG => some ((0 : Int32), e5)) (fun e6 : zG => some ((1 : Int32), e6))) = some ((1 : Int32), sc) ∧ zlp (fun q : Int32 × zG => b_X12_readsWalkers_7 q.1 q.2) ((1 : Int32), σm) = some ((1 : Int32), sm) ∧ N' ≤ 12 ∧ sc.1 8 1 0 = nI N' ∧ sm.1 0 0 15 = nI N' ∧ WD W H N' sc sm ∧ sc.1 4 0 3 = 0 ∧ sc.1 4 0 4 = -1 ∧ FrA (arY 0) σc sc ∧ FrA (arX 0) σm sm) ∨
    ∃ sc sm, (zlp (fun q : Int32 × zG => b_X4_readWalkers_10 (nI W) (nI H) q.1 q.2) (nI N, σc)).bind (Sum.elim (fun e5 : zG => some ((0 : Int32), e5)) (fun e6 : zG => some ((1 : Int32), e6))) = some ((0 : Int32), sc) ∧ zlp (fun q : Int32 × zG => b_X12_readsWalkers_7 q.1 q.2) ((1 : Int32), σm) = some ((0 : Int32), sm) ∧ BdF sc sm ∧ FrA (arY 0) σc sc ∧ FrA (arX 0) σm sm := by
  intro d
  induction d with
  | zero => intro N k σc σm h1 h2; omega
  | succ d ih =>
    intro N k σc σm hd hN h h8 h15 hD hI eW eH
    have q := tkW hE h 0 0 (by decide) (by decide) (by decide)
    have c2 : (σc.1 4 0 8 = (0 : Int32)) = (knd B n k = 0) := q.1
    have m2 : (σm.1 0 0 18 = (0 : Int32)) = (knd B n k = 0) := q.2
    have v4 : nI N ≤ (400 : Int32) := nI_le (b := 400) (by omega) (by decide)
    by_cases a : knd B n k = 0
    · left
      have hc : (fun q : Int32 × zG => b_X4_readWalkers_10 (nI W) (nI H) q.1 q.2) (nI N, σc) = some (Sum.inr (Sum.inr σc)) := by
        show b_X4_readWalkers_10 (nI W) (nI H) (nI N) σc = _
        unfold b_X4_readWalkers_10
        simp only [c2]
        rw [if_pos v4, if_pos a]
      have hm : (fun q : Int32 × zG => b_X12_readsWalkers_7 q.1 q.2) ((1 : Int32), σm) = some (Sum.inr ((1 : Int32), σm)) := by
        show b_X12_readsWalkers_7 (1 : Int32) σm = _
        unfold b_X12_readsWalkers_7
        simp only [m2]
        rw [if_neg (by decide), if_pos a]
      rw [zlp_done (a := (nI N, σc)) hc, zlp_done (a := ((1 : Int32), σm)) hm]
      exact ⟨N, σc, σm, rfl, rfl, hN, h8, h15, hD, h.2.2.1, h.2.2.2, FrA.refl _ _, FrA.refl _ _⟩
    · rcases ws_walker hE h hN h8 h15 hD hI eW eH with ⟨k', s1, t1, a1, b1, l12, h1, x8, x15, xD, f1, g1⟩ | ⟨s1, t1, a1, b1, bd, f1, g1⟩
      · have hc : (fun q : Int32 × zG => b_X4_readWalkers_10 (nI W) (nI H) q.1 q.2) (nI N, σc) = some (Sum.inl (nI (N + 1), s1)) := by
          show b_X4_readWalkers_10 (nI W) (nI H) (nI N) σc = _
          unfold b_X4_readWalkers_10
          simp only [c2]
          rw [if_pos v4, if_neg a, a1, Option.bind_some, if_neg (show ¬ (1 : Int32) = 0 by decide), nI_1]
        have hm : (fun q : Int32 × zG => b_X12_readsWalkers_7 q.1 q.2) ((1 : Int32), σm) = some (Sum.inl ((1 : Int32), t1)) := by
          show b_X12_readsWalkers_7 (1 : Int32) σm = _
          unfold b_X12_readsWalkers_7
          simp only [m2]
          rw [if_neg (by decide), if_neg a, b1, Option.bind_some]
        rw [zlp_step (a := (nI N, σc)) (a' := (nI (N + 1), s1)) hc, zlp_step (a := ((1 : Int32), σm)) (a' := ((1 : Int32), t1)) hm]
        have e1 : t1.1 1 0 = σm.1 1 0 := funext fun k => g1.1 1 0 k rfl
        rcases ih (N + 1) k' s1 t1 (by omega) (by omega) h1 x8 x15 xD (by rw [e1]; exact hI) (by rw [e1]; exact eW) (by rw [e1]; exact eH) with ⟨N', x, y, r1, r2, r3, r4, r5, r6, r7, r8, r9, r10⟩ | ⟨x, y, r1, r2, r3, r9, r10⟩
        · exact Or.inl ⟨N', x, y, r1, r2, r3, r4, r5, r6, r7, r8, (yY f1).trans r9, (xX g1).trans r10⟩
        · exact Or.inr ⟨x, y, r1, r2, r3, (yY f1).trans r9, (xX g1).trans r10⟩
      · right
        have hc : (fun q : Int32 × zG => b_X4_readWalkers_10 (nI W) (nI H) q.1 q.2) (nI N, σc) = some (Sum.inr (Sum.inl s1)) := by
          show b_X4_readWalkers_10 (nI W) (nI H) (nI N) σc = _
          unfold b_X4_readWalkers_10
          simp only [c2]
          rw [if_pos v4, if_neg a, a1, Option.bind_some, if_pos rfl]
        have hm : (fun q : Int32 × zG => b_X12_readsWalkers_7 q.1 q.2) ((1 : Int32), σm) = some (Sum.inl ((0 : Int32), t1)) := by
          show b_X12_readsWalkers_7 (1 : Int32) σm = _
          unfold b_X12_readsWalkers_7
          simp only [m2]
          rw [if_neg (by decide), if_neg a, b1, Option.bind_some]
        have hm2 : (fun q : Int32 × zG => b_X12_readsWalkers_7 q.1 q.2) ((0 : Int32), t1) = some (Sum.inr ((0 : Int32), t1)) := by
          show b_X12_readsWalkers_7 (0 : Int32) t1 = _
          unfold b_X12_readsWalkers_7
          rw [if_pos rfl]
        rw [zlp_done (a := (nI N, σc)) hc, zlp_step (a := ((1 : Int32), σm)) (a' := ((0 : Int32), t1)) hm, zlp_done (a := ((0 : Int32), t1)) hm2]
        exact ⟨s1, t1, rfl, rfl, bd, yY f1, xX g1⟩
theorem ws_walkers (hE : EvT B n T) (hc : CS B n T 0 σc) (hm : MS B n 0 0 σm) (h3 : σc.1 4 0 3 = 0) (h4 : σc.1 4 0 4 = -1) (hI : Inv (σm.1 1 0)) (eW : aW (σm.1 1 0) = W) (eH : aH (σm.1 1 0) = H) :
    (∃ N sc sm, f_X4_readWalkers (nI W) (nI H) σc = some (1, sc) ∧ f_X12_readsWalkers σm = some (1, sm) ∧ N ≤ 12 ∧ sc.1 8 1 0 = nI N ∧ sm.1 0 0 15 = nI N ∧ WD W H N sc sm ∧ sc.1 4 0 3 = 0 ∧ sc.1 4 0 4 = -1 ∧ FrA (arY 0) σc sc ∧ FrA (arX 0) σm sm) ∨
    ∃ sc sm, f_X4_readWalkers (nI W) (nI H) σc = some (0, sc) ∧ f_X12_readsWalkers σm = some (0, sm) ∧ BdF sc sm ∧ FrA (arY 0) σc sc ∧ FrA (arX 0) σm sm := by
  have h : WQ B n T 0 σc σm := ⟨hc, hm, h3, h4⟩
  have h' := (h.wc (f := 8) (i := 1) (j := 0) 0 rfl (by decide)).wm (f := 0) (i := 0) (j := 15) 0 rfl
  have F0 : FrA (arY 0) σc (zwI σc 8 1 0 0) := fra_w rfl
  have G0 : FrA (arX 0) σm (zwI σm 0 0 15 0) := fra_w rfl
  have e1 : (zwI σm 0 0 15 0).1 1 0 = σm.1 1 0 := funext fun k => G0.1 1 0 k rfl
  unfold f_X4_readWalkers f_X12_readsWalkers
  simp only [zb]
  rcases ws_walkersL (W := W) (H := H) hE 13 0 0 _ _ rfl (by decide) h' (by rw [zw_at, if_pos ⟨rfl, rfl, rfl⟩]; rfl) (by rw [zw_at, if_pos ⟨rfl, rfl, rfl⟩]; rfl) (fun i hi => absurd hi (Nat.not_lt_zero i)) (by rw [e1]; exact hI) (by rw [e1]; exact eW) (by rw [e1]; exact eH) with ⟨N', x, y, r1, r2, r3, r4, r5, r6, r7, r8, r9, r10⟩ | ⟨x, y, r1, r2, r3, r9, r10⟩
  · left
    refine ⟨N', x, y, r1, ?_, r3, r4, r5, r6, r7, r8, F0.trans r9, G0.trans r10⟩
    rw [r2]
    rfl
  · right
    refine ⟨x, y, r1, ?_, r3, F0.trans r9, G0.trans r10⟩
    rw [r2]
    rfl
end PURE
