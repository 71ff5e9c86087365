/-! PURE LAYER: all parts of a walker's way -/
theorem im_way : ∀ k, k < 122 → ((11 ≤ img 0 k ∧ img 0 k ≤ 15) ↔ (103 ≤ k ∧ k ≤ 107)) ∧ (103 ≤ k ∧ k ≤ 107 → img 0 k = k - 92) := by decide +kernel
section PURE
variable {σ σ' σc σm sc sm : zG} {B : Nat → Nat} {n T k i0 : Nat} {P : List (Nat × Nat)} {W H w c0 cm : Nat} {K : List Nat}
theorem WQ.fr (h : WQ B n T k σc σm) (hc : FrA tsC σc sc) (e4 : sc.1 4 = σc.1 4) (hm : FrA tsM σm sm) : WQ B n T k sc sm := by
  obtain ⟨a, b, c, d⟩ := h
  exact ⟨a.fr hc, b.fr hm, by rw [e4]; exact c, by rw [e4]; exact d⟩
theorem MR.fr (h : MR W H w c0 cm K σ) (hf : FrA arV σ σ') : MR W H w c0 cm K σ' := by
  obtain ⟨a, b, c, d⟩ := h
  exact ⟨by rw [hf.1 0 0 15 rfl]; exact a, fun m hm => by rw [hf.1 7 0 _ rfl]; exact b m hm, by rw [hf.1 0 0 27 rfl]; exact c, fun z => by rw [hf.1 0 0 28 rfl]; exact d z⟩
theorem WP.fr (h : WP σ 1 i0 P) (hf : FrA arW σ σ') : WP σ' 1 i0 P := by
  obtain ⟨a, b, c⟩ := h
  exact ⟨by rw [hf.1 18 1 _ rfl]; exact a, b, fun j hj => by rw [hf.1 19 1 _ rfl, hf.1 20 1 _ rfl]; exact c j hj⟩
/-- a way, read on both sides -/
def WyG (B : Nat → Nat) (n T W H w c0 cm i0 : Nat) (sc sm : zG) : Prop := ∃ k' P, WQ B n T k' sc sm ∧ WP sc 1 i0 P ∧ okP P ∧ MR W H w c0 cm (ways P) sm
theorem arU_1 (h : FrA (arU w) σ σ') : σ'.1 1 0 = σ.1 1 0 := funext fun k => h.1 1 0 k rfl
theorem ws_wayL (hE : EvT B n T) (hi : i0 < 12) (hw : w < 12) (hcm : cm ≤ 500) (hsp : spW W H c0) : ∀ (d : Nat) (P : List (Nat × Nat)) (k : Nat) (σc σm : zG), P.length + d = 8 → WQ B n T k σc σm → WP σc 1 i0 P → okP P → MR W H w c0 cm (ways P) σm → Inv (σm.1 1 0) → aW (σm.1 1 0) = W → aH (σm.1 1 0) = H →
    (∃ sc sm, (zlp (fun q : Int32 × zG => b_X4_readWay_2 (nI i0) q.1 q.2) (nI P.length, σc)).bind (Sum.elim (fun e6 : zG => (f_X4_fail (3 : Int32) e6).bind (fun q7 => zg (zbl q7.1) (some (q7.1, q7.2)))) (Sum.elim (fun e8 : zG => some ((0 : Int32), e8)) (fun e9 : zG => some ((1 : Int32), e9)))) = some ((1 : Int32), sc) ∧
      (zlp (fun q : Int32 × zG => b_X12_someParts_2 q.1 q.2) (nI P.length, σm)).bind (Sum.elim (fun e4 : zG => zb (f_X12_bad (3 : Int32) e4) (fun q5 => zg (zbl q5.1) (some (q5.1, q5.2)))) (Sum.elim (fun e6 : zG => some ((0 : Int32), e6)) (fun e7 : zG => (f_X12_need (159 : Int32) e7).bind (fun q8 => zg (zbl q8.1) (some (q8.1, q8.2)))))) = (f_X12_need (159 : Int32) sm).bind (fun q8 => zg (zbl q8.1) (some (q8.1, q8.2))) ∧
      FrA (arI i0) σc sc ∧ FrA (arU w) σm sm ∧ WyG B n T W H w c0 cm i0 sc sm) ∨
    ∃ sc sm, (zlp (fun q : Int32 × zG => b_X4_readWay_2 (nI i0) q.1 q.2) (nI P.length, σc)).bind (Sum.elim (fun e6 : zG => (f_X4_fail (3 : Int32) e6).bind (fun q7 => zg (zbl q7.1) (some (q7.1, q7.2)))) (Sum.elim (fun e8 : zG => some ((0 : Int32), e8)) (fun e9 : zG => some ((1 : Int32), e9)))) = some ((0 : Int32), sc) ∧
      (zlp (fun q : Int32 × zG => b_X12_someParts_2 q.1 q.2) (nI P.length, σm)).bind (Sum.elim (fun e4 : zG => zb (f_X12_bad (3 : Int32) e4) (fun q5 => zg (zbl q5.1) (some (q5.1, q5.2)))) (Sum.elim (fun e6 : zG => some ((0 : Int32), e6)) (fun e7 : zG => (f_X12_need (159 : Int32) e7).bind (fun q8 => zg (zbl q8.1) (some (q8.1, q8.2)))))) = some ((0 : Int32), sm) ∧
      BdF sc sm ∧ FrA (arI i0) σc sc ∧ FrA (arU w) σm sm := by
  intro d
  induction d with
  | zero =>
    intro P k σc σm hd h hP ok hM hI eW eH
    have hk := h.1.2.2.1
    have hkd := (ev_knd hE hk).1
    have c8 : σc.1 4 0 8 = nI (knd B n k) := h.1.2.2.2.2.1
    have m18 : σm.1 0 0 18 = nI (img 0 (knd B n k)) := h.2.1.2.2.1
    have hl := im_lt 0 (by decide) _ hkd
    have iw := (im_way _ hkd).1
    have e8 : P.length = 8 := by omega
    have q1 : ((103 : Int32) ≤ nI (knd B n k)) = (103 ≤ knd B n k) := nI_leQ (a := 103) (by decide) (by omega)
    have q2 : (nI (knd B n k) ≤ (107 : Int32)) = (knd B n k ≤ 107) := nI_leQ (b := 107) (by omega) (by decide)
    have q3 : f_X12_isIn (nI (img 0 (knd B n k))) 11 15 = zt (decide (11 ≤ img 0 (knd B n k) ∧ img 0 (knd B n k) ≤ 15)) := by
      rw [isIn_zt]
      refine congrArg zt (decide_eq_decide.mpr ?_)
      rw [show ((11 : Int32) ≤ nI (img 0 (knd B n k))) = (11 ≤ img 0 (knd B n k)) from nI_leQ (a := 11) (by decide) (by omega), show (nI (img 0 (knd B n k)) ≤ (15 : Int32)) = (img 0 (knd B n k) ≤ 15) from nI_leQ (b := 15) (by omega) (by decide)]
    by_cases a : 103 ≤ knd B n k ∧ knd B n k ≤ 107
    · right
      obtain ⟨s1, t1, a1, a2, a3, a4, a5⟩ := ws_fail hE h 3
      have hc : (fun q : Int32 × zG => b_X4_readWay_2 (nI i0) q.1 q.2) (nI P.length, σc) = some (Sum.inr (Sum.inl σc)) := by
        show b_X4_readWay_2 (nI i0) (nI P.length) σc = _
        unfold b_X4_readWay_2
        rw [c8, e8, if_pos (show nI 8 ≤ (8 : Int32) by decide), if_pos (q1.mpr a.1), if_pos (q2.mpr a.2), if_pos (show nI 8 = (8 : Int32) from rfl)]
      have hm : (fun q : Int32 × zG => b_X12_someParts_2 q.1 q.2) (nI P.length, σm) = some (Sum.inr (Sum.inl σm)) := by
        show b_X12_someParts_2 (nI P.length) σm = _
        unfold b_X12_someParts_2
        rw [m18, q3, decide_eq_true (iw.mpr a), if_neg (show ¬ zt true = 0 by decide), e8, if_pos (show nI 8 = (8 : Int32) from rfl)]
      rw [zlp_done (a := (nI P.length, σc)) hc, zlp_done (a := (nI P.length, σm)) hm]
      refine ⟨s1, t1, ?_, ?_, a3, wI a4, vU a5⟩
      · show (f_X4_fail 3 σc).bind _ = _
        rw [a1]; rfl
      · show zb (f_X12_bad 3 σm) _ = _
        rw [a2]; rfl
    · left
      have hc : (fun q : Int32 × zG => b_X4_readWay_2 (nI i0) q.1 q.2) (nI P.length, σc) = some (Sum.inr (Sum.inr (Sum.inr σc))) := by
        show b_X4_readWay_2 (nI i0) (nI P.length) σc = _
        unfold b_X4_readWay_2
        rw [c8, e8, if_pos (show nI 8 ≤ (8 : Int32) by decide)]
        by_cases b : 103 ≤ knd B n k
        · rw [if_pos (q1.mpr b), if_neg (fun z => a ⟨b, q2.mp z⟩)]
        · rw [if_neg (fun z => b (q1.mp z))]
      have hm : (fun q : Int32 × zG => b_X12_someParts_2 q.1 q.2) (nI P.length, σm) = some (Sum.inr (Sum.inr (Sum.inr σm))) := by
        show b_X12_someParts_2 (nI P.length) σm = _
        unfold b_X12_someParts_2
        rw [m18, q3, decide_eq_false (fun z => a (iw.mp z)), if_pos (show zt false = 0 from rfl)]
      rw [zlp_done (a := (nI P.length, σc)) hc, zlp_done (a := (nI P.length, σm)) hm]
      exact ⟨σc, σm, rfl, rfl, FrA.refl _ _, FrA.refl _ _, k, P, h, hP, ok, hM⟩
  | succ d ih =>
    intro P k σc σm hd h hP ok hM hI eW eH
    have hk := h.1.2.2.1
    have hkd := (ev_knd hE hk).1
    have c8 : σc.1 4 0 8 = nI (knd B n k) := h.1.2.2.2.2.1
    have m18 : σm.1 0 0 18 = nI (img 0 (knd B n k)) := h.2.1.2.2.1
    have hl := im_lt 0 (by decide) _ hkd
    have iw := (im_way _ hkd).1
    have q1 : ((103 : Int32) ≤ nI (knd B n k)) = (103 ≤ knd B n k) := nI_leQ (a := 103) (by decide) (by omega)
    have q2 : (nI (knd B n k) ≤ (107 : Int32)) = (knd B n k ≤ 107) := nI_leQ (b := 107) (by omega) (by decide)
    have q3 : f_X12_isIn (nI (img 0 (knd B n k))) 11 15 = zt (decide (11 ≤ img 0 (knd B n k) ∧ img 0 (knd B n k) ≤ 15)) := by
      rw [isIn_zt]
      refine congrArg zt (decide_eq_decide.mpr ?_)
      rw [show ((11 : Int32) ≤ nI (img 0 (knd B n k))) = (11 ≤ img 0 (knd B n k)) from nI_leQ (a := 11) (by decide) (by omega), show (nI (img 0 (knd B n k)) ≤ (15 : Int32)) = (img 0 (knd B n k) ≤ 15) from nI_leQ (b := 15) (by omega) (by decide)]
    have q4 : nI P.length ≤ (8 : Int32) := nI_le (b := 8) (by omega) (by decide)
    have q5 : ¬ nI P.length = (8 : Int32) := fun z => by
      have := (nI_eq (a := P.length) (b := 8) (by omega) (by decide)).mp z
      omega
    by_cases a : 103 ≤ knd B n k ∧ knd B n k ≤ 107
    · have ex := (im_way _ hkd).2 a
      have hkT := ev_lt hE hk (by omega)
      obtain ⟨s1, t1, a1, b1, h1, f1, g1⟩ := ws_adv hE h hkT
      rcases ws_num hE h1 1 60 (by decide) (by decide) with ⟨v, s2, t2, v1, v2, -, a2, b2, e26, h2, f2, g2⟩ | ⟨s2, t2, a2, b2, bd, f2, g2⟩
      · have a2' : f_X4_readNumber (1 : Int32) (60 : Int32) s1 = some (nI v, s2) := a2
        have b2' : f_X12_number (1 : Int32) (60 : Int32) t1 = some (1, t2) := b2
        have fc2 : FrA arW σc s2 := f1.trans f2
        have gm2 : FrA arV σm t2 := (vN g1).trans g2
        obtain ⟨s3, a3, p3, f3, t3c, e3⟩ := c_addPart (i0 := i0) hi (hP.fr fc2) (by omega) (knd B n k) v
        have eM : t2.1 1 0 = σm.1 1 0 := arU_1 (w := w) (vU gm2)
        have lenw := ways_len P (fun x hx => (ok x hx).2.2)
        obtain ⟨t3, b3, p4, g3⟩ := m_partL (σ := t2) (σ0 := σm) (x := knd B n k) (l := v) (by rw [eM]; exact hI) (by rw [eM]; exact eW) (by rw [eM]; exact eH) hw hcm hsp a (by omega) (by rw [m18, ex]) e26 (hM.fr gm2)
        have hc : (fun q : Int32 × zG => b_X4_readWay_2 (nI i0) q.1 q.2) (nI P.length, σc) = some (Sum.inl (nI (P.length + 1), s3)) := by
          show b_X4_readWay_2 (nI i0) (nI P.length) σc = _
          unfold b_X4_readWay_2
          rw [c8, if_pos q4, if_pos (q1.mpr a.1), if_pos (q2.mpr a.2), if_neg q5, a1, Option.bind_some, a2', Option.bind_some, if_neg (show ¬ (nI v = -1) by rw [nI_nm1 (by omega)]; exact id), a3, Option.bind_some, nI_1]
        have hm : (fun q : Int32 × zG => b_X12_someParts_2 q.1 q.2) (nI P.length, σm) = some (Sum.inl (nI (P.length + 1), t3)) := by
          show b_X12_someParts_2 (nI P.length) σm = _
          unfold b_X12_someParts_2 f_X12_aPart
          rw [m18, q3, decide_eq_true (iw.mpr a), if_neg (show ¬ zt true = 0 by decide), if_neg q5, b1, Option.bind_some, b2', Option.bind_some, if_neg (show ¬ (1 : Int32) = 0 by decide), b3, Option.bind_some, Option.bind_some, if_neg (show ¬ (1 : Int32) = 0 by decide), nI_1]
        have eP : (P ++ [(knd B n k, v)]).length = P.length + 1 := by rw [List.length_append]; rfl
        rw [zlp_step (a := (nI P.length, σc)) (a' := (nI (P.length + 1), s3)) hc, zlp_step (a := (nI P.length, σm)) (a' := (nI (P.length + 1), t3)) hm, ← eP]
        have e1 : t3.1 1 0 = σm.1 1 0 := arU_1 (w := w) ((vU gm2).trans (rU g3))
        have r := ih (P ++ [(knd B n k, v)]) (k + 1 + 1) s3 t3 (by omega) (h2.fr t3c e3 (rT g3)) p3 (fun x hx => by
          rcases List.mem_append.mp hx with y | y
          · exact ok x y
          · rw [List.mem_singleton.mp y]; exact ⟨a, v1, v2⟩) (by rw [ways_app]; exact p4) (by rw [e1]; exact hI) (by rw [e1]; exact eW) (by rw [e1]; exact eH)
        rcases r with ⟨x, y, r1, r2, r3, r4, r5⟩ | ⟨x, y, r1, r2, r3, r4, r5⟩
        · exact Or.inl ⟨x, y, r1, r2, ((wI fc2).trans f3).trans r3, ((vU gm2).trans (rU g3)).trans r4, r5⟩
        · exact Or.inr ⟨x, y, r1, r2, r3, ((wI fc2).trans f3).trans r4, ((vU gm2).trans (rU g3)).trans r5⟩
      · right
        have a2' : f_X4_readNumber (1 : Int32) (60 : Int32) s1 = some (-1, s2) := a2
        have b2' : f_X12_number (1 : Int32) (60 : Int32) t1 = some (0, t2) := b2
        have hc : (fun q : Int32 × zG => b_X4_readWay_2 (nI i0) q.1 q.2) (nI P.length, σc) = some (Sum.inr (Sum.inr (Sum.inl s2))) := by
          show b_X4_readWay_2 (nI i0) (nI P.length) σc = _
          unfold b_X4_readWay_2
          rw [c8, if_pos q4, if_pos (q1.mpr a.1), if_pos (q2.mpr a.2), if_neg q5, a1, Option.bind_some, a2', Option.bind_some, if_pos rfl]
        have hm : (fun q : Int32 × zG => b_X12_someParts_2 q.1 q.2) (nI P.length, σm) = some (Sum.inr (Sum.inr (Sum.inl t2))) := by
          show b_X12_someParts_2 (nI P.length) σm = _
          unfold b_X12_someParts_2 f_X12_aPart
          rw [m18, q3, decide_eq_true (iw.mpr a), if_neg (show ¬ zt true = 0 by decide), if_neg q5, b1, Option.bind_some, b2', Option.bind_some, if_pos rfl, Option.bind_some, if_pos rfl]
        rw [zlp_done (a := (nI P.length, σc)) hc, zlp_done (a := (nI P.length, σm)) hm]
        exact ⟨s2, t2, rfl, rfl, bd, wI (f1.trans f2), vU ((vN g1).trans g2)⟩
    · left
      have hc : (fun q : Int32 × zG => b_X4_readWay_2 (nI i0) q.1 q.2) (nI P.length, σc) = some (Sum.inr (Sum.inr (Sum.inr σc))) := by
        show b_X4_readWay_2 (nI i0) (nI P.length) σc = _
        unfold b_X4_readWay_2
        rw [c8, if_pos q4]
        by_cases b : 103 ≤ knd B n k
        · rw [if_pos (q1.mpr b), if_neg (fun z => a ⟨b, q2.mp z⟩)]
        · rw [if_neg (fun z => b (q1.mp z))]
      have hm : (fun q : Int32 × zG => b_X12_someParts_2 q.1 q.2) (nI P.length, σm) = some (Sum.inr (Sum.inr (Sum.inr σm))) := by
        show b_X12_someParts_2 (nI P.length) σm = _
        unfold b_X12_someParts_2
        rw [m18, q3, decide_eq_false (fun z => a (iw.mp z)), if_pos (show zt false = 0 from rfl)]
      rw [zlp_done (a := (nI P.length, σc)) hc, zlp_done (a := (nI P.length, σm)) hm]
      exact ⟨σc, σm, rfl, rfl, FrA.refl _ _, FrA.refl _ _, k, P, h, hP, ok, hM⟩
end PURE
