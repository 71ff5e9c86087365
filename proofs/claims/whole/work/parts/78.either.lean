/-! PURE LAYER: tests joined by and, or -/
section PURE
variable {σ σ' σc σm sc sm : zG} {B : Nat → Nat} {n T k r kk p : Nat} {L M : List (Nat × Nat)}
noncomputable def eT (tM : zG → Option (Int32 × zG)) (σ : zG) : Option (Int32 × zG) := (zlp (fun q : zG => b_X12_every_9 tM q) σ).bind (Sum.elim (fun e6 : zG => some ((0 : Int32), e6)) (fun e7 : zG => some ((1 : Int32), e7)))
noncomputable def aT (tM : zG → Option (Int32 × zG)) (σ : zG) : Option (Int32 × zG) := (zlp (fun q : zG => b_X12_any_9 (f_X12_every tM) q) σ).bind (Sum.elim (fun e6 : zG => some ((0 : Int32), e6)) (fun e7 : zG => some ((1 : Int32), e7)))
noncomputable def mF (tM : zG → Option (Int32 × zG)) (ow : Bool) (σ : zG) : Option (Int32 × zG) := (eT tM σ).bind (fun q => if q.1 = 0 then some ((0 : Int32), q.2) else (if ow then f_X12_lay (nI 32) 0 q.2 else some q.2).bind (aT tM))
noncomputable def mE (tM : zG → Option (Int32 × zG)) (ow an : Bool) (σ : zG) : Option (Int32 × zG) := (tM σ).bind (fun q => if q.1 = 0 then some ((0 : Int32), q.2) else (if an then f_X12_lay (nI 31) 0 q.2 else some q.2).bind (mF tM ow))
theorem eT_no {tM : zG → Option (Int32 × zG)} (h : ¬ σ.1 0 0 18 = (5 : Int32)) : eT tM σ = some (1, σ) := by
  unfold eT
  rw [zlp_done (a := σ) (b := Sum.inr σ)]
  · rfl
  · show b_X12_every_9 tM σ = _
    unfold b_X12_every_9
    rw [if_neg h]
theorem aT_no {tM : zG → Option (Int32 × zG)} (h : ¬ σ.1 0 0 18 = (4 : Int32)) : aT tM σ = some (1, σ) := by
  unfold aT
  rw [zlp_done (a := σ) (b := Sum.inr σ)]
  · rfl
  · show b_X12_any_9 (f_X12_every tM) σ = _
    unfold b_X12_any_9
    rw [if_neg h]
theorem mF_and {tM : zG → Option (Int32 × zG)} {ow : Bool} (h : σ.1 0 0 18 = (5 : Int32)) : mF tM ow σ = (f_X12_next0 σ).bind (mE tM ow true) := by
  have e0 : eT tM σ = (b_X12_every_9 tM σ).bind (fun x => (Sum.elim (zlp (fun q : zG => b_X12_every_9 tM q)) some x).bind (Sum.elim (fun e6 : zG => some ((0 : Int32), e6)) (fun e7 : zG => some ((1 : Int32), e7)))) := by
    unfold eT
    rw [zlp_unf, Option.bind_assoc]
  unfold mF
  rw [e0]
  unfold b_X12_every_9
  rw [if_pos h, Option.bind_assoc, Option.bind_assoc]
  refine congrArg _ (funext fun q3 => ?_)
  unfold mE
  rw [Option.bind_assoc]
  refine congrArg _ (funext fun q4 => ?_)
  by_cases a : q4.1 = 0
  · rw [if_pos a, if_pos a]; rfl
  · rw [if_neg a, if_neg a, Option.bind_assoc]
    rfl
theorem aT_or {tM : zG → Option (Int32 × zG)} (h : σ.1 0 0 18 = (4 : Int32)) : aT tM σ = (f_X12_next0 σ).bind (mE tM true false) := by
  have e0 : aT tM σ = (b_X12_any_9 (f_X12_every tM) σ).bind (fun x => (Sum.elim (zlp (fun q : zG => b_X12_any_9 (f_X12_every tM) q)) some x).bind (Sum.elim (fun e6 : zG => some ((0 : Int32), e6)) (fun e7 : zG => some ((1 : Int32), e7)))) := by
    unfold aT
    rw [zlp_unf, Option.bind_assoc]
  rw [e0]
  unfold b_X12_any_9
  rw [if_pos h, Option.bind_assoc]
  refine congrArg _ (funext fun q3 => ?_)
  unfold mE f_X12_every
  rw [Option.bind_assoc, Option.bind_assoc]
  refine congrArg _ (funext fun q1 => ?_)
  by_cases a : q1.1 = 0
  · rw [if_pos a, if_pos a]; rfl
  · rw [if_neg a, if_neg a]
    show (eT tM q1.2).bind _ = (mF tM true q1.2)
    unfold mF
    refine congrArg _ (funext fun q4 => ?_)
    by_cases b : q4.1 = 0
    · rw [if_pos b, if_pos b]; rfl
    · rw [if_neg b, if_neg b]
      show ((f_X12_lay (nI 32) 0 q4.2).bind _).bind _ = (f_X12_lay (nI 32) 0 q4.2).bind _
      rw [Option.bind_assoc]
      rfl
theorem any_mE (tM : zG → Option (Int32 × zG)) (σ : zG) : f_X12_any (f_X12_every tM) σ = mE tM false false σ := by
  unfold f_X12_any f_X12_every mE
  rw [Option.bind_assoc]
  refine congrArg _ (funext fun q1 => ?_)
  by_cases a : q1.1 = 0
  · rw [if_pos a, if_pos a]; rfl
  · rw [if_neg a, if_neg a]
    rfl
noncomputable def cE (tC : Int32 → zG → Option (Int32 × zG)) (o ow bf i : Int32) (σ : zG) : Option (Int32 × zG) := (zlp (fun q : Int32 × Int32 × Int32 × zG => b_X4_readEither_8 tC o q.1 q.2.1 q.2.2.1 q.2.2.2) (ow, bf, i, σ)).bind (Sum.elim (fun e23 : zG => some ((0 : Int32), e23)) (Sum.elim (fun e24 : zG => some ((1 : Int32), e24)) (fun e25 : zG => some ((0 : Int32), e25))))
theorem e_step {tC : Int32 → zG → Option (Int32 × zG)} {o ow bf i ow' bf' i' : Int32} (h : b_X4_readEither_8 tC o ow bf i σ = some (Sum.inl (ow', bf', i', σ'))) : cE tC o ow bf i σ = cE tC o ow' bf' i' σ' := by
  unfold cE
  rw [zlp_step (a := (ow, bf, i, σ)) (a' := (ow', bf', i', σ')) h]
def TstG (p : Nat) (B : Nat → Nat) (n T kk k : Nat) (L : List (Nat × Nat)) (h o : Nat) (sc sm : zG) : Prop := ∃ k' M', LQ B n T kk k' (L ++ M') sc sm ∧ (L ++ M').length + p ≤ k' ∧ k ≤ k' ∧ Ty2 M' h [true] ∧ sm.1 0 0 24 = nI o
def Bn (b : Bool) : Nat := if b then 1 else 0
def bfc (an : Bool) : Int32 := if an then 112 else 111
def trs (m : Nat) : List Bool := List.replicate m true
/-- the test itself, told of -/
def HT (B : Nat → Nat) (n T kk o h : Nat) (tC : Int32 → zG → Option (Int32 × zG)) (tM : zG → Option (Int32 × zG)) : Prop := ∀ (p k : Nat) (L : List (Nat × Nat)) (σc σm : zG), LQ B n T kk k L σc σm → L.length + p ≤ k → σm.1 0 0 24 = nI o → RdT (tC (nI o) σc) (tM σm) σc σm (TstG p B n T kk k L h o)
theorem ls_eith {o h : Nat} {tC : Int32 → zG → Option (Int32 × zG)} {tM : zG → Option (Int32 × zG)} (hE : EvT B n T) (hkk : kk < 2) (hT : HT B n T kk o h tC tM) : ∀ (d k i : Nat) (M : List (Nat × Nat)) (ow an : Bool) (σc σm : zG), T - k ≤ d → i ≤ k → LQ B n T kk k (L ++ M) σc σm → σm.1 0 0 24 = nI o → (L ++ M).length + (Bn ow + Bn an) + p ≤ k → Ty2 M (h + 2) (trs (Bn ow + Bn an)) → RdT (cE tC (nI o) (zt ow) (bfc an) (nI i) σc) (mE tM ow an σm) σc σm (TstG p B n T kk k L (h + 2) o) := by
  intro d
  induction d using Nat.strongRecOn with
  | ind d ih =>
    intro k i M ow an σc σm hd hi hq ho hl hM
    obtain ⟨hk, hT4⟩ := ls_kT hE hq
    have b1 : Bn ow ≤ 1 := by cases ow <;> decide
    have b2 : Bn an ≤ 1 := by cases an <;> decide
    have i4 : nI i ≤ 400 := nI_le (b := 400) (by omega) (by decide)
    obtain ⟨b, s1, t1, u1, u2, u3, u4, u5, u6⟩ := hT (p + (Bn ow + Bn an)) k (L ++ M) σc σm hq (by omega) ho
    have hbody : b_X4_readEither_8 tC (nI o) (zt ow) (bfc an) (nI i) σc = if zt b = 0 then some (Sum.inr (Sum.inl s1)) else if an then (f_X3_add 2 (112 : Int32) (0 : Int32) s1).bind (fun q22 => j_X4_readEither_42_8 (zt ow) (nI i) q22) else j_X4_readEither_42_8 (zt ow) (nI i) s1 := by
      unfold b_X4_readEither_8
      rw [if_pos i4, u1, Option.bind_some]
      cases an <;> rfl
    cases b with
    | false =>
      rw [if_pos (show zt false = 0 from rfl)] at hbody
      refine ⟨false, s1, t1, ?_, ?_, u3, u4, fun z => Bool.noConfusion z, u6⟩
      · unfold cE
        rw [zlp_done (a := (zt ow, bfc an, nI i, σc)) hbody]
        rfl
      · unfold mE
        rw [u2]
        rfl
    | true =>
      obtain ⟨k1, M1, v1, v2, v3, v4, v5⟩ := u5 rfl
      rw [if_neg (show ¬ zt true = 0 by decide)] at hbody
      obtain ⟨hk1, -⟩ := ls_kT hE v1
      have hM1 : Ty2 (M ++ M1) (h + 2) (true :: trs (Bn ow + Bn an)) := ty_seq hM v4 (by unfold trs; rw [List.length_replicate]; omega)
      rw [List.append_assoc] at v1 v2
      -- behind an and
      have hand : ∃ s2 t2 M2, (if an then (f_X3_add 2 (112 : Int32) (0 : Int32) s1) else some s1) = some s2 ∧ (if an then f_X12_lay (nI 31) 0 t1 else some t1) = some t2 ∧ LQ B n T kk k1 (L ++ M2) s2 t2 ∧ (L ++ M2).length + Bn ow + p ≤ k1 ∧ Ty2 M2 (h + 2) (true :: trs (Bn ow)) ∧ FrA arC s1 s2 ∧ FrA arM t1 t2 ∧ t2.1 0 0 24 = nI o := by
        cases an with
        | false =>
          have e0 : Bn ow + Bn false = Bn ow := rfl
          rw [e0] at hM1 v2
          exact ⟨s1, t1, M ++ M1, rfl, rfl, v1, by omega, hM1, FrA.refl _ _, FrA.refl _ _, v5⟩
        | true =>
          have e0 : Bn ow + Bn true = Bn ow + 1 := rfl
          rw [e0] at hM1 v2
          obtain ⟨s2, t2, a2, c2, h2, f2, g2⟩ := ls_ord v1 (by omega) (c := 112) (w := 0) (x := 0) (s := 31) (v := 0) (by decide) (fun _ => rfl) (Or.inr (Or.inr (Or.inr (Or.inr ⟨by decide, by decide, by decide⟩))))
          rw [List.append_assoc] at h2
          have hty : Ty2 (M ++ M1 ++ [(31, 0)]) (h + 2) (true :: trs (Bn ow)) := ty_and (Or.inl rfl) (by
            have e1 : trs (Bn ow + 1) = true :: trs (Bn ow) := rfl
            rw [e1] at hM1
            exact hM1)
          have hll : (L ++ (M ++ M1 ++ [(31, 0)])).length = (L ++ (M ++ M1)).length + 1 := by rw [← List.append_assoc, List.length_append]; rfl
          exact ⟨s2, t2, M ++ M1 ++ [(31, 0)], a2, c2, h2, by omega, hty, f2, g2, by rw [g2.1 0 0 24 rfl]; exact v5⟩
      obtain ⟨s2, t2, M2, x1, x2, x3, x4, x5, x6, x7, x8⟩ := hand
      have hb2 : b_X4_readEither_8 tC (nI o) (zt ow) (bfc an) (nI i) σc = j_X4_readEither_42_8 (zt ow) (nI i) s2 := by
        rw [hbody]
        cases an with
        | false =>
          have x1' : some s1 = some s2 := x1
          rw [Option.some.inj x1']; rfl
        | true =>
          have x1' : f_X3_add 2 (112 : Int32) (0 : Int32) s1 = some s2 := x1
          rw [if_pos rfl, x1']; rfl
      have hm2 : mE tM ow an σm = mF tM ow t2 := by
        unfold mE
        rw [u2, Option.bind_some]
        dsimp only
        rw [if_neg (show ¬ zt true = 0 by decide), x2, Option.bind_some]
      rw [hm2]
      have q112 := tk1 hE hkk x3 112 5 (by decide) (by decide) (by decide)
      have q111 := tk1 hE hkk x3 111 4 (by decide) (by decide) (by decide)
      have c112 : (s2.1 4 0 8 = (112 : Int32)) = (knd B n k1 = 112) := q112.1
      have m112 : (t2.1 0 0 18 = (5 : Int32)) = (knd B n k1 = 112) := q112.2
      have fa2 : FrA arC σc s2 := u3.trans x6
      have ga2 : FrA arQ σm t2 := u4.trans (fQ x7)
      by_cases ka : knd B n k1 = 112
      · have hkT := ev_lt hE hk1 (by omega)
        obtain ⟨s3, t3, a3, c3, h3, f3, g3⟩ := ls_adv hE x3 hkT
        have e3 : j_X4_readEither_42_8 (zt ow) (nI i) s2 = some (Sum.inl (zt ow, bfc true, nI (i + 1), s3)) := by
          unfold j_X4_readEither_42_8 j_X4_readEither_65_8 j_X4_readEither_85_8 j_X4_readEither_98_8 j_X4_readEither_103_8
          have ek : s2.1 4 0 8 = 112 := by rw [c112]; exact ka
          rw [ek, a3, nI_1]
          cases ow <;> rfl
        rw [e3] at hb2
        rw [e_step hb2, mF_and (by rw [m112]; exact ka), c3, Option.bind_some]
        have hih := ih (T - (k1 + 1)) (by omega) (k1 + 1) (i + 1) M2 ow true s3 t3 (Nat.le_refl _) (by omega) h3 (by rw [g3.1 0 0 24 rfl]; exact x8) (by show _ + (Bn ow + 1) + p ≤ _; omega) x5
        obtain ⟨b, x, y, w1, w2, w3, w4, w5, w6⟩ := hih
        exact ⟨b, x, y, w1, w2, (fa2.trans f3).trans w3, (ga2.trans (fQ g3)).trans w4, fun z => by
          obtain ⟨k', M', v1, v2, v3, v4, v5⟩ := w5 z
          exact ⟨k', M', v1, v2, by omega, v4, v5⟩, w6⟩
      · have hor : ∃ s3 t3 M3, j_X4_readEither_42_8 (zt ow) (nI i) s2 = j_X4_readEither_65_8 (zt ow) (nI i) s3 ∧ mF tM ow t2 = aT tM t3 ∧ LQ B n T kk k1 (L ++ M3) s3 t3 ∧ (L ++ M3).length + p ≤ k1 ∧ Ty2 M3 (h + 2) [true] ∧ FrA arC s2 s3 ∧ FrA arM t2 t3 := by
          have n5 : ¬ t2.1 0 0 18 = (5 : Int32) := by rw [m112]; exact ka
          have n112 : ¬ s2.1 4 0 8 = (112 : Int32) := by rw [c112]; exact ka
          cases ow with
          | false =>
            refine ⟨s2, t2, M2, rfl, ?_, x3, by show (L ++ M2).length + p ≤ k1; exact x4, x5, FrA.refl _ _, FrA.refl _ _⟩
            unfold mF
            rw [eT_no n5, Option.bind_some]
            rfl
          | true =>
            have x4' : (L ++ M2).length + 1 + p ≤ k1 := x4
            obtain ⟨s3, t3, a3, c3, h3, f3, g3⟩ := ls_ord x3 (by omega) (c := 111) (w := 0) (x := 0) (s := 32) (v := 0) (by decide) (fun _ => rfl) (Or.inr (Or.inr (Or.inr (Or.inr ⟨by decide, by decide, by decide⟩))))
            rw [List.append_assoc] at h3
            have hll : (L ++ (M2 ++ [(32, 0)])).length = (L ++ M2).length + 1 := by rw [← List.append_assoc, List.length_append]; rfl
            refine ⟨s3, t3, M2 ++ [(32, 0)], ?_, ?_, h3, by omega, ty_and (Or.inr rfl) x5, f3, g3⟩
            · unfold j_X4_readEither_42_8
              rw [if_neg (show ¬ zt true = 0 by decide), if_neg n112, a3]
              rfl
            · unfold mF
              rw [eT_no n5, Option.bind_some]
              dsimp only
              rw [if_neg (by decide), if_pos rfl, c3]
              rfl
        obtain ⟨s3, t3, M3, y1, y2, y3, y4, y5, y6, y7⟩ := hor
        rw [y1] at hb2
        rw [y2]
        have fa3 : FrA arC σc s3 := fa2.trans y6
        have ga3 : FrA arQ σm t3 := ga2.trans (fQ y7)
        have q112 := tk1 hE hkk y3 112 5 (by decide) (by decide) (by decide)
        have q111 := tk1 hE hkk y3 111 4 (by decide) (by decide) (by decide)
        have c112 : (s3.1 4 0 8 = (112 : Int32)) = (knd B n k1 = 112) := q112.1
        have c111 : (s3.1 4 0 8 = (111 : Int32)) = (knd B n k1 = 111) := q111.1
        have m111 : (t3.1 0 0 18 = (4 : Int32)) = (knd B n k1 = 111) := q111.2
        have d3 : t3.1 0 0 24 = nI o := by rw [y7.1 0 0 24 rfl]; exact x8
        by_cases kb : knd B n k1 = 111
        · have hkT := ev_lt hE hk1 (by omega)
          obtain ⟨s4, t4, a4, c4, h4, f4, g4⟩ := ls_adv hE y3 hkT
          have e3 : j_X4_readEither_65_8 (zt ow) (nI i) s3 = some (Sum.inl (zt true, bfc false, nI (i + 1), s4)) := by
            unfold j_X4_readEither_65_8 j_X4_readEither_85_8 j_X4_readEither_98_8 j_X4_readEither_103_8
            have ek : s3.1 4 0 8 = 111 := by rw [c111]; exact kb
            rw [ek, a4, nI_1]
            cases ow <;> rfl
          rw [e3] at hb2
          rw [e_step hb2, aT_or (by rw [m111]; exact kb), c4, Option.bind_some]
          have hih := ih (T - (k1 + 1)) (by omega) (k1 + 1) (i + 1) M3 true false s4 t4 (Nat.le_refl _) (by omega) h4 (by rw [g4.1 0 0 24 rfl]; exact d3) (by show _ + (1 + 0) + p ≤ _; omega) y5
          obtain ⟨b, x, y, w1, w2, w3, w4, w5, w6⟩ := hih
          exact ⟨b, x, y, w1, w2, (fa3.trans f4).trans w3, (ga3.trans (fQ g4)).trans w4, fun z => by
            obtain ⟨k', M', v1, v2, v3, v4, v5⟩ := w5 z
            exact ⟨k', M', v1, v2, by omega, v4, v5⟩, w6⟩
        · have e3 : j_X4_readEither_65_8 (zt ow) (nI i) s3 = some (Sum.inr (Sum.inr (Sum.inl s3))) := by
            unfold j_X4_readEither_65_8
            rw [if_neg (by rw [c112]; exact ka), if_neg (by rw [c111]; exact kb)]
          rw [e3] at hb2
          refine ⟨true, s3, t3, ?_, ?_, fa3, ga3, fun _ => ⟨k1, M3, y3, y4, v3, y5, d3⟩, fun z => Bool.noConfusion z⟩
          · unfold cE
            rw [zlp_done (a := (zt ow, bfc an, nI i, σc)) hb2]
            rfl
          · rw [aT_no (by rw [m111]; exact kb)]
            rfl
end PURE
