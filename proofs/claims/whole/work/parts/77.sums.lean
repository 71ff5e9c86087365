/-! PURE LAYER: sums, both sides -/
section PURE
variable {σ σ' σc σm sc sm : zG} {B : Nat → Nat} {n T k r kk p : Nat} {L M : List (Nat × Nat)}
def SumG (p : Nat) (B : Nat → Nat) (n T kk k : Nat) (L : List (Nat × Nat)) (sc sm : zG) : Prop := ∃ k' M', LQ B n T kk k' (L ++ M') sc sm ∧ (L ++ M').length + p ≤ k' ∧ k ≤ k' ∧ Ty2 M' 3 [false]
def Pf (p how k : Nat) (fs : List Bool) (N : List (Nat × Nat)) : Prop := (how = 0 ∧ fs = [false] ∧ N.length + p ≤ k) ∨ (how ≠ 0 ∧ fs = [false, false] ∧ N.length + p + 1 ≤ k)
theorem tk1 (hE : EvT B n T) (hkk : kk < 2) (h : LQ B n T kk k L σc σm) (c t : Nat) (hp : (c, t) ∈ tblL) (hc : c < 256) (ht : t < 256) : (σc.1 4 0 8 = nI c) = (knd B n k = c) ∧ (σm.1 0 0 18 = nI t) = (knd B n k = c) :=
  ⟨tkc hE h.1 c (by omega), tkm hE h.1.2.2.1 h.2.1 (by omega) (fun k hk => im_L kk hkk k hk (c, t) hp)⟩
theorem ty_pend {wt how : Nat} {fs : List Bool} {N : List (Nat × Nat)} (hw : Pw wt how) (hf : Pf p how k fs N) (hM : Ty2 M 3 fs) : Ty2 (pnd how M) 3 [false] := by
  unfold pnd
  rcases hf with ⟨rfl, rfl, -⟩ | ⟨h, rfl, -⟩
  · rw [if_pos rfl]; exact hM
  · rw [if_neg h]
    refine ty_bin ?_ hM
    unfold Pw at hw
    omega
theorem len_pend {how : Nat} {fs : List Bool} (hf : Pf p how k fs (L ++ M)) : (L ++ pnd how M).length + p ≤ k := by
  unfold pnd
  rcases hf with ⟨rfl, -, h⟩ | ⟨h, -, h2⟩
  · rw [if_pos rfl]; exact h
  · rw [if_neg h, ← List.append_assoc, List.length_append]
    show (L ++ M).length + 1 + p ≤ k
    omega
theorem ls_kT (hE : EvT B n T) (h : LQ B n T kk k L σc σm) : k ≤ T ∧ T ≤ 400 := ⟨h.1.2.2.1, Nat.le_trans hE.1 hE.2.1⟩
theorem ls_sumE (hE : EvT B n T) (hkk : kk < 2) {i wt how : Nat} {fs : List Bool} (hi : i ≤ k) (h : LQ B n T kk k (L ++ M) σc σm) (hw : Pw wt how) (hf : Pf p how k fs (L ++ M)) (hM : Ty2 M 3 fs) (hx : knd B n k ≠ 43 ∧ knd B n k ≠ 45 ∧ knd B n k ≠ 42 ∧ knd B n k ≠ 47) : Rd (cC (nI wt) (nI i) 1 σc) (mC how σm) σc σm (SumG p B n T kk k L) := by
  obtain ⟨hk, hT⟩ := ls_kT hE h
  have q1 := tk1 hE hkk h 43 143 (by decide) (by decide) (by decide)
  have q2 := tk1 hE hkk h 45 145 (by decide) (by decide) (by decide)
  have q3 := tk1 hE hkk h 42 142 (by decide) (by decide) (by decide)
  have q4 := tk1 hE hkk h 47 147 (by decide) (by decide) (by decide)
  have c1 : ¬ σc.1 4 0 8 = (43 : Int32) := fun z => hx.1 (by rw [← q1.1]; exact z)
  have c2 : ¬ σc.1 4 0 8 = (45 : Int32) := fun z => hx.2.1 (by rw [← q2.1]; exact z)
  have c3 : ¬ σc.1 4 0 8 = (42 : Int32) := fun z => hx.2.2.1 (by rw [← q3.1]; exact z)
  have c4 : ¬ σc.1 4 0 8 = (47 : Int32) := fun z => hx.2.2.2 (by rw [← q4.1]; exact z)
  have d1 : ¬ σm.1 0 0 18 = (143 : Int32) := fun z => hx.1 (by rw [← q1.2]; exact z)
  have d2 : ¬ σm.1 0 0 18 = (145 : Int32) := fun z => hx.2.1 (by rw [← q2.2]; exact z)
  have d3 : ¬ σm.1 0 0 18 = (142 : Int32) := fun z => hx.2.2.1 (by rw [← q3.2]; exact z)
  have d4 : ¬ σm.1 0 0 18 = (147 : Int32) := fun z => hx.2.2.2 (by rw [← q4.2]; exact z)
  have hl : how ≠ 0 → (L ++ M).length < 400 := fun z => by
    rcases hf with ⟨y, -⟩ | ⟨-, -, y⟩
    · exact absurd y z
    · omega
  obtain ⟨a, b, c, d, e, f, g⟩ := h
  obtain ⟨s, s1, s2, s3⟩ := c_pend hw c hl
  obtain ⟨t, t1, t2, t3⟩ := m_pend hw d hl
  refine ⟨true, s, t, ?_, ?_, fO s3, fL t3, fun _ => ⟨k, pnd how M, ⟨a.fr (oT s3), b.fr (lT t3), s2, t2, ok_pend hw e, by rw [s3.1 4 0 5 rfl]; exact f, by rw [s3.1 4 0 6 rfl, s3.1 4 0 3 rfl, s3.1 4 0 4 rfl]; exact g⟩, len_pend hf, Nat.le_refl k, ty_pend hw hf hM⟩, fun z => Bool.noConfusion z⟩
  · unfold cC
    have e0 : zlp (fun q : Int32 × Int32 × Int32 × zG => b_X4_readSum_9 q.1 q.2.1 q.2.2.1 q.2.2.2) (nI wt, 1, nI i, σc) = some (nI wt, 1, σc) := zlp_done (by
      show b_X4_readSum_9 (nI wt) 1 (nI i) σc = _
      unfold b_X4_readSum_9 f_X4_isReckoning
      rw [if_pos (show nI i ≤ 400 from nI_le (b := 400) (by omega) (by decide)), if_neg (by decide), if_neg c1, if_neg c2, if_neg c3, if_neg c4, if_pos rfl])
    rw [e0, Option.bind_some]
    dsimp only
    rw [s1]
    rfl
  · have e0 : pT σm = some (1, σm) := by
      unfold pT
      rw [zlp_done (a := σm) (b := Sum.inr (Sum.inr (Sum.inr σm)))]
      · rfl
      · show b_X12_product_9 σm = _
        unfold b_X12_product_9
        rw [if_neg d3, if_neg d4]
    unfold mC
    rw [e0, Option.bind_some]
    dsimp only
    rw [if_neg (by decide), t1, Option.bind_some]
    unfold sT
    rw [zlp_done (a := t) (b := Sum.inr t)]
    · rfl
    · show b_X12_sumUp_9 t = _
      unfold b_X12_sumUp_9
      rw [t3.1 0 0 18 rfl, if_neg d1, if_neg d2]
theorem ls_sumL (hE : EvT B n T) (hkk : kk < 2) : ∀ (d k i : Nat) (M : List (Nat × Nat)) (wt how : Nat) (fs : List Bool) (σc σm : zG), T - k ≤ d → i ≤ k → LQ B n T kk k (L ++ M) σc σm → Pw wt how → Pf p how k fs (L ++ M) → Ty2 M 3 fs → Rd (cC (nI wt) (nI i) 1 σc) (mC how σm) σc σm (SumG p B n T kk k L) := by
  intro d
  induction d with
  | zero =>
    intro k i M wt how fs σc σm hd hi h hw hf hM
    have hk := (ls_kT hE h).1
    have e0 : knd B n k = 0 := by
      by_cases c : knd B n k = 0
      · exact c
      · have := ev_lt hE hk c; omega
    exact ls_sumE hE hkk hi h hw hf hM (by rw [e0]; decide)
  | succ d ih =>
    intro k i M wt how fs σc σm hd hi h hw hf hM
    obtain ⟨hk, hT⟩ := ls_kT hE h
    by_cases hx : knd B n k ≠ 43 ∧ knd B n k ≠ 45 ∧ knd B n k ≠ 42 ∧ knd B n k ≠ 47
    · exact ls_sumE hE hkk hi h hw hf hM hx
    have hkT : k < T := ev_lt hE hk (fun z => hx (by rw [z]; decide))
    have hl0 : (L ++ M).length ≤ k := by
      rcases hf with ⟨-, -, y⟩ | ⟨-, -, y⟩ <;> omega
    have hl : how ≠ 0 → (L ++ M).length < 400 := fun z => by omega
    have i4 : nI i ≤ 400 := nI_le (b := 400) (by omega) (by decide)
    have c0 : (σc.1 4 0 8) = nI (knd B n k) := h.1.2.2.2.2.1
    have hK := (ev_knd hE hk).1
    have hrk : ¬ f_X4_isReckoning (nI (knd B n k)) = 0 := by
      have : knd B n k = 43 ∨ knd B n k = 45 ∨ knd B n k = 42 ∨ knd B n k = 47 := by omega
      rcases this with z | z | z | z <;> rw [z] <;> decide
    have hbody : b_X4_readSum_9 (nI wt) 1 (nI i) σc = (f_X4_advance σc).bind (fun q6 => if nI (knd B n k) = (47 : Int32) then (f_X4_readNumber (1 : Int32) (9999 : Int32) q6).bind (fun q11 => (f_X3_add 2 (47 : Int32) q11.1 q11.2).bind (fun q12 => if q11.1 = (-1 : Int32) then some (Sum.inl (nI wt, (0 : Int32), (nI i + 1), q12)) else some (Sum.inl (nI wt, (1 : Int32), (nI i + 1), q12)))) else if nI (knd B n k) = (42 : Int32) then (f_X4_readUnit q6).bind (fun q9 => (f_X3_add 2 (42 : Int32) (0 : Int32) q9.2).bind (fun q10 => some (Sum.inl (nI wt, q9.1, (nI i + 1), q10)))) else (f_X4_addWaiting (nI wt) q6).bind (fun q7 => (f_X4_readUnit q7).bind (fun q8 => some (Sum.inl (nI (knd B n k), q8.1, (nI i + 1), q8.2))))) := by
      unfold b_X4_readSum_9
      rw [if_pos i4, if_neg (by decide), c0, if_neg hrk]
    have e47 : (nI (knd B n k) = (47 : Int32)) = (knd B n k = 47) := nI_eqI (b := 47) (by omega) (by decide)
    have e42 : (nI (knd B n k) = (42 : Int32)) = (knd B n k = 42) := nI_eqI (b := 42) (by omega) (by decide)
    simp only [e47, e42] at hbody
    have q3 := (tk1 hE hkk h 42 142 (by decide) (by decide) (by decide)).2
    have q4 := (tk1 hE hkk h 47 147 (by decide) (by decide) (by decide)).2
    have q3' : (σm.1 0 0 18 = (142 : Int32)) = (knd B n k = 42) := q3
    have q4' : (σm.1 0 0 18 = (147 : Int32)) = (knd B n k = 47) := q4
    have hprod : b_X12_product_9 σm = if knd B n k = 42 then j_X12_product_44_9 0 σm else if knd B n k = 47 then j_X12_product_44_9 1 σm else some (Sum.inr (Sum.inr (Sum.inr (Sum.inr σm)))) := by
      unfold b_X12_product_9 j_X12_product_29_9
      simp only [q3', q4']
      by_cases a : knd B n k = 42
      · rw [if_pos a, if_pos a, if_neg (by omega)]
      · rw [if_neg a, if_neg a]
        by_cases b : knd B n k = 47
        · rw [if_pos b, if_pos b, if_pos b]
        · rw [if_neg b, if_neg b]
    obtain ⟨s1, t1, a1, b1, h1, f1, g1⟩ := ls_adv hE h hkT
    have hkT1 := (ls_kT hE h1).1
    by_cases k47 : knd B n k = 47
    · rw [if_neg (by omega), if_pos k47] at hprod
      unfold j_X12_product_44_9 at hprod
      rw [b1, Option.bind_some, if_neg (by decide)] at hprod
      rw [a1, Option.bind_some, if_pos k47] at hbody
      unfold f_X4_readNumber at hbody
      have r2 := tk1 hE hkk h1 2 2 (by decide) (by decide) (by decide)
      have r2c : (s1.1 4 0 8 = (2 : Int32)) = (knd B n (k + 1) = 2) := r2.1
      have r2m : (t1.1 0 0 18 = (2 : Int32)) = (knd B n (k + 1) = 2) := r2.2
      have hN := ev_nbr hE hkT1
      have n9 : s1.1 4 0 9 = nI (nbr B n (k + 1)) := h1.1.2.2.2.2.2
      simp only [r2c] at hbody
      simp only [r2m] at hprod
      have lc : ∃ m, m ≤ 400 ∧ s1.1 10 2 1 = nI m := ⟨_, by omega, h1.2.2.1.1⟩
      -- the fault, both sides
      have bad : ∀ (w : Int32) (s2 t2 : zG), f_X4_fail w s1 = some (0, s2) → f_X12_bad w t1 = (0, t2) → BdF s2 t2 → FrA arF s1 s2 → FrA arB t1 t2 → b_X4_readSum_9 (nI wt) 1 (nI i) σc = (f_X3_add 2 (47 : Int32) (-1) s2).bind (fun q12 => some (Sum.inl (nI wt, (0 : Int32), (nI i + 1), q12))) → pT σm = some (0, t2) → Rd (cC (nI wt) (nI i) 1 σc) (mC how σm) σc σm (SumG p B n T kk k L) := by
        intro w s2 t2 x1 x2 x3 x4 x5 x6 x7
        obtain ⟨m, hm, em⟩ := lc
        obtain ⟨s3, y1, y2, y3⟩ := c_ordx (σ := s2) ⟨m, hm, by rw [x4.1 10 2 1 rfl]; exact em⟩ 47 (-1)
        rw [y1, Option.bind_some] at x6
        obtain ⟨s4, z1, z2, z3⟩ := c_sumX (σ := s3) wt (nI i + 1) y2
        refine ⟨false, s4, t2, ?_, ?_, ((f1.trans (fF x4)).trans (fO y3)).trans (fO z2), g1.trans (fB x5), fun z => Bool.noConfusion z, fun _ => ⟨bd_fr (bd_fr x3 y3) z2, z3⟩⟩
        · rw [c_step x6, z1]; rfl
        · unfold mC
          rw [x7]
          rfl
      have pTb : ∀ (w : Int32) (t2 : zG), f_X12_bad w t1 = (0, t2) → ((w = 1 ∧ b_X12_product_9 σm = some (Sum.inr (Sum.inl t1))) ∨ (w = 2 ∧ b_X12_product_9 σm = some (Sum.inr (Sum.inr (Sum.inl t1))))) → pT σm = some (0, t2) := by
        intro w t2 x1 x2
        unfold pT
        rcases x2 with ⟨rfl, x2⟩ | ⟨rfl, x2⟩
        · rw [zlp_done x2, Option.bind_some]
          show zb (f_X12_bad 1 t1) _ = _
          rw [x1]; rfl
        · rw [zlp_done x2, Option.bind_some]
          show zb (f_X12_bad 2 t1) _ = _
          rw [x1]; rfl
      by_cases n2 : knd B n (k + 1) = 2
      · rw [if_pos n2] at hprod
        rw [if_pos n2, n9] at hbody
        have v20 : t1.1 0 0 20 = nI (nbr B n (k + 1)) := h1.2.1.2.2.2.2 n2
        rw [v20] at hprod
        by_cases z0 : nbr B n (k + 1) = 0
        · rw [z0] at hprod hbody
          obtain ⟨s2, t2, x1, x2, x3, x4, x5⟩ := ls_bad hE h1.1 h1.2.1 2
          rw [if_neg (show ¬ (1 : Int32) ≤ nI 0 by decide), x1] at hbody
          rw [if_pos (show nI 0 = 0 from rfl)] at hprod
          exact bad 2 s2 t2 x1 x2 x3 x4 x5 hbody (pTb 2 t2 x2 (Or.inr ⟨rfl, hprod⟩))
        · have hkT2 := ev_lt hE hkT1 (by omega)
          obtain ⟨s2, t2, a2, b2, h2, f2, g2⟩ := ls_adv hE h1 hkT2
          rw [if_pos (show (1 : Int32) ≤ nI (nbr B n (k + 1)) from nI_le (a := 1) (by omega) (by omega)), if_neg (show ¬ (9999 : Int32) < nI (nbr B n (k + 1)) from nI_nlt (a := 9999) hN (by decide)), a2, Option.bind_some, Option.bind_some] at hbody
          rw [if_neg (nI_ne0 (by omega) (by omega)), b2, Option.bind_some] at hprod
          obtain ⟨s3, t3, a3, b3, h3, f3, g3⟩ := ls_ord h2 (by omega) (c := 47) (w := nI (nbr B n (k + 1))) (x := nI (nbr B n (k + 1))) (s := 26) (v := nbr B n (k + 1)) (pack 47 _ (by decide) (by omega)) (fun _ => rfl) (Or.inr (Or.inr (Or.inr (Or.inl ⟨rfl, by omega, hN⟩))))
          have b3' : f_X12_lay (26 : Int32) (nI (nbr B n (k + 1))) t2 = some t3 := b3
          rw [b3'] at hprod
          dsimp only at hbody
          rw [a3, Option.bind_some, if_neg (by rw [nI_nm1 (by omega)]; exact id), nI_1] at hbody
          rw [List.append_assoc] at h3
          rw [c_step hbody]
          have em : mC how σm = mC how t3 := by unfold mC; rw [p_step hprod]
          rw [em]
          have hM' : Ty2 (M ++ [(26, nbr B n (k + 1))]) 3 fs := by
            rcases hf with ⟨-, rfl, -⟩ | ⟨-, rfl, -⟩ <;> exact ty_div hM
          have hf' : Pf p how (k + 1 + 1) fs (L ++ (M ++ [(26, nbr B n (k + 1))])) := by
            unfold Pf at hf ⊢
            rw [← List.append_assoc, List.length_append]
            show _ ∨ _ ∧ _ ∧ (L ++ M).length + 1 + p + 1 ≤ _
            rcases hf with ⟨x, y, z⟩ | ⟨x, y, z⟩
            · exact Or.inl ⟨x, y, by show (L ++ M).length + 1 + p ≤ _; omega⟩
            · exact Or.inr ⟨x, y, by omega⟩
          have := ih (k + 1 + 1) (i + 1) (M ++ [(26, nbr B n (k + 1))]) wt how fs s3 t3 (by omega) (by omega) h3 hw hf' hM'
          obtain ⟨b, x, y, w1, w2, w3, w4, w5, w6⟩ := this
          exact ⟨b, x, y, w1, w2, ((f1.trans f2).trans f3).trans w3, ((g1.trans g2).trans g3).trans w4, fun z => by
            obtain ⟨k', M', v1, v2, v3, v4⟩ := w5 z
            exact ⟨k', M', v1, v2, by omega, v4⟩, w6⟩
      · obtain ⟨s2, t2, x1, x2, x3, x4, x5⟩ := ls_bad hE h1.1 h1.2.1 1
        rw [if_neg n2] at hprod
        rw [if_neg n2, x1] at hbody
        exact bad 1 s2 t2 x1 x2 x3 x4 x5 hbody (pTb 1 t2 x2 (Or.inl ⟨rfl, hprod⟩))
    · by_cases k42 : knd B n k = 42
      · rw [if_pos k42] at hprod
        unfold j_X12_product_44_9 at hprod
        rw [b1, Option.bind_some, if_pos rfl] at hprod
        rw [a1, Option.bind_some, if_neg k47, if_pos k42] at hbody
        obtain ⟨b, s2, t2, u1, u2, u3, u4, u5, u6⟩ := ls_unit hE hkk h1 (by omega)
        rw [u1, Option.bind_some] at hbody
        rw [u2, Option.bind_some] at hprod
        cases b with
        | false =>
          obtain ⟨x3, lc⟩ := u6 rfl
          obtain ⟨s3, y1, y2, y3⟩ := c_ordx lc 42 0
          dsimp only at hbody
          rw [y1, Option.bind_some] at hbody
          obtain ⟨s4, z1, z2, z3⟩ := c_sumX (σ := s3) wt (nI i + 1) y2
          rw [if_pos (show zt false = 0 from rfl)] at hprod
          refine ⟨false, s4, t2, ?_, ?_, ((f1.trans u3).trans (fO y3)).trans (fO z2), g1.trans u4, fun z => Bool.noConfusion z, fun _ => ⟨bd_fr (bd_fr x3 y3) z2, z3⟩⟩
          · rw [c_step hbody]
            exact z1
          · unfold mC pT
            rw [zlp_done hprod]
            rfl
        | true =>
          obtain ⟨x, hx23, h2⟩ := u5 rfl
          have hl2 : (L ++ M ++ [x]).length = (L ++ M).length + 1 := by rw [List.length_append]; rfl
          obtain ⟨s3, t3, a3, b3, h3, f3, g3⟩ := ls_ord h2 (by have := (ls_kT hE h2).1; omega) (c := 42) (w := 0) (x := 0) (s := 25) (v := 0) (by decide) (fun _ => rfl) (Or.inr (Or.inr (Or.inr (Or.inr ⟨by decide, by decide, by decide⟩))))
          have b3' : f_X12_lay (25 : Int32) 0 t2 = some t3 := b3
          rw [if_neg (show ¬ zt true = 0 by decide), b3', Option.bind_some] at hprod
          dsimp only at hbody
          rw [a3, Option.bind_some, nI_1] at hbody
          rw [List.append_assoc, List.append_assoc] at h3
          rw [c_step hbody]
          have em : mC how σm = mC how t3 := by unfold mC; rw [p_step hprod]
          rw [em]
          have hM' : Ty2 (M ++ ([x] ++ [(25, 0)])) 3 fs := by
            rw [← List.append_assoc]
            rcases hf with ⟨-, rfl, -⟩ | ⟨-, rfl, -⟩
            · exact ty_bin (Or.inr (Or.inr rfl)) (ty_push hM hx23 (by decide))
            · exact ty_bin (Or.inr (Or.inr rfl)) (ty_push hM hx23 (by decide))
          have hll : (L ++ (M ++ ([x] ++ [(25, 0)]))).length = (L ++ M).length + 2 := by rw [← List.append_assoc, List.length_append]; rfl
          have hf' : Pf p how (k + 1 + 1) fs (L ++ (M ++ ([x] ++ [(25, 0)]))) := by
            unfold Pf at hf ⊢
            rw [hll]
            rcases hf with ⟨x, y, z⟩ | ⟨x, y, z⟩
            · exact Or.inl ⟨x, y, by omega⟩
            · exact Or.inr ⟨x, y, by omega⟩
          have := ih (k + 1 + 1) (i + 1) (M ++ ([x] ++ [(25, 0)])) wt how fs s3 t3 (by omega) (by omega) h3 hw hf' hM'
          obtain ⟨b, x, y, w1, w2, w3, w4, w5, w6⟩ := this
          exact ⟨b, x, y, w1, w2, ((f1.trans u3).trans f3).trans w3, ((g1.trans u4).trans g3).trans w4, fun z => by
            obtain ⟨k', M', v1, v2, v3, v4⟩ := w5 z
            exact ⟨k', M', v1, v2, by omega, v4⟩, w6⟩
      · -- + or -
        rw [if_neg k42, if_neg k47] at hprod
        rw [a1, Option.bind_some, if_neg k47, if_neg k42] at hbody
        have hpm : (knd B n k = 43 ∨ knd B n k = 45) := by omega
        obtain ⟨a, b, c, d0, e, f, g⟩ := h
        obtain ⟨s1', p1, p2, p3⟩ := c_adv hE a hkT
        have es : s1' = s1 := Option.some.inj (p1.symm.trans a1)
        subst es
        obtain ⟨s2, y1, y2, y3⟩ := c_pend hw (c.fr p3 rfl (fun _ => rfl)) hl
        obtain ⟨t2, z1, z2, z3⟩ := m_pend hw d0 hl
        obtain ⟨t3, v1, v2, v3⟩ := m_adv (b.fr (lT z3))
        have h2 : LQ B n T kk (k + 1) (L ++ pnd how M) s2 t3 := ⟨p2.fr (oT y3), v2, y2, z2.fr v3 rfl (fun _ => rfl), ok_pend hw e, by rw [y3.1 4 0 5 rfl, p3.1 4 0 5 rfl]; exact f, by rw [y3.1 4 0 6 rfl, p3.1 4 0 6 rfl, y3.1 4 0 3 rfl, p3.1 4 0 3 rfl, y3.1 4 0 4 rfl, p3.1 4 0 4 rfl]; exact g⟩
        have hlp := len_pend hf
        have hMp := ty_pend hw hf hM
        rw [y1, Option.bind_some] at hbody
        obtain ⟨bb, s4, t4, u1, u2, u3, u4, u5, u6⟩ := ls_unit hE hkk h2 (by omega)
        rw [u1, Option.bind_some, nI_1] at hbody
        dsimp only at hbody
        have hw' : ∃ how', Pw (knd B n k) how' ∧ how' ≠ 0 ∧ b_X12_sumUp_9 t2 = j_X12_sumUp_46_9 (nI how') t2 := by
          have q1 : (t2.1 0 0 18 = (143 : Int32)) = (knd B n k = 43) := by
            rw [z3.1 0 0 18 rfl]
            exact tkm hE hk b (t := 143) (by decide) (fun k hk => im_L kk hkk k hk (43, 143) (by decide))
          have q2 : (t2.1 0 0 18 = (145 : Int32)) = (knd B n k = 45) := by
            rw [z3.1 0 0 18 rfl]
            exact tkm hE hk b (t := 145) (by decide) (fun k hk => im_L kk hkk k hk (45, 145) (by decide))
          unfold b_X12_sumUp_9 j_X12_sumUp_29_9
          simp only [q1, q2]
          rcases hpm with w | w
          · refine ⟨23, by unfold Pw; omega, by decide, ?_⟩
            rw [if_pos w, if_pos w]; rfl
          · refine ⟨24, by unfold Pw; omega, by decide, ?_⟩
            rw [if_neg (by omega), if_pos w, if_neg (by omega)]; rfl
        obtain ⟨how', hP', hne', hsb⟩ := hw'
        have em : mC how σm = (f_X12_unit t3).bind (fun q1 => if q1.1 = 0 then some ((0 : Int32), q1.2) else mC how' q1.2) := by
          have e0 : pT σm = some (1, σm) := by
            unfold pT
            rw [zlp_done hprod]
            rfl
          have e1 : mC how σm = sT t2 := by
            unfold mC
            rw [e0, Option.bind_some]
            dsimp only
            rw [if_neg (by decide), z1, Option.bind_some]
          rw [e1, sT_more hne' hsb, v1, Option.bind_some]
        rw [em, u2, Option.bind_some, c_step hbody]
        dsimp only
        have fa : FrA arC σc s4 := ((f1.trans (fO y3))).trans u3
        have ga : FrA arM σm t4 := ((fL z3).trans (fN v3)).trans u4
        cases bb with
        | false =>
          obtain ⟨x3, lc⟩ := u6 rfl
          obtain ⟨s5, w1, w2, w3⟩ := c_sumX (σ := s4) (knd B n k) (nI (i + 1)) lc
          exact ⟨false, s5, t4, w1, rfl, fa.trans (fO w2), ga, fun z => Bool.noConfusion z, fun _ => ⟨bd_fr x3 w2, w3⟩⟩
        | true =>
          obtain ⟨x, hx23, h3⟩ := u5 rfl
          rw [List.append_assoc] at h3
          have hll : (L ++ (pnd how M ++ [x])).length = (L ++ pnd how M).length + 1 := by rw [← List.append_assoc, List.length_append]; rfl
          have := ih (k + 1 + 1) (i + 1) (pnd how M ++ [x]) (knd B n k) how' [false, false] s4 t4 (by omega) (by omega) h3 hP' (Or.inr ⟨hne', rfl, by omega⟩) (ty_push hMp hx23 (by decide))
          rw [if_neg (show ¬ zt true = 0 by decide)]
          obtain ⟨b, x, y, w1, w2, w3, w4, w5, w6⟩ := this
          exact ⟨b, x, y, w1, w2, fa.trans w3, ga.trans w4, fun z => by
            obtain ⟨k', M', v1, v2, v3, v4⟩ := w5 z
            exact ⟨k', M', v1, v2, by omega, v4⟩, w6⟩
/-- a sum -/
theorem ls_sum (hE : EvT B n T) (hkk : kk < 2) (h : LQ B n T kk k L σc σm) (hl : L.length + p ≤ k) : Rd (f_X4_readSum σc) (f_X12_sumUp σm) σc σm (SumG p B n T kk (k + 1) L) := by
  have ec : f_X4_readSum σc = (f_X4_readUnit σc).bind (fun q1 => cC 0 0 q1.1 q1.2) := rfl
  have em : f_X12_sumUp σm = (f_X12_unit σm).bind (fun q1 => if q1.1 = 0 then some ((0 : Int32), q1.2) else mC 0 q1.2) := by
    unfold f_X12_sumUp f_X12_product
    rw [Option.bind_assoc]
    refine congrArg _ (funext fun q1 => ?_)
    by_cases a : q1.1 = 0
    · rw [if_pos a, if_pos a]; rfl
    · rw [if_neg a, if_neg a]
      rfl
  obtain ⟨b, s1, t1, u1, u2, u3, u4, u5, u6⟩   := ls_unit hE hkk h (by omega)
  rw [ec, em, u1, u2, Option.bind_some, Option.bind_some]
  dsimp only
  cases b with
  | false =>
    obtain ⟨x3, lc⟩ := u6 rfl
    obtain ⟨s5, w1, w2, w3⟩ := c_sumX (σ := s1) 0 0 lc
    exact ⟨false, s5, t1, w1, rfl, u3.trans (fO w2), u4, fun z => Bool.noConfusion z, fun _ => ⟨bd_fr x3 w2, w3⟩⟩
  | true =>
    obtain ⟨x, hx23, h3⟩ := u5 rfl
    rw [if_neg (show ¬ zt true = 0 by decide)]
    have hll : (L ++ [x]).length = L.length + 1 := by rw [List.length_append]; rfl
    exact (ls_sumL hE hkk (T - (k + 1)) (k + 1) 0 [x] 0 0 [false] s1 t1 (Nat.le_refl _) (by omega) h3 (Or.inl ⟨rfl, rfl⟩) (Or.inl ⟨rfl, rfl, by omega⟩) (ty_push (ty_nil 3) hx23 (by decide))).tr u3 u4
end PURE
