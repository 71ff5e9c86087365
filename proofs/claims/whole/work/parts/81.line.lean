/-! PURE LAYER: a line of a law, and all of them -/
section PURE
variable {σ σ' σc σm sc sm : zG} {B : Nat → Nat} {n T k r kk p : Nat} {L M : List (Nat × Nat)} {X : List (Nat × Nat × Nat)}
def LnG (B : Nat → Nat) (n T kk k : Nat) (L : List (Nat × Nat)) (X : List (Nat × Nat × Nat)) (sc sm : zG) : Prop := ∃ k' M x, LQ B n T kk k' (L ++ M) sc sm ∧ (L ++ M).length ≤ k' ∧ k < k' ∧ LNc sc (X ++ [x]) ∧ sm.1 0 0 13 = nI X.length ∧ LNf sm (X ++ [x]) ∧ X.length < 16 ∧ GL (L ++ M) x
theorem LNf.fr (h : LNf σ X) (hf : FrA arQ σ σ') : LNf σ' X := fun i hi => by rw [hf.1 4 0 _ rfl, hf.1 4 0 _ rfl, hf.1 4 0 _ rfl]; exact h i hi
theorem LNf.w (h : LNf σ X) {j : Nat} (hj : 3 * X.length ≤ j) (x : Int32) : LNf (zwI σ 4 0 j x) X := fun i hi => by
  rw [zw_at, if_neg (fun z => by omega), zw_at, if_neg (fun z => by omega), zw_at, if_neg (fun z => by omega)]
  exact h i hi
theorem ls_line (hE : EvT B n T) (hkk : kk < 2) (h : LQ B n T kk k L σc σm) (hl : L.length ≤ k) (hX : LNc σc X) (hX16 : X.length ≤ 16) (h13 : σm.1 0 0 13 = nI X.length) (hF : LNf σm X) : RdL (f_X4_readLine (nI (108 + kk)) σc) (f_X12_aLine σm) σc σm (LnG B n T kk k L X) := by
  obtain ⟨hk, hT4⟩ := ls_kT hE h
  have c0 : (σc.1 4 0 8 = nI (108 + kk)) = (knd B n k = 108 + kk) := tkc hE h.1 _ (by omega)
  have m0 : (σm.1 0 0 18 = (7 : Int32)) = (knd B n k = 108 + kk) := tkm hE hk h.2.1 (t := 7) (by decide) (fun k hk => im_7 kk hkk k hk)
  unfold f_X4_readLine f_X12_aLine
  simp only [c0, m0]
  by_cases a : knd B n k = 108 + kk
  · have hkT := ev_lt hE hk (by omega)
    rw [if_pos a, if_pos a, hX.1, h13]
    by_cases x16 : X.length = 16
    · rw [x16, if_pos (show (16 : Int32) ≤ nI 16 by decide), if_pos (show nI 16 = 16 from rfl)]
      exact (ls_fail hE h hl 3).q.l
    · rw [if_neg (show ¬ (16 : Int32) ≤ nI X.length from nI_ge (b := 16) (by omega) (by decide)), if_neg (show ¬ nI X.length = (16 : Int32) from fun z => x16 ((nI_eq (a := X.length) (b := 16) (by omega) (by decide)).mp z))]
      simp only [zb]
      obtain ⟨s1, t1, a1, b1, h1, f1, g1⟩ := ls_adv hE (ls_dep h 0) hkT
      have t13 : t1.1 0 0 13 = nI X.length := by rw [g1.1 0 0 13 rfl, zw_at, if_neg (by decide)]; exact h13
      have e3 : (3 : Int32) * nI X.length = nI (3 * X.length) := pk_mul 3 _
      rw [a1, b1, Option.bind_some, Option.bind_some, t13, e3, zin_ok (show 3 * X.length < 48 by omega) (by decide), zgT, nI_clamp (show 3 * X.length < 2 ^ 31 by omega), h1.2.2.2.1.1, h1.2.2.1.1]
      have ga1 : FrA arML σm t1 := (fra_w rfl).trans (fML (fQ g1))
      have h1' := ls_fresh h1 (3 * X.length) (nI L.length)
      have ga2 : FrA arML σm (zwI t1 4 0 (3 * X.length) (nI L.length)) := ga1.w rfl
      have hF1 : LNf (zwI t1 4 0 (3 * X.length) (nI L.length)) X := (LNf.fr (hF.fr (fD (fra_w rfl))) (fQ g1)).w (Nat.le_refl _) _
      have z0 : (zwI t1 4 0 (3 * X.length) (nI L.length)).1 4 0 (3 * X.length) = nI L.length := by rw [zw_at, if_pos ⟨rfl, rfl, rfl⟩]
      have d0 : (zwI t1 4 0 (3 * X.length) (nI L.length)).1 0 0 24 = 0 := by rw [zw_at, if_neg (fun z => absurd z.1 (by decide)), g1.1 0 0 24 rfl, zw_at, if_pos ⟨rfl, rfl, rfl⟩]
      have z13 : (zwI t1 4 0 (3 * X.length) (nI L.length)).1 0 0 13 = nI X.length := by rw [zw_at, if_neg (fun z => absurd z.1 (by decide))]; exact t13
      generalize zwI t1 4 0 (3 * X.length) (nI L.length) = t1' at h1' ga2 hF1 z0 d0 z13 ⊢
      obtain ⟨b, s2, t2, u1, u2, u3, u4, u5, u6⟩ := ls_sum (p := 0) hE hkk h1' (by omega)
      rw [u1, u2, Option.bind_some, Option.bind_some]
      dsimp only
      cases b with
      | false => exact ⟨false, s2, t2, rfl, rfl, (fCL f1).trans (fCL u3), ga2.trans (fML (fQ u4)), fun z => Bool.noConfusion z, fun z => (u6 z).1⟩
      | true =>
        obtain ⟨k1, M1, v1, v2, v3, v4⟩ := u5 rfl
        obtain ⟨hk1, -⟩ := ls_kT hE v1
        have y13 : t2.1 0 0 13 = nI X.length := by rw [u4.1 0 0 13 rfl]; exact z13
        have e5 : nI (3 * X.length) + 1 = nI (3 * X.length + 1) := nI_1 _
        rw [if_neg (show ¬ zt true = 0 by decide), if_neg (show ¬ zt true = 0 by decide), y13, e3, e5, zin_ok (show 3 * X.length + 1 < 48 by omega) (by decide), zgT, nI_clamp (show 3 * X.length + 1 < 2 ^ 31 by omega), v1.2.2.2.1.1, v1.2.2.1.1]
        have v1' := ls_fresh v1 (3 * X.length + 1) (nI (L ++ M1).length)
        have ga3 : FrA arML σm (zwI t2 4 0 (3 * X.length + 1) (nI (L ++ M1).length)) := (ga2.trans (fML (fQ u4))).w rfl
        have hF2 : LNf (zwI t2 4 0 (3 * X.length + 1) (nI (L ++ M1).length)) X := (hF1.fr (fQ u4)).w (by omega) _
        have y0 : (zwI t2 4 0 (3 * X.length + 1) (nI (L ++ M1).length)).1 4 0 (3 * X.length) = nI L.length := by rw [zw_at, if_neg (fun z => by omega), u4.1 4 0 _ rfl]; exact z0
        have y1 : (zwI t2 4 0 (3 * X.length + 1) (nI (L ++ M1).length)).1 4 0 (3 * X.length + 1) = nI (L ++ M1).length := by rw [zw_at, if_pos ⟨rfl, rfl, rfl⟩]
        have yd : (zwI t2 4 0 (3 * X.length + 1) (nI (L ++ M1).length)).1 0 0 24 = 0 := by rw [zw_at, if_neg (fun z => absurd z.1 (by decide)), u4.1 0 0 24 rfl]; exact d0
        have yl : (zwI t2 4 0 (3 * X.length + 1) (nI (L ++ M1).length)).1 0 0 13 = nI X.length := by rw [zw_at, if_neg (fun z => absurd z.1 (by decide))]; exact y13
        generalize zwI t2 4 0 (3 * X.length + 1) (nI (L ++ M1).length) = t3 at v1' ga3 hF2 y0 y1 yd yl ⊢
        have fa2 : FrA arC σc s2 := f1.trans u3
        have q := tk1 hE hkk v1' 110 3 (by decide) (by decide) (by decide)
        have c110 : (s2.1 4 0 8 = (110 : Int32)) = (knd B n k1 = 110) := q.1
        have m110 : (t3.1 0 0 18 = (3 : Int32)) = (knd B n k1 = 110) := q.2
        simp only [c110, m110]
        have tV : trl M1 [] = some [false] := v4 [] (by decide)
        by_cases w : knd B n k1 = 110
        · have hkT1 := ev_lt hE hk1 (by omega)
          rw [if_pos w, if_pos w]
          obtain ⟨s4, t4, a4, b4, h4, f4, g4⟩ := ls_adv hE v1' hkT1
          obtain ⟨b, s5, t5, w1, w2, w3, w4, w5, w6⟩ := ls_any (p := 0) hE hkk h4 (by omega) (by rw [g4.1 0 0 24 rfl]; exact yd)
          rw [a4, b4, Option.bind_some, Option.bind_some, w1, w2, Option.bind_some, Option.bind_some]
          dsimp only
          cases b with
          | false => exact ⟨false, s5, t5, rfl, rfl, fCL ((fa2.trans f4).trans w3), ga3.trans ((fML (fQ g4)).trans (fML w4)), fun z => Bool.noConfusion z, fun z => (w6 z).1⟩
          | true =>
            obtain ⟨k2, M2, r1, r2, r3, r4, r5⟩ := w5 rfl
            rw [if_neg (show ¬ zt true = 0 by decide), if_neg (show ¬ zt true = 0 by decide)]
            have fa5 : FrA arC σc s5 := (fa2.trans f4).trans w3
            have gq5 : FrA arQ t3 t5 := (fQ g4).trans w4
            have hs := ls_semi hE hkk r1 (by omega) (hX.fr fa5) (by omega) (by rw [gq5.1 0 0 13 rfl]; exact yl) (hF2.fr gq5) L.length (L ++ M1).length (by rw [gq5.1 4 0 _ rfl]; exact y0) (by rw [gq5.1 4 0 _ rfl]; exact y1)
            obtain ⟨b, x, y, p1, p2, p3, p4, p5, p6⟩ := hs
            refine ⟨b, x, y, p1, p2, (fCL fa5).trans p3, (ga3.trans (fML gq5)).trans p4, fun z => ?_, p6⟩
            obtain ⟨o1, o2, o3, o4⟩ := p5 z
            have eL : L ++ M1 ++ M2 = L ++ (M1 ++ M2) := List.append_assoc _ _ _
            refine ⟨k2 + 1, M1 ++ M2, _, by rw [← eL]; exact o1, by rw [← eL]; omega, by omega, o2, o3, o4, by omega, L, M1, M2, [], by rw [List.append_nil], rfl, ?_, ?_, tV, Or.inr (r4 [] (by decide))⟩
            · show (L ++ M1).length = L.length + M1.length
              rw [List.length_append]
            · show (L ++ M1 ++ M2).length = (L ++ M1).length + M2.length
              rw [List.length_append]
        · rw [if_neg w, if_neg w]
          have hs := ls_semi hE hkk v1' (by omega) (hX.fr fa2) (by omega) yl hF2 L.length (L ++ M1).length y0 y1
          obtain ⟨b, x, y, p1, p2, p3, p4, p5, p6⟩ := hs
          refine ⟨b, x, y, p1, p2, (fCL fa2).trans p3, ga3.trans p4, fun z => ?_, p6⟩
          obtain ⟨o1, o2, o3, o4⟩ := p5 z
          refine ⟨k1 + 1, M1, _, o1, by omega, by omega, o2, o3, o4, by omega, L, M1, [], [], by rw [List.append_nil, List.append_nil], rfl, ?_, rfl, tV, Or.inl rfl⟩
          show (L ++ M1).length = L.length + M1.length
          rw [List.length_append]
  · rw [if_neg a, if_neg a]
    exact (ls_fail hE h hl 1).q.l
/-- all lines -/
def LwG (B : Nat → Nat) (n T kk : Nat) (sc sm : zG) : Prop := ∃ k L X, LQ B n T kk k L sc sm ∧ L.length ≤ 400 ∧ LNc sc X ∧ X.length ≤ 16 ∧ sm.1 0 0 13 = nI X.length ∧ LNf sm X ∧ ∀ x ∈ X, GL L x
noncomputable def cW (p1 i : Int32) (σ : zG) : Option (Int32 × zG) := (zlp (fun q : Int32 × zG => b_X4_readLaw_20 p1 q.1 q.2) (i, σ)).bind (Sum.elim (fun e7 : zG => some ((0 : Int32), e7)) (fun e8 : zG => some ((1 : Int32), e8)))
noncomputable def mW (v : Int32) (σ : zG) : Option (Int32 × zG) := (zlp (fun q : Int32 × zG => b_X12_readsLaw_12 q.1 q.2) (v, σ)).bind (fun e8 : Int32 × zG => zg (zbl e8.1) (some (e8.1, e8.2)))
theorem ls_lawL (hE : EvT B n T) (hkk : kk < 2) : ∀ (d k i : Nat) (L : List (Nat × Nat)) (X : List (Nat × Nat × Nat)) (σc σm : zG), T - k ≤ d → i ≤ k → LQ B n T kk k L σc σm → L.length ≤ k → LNc σc X → X.length ≤ 16 → σm.1 0 0 13 = nI X.length → LNf σm X → (∀ x ∈ X, GL L x) → RdL (cW (nI (108 + kk)) (nI i) σc) (mW 1 σm) σc σm (LwG B n T kk) := by
  intro d
  induction d using Nat.strongRecOn with
  | ind d ih =>
    intro k i L X σc σm hd hi h hl hX hX16 h13 hF hG
    obtain ⟨hk, hT4⟩ := ls_kT hE h
    have i4 : nI i ≤ 400 := nI_le (b := 400) (by omega) (by decide)
    have q := tk1 hE hkk h 0 0 (by decide) (by decide) (by decide)
    have c0 : (σc.1 4 0 8 = 0) = (knd B n k = 0) := q.1
    have m0 : (σm.1 0 0 18 = 0) = (knd B n k = 0) := q.2
    by_cases a : knd B n k = 0
    · refine ⟨true, σc, σm, ?_, ?_, FrA.refl _ _, FrA.refl _ _, fun _ => ⟨k, L, X, h, by omega, hX, hX16, h13, hF, hG⟩, fun z => Bool.noConfusion z⟩
      · unfold cW
        rw [zlp_done (a := (nI i, σc)) (b := Sum.inr σc)]
        · rfl
        · show b_X4_readLaw_20 (nI (108 + kk)) (nI i) σc = _
          unfold b_X4_readLaw_20
          rw [if_pos i4, if_pos (by rw [c0]; exact a)]
      · unfold mW
        rw [zlp_done (a := ((1 : Int32), σm)) (b := ((1 : Int32), σm))]
        · rfl
        · show b_X12_readsLaw_12 1 σm = _
          unfold b_X12_readsLaw_12
          rw [if_neg (by decide), if_pos (by rw [m0]; exact a)]
    · obtain ⟨b, s1, t1, u1, u2, u3, u4, u5, u6⟩ := ls_line hE hkk h hl hX hX16 h13 hF
      have hc : b_X4_readLaw_20 (nI (108 + kk)) (nI i) σc = if zt b = 0 then some (Sum.inr (Sum.inl s1)) else some (Sum.inl (nI (i + 1), s1)) := by
        unfold b_X4_readLaw_20
        rw [if_pos i4, if_neg (by rw [c0]; exact a), u1, nI_1]
        rfl
      have hm : b_X12_readsLaw_12 1 σm = if zt b = 0 then some (Sum.inl (zt b, zwI t1 0 0 13 (t1.1 0 0 13 + 0))) else some (Sum.inl (zt b, zwI t1 0 0 13 (t1.1 0 0 13 + 1))) := by
        unfold b_X12_readsLaw_12
        rw [if_neg (by decide), if_neg (by rw [m0]; exact a), u2]
        rfl
      cases b with
      | false =>
        rw [if_pos (show zt false = 0 from rfl)] at hc hm
        refine ⟨false, s1, zwI t1 0 0 13 (t1.1 0 0 13 + 0), ?_, ?_, u3, u4.w rfl, fun z => Bool.noConfusion z, fun z => ?_⟩
        · unfold cW
          rw [zlp_done (a := (nI i, σc)) hc]
          rfl
        · unfold mW
          rw [zlp_step (a := ((1 : Int32), σm)) (a' := (zt false, zwI t1 0 0 13 (t1.1 0 0 13 + 0))) hm, zlp_done (a := (zt false, zwI t1 0 0 13 (t1.1 0 0 13 + 0))) (b := (zt false, zwI t1 0 0 13 (t1.1 0 0 13 + 0)))]
          · rfl
          · show b_X12_readsLaw_12 (zt false) _ = _
            unfold b_X12_readsLaw_12
            rw [if_pos (show zt false = 0 from rfl)]
        · have := u6 z
          refine ⟨?_, ?_⟩
          · rw [zw_at, if_neg (by decide)]; exact this.1
          · rw [zw_at, if_neg (by decide)]; exact this.2
      | true =>
        rw [if_neg (show ¬ zt true = 0 by decide)] at hc hm
        obtain ⟨k1, M, x, v1, v2, v3, v4, v5, v6, hx16, v7⟩ := u5 rfl
        rw [v5, nI_1] at hm
        have hk1 := (ls_kT hE v1).1
        have ec : cW (nI (108 + kk)) (nI i) σc = cW (nI (108 + kk)) (nI (i + 1)) s1 := by
          unfold cW
          rw [zlp_step (a := (nI i, σc)) (a' := (nI (i + 1), s1)) hc]
        have em : mW 1 σm = mW 1 (zwI t1 0 0 13 (nI (X.length + 1))) := by
          unfold mW
          rw [zlp_step (a := ((1 : Int32), σm)) (a' := (zt true, zwI t1 0 0 13 (nI (X.length + 1)))) hm]
          rfl
        rw [ec, em]
        have hf : FrA (fun f _ k => f == 0 && k == 13) t1 (zwI t1 0 0 13 (nI (X.length + 1))) := fra_w rfl
        have hf2 : FrA tsM t1 (zwI t1 0 0 13 (nI (X.length + 1))) := hf.mono fun f i k a => by unfold tsM at a; simp at a ⊢; omega
        have h2 : LQ B n T kk k1 (L ++ M) s1 (zwI t1 0 0 13 (nI (X.length + 1))) := ⟨v1.1, v1.2.1.fr hf2, v1.2.2.1, v1.2.2.2.1.fr hf rfl (fun _ => rfl), v1.2.2.2.2⟩
        have hlen : (X ++ [x]).length = X.length + 1 := by rw [List.length_append]; rfl
        exact (ih (T - k1) (by omega) k1 (i + 1) (L ++ M) (X ++ [x]) s1 _ (Nat.le_refl _) (by omega) h2 v2 v4 (by omega) (by rw [hlen, zw_at, if_pos ⟨rfl, rfl, rfl⟩]) (fun i hi => by rw [hf.1 4 0 _ rfl, hf.1 4 0 _ rfl, hf.1 4 0 _ rfl]; exact v6 i hi) (fun y hy => by
          rcases List.mem_append.mp hy with q | q
          · exact gl_app (hG y q) M
          · rw [List.mem_singleton.mp q]; exact v7)).tr u3 (u4.w rfl)
end PURE
