/-! PURE LAYER: tests -/
section PURE
variable {σ σ' σc σm sc sm : zG} {B : Nat → Nat} {n T k r kk p : Nat} {L M : List (Nat × Nat)}
theorem ls_dep (h : LQ B n T kk k L σc σm) (x : Int32) : LQ B n T kk k L σc (zwI σm 0 0 24 x) := by
  have hf : FrA arD σm (zwI σm 0 0 24 x) := fra_w rfl
  exact ⟨h.1, h.2.1.fr (dT hf), h.2.2.1, h.2.2.2.1.fr hf rfl (fun _ => rfl), h.2.2.2.2⟩
theorem ls_pass (hE : EvT B n T) (hkk : kk < 2) (h : LQ B n T kk k L σc σm) (hl : L.length ≤ k) (c t : Nat) (hp : (c, t) ∈ tblL) (hc : c < 256) (ht : t < 256) (h0 : c ≠ 0) : Rd (f_X4_pass (nI c) σc) (f_X12_need (nI t) σm) σc σm (fun sc sm => LQ B n T kk (k + 1) L sc sm) := by
  have q := tk1 hE hkk h c t hp hc ht
  unfold f_X4_pass f_X12_need
  simp only [q.1, q.2]
  by_cases a : knd B n k = c
  · have hkT := ev_lt hE h.1.2.2.1 (by omega)
    obtain ⟨s1, t1, a1, b1, h1, f1, g1⟩ := ls_adv hE h hkT
    rw [if_pos a, if_pos a, a1, b1]
    exact ⟨true, s1, t1, rfl, rfl, f1, g1, fun _ => h1, fun z => Bool.noConfusion z⟩
  · rw [if_neg a, if_neg a]
    exact ls_fail hE h hl 1
theorem dep_1 (o : Nat) : nI (o + 1) - 1 = nI o := nI_pred o
/-- a comparison -/
theorem ls_cmp {h o : Nat} (hE : EvT B n T) (hkk : kk < 2) (hh : 4 ≤ h) (hq : LQ B n T kk k L σc σm) (hl : L.length + p ≤ k) (ho : σm.1 0 0 24 = nI o) : RdT ((f_X4_readSum σc).bind (fun q4 => if q4.1 = 0 then some ((0 : Int32), q4.2) else if (q4.2.1 4 0 8) = (60 : Int32) then j_X4_readTest_78 (q4.2.1 4 0 8) q4.2 else if (q4.2.1 4 0 8) = (61 : Int32) then j_X4_readTest_78 (q4.2.1 4 0 8) q4.2 else if (q4.2.1 4 0 8) = (62 : Int32) then j_X4_readTest_78 (q4.2.1 4 0 8) q4.2 else (f_X4_fail (1 : Int32) q4.2).bind (fun q10 => zg (zbl q10.1) (some (q10.1, q10.2))))) ((f_X12_sumUp σm).bind (fun q1 => if q1.1 = 0 then some ((0 : Int32), q1.2) else if (q1.2.1 0 0 18) = (160 : Int32) then j_X12_oneTest_147 (27 : Int32) q1.2 else if (q1.2.1 0 0 18) = (161 : Int32) then j_X12_oneTest_147 (28 : Int32) q1.2 else if (q1.2.1 0 0 18) = (162 : Int32) then j_X12_oneTest_147 (29 : Int32) q1.2 else j_X12_oneTest_147 (-1 : Int32) q1.2)) σc σm (TstG p B n T kk k L h o) := by
  obtain ⟨b, s1, t1, u1, u2, u3, u4, u5, u6⟩ := ls_sum (p := p) hE hkk hq hl
  rw [u1, u2, Option.bind_some, Option.bind_some]
  cases b with
  | false => exact ⟨false, s1, t1, rfl, rfl, u3, fQ u4, fun z => Bool.noConfusion z, u6⟩
  | true =>
    dsimp only
    rw [if_neg (show ¬ zt true = 0 by decide), if_neg (show ¬ zt true = 0 by decide)]
    obtain ⟨k1, M1, v1, v2, v3, v4⟩ := u5 rfl
    obtain ⟨hk1, hT4⟩ := ls_kT hE v1
    have q0 := tk1 hE hkk v1 60 160 (by decide) (by decide) (by decide)
    have q1 := tk1 hE hkk v1 61 161 (by decide) (by decide) (by decide)
    have q2 := tk1 hE hkk v1 62 162 (by decide) (by decide) (by decide)
    have c0 : (s1.1 4 0 8 = (60 : Int32)) = (knd B n k1 = 60) := q0.1
    have m0 : (t1.1 0 0 18 = (160 : Int32)) = (knd B n k1 = 60) := q0.2
    have c1 : (s1.1 4 0 8 = (61 : Int32)) = (knd B n k1 = 61) := q1.1
    have m1 : (t1.1 0 0 18 = (161 : Int32)) = (knd B n k1 = 61) := q1.2
    have c2 : (s1.1 4 0 8 = (62 : Int32)) = (knd B n k1 = 62) := q2.1
    have m2 : (t1.1 0 0 18 = (162 : Int32)) = (knd B n k1 = 62) := q2.2
    simp only [c0, c1, c2, m0, m1, m2]
    have ek : s1.1 4 0 8 = nI (knd B n k1) := v1.1.2.2.2.2.1
    rw [ek]
    have key : ∀ c s : Nat, ((c = 60 ∧ s = 27) ∨ (c = 61 ∧ s = 28) ∨ (c = 62 ∧ s = 29)) → knd B n k1 = c → RdT (j_X4_readTest_78 (nI c) s1) (j_X12_oneTest_147 (nI s) t1) s1 t1 (TstG p B n T kk k L h o) := by
      intro c s hcs hkc
      have hkT := ev_lt hE hk1 (by omega)
      obtain ⟨s2, t2, a2, b2, h2, f2, g2⟩ := ls_adv hE v1 hkT
      obtain ⟨b, s3, t3, w1, w2, w3, w4, w5, w6⟩ := ls_sum (p := p + 1) hE hkk h2 (by omega)
      have hm : ∀ X Y : Option (Int32 × zG), (if nI s = (-1 : Int32) then X else Y) = Y := fun X Y => if_neg (by rw [nI_nm1 (by omega)]; exact id)
      unfold j_X4_readTest_78 j_X12_oneTest_147
      rw [a2, Option.bind_some, w1, Option.bind_some, hm, b2, Option.bind_some, w2, Option.bind_some]
      dsimp only
      cases b with
      | false =>
        obtain ⟨x3, lc⟩ := w6 rfl
        obtain ⟨s5, y1, y2, y3⟩ := c_ordx lc (nI c) 0
        rw [y1]
        exact ⟨false, s5, t3, rfl, rfl, (f2.trans w3).trans (fO y3), fQ (g2.trans w4), fun z => Bool.noConfusion z, fun _ => ⟨bd_fr x3 y3, y2⟩⟩
      | true =>
        obtain ⟨k2, M2, z1, z2, z3, z4⟩ := w5 rfl
        obtain ⟨hk2, -⟩ := ls_kT hE z1
        obtain ⟨s4, t4, a4, b4, h4, f4, g4⟩ := ls_ord z1 (by omega) (c := nI c) (w := 0) (x := 0) (s := s) (v := 0) (by rcases hcs with ⟨rfl, rfl⟩ | ⟨rfl, rfl⟩ | ⟨rfl, rfl⟩ <;> decide) (fun z => by omega) (Or.inr (Or.inr (Or.inr (Or.inr ⟨by omega, by omega, by omega⟩))))
        rw [a4, b4]
        have hll : (L ++ (M1 ++ M2 ++ [(s, 0)])).length = (L ++ M1 ++ M2).length + 1 := by rw [← List.append_assoc, ← List.append_assoc, List.length_append]; rfl
        have eL : L ++ M1 ++ M2 ++ [(s, 0)] = L ++ (M1 ++ M2 ++ [(s, 0)]) := by rw [← List.append_assoc, ← List.append_assoc]
        rw [eL] at h4
        refine ⟨true, s4, t4, rfl, rfl, (f2.trans w3).trans f4, fQ ((g2.trans w4).trans g4), fun _ => ⟨k2, M1 ++ M2 ++ [(s, 0)], h4, by omega, by omega, ?_, ?_⟩, fun z => Bool.noConfusion z⟩
        · exact ty_le (ty_cmp (fs := []) (by omega) (ty_seq (ty_le v4 (show 3 ≤ 4 by decide)) z4 (by decide))) hh
        · rw [g4.1 0 0 24 rfl, w4.1 0 0 24 rfl, g2.1 0 0 24 rfl, u4.1 0 0 24 rfl]
          exact ho
    by_cases d0 : knd B n k1 = 60
    · rw [if_pos d0, if_pos d0, d0]
      exact (key 60 27 (by decide) d0).tr u3 (fQ u4)
    · rw [if_neg d0, if_neg d0]
      by_cases d1 : knd B n k1 = 61
      · rw [if_pos d1, if_pos d1, d1]
        exact (key 61 28 (by decide) d1).tr u3 (fQ u4)
      · rw [if_neg d1, if_neg d1]
        by_cases d2 : knd B n k1 = 62
        · rw [if_pos d2, if_pos d2, d2]
          exact (key 62 29 (by decide) d2).tr u3 (fQ u4)
        · rw [if_neg d2, if_neg d2]
          unfold j_X12_oneTest_147
          rw [if_pos rfl]
          exact (ls_fail hE v1 (by omega) 1).q.tr u3 (fQ u4)
theorem ls_test (hE : EvT B n T) (hkk : kk < 2) : ∀ m, m ≤ 8 → HT B n T kk (8 - m) (4 + 2 * m) (rr_X4_readTest (m + 1)) (rr_X12_oneTest (m + 1)) := by
  intro m
  induction m with
  | zero =>
    intro _ p k L σc σm hq hl ho
    have hk := hq.1.2.2.1
    have ho' : σm.1 0 0 24 = (8 : Int32) := ho
    have q1 := tk1 hE hkk hq 113 6 (by decide) (by decide) (by decide)
    have q2 := tk1 hE hkk hq 40 140 (by decide) (by decide) (by decide)
    have c1 : (σc.1 4 0 8 = (113 : Int32)) = (knd B n k = 113) := q1.1
    have m1 : (σm.1 0 0 18 = (6 : Int32)) = (knd B n k = 113) := q1.2
    have c2 : (σc.1 4 0 8 = (40 : Int32)) = (knd B n k = 40) := q2.1
    have m2 : (σm.1 0 0 18 = (140 : Int32)) = (knd B n k = 40) := q2.2
    rw [rr_X4_readTest, rr_X12_oneTest]
    unfold f_X4_readTest f_X12_oneTest
    simp only [c1, c2, m1, m2]
    have hf : ∀ K : Int32 × zG → Option (Int32 × zG), (∀ s, K (0, s) = some (0, s)) → RdT (j_X4_readTest_18 (nI (8 - 0)) (f_X4_readOpened (f_X4_readEither (rr_X4_readTest 0)) (rr_X4_readTest 0)) σc) ((f_X12_opens σm).bind K) σc σm (TstG p B n T kk k L (4 + 2 * 0) (8 - 0)) := by
      intro K hK
      obtain ⟨b, s1, t1, u1, u2, u3, u4, u5, u6⟩ := ls_fail (G := fun _ _ => False) hE hq (by omega) 3
      cases b with
      | true => exact (u5 rfl).elim
      | false =>
        refine ⟨false, s1, t1, ?_, ?_, u3, fQ u4, fun z => Bool.noConfusion z, u6⟩
        · unfold j_X4_readTest_18
          rw [if_neg (show ¬ nI (8 - 0) < 8 by decide)]
          exact u1
        · unfold f_X12_opens
          rw [if_pos ho', u2, Option.bind_some]
          exact hK t1
    by_cases a : knd B n k = 113
    · rw [if_pos a, if_pos a]
      exact hf _ (fun s => rfl)
    · rw [if_neg a, if_neg a]
      by_cases b : knd B n k = 40
      · rw [if_pos b, if_pos b]
        exact hf _ (fun s => rfl)
      · rw [if_neg b, if_neg b]
        exact ls_cmp hE hkk (by decide) hq hl ho
  | succ m ih =>
    intro hm8 p k L σc σm hq hl ho
    have IH := ih (by omega)
    have eo : 8 - m = 8 - (m + 1) + 1 := by omega
    rw [eo] at IH
    generalize ho8 : 8 - (m + 1) = o at IH ho ⊢
    obtain ⟨hk, hT4⟩ := ls_kT hE hq
    have q1 := tk1 hE hkk hq 113 6 (by decide) (by decide) (by decide)
    have q2 := tk1 hE hkk hq 40 140 (by decide) (by decide) (by decide)
    have c1 : (σc.1 4 0 8 = (113 : Int32)) = (knd B n k = 113) := q1.1
    have m1 : (σm.1 0 0 18 = (6 : Int32)) = (knd B n k = 113) := q1.2
    have c2 : (σc.1 4 0 8 = (40 : Int32)) = (knd B n k = 40) := q2.1
    have m2 : (σm.1 0 0 18 = (140 : Int32)) = (knd B n k = 40) := q2.2
    rw [rr_X4_readTest, rr_X12_oneTest]
    generalize rr_X4_readTest (m + 1) = tC at IH ⊢
    generalize rr_X12_oneTest (m + 1) = tM at IH ⊢
    unfold f_X4_readTest f_X12_oneTest j_X4_readTest_18 f_X4_readOpened f_X12_opens
    simp only [c1, c2, m1, m2]
    have l8 : nI o < (8 : Int32) := nI_lt (b := 8) (by omega) (by decide)
    have n8 : ¬ nI o = (8 : Int32) := fun z => by
      have := (nI_eq (a := o) (b := 8) (by omega) (by decide)).mp z
      omega
    rw [if_pos l8, ho, if_neg n8, nI_1]
    by_cases a : knd B n k = 113
    · have hkT := ev_lt hE hk (by omega)
      rw [if_pos a, if_pos a, if_pos a]
      unfold j_X4_readOpened_14
      simp only [zb]
      obtain ⟨s1, t1, a1, b1, h1, f1, g1⟩ := ls_adv hE (ls_dep hq (nI (o + 1))) hkT
      have d1 : t1.1 0 0 24 = nI (o + 1) := by rw [g1.1 0 0 24 rfl, zw_at, if_pos ⟨rfl, rfl, rfl⟩]
      have ga1 : FrA arQ σm t1 := (fD (fra_w rfl)).trans (fQ g1)
      obtain ⟨b, s2, t2, u1, u2, u3, u4, u5, u6⟩ := IH (p + 1) (k + 1) L s1 t1 h1 (by omega) d1
      rw [a1, b1, Option.bind_some, if_neg (show ¬ (1 : Int32) = 0 by decide), u1, Option.bind_some, Option.bind_some, Option.bind_some]
      dsimp only
      rw [if_neg (show ¬ (1 : Int32) = 0 by decide), u2, Option.bind_some]
      dsimp only
      cases b with
      | false =>
        obtain ⟨x3, lc⟩ := u6 rfl
        obtain ⟨s5, y1, y2, y3⟩ := c_ordx lc 113 0
        rw [y1]
        exact ⟨false, s5, t2, rfl, rfl, (f1.trans u3).trans (fO y3), ga1.trans u4, fun z => Bool.noConfusion z, fun _ => ⟨bd_fr x3 y3, y2⟩⟩
      | true =>
        obtain ⟨k1, M1, v1, v2, v3, v4, v5⟩ := u5 rfl
        obtain ⟨hk1, -⟩ := ls_kT hE v1
        rw [v5, dep_1, if_neg (show ¬ zt true = 0 by decide)]
        obtain ⟨s4, t4, a4, b4, h4, f4, g4⟩ := ls_ord (ls_dep v1 (nI o)) (by omega) (c := 113) (w := 0) (x := 0) (s := 30) (v := 0) (by decide) (fun _ => rfl) (Or.inr (Or.inr (Or.inr (Or.inr ⟨by decide, by decide, by decide⟩))))
        have b4' : f_X12_lay (30 : Int32) 0 (zwI t2 0 0 24 (nI o)) = some t4 := b4
        rw [a4, b4']
        rw [List.append_assoc] at h4
        have hll : (L ++ (M1 ++ [(30, 0)])).length = (L ++ M1).length + 1 := by rw [← List.append_assoc, List.length_append]; rfl
        refine ⟨true, s4, t4, rfl, rfl, (f1.trans u3).trans f4, (ga1.trans u4).trans ((fD (fra_w rfl)).trans (fQ g4)), fun _ => ⟨k1, M1 ++ [(30, 0)], h4, by omega, by omega, ty_le (ty_not v4) (by omega), ?_⟩, fun z => Bool.noConfusion z⟩
        rw [g4.1 0 0 24 rfl, zw_at, if_pos ⟨rfl, rfl, rfl⟩]
    · rw [if_neg a, if_neg a, if_neg a]
      by_cases b40 : knd B n k = 40
      · have hkT := ev_lt hE hk (by omega)
        rw [if_pos b40, if_pos b40]
        unfold j_X4_readOpened_14
        simp only [zb]
        obtain ⟨s1, t1, a1, b1, h1, f1, g1⟩ := ls_adv hE (ls_dep hq (nI (o + 1))) hkT
        have d1 : t1.1 0 0 24 = nI (o + 1) := by rw [g1.1 0 0 24 rfl, zw_at, if_pos ⟨rfl, rfl, rfl⟩]
        have ga1 : FrA arQ σm t1 := (fD (fra_w rfl)).trans (fQ g1)
        have hei := ls_eith (p := p) (L := L) hE hkk IH (T - (k + 1)) (k + 1) 0 [] false false s1 t1 (Nat.le_refl _) (by omega) (by rw [List.append_nil]; exact h1) d1 (by rw [List.append_nil]; show L.length + 0 + p ≤ k + 1; omega) (ty_nil _)
        have ee : f_X4_readEither tC (nI (o + 1)) s1 = cE tC (nI (o + 1)) (zt false) (bfc false) (nI 0) s1 := rfl
        rw [← ee, ← any_mE] at hei
        obtain ⟨b, s2, t2, u1, u2, u3, u4, u5, u6⟩ := hei
        rw [a1, b1, Option.bind_some, if_pos True.intro, u1, Option.bind_some, Option.bind_some, Option.bind_some]
        dsimp only
        rw [if_neg (show ¬ (1 : Int32) = 0 by decide), u2, Option.bind_some]
        dsimp only
        cases b with
        | false => exact ⟨false, s2, t2, rfl, rfl, f1.trans u3, ga1.trans u4, fun z => Bool.noConfusion z, u6⟩
        | true =>
          obtain ⟨k1, M1, v1, v2, v3, v4, v5⟩ := u5 rfl
          rw [if_neg (show ¬ zt true = 0 by decide), if_neg (show ¬ zt true = 0 by decide)]
          obtain ⟨b, s3, t3, w1, w2, w3, w4, w5, w6⟩ := ls_pass hE hkk v1 (by omega) 41 141 (by decide) (by decide) (by decide) (by decide)
          have w1' : f_X4_pass (41 : Int32) s2 = some (zt b, s3) := w1
          have w2' : f_X12_need (141 : Int32) t2 = some (zt b, t3) := w2
          rw [w1', w2', Option.bind_some, Option.bind_some]
          dsimp only
          cases b with
          | false => exact ⟨false, s3, t3, rfl, rfl, (f1.trans u3).trans w3, (ga1.trans u4).trans (fQ w4), fun z => Bool.noConfusion z, w6⟩
          | true =>
            have h3 := w5 rfl
            have d3 : t3.1 0 0 24 = nI (o + 1) := by rw [w4.1 0 0 24 rfl]; exact v5
            rw [d3, dep_1, if_neg (show ¬ zt true = 0 by decide), if_neg (show ¬ zt true = 0 by decide)]
            refine ⟨true, s3, zwI t3 0 0 24 (nI o), rfl, rfl, (f1.trans u3).trans w3, ((ga1.trans u4).trans (fQ w4)).trans (fD (fra_w rfl)), fun _ => ⟨k1 + 1, M1, ls_dep h3 _, by omega, by omega, ty_le v4 (by omega), ?_⟩, fun z => Bool.noConfusion z⟩
            rw [zw_at, if_pos ⟨rfl, rfl, rfl⟩]
      · rw [if_neg b40, if_neg b40]
        exact ls_cmp hE hkk (by omega) hq hl ho
/-- the whole of a condition -/
theorem ls_any (hE : EvT B n T) (hkk : kk < 2) (hq : LQ B n T kk k L σc σm) (hl : L.length + p ≤ k) (ho : σm.1 0 0 24 = 0) : RdT (g_X4_readEither 0 σc) (g_X12_any σm) σc σm (TstG p B n T kk k L 22 0) := by
  have IH := ls_test (B := B) (n := n) (T := T) (kk := kk) hE hkk 8 (Nat.le_refl 8)
  have hei := ls_eith (p := p) (L := L) hE hkk IH (T - k) k 0 [] false false σc σm (Nat.le_refl _) (by omega) (by rw [List.append_nil]; exact hq) ho (by rw [List.append_nil]; show L.length + 0 + p ≤ k; omega) (ty_nil _)
  rw [← any_mE] at hei
  exact hei
end PURE
