/-! PURE LAYER: orders of a law, laid by both sides -/
def ORc (σ : zG) (L : List (Nat × Nat)) : Prop := σ.1 10 2 1 = nI L.length ∧ ∀ j, j < L.length → σ.1 23 2 j = nI (lwC (L.getD j (0, 0)).1 (L.getD j (0, 0)).2)
def ORm (σ : zG) (L : List (Nat × Nat)) : Prop := σ.1 0 0 14 = nI L.length ∧ ∀ j, j < L.length → σ.1 5 0 (2 * j) = nI (L.getD j (0, 0)).1 ∧ ((L.getD j (0, 0)).1 = 0 ∨ (L.getD j (0, 0)).1 = 26 → σ.1 5 0 (2 * j + 1) = nI (L.getD j (0, 0)).2)
def arO (f i k : Nat) : Bool := (f == 10 && (i == 2 && k == 1)) || (f == 23 && i == 2)
def arL (f i k : Nat) : Bool := (f == 0 && (i == 0 && k == 14)) || (f == 5 && i == 0)
def arD (f i k : Nat) : Bool := f == 0 && (i == 0 && k == 24)
def arC (f i k : Nat) : Bool := arA f i k || (arF f i k || arO f i k)
def arM (f i k : Nat) : Bool := arN f i k || (arB f i k || arL f i k)
def arQ (f i k : Nat) : Bool := arM f i k || arD f i k
theorem fA {σ σ' : zG} (h : FrA arA σ σ') : FrA arC σ σ' := h.mono fun f i k a => by unfold arC at a; simp only [Bool.or_eq_false_iff] at a; exact a.1
theorem fF {σ σ' : zG} (h : FrA arF σ σ') : FrA arC σ σ' := h.mono fun f i k a => by unfold arC at a; simp only [Bool.or_eq_false_iff] at a; exact a.2.1
theorem fO {σ σ' : zG} (h : FrA arO σ σ') : FrA arC σ σ' := h.mono fun f i k a => by unfold arC at a; simp only [Bool.or_eq_false_iff] at a; exact a.2.2
theorem fN {σ σ' : zG} (h : FrA arN σ σ') : FrA arM σ σ' := h.mono fun f i k a => by unfold arM at a; simp only [Bool.or_eq_false_iff] at a; exact a.1
theorem fB {σ σ' : zG} (h : FrA arB σ σ') : FrA arM σ σ' := h.mono fun f i k a => by unfold arM at a; simp only [Bool.or_eq_false_iff] at a; exact a.2.1
theorem fL {σ σ' : zG} (h : FrA arL σ σ') : FrA arM σ σ' := h.mono fun f i k a => by unfold arM at a; simp only [Bool.or_eq_false_iff] at a; exact a.2.2
theorem fD {σ σ' : zG} (h : FrA arD σ σ') : FrA arQ σ σ' := h.mono fun f i k a => by unfold arQ at a; simp only [Bool.or_eq_false_iff] at a; exact a.2
theorem fQ {σ σ' : zG} (h : FrA arM σ σ') : FrA arQ σ σ' := h.mono fun f i k a => by unfold arQ at a; simp only [Bool.or_eq_false_iff] at a; exact a.1
theorem oT {σ σ' : zG} (h : FrA arO σ σ') : FrA tsC σ σ' := h.mono fun f i k a => by unfold tsC at a; unfold arO; simp at a ⊢; omega
theorem lT {σ σ' : zG} (h : FrA arL σ σ') : FrA tsM σ σ' := h.mono fun f i k a => by unfold tsM at a; unfold arL; simp at a ⊢; omega
theorem dT {σ σ' : zG} (h : FrA arD σ σ') : FrA tsM σ σ' := h.mono fun f i k a => by unfold tsM at a; unfold arD; simp at a ⊢; omega
theorem getD_app (L : List (Nat × Nat)) (x : Nat × Nat) (j : Nat) : (L ++ [x]).getD j (0, 0) = if j < L.length then L.getD j (0, 0) else if j = L.length then x else (0, 0) := by
  rw [List.getD_eq_getElem?_getD, List.getD_eq_getElem?_getD]
  by_cases c : j < L.length
  · rw [if_pos c, List.getElem?_append_left c]
  · rw [if_neg c, List.getElem?_append_right (by omega)]
    by_cases d : j = L.length
    · rw [if_pos d, d, Nat.sub_self]; rfl
    · rw [if_neg d, List.getElem?_eq_none (by simp; omega)]; rfl
theorem pack (c v : Nat) (hc : c < 32768) (hv : v < 65536) : zshl (nI c) 16 ||| (nI v &&& 65535) = nI (65536 * c + v) := by
  have e1 : zshl (nI c) 16 = nI (2 ^ 16 * c) := by
    unfold zshl
    rw [pk_shlN ((16 : Int32) &&& 31) 16 rfl (by omega), Nat.mul_comm]
  have e2 : nI v &&& 65535 = nI (v % 2 ^ 16) := pk_andN (by omega) 16 rfl
  rw [e1, e2, fa_or_sum c (Nat.mod_lt _ (by decide)), Nat.mod_eq_of_lt (by omega)]
section PURE
variable {σ σ' σc σm sc sm : zG} {B : Nat → Nat} {n T k r kk : Nat} {L M : List (Nat × Nat)}
theorem c_ord (h : ORc σ L) (hl : L.length < 400) {c w : Int32} {s v : Nat} (hp : zshl c 16 ||| (w &&& 65535) = nI (lwC s v)) : ∃ s', f_X3_add 2 c w σ = some s' ∧ ORc s' (L ++ [(s, v)]) ∧ FrA arO σ s' := by
  unfold f_X3_add
  rw [h.1, if_pos (show nI L.length < 400 from nI_lt (b := 400) hl (by decide)), zin_ok hl (by decide), zgT, nI_clamp (show L.length < 2 ^ 31 by omega), hp]
  simp only [zb]
  have e1 : (zwI σ 23 2 L.length (nI (lwC s v))).1 10 2 1 = nI L.length := by rw [zw_at, if_neg (fun z => absurd z.1 (by decide))]; exact h.1
  rw [e1, nI_1]
  refine ⟨_, rfl, ⟨?_, fun j hj => ?_⟩, (fra_w rfl).w rfl⟩
  · rw [zw_at, if_pos ⟨rfl, rfl, rfl⟩, List.length_append]; rfl
  · rw [zw_at, if_neg (fun z => absurd z.1 (by decide)), zw_at, getD_app]
    rw [List.length_append] at hj
    have hj' : j < L.length + 1 := hj
    by_cases q : j = L.length
    · rw [if_pos ⟨rfl, rfl, q⟩, if_neg (by omega), if_pos q]
    · rw [if_neg (fun z => q z.2.2), if_pos (by omega)]
      exact h.2 j (by omega)
theorem c_ordx (h : ∃ m, m ≤ 400 ∧ σ.1 10 2 1 = nI m) (c w : Int32) : ∃ s', f_X3_add 2 c w σ = some s' ∧ (∃ m, m ≤ 400 ∧ s'.1 10 2 1 = nI m) ∧ FrA arO σ s' := by
  obtain ⟨m, hm, e⟩ := h
  unfold f_X3_add
  rw [e]
  by_cases q : m < 400
  · rw [if_pos (show nI m < 400 from nI_lt (b := 400) q (by decide)), zin_ok q (by decide), zgT, nI_clamp (show m < 2 ^ 31 by omega)]
    simp only [zb]
    have e1 : ∀ x, (zwI σ 23 2 m x).1 10 2 1 = nI m := fun x => by rw [zw_at, if_neg (fun z => absurd z.1 (by decide))]; exact e
    rw [e1, nI_1]
    exact ⟨_, rfl, ⟨m + 1, by omega, by rw [zw_at, if_pos ⟨rfl, rfl, rfl⟩]⟩, (fra_w rfl).w rfl⟩
  · rw [if_neg (show ¬ nI m < 400 from nI_nlt (b := 400) (by omega) (by omega))]
    exact ⟨_, rfl, ⟨m, hm, e⟩, FrA.refl _ _⟩
theorem m_ord (h : ORm σ L) (hl : L.length < 400) {s v : Nat} {x : Int32} (hx : s = 0 ∨ s = 26 → x = nI v) : ∃ s', f_X12_lay (nI s) x σ = some s' ∧ ORm s' (L ++ [(s, v)]) ∧ FrA arL σ s' := by
  unfold f_X12_lay
  have e2 : (2 : Int32) * nI L.length = nI (2 * L.length) := pk_mul 2 _
  rw [h.1, e2, zin_ok (show 2 * L.length < 820 by omega) (by decide), zgT, nI_clamp (show 2 * L.length < 2 ^ 31 by omega)]
  simp only [zb]
  have e1 : (zwI σ 5 0 (2 * L.length) (nI s)).1 0 0 14 = nI L.length := by rw [zw_at, if_neg (fun z => absurd z.1 (by decide))]; exact h.1
  rw [e1, e2, nI_1, zin_ok (show 2 * L.length + 1 < 820 by omega) (by decide), zgT, nI_clamp (show 2 * L.length + 1 < 2 ^ 31 by omega)]
  have e3 : (zwI (zwI σ 5 0 (2 * L.length) (nI s)) 5 0 (2 * L.length + 1) x).1 0 0 14 = nI L.length := by rw [zw_at, if_neg (fun z => absurd z.1 (by decide))]; exact e1
  rw [e3, nI_1]
  refine ⟨_, rfl, ⟨?_, fun j hj => ?_⟩, ((fra_w rfl).w rfl).w rfl⟩
  · rw [zw_at, if_pos ⟨rfl, rfl, rfl⟩, List.length_append]; rfl
  · rw [List.length_append] at hj
    have hj' : j < L.length + 1 := hj
    rw [getD_app]
    by_cases q : j = L.length
    · rw [if_neg (by omega), if_pos q]
      refine ⟨?_, fun z => ?_⟩
      · rw [zw_at, if_neg (fun z => absurd z.1 (by decide)), zw_at, if_neg (fun z => by omega), zw_at, if_pos ⟨rfl, rfl, by omega⟩]
      · rw [zw_at, if_neg (fun z => absurd z.1 (by decide)), zw_at, if_pos ⟨rfl, rfl, by omega⟩]
        exact hx z
    · rw [if_pos (by omega)]
      have := h.2 j (by omega)
      refine ⟨?_, fun z => ?_⟩
      · rw [zw_at, if_neg (fun z => absurd z.1 (by decide)), zw_at, if_neg (fun z => by omega), zw_at, if_neg (fun z => by omega)]
        exact this.1
      · rw [zw_at, if_neg (fun z => absurd z.1 (by decide)), zw_at, if_neg (fun z => by omega), zw_at, if_neg (fun z => by omega)]
        exact this.2 z
/-- both at word k, with the orders L behind them, reading law kk -/
def LQ (B : Nat → Nat) (n T kk k : Nat) (L : List (Nat × Nat)) (σc σm : zG) : Prop := CS B n T k σc ∧ MS B n (kk + 1) k σm ∧ ORc σc L ∧ ORm σm L ∧ (∀ x ∈ L, lwOk kk x.1 x.2) ∧ σc.1 4 0 5 = nI (114 + 3 * kk) ∧ (σc.1 4 0 6 = nI (117 + 4 * kk) ∧ σc.1 4 0 3 = 0 ∧ σc.1 4 0 4 = -1)
theorem ORc.fr {ar : Nat → Nat → Nat → Bool} (h : ORc σ L) (hf : FrA ar σ σ') (h1 : ar 10 2 1 = false) (h2 : ∀ j, ar 23 2 j = false) : ORc σ' L := ⟨by rw [hf.1 10 2 1 h1]; exact h.1, fun j hj => by rw [hf.1 23 2 j (h2 j)]; exact h.2 j hj⟩
theorem ORm.fr {ar : Nat → Nat → Nat → Bool} (h : ORm σ L) (hf : FrA ar σ σ') (h1 : ar 0 0 14 = false) (h2 : ∀ j, ar 5 0 j = false) : ORm σ' L := ⟨by rw [hf.1 0 0 14 h1]; exact h.1, fun j hj => by rw [hf.1 5 0 _ (h2 _), hf.1 5 0 _ (h2 _)]; exact h.2 j hj⟩
theorem ls_adv (hE : EvT B n T) (h : LQ B n T kk k L σc σm) (hk : k < T) : ∃ sc sm, f_X4_advance σc = some sc ∧ f_X12_next0 σm = some sm ∧ LQ B n T kk (k + 1) L sc sm ∧ FrA arC σc sc ∧ FrA arM σm sm := by
  obtain ⟨a, b, c, d, e, f, g⟩ := h
  obtain ⟨sc, a1, a2, a3⟩ := c_adv hE a hk
  obtain ⟨sm, b1, b2, b3⟩ := m_adv b
  exact ⟨sc, sm, a1, b1, ⟨a2, b2, c.fr a3 rfl (fun _ => rfl), d.fr b3 rfl (fun _ => rfl), e, by rw [a3.1 4 0 5 rfl]; exact f, by rw [a3.1 4 0 6 rfl, a3.1 4 0 3 rfl, a3.1 4 0 4 rfl]; exact g⟩, fA a3, fN b3⟩
theorem ls_ord (h : LQ B n T kk k L σc σm) (hl : L.length < 400) {c w x : Int32} {s v : Nat} (hp : zshl c 16 ||| (w &&& 65535) = nI (lwC s v)) (hx : s = 0 ∨ s = 26 → x = nI v) (hok : lwOk kk s v) : ∃ sc sm, f_X3_add 2 c w σc = some sc ∧ f_X12_lay (nI s) x σm = some sm ∧ LQ B n T kk k (L ++ [(s, v)]) sc sm ∧ FrA arC σc sc ∧ FrA arM σm sm := by
  obtain ⟨a, b, c, d, e, f, g⟩ := h
  obtain ⟨sc, a1, a2, a3⟩ := c_ord c hl hp
  obtain ⟨sm, b1, b2, b3⟩ := m_ord d hl hx
  refine ⟨sc, sm, a1, b1, ⟨a.fr (oT a3), b.fr (lT b3), a2, b2, fun y hy => ?_, by rw [a3.1 4 0 5 rfl]; exact f, by rw [a3.1 4 0 6 rfl, a3.1 4 0 3 rfl, a3.1 4 0 4 rfl]; exact g⟩, fO a3, fL b3⟩
  rcases List.mem_append.mp hy with q | q
  · exact e y q
  · rw [List.mem_singleton.mp q]; exact hok
/-- how a piece ends on both sides -/
def Rd (A D : Option (Int32 × zG)) (σc σm : zG) (G : zG → zG → Prop) : Prop := ∃ b sc sm, A = some (zt b, sc) ∧ D = some (zt b, sm) ∧ FrA arC σc sc ∧ FrA arM σm sm ∧ (b = true → G sc sm) ∧ (b = false → BdF sc sm ∧ ∃ m, m ≤ 400 ∧ sc.1 10 2 1 = nI m)
def RdT (A D : Option (Int32 × zG)) (σc σm : zG) (G : zG → zG → Prop) : Prop := ∃ b sc sm, A = some (zt b, sc) ∧ D = some (zt b, sm) ∧ FrA arC σc sc ∧ FrA arQ σm sm ∧ (b = true → G sc sm) ∧ (b = false → BdF sc sm ∧ ∃ m, m ≤ 400 ∧ sc.1 10 2 1 = nI m)
theorem Rd.q {A D : Option (Int32 × zG)} {G : zG → zG → Prop} (h : Rd A D σc σm G) : RdT A D σc σm G := by
  obtain ⟨b, x, y, h1, h2, h3, h4, h5⟩ := h
  exact ⟨b, x, y, h1, h2, h3, fQ h4, h5⟩
theorem RdT.tr {A D : Option (Int32 × zG)} {G : zG → zG → Prop} (h : RdT A D sc sm G) (hc : FrA arC σc sc) (hm : FrA arQ σm sm) : RdT A D σc σm G := by
  obtain ⟨b, x, y, h1, h2, h3, h4, h5⟩ := h
  exact ⟨b, x, y, h1, h2, hc.trans h3, hm.trans h4, h5⟩
theorem Rd.tr {A D : Option (Int32 × zG)} {G : zG → zG → Prop} (h : Rd A D sc sm G) (hc : FrA arC σc sc) (hm : FrA arM σm sm) : Rd A D σc σm G := by
  obtain ⟨b, x, y, h1, h2, h3, h4, h5⟩ := h
  exact ⟨b, x, y, h1, h2, hc.trans h3, hm.trans h4, h5⟩
theorem ls_len (hE : EvT B n T) (h : LQ B n T kk k L σc σm) (hl : L.length ≤ k) : L.length ≤ 400 := by
  have := h.1.2.2.1
  have := hE.1
  have := hE.2.1
  omega
theorem ls_fail (hE : EvT B n T) (h : LQ B n T kk k L σc σm) (hl : L.length ≤ k) (w : Int32) {G : zG → zG → Prop} : Rd ((f_X4_fail w σc).bind (fun q1 => zg (zbl q1.1) (some (q1.1, q1.2)))) (zb (f_X12_bad w σm) (fun q7 => zg (zbl q7.1) (some (q7.1, q7.2)))) σc σm G := by
  obtain ⟨sc, sm, a1, a2, a3, a4, a5⟩ := ls_bad hE h.1 h.2.1 w
  refine ⟨false, sc, sm, ?_, ?_, fF a4, fB a5, fun z => Bool.noConfusion z, fun _ => ⟨a3, L.length, ls_len hE h hl, by rw [a4.1 10 2 1 rfl]; exact h.2.2.1.1⟩⟩
  · rw [a1]; rfl
  · rw [a2]; rfl
def imB (kk k : Nat) : Bool := !(decide (114 + 3 * kk ≤ k) && decide (k ≤ 117 + 4 * kk)) || (decide (lwC (img (kk + 1) k - 40) 0 = 65536 * 114 + (k - 114)) && (decide (1 ≤ img (kk + 1) k - 40) && (decide (img (kk + 1) k - 40 ≤ 8) && (decide (41 ≤ img (kk + 1) k) && ((decide (kk = 0) && decide (img (kk + 1) k - 40 ≤ 4)) || (decide (kk = 1) && (decide (img (kk + 1) k - 40 = 3) || decide (5 ≤ img (kk + 1) k - 40))))))))
theorem imB_ok : ∀ kk, kk < 2 → ∀ k, k < 122 → imB kk k = true := by decide +kernel
theorem im_ord (kk : Nat) (hkk : kk < 2) (k : Nat) (hk : k < 122) (h1 : 114 + 3 * kk ≤ k) (h2 : k ≤ 117 + 4 * kk) : lwC (img (kk + 1) k - 40) 0 = 65536 * 114 + (k - 114) ∧ 1 ≤ img (kk + 1) k - 40 ∧ img (kk + 1) k - 40 ≤ 8 ∧ 41 ≤ img (kk + 1) k ∧ ((kk = 0 ∧ img (kk + 1) k - 40 ≤ 4) ∨ (kk = 1 ∧ (img (kk + 1) k - 40 = 3 ∨ 5 ≤ img (kk + 1) k - 40))) := by
  have h := imB_ok kk hkk k hk
  unfold imB at h
  rw [decide_eq_true h1, decide_eq_true h2] at h
  simp only [Bool.and_self, Bool.not_true, Bool.false_or, Bool.and_eq_true, Bool.or_eq_true, decide_eq_true_eq] at h
  exact h
theorem ls_unit (hE : EvT B n T) (hkk : kk < 2) (h : LQ B n T kk k L σc σm) (hl : L.length ≤ k) : Rd (f_X4_readUnit σc) (f_X12_unit σm) σc σm (fun sc sm => ∃ x, x.1 < 23 ∧ LQ B n T kk (k + 1) (L ++ [x]) sc sm) := by
  have hk := h.1.2.2.1
  have hT := hE.1
  have hn := hE.2.1
  have hK := (ev_knd hE hk).1
  have hN := ev_nbr hE hk
  have c2 : (σc.1 4 0 8 = (2 : Int32)) = (knd B n k = 2) := tkc hE h.1 2 (by decide)
  have m2 : (σm.1 0 0 18 = (2 : Int32)) = (knd B n k = 2) := tkm hE hk h.2.1 (t := 2) (by decide) (fun k hk => im_L kk hkk k hk (2, 2) (by decide))
  have hI := im_lt (kk + 1) (by omega) _ hK
  unfold f_X4_readUnit f_X12_unit
  simp only [c2, m2]
  have ek := h.1.2.2.2.2.1
  have em := h.2.1.2.2.1
  rw [ek, em, h.2.2.2.2.2.1, h.2.2.2.2.2.2.1]
  have l1 : (nI (114 + 3 * kk) ≤ nI (knd B n k)) = (114 + 3 * kk ≤ knd B n k) := nI_leQ (by omega) (by omega)
  have l2 : (nI (knd B n k) ≤ nI (117 + 4 * kk)) = (knd B n k ≤ 117 + 4 * kk) := nI_leQ (by omega) (by omega)
  have l3 : f_X12_isIn (nI (img (kk + 1) (knd B n k))) 41 48 = zt (decide (114 + 3 * kk ≤ knd B n k ∧ knd B n k ≤ 117 + 4 * kk)) := by
    rw [isIn_zt]
    refine congrArg zt (decide_eq_decide.mpr ?_)
    rw [← im_nm kk hkk _ hK]
    have q1 : ((41 : Int32) ≤ nI (img (kk + 1) (knd B n k))) = (41 ≤ img (kk + 1) (knd B n k)) := nI_leQ (a := 41) (by decide) (by omega)
    have q2 : (nI (img (kk + 1) (knd B n k)) ≤ (48 : Int32)) = (img (kk + 1) (knd B n k) ≤ 48) := nI_leQ (b := 48) (by omega) (by decide)
    rw [q1, q2]
  simp only [l1, l2]
  rw [l3]
  by_cases a : knd B n k = 2
  · have hkT := ev_lt hE hk (by omega)
    rw [if_pos a, if_pos a, decide_eq_false (show ¬ (114 + 3 * kk ≤ knd B n k ∧ knd B n k ≤ 117 + 4 * kk) by omega)]
    unfold j_X12_unit_30
    rw [if_pos (show zt false = 0 by decide), h.1.2.2.2.2.2, h.2.1.2.2.2.2 a]
    obtain ⟨s1, t1, a1, b1, h1, f1, g1⟩ := ls_ord h (by omega) (c := 2) (w := nI (nbr B n k)) (x := nI (nbr B n k)) (s := 0) (v := nbr B n k) (pack 2 _ (by decide) (by omega)) (fun _ => rfl) (Or.inl ⟨rfl, hN⟩)
    obtain ⟨s2, t2, a2, b2, h2, f2, g2⟩ := ls_adv hE h1 hkT
    have b1' : f_X12_lay (0 : Int32) (nI (nbr B n k)) σm = some t1 := b1
    rw [a1, b1', Option.bind_some, Option.bind_some, a2, b2]
    exact ⟨true, s2, t2, rfl, rfl, f1.trans f2, g1.trans g2, fun _ => ⟨_, by show 0 < 23; decide, h2⟩, fun z => Bool.noConfusion z⟩
  · rw [if_neg a, if_neg a]
    by_cases b : 114 + 3 * kk ≤ knd B n k ∧ knd B n k ≤ 117 + 4 * kk
    · have hkT := ev_lt hE hk (by omega)
      obtain ⟨i1, i2, i3, i4, i5⟩ := im_ord kk hkk _ hK b.1 b.2
      rw [if_pos b.1, if_pos b.2, decide_eq_true b, if_neg (show ¬ zt true = 0 by decide)]
      unfold j_X12_unit_30
      have e40 : nI (img (kk + 1) (knd B n k)) - 40 = nI (img (kk + 1) (knd B n k) - 40) := pk_sub (b := 40) (by omega)
      have e114 : nI (knd B n k) - 114 = nI (knd B n k - 114) := pk_sub (b := 114) (by omega)
      rw [if_neg (show ¬ zt true = 0 by decide), em, e40, e114]
      obtain ⟨s1, t1, a1, b1, h1, f1, g1⟩ := ls_ord h (by omega) (c := 114) (w := nI (knd B n k - 114)) (x := σm.1 0 0 20) (s := img (kk + 1) (knd B n k) - 40) (v := 0) (by rw [i1]; exact pack 114 _ (by decide) (by omega)) (fun z => by omega) (by
        unfold lwOk
        rcases i5 with ⟨p, q⟩ | ⟨p, q⟩
        · exact Or.inr (Or.inl ⟨p, i2, q⟩)
        · refine Or.inr (Or.inr (Or.inl ⟨p, ?_⟩))
          rcases q with q | q
          · exact Or.inl q
          · exact Or.inr ⟨q, i3⟩)
      obtain ⟨s2, t2, a2, b2, h2, f2, g2⟩ := ls_adv hE h1 hkT
      rw [a1, b1, Option.bind_some, Option.bind_some, a2, b2]
      exact ⟨true, s2, t2, rfl, rfl, f1.trans f2, g1.trans g2, fun _ => ⟨_, by show img (kk + 1) (knd B n k) - 40 < 23; omega, h2⟩, fun z => Bool.noConfusion z⟩
    · rw [decide_eq_false b, if_pos (show zt false = 0 by decide)]
      by_cases d : 114 + 3 * kk ≤ knd B n k
      · rw [if_pos d, if_neg (fun z => b ⟨d, z⟩)]
        exact ls_fail hE h hl 1
      · rw [if_neg d]
        exact ls_fail hE h hl 1
end PURE
