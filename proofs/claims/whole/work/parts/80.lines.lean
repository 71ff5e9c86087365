/-! PURE LAYER: lines of a law -/
def arCL (f i k : Nat) : Bool := (f == 4 && i == 0) || ((f == 10 && i == 2) || ((f == 23 || (f == 24 || (f == 25 || f == 26))) && i == 2))
def arML (f i k : Nat) : Bool := (f == 0 && (i == 0 && (k == 13 || (k == 14 || (k == 17 || (k == 18 || (k == 19 || (k == 20 || (k == 21 || (k == 22 || k == 24)))))))))) || (f == 4 || f == 5)
theorem fCL {σ σ' : zG} (h : FrA arC σ σ') : FrA arCL σ σ' := h.mono fun f i k a => by unfold arCL at a; unfold arC arA arF arO; simp at a ⊢; omega
theorem fML {σ σ' : zG} (h : FrA arQ σ σ') : FrA arML σ σ' := h.mono fun f i k a => by unfold arML at a; unfold arQ arM arN arB arL arD; simp at a ⊢; omega
/-- a row of lines: from, middle, to -/
def l0 : Nat × Nat × Nat := (0, 0, 0)
def LNc (σ : zG) (X : List (Nat × Nat × Nat)) : Prop := σ.1 10 2 0 = nI X.length ∧ ∀ i, i < X.length → σ.1 24 2 i = nI (X.getD i l0).1 ∧ σ.1 25 2 i = nI (X.getD i l0).2.1 ∧ σ.1 26 2 i = nI (X.getD i l0).2.2
def LNf (σ : zG) (X : List (Nat × Nat × Nat)) : Prop := ∀ i, i < X.length → σ.1 4 0 (3 * i) = nI (X.getD i l0).1 ∧ σ.1 4 0 (3 * i + 1) = nI (X.getD i l0).2.1 ∧ σ.1 4 0 (3 * i + 2) = nI (X.getD i l0).2.2
/-- a line whose orders stand in L -/
def GL (L : List (Nat × Nat)) (x : Nat × Nat × Nat) : Prop := ∃ A V C D, L = A ++ (V ++ (C ++ D)) ∧ x.1 = A.length ∧ x.2.1 = x.1 + V.length ∧ x.2.2 = x.2.1 + C.length ∧ trl V [] = some [false] ∧ (C = [] ∨ trl C [] = some [true])
theorem gl_app {L : List (Nat × Nat)} {x : Nat × Nat × Nat} (h : GL L x) (N : List (Nat × Nat)) : GL (L ++ N) x := by
  obtain ⟨A, V, C, D, e, h⟩ := h
  refine ⟨A, V, C, D ++ N, ?_, h⟩
  rw [e, List.append_assoc, List.append_assoc, List.append_assoc]
theorem getD_app3 (X : List (Nat × Nat × Nat)) (x : Nat × Nat × Nat) (j : Nat) : (X ++ [x]).getD j l0 = if j < X.length then X.getD j l0 else if j = X.length then x else l0 := by
  rw [List.getD_eq_getElem?_getD, List.getD_eq_getElem?_getD]
  by_cases c : j < X.length
  · rw [if_pos c, List.getElem?_append_left c]
  · rw [if_neg c, List.getElem?_append_right (by omega)]
    by_cases d : j = X.length
    · rw [if_pos d, d, Nat.sub_self]; rfl
    · rw [if_neg d, List.getElem?_eq_none (by simp; omega)]; rfl
section PURE
variable {σ σ' σc σm sc sm : zG} {B : Nat → Nat} {n T k r kk p : Nat} {L M : List (Nat × Nat)} {X : List (Nat × Nat × Nat)}
theorem ls_fresh (h : LQ B n T kk k L σc σm) (j : Nat) (x : Int32) : LQ B n T kk k L σc (zwI σm 4 0 j x) := by
  have hf : FrA (fun f _ _ => f == 4) σm (zwI σm 4 0 j x) := fra_w rfl
  have hf2 : FrA tsM σm (zwI σm 4 0 j x) := hf.mono fun f i k a => by
    unfold tsM at a
    simp at a ⊢
    omega
  exact ⟨h.1, h.2.1.fr hf2, h.2.2.1, h.2.2.2.1.fr hf rfl (fun _ => rfl), h.2.2.2.2⟩
theorem c_line (h : LQ B n T kk k L σc σm) (hX : LNc σc X) (hl : X.length < 16) (f m : Nat) : ∃ s, f_X3_addLine 2 (nI f) (nI m) σc = some s ∧ LQ B n T kk k L s σm ∧ LNc s (X ++ [(f, m, L.length)]) ∧ FrA arCL σc s := by
  unfold f_X3_addLine
  rw [hX.1, if_pos (show nI X.length < 16 from nI_lt (b := 16) hl (by decide)), zin_ok hl (by decide), zgT, nI_clamp (show X.length < 2 ^ 31 by omega)]
  simp only [zb]
  have e1 : (zwI σc 24 2 X.length (nI f)).1 10 2 0 = nI X.length := by rw [zw_at, if_neg (fun z => absurd z.1 (by decide))]; exact hX.1
  rw [e1, zin_ok hl (by decide), zgT, nI_clamp (show X.length < 2 ^ 31 by omega)]
  have e2 : (zwI (zwI σc 24 2 X.length (nI f)) 25 2 X.length (nI m)).1 10 2 0 = nI X.length := by rw [zw_at, if_neg (fun z => absurd z.1 (by decide))]; exact e1
  have e3 : (zwI (zwI σc 24 2 X.length (nI f)) 25 2 X.length (nI m)).1 10 2 1 = nI L.length := by rw [zw_at, if_neg (fun z => absurd z.1 (by decide)), zw_at, if_neg (fun z => absurd z.1 (by decide))]; exact h.2.2.1.1
  rw [e2, zin_ok hl (by decide), zgT, nI_clamp (show X.length < 2 ^ 31 by omega), e3]
  have e4 : (zwI (zwI (zwI σc 24 2 X.length (nI f)) 25 2 X.length (nI m)) 26 2 X.length (nI L.length)).1 10 2 0 = nI X.length := by rw [zw_at, if_neg (fun z => absurd z.1 (by decide))]; exact e2
  rw [e4, nI_1]
  generalize hs : zwI (zwI (zwI (zwI σc 24 2 X.length (nI f)) 25 2 X.length (nI m)) 26 2 X.length (nI L.length)) 10 2 0 (nI (X.length + 1)) = s
  have hf : FrA (fun f i k => (f == 24 || (f == 25 || f == 26)) || (f == 10 && (i == 2 && k == 0))) σc s := by rw [← hs]; exact (((fra_w rfl).w rfl).w rfl).w rfl
  have hf1 : FrA tsC σc s := hf.mono fun f i k a => by unfold tsC at a; simp at a ⊢; omega
  refine ⟨s, rfl, ⟨h.1.fr hf1, h.2.1, h.2.2.1.fr hf rfl (fun _ => rfl), h.2.2.2.1, h.2.2.2.2.1, by rw [hf.1 4 0 5 rfl]; exact h.2.2.2.2.2.1, by rw [hf.1 4 0 6 rfl, hf.1 4 0 3 rfl, hf.1 4 0 4 rfl]; exact h.2.2.2.2.2.2⟩, ⟨?_, fun i hi => ?_⟩, by rw [← hs]; exact (((fra_w rfl).w rfl).w rfl).w rfl⟩
  · rw [← hs, zw_at, if_pos ⟨rfl, rfl, rfl⟩, List.length_append]; rfl
  · rw [List.length_append] at hi
    have hi' : i < X.length + 1 := hi
    rw [getD_app3, ← hs]
    by_cases q : i = X.length
    · rw [if_neg (by omega), if_pos q, q]
      refine ⟨?_, ?_, ?_⟩ <;> simp [zw_at]
    · rw [if_pos (by omega)]
      have := hX.2 i (by omega)
      refine ⟨?_, ?_, ?_⟩
      · simp [zw_at, q]; exact this.1
      · simp [zw_at, q]; exact this.2.1
      · simp [zw_at, q]; exact this.2.2
def RdL (A D : Option (Int32 × zG)) (σc σm : zG) (G : zG → zG → Prop) : Prop := ∃ b sc sm, A = some (zt b, sc) ∧ D = some (zt b, sm) ∧ FrA arCL σc sc ∧ FrA arML σm sm ∧ (b = true → G sc sm) ∧ (b = false → BdF sc sm)
theorem RdT.l {A D : Option (Int32 × zG)} {G : zG → zG → Prop} (h : RdT A D σc σm G) : RdL A D σc σm G := by
  obtain ⟨b, x, y, h1, h2, h3, h4, h5, h6⟩ := h
  exact ⟨b, x, y, h1, h2, fCL h3, fML h4, h5, fun z => (h6 z).1⟩
theorem RdL.tr {A D : Option (Int32 × zG)} {G : zG → zG → Prop} (h : RdL A D sc sm G) (hc : FrA arCL σc sc) (hm : FrA arML σm sm) : RdL A D σc σm G := by
  obtain ⟨b, x, y, h1, h2, h3, h4, h5⟩ := h
  exact ⟨b, x, y, h1, h2, hc.trans h3, hm.trans h4, h5⟩
theorem LNc.fr (h : LNc σ X) (hf : FrA arC σ σ') : LNc σ' X := ⟨by rw [hf.1 10 2 0 rfl]; exact h.1, fun i hi => by rw [hf.1 24 2 i rfl, hf.1 25 2 i rfl, hf.1 26 2 i rfl]; exact h.2 i hi⟩
/-- behind the line: ; -/
theorem ls_semi (hE : EvT B n T) (hkk : kk < 2) (h : LQ B n T kk k L σc σm) (hl : L.length ≤ k) (hX : LNc σc X) (hX16 : X.length < 16) (h13 : σm.1 0 0 13 = nI X.length) (hF : LNf σm X) (f m : Nat) (h0 : σm.1 4 0 (3 * X.length) = nI f) (h1 : σm.1 4 0 (3 * X.length + 1) = nI m) : RdL (j_X4_readLine_84 (nI f) (nI m) σc) (j_X12_aLine_101 σm) σc σm (fun sc sm => LQ B n T kk (k + 1) L sc sm ∧ LNc sc (X ++ [(f, m, L.length)]) ∧ sm.1 0 0 13 = nI X.length ∧ LNf sm (X ++ [(f, m, L.length)])) := by
  unfold j_X4_readLine_84 j_X12_aLine_101
  obtain ⟨s1, a1, a2, a3, a4⟩ := c_line h hX hX16 f m
  have e3 : (3 : Int32) * nI X.length = nI (3 * X.length) := pk_mul 3 _
  have e5 : nI (3 * X.length) + 2 = nI (3 * X.length + 2) := nI_add _ 2
  rw [a1, Option.bind_some, h13, e3, e5, zin_ok (show 3 * X.length + 2 < 48 by omega) (by decide), zgT, nI_clamp (show 3 * X.length + 2 < 2 ^ 31 by omega), h.2.2.2.1.1]
  simp only [zb]
  have a2' := ls_fresh a2 (3 * X.length + 2) (nI L.length)
  obtain ⟨b, s2, t2, w1, w2, w3, w4, w5, w6⟩ := ls_pass hE hkk a2' hl 59 159 (by decide) (by decide) (by decide) (by decide)
  have w1' : f_X4_pass (59 : Int32) s1 = some (zt b, s2) := w1
  have w2' : f_X12_need (159 : Int32) (zwI σm 4 0 (3 * X.length + 2) (nI L.length)) = some (zt b, t2) := w2
  rw [w1', w2', Option.bind_some, Option.bind_some, zbl_zt, zgT]
  refine ⟨b, s2, t2, rfl, rfl, a4.trans (fCL w3), (fra_w rfl).trans (fML (fQ w4)), fun z => ⟨w5 z, a3.fr w3, ?_, fun i hi => ?_⟩, fun z => (w6 z).1⟩
  · rw [w4.1 0 0 13 rfl, zw_at, if_neg (fun z => absurd z.1 (by decide))]; exact h13
  · rw [w4.1 4 0 _ rfl, w4.1 4 0 _ rfl, w4.1 4 0 _ rfl, getD_app3]
    rw [List.length_append] at hi
    have hi' : i < X.length + 1 := hi
    by_cases q : i = X.length
    · rw [if_neg (by omega), if_pos q, q]
      refine ⟨?_, ?_, ?_⟩
      · rw [zw_at, if_neg (fun z => by omega)]; exact h0
      · rw [zw_at, if_neg (fun z => by omega)]; exact h1
      · rw [zw_at, if_pos ⟨rfl, rfl, rfl⟩]
    · rw [if_pos (by omega)]
      have := hF i (by omega)
      refine ⟨?_, ?_, ?_⟩
      · rw [zw_at, if_neg (fun z => by omega)]; exact this.1
      · rw [zw_at, if_neg (fun z => by omega)]; exact this.2.1
      · rw [zw_at, if_neg (fun z => by omega)]; exact this.2.2
end PURE
