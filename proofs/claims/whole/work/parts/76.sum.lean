/-! PURE LAYER: sums -/
theorem zlp_none {α β : Type} {f : α → Option (α ⊕ β)} {a : α} (h : f a = none) : zlp f a = none := by
  cases e : zlp f a with
  | none => rfl
  | some b =>
    obtain ⟨m, hm⟩ := zlp_some e
    cases m with
    | zero => rw [zlpn] at hm; cases hm
    | succ m => rw [zlpn, h] at hm; cases hm
theorem zlp_unf {α β : Type} (f : α → Option (α ⊕ β)) (a : α) : zlp f a = (f a).bind (Sum.elim (zlp f) some) := by
  cases e : f a with
  | none => rw [zlp_none e]; rfl
  | some x =>
    cases x with
    | inl a' => rw [zlp_step e]; rfl
    | inr b => rw [zlp_done e]; rfl
/-- types of a row of orders -/
def trl : List (Nat × Nat) → List Bool → Option (List Bool)
  | [], S => some S
  | x :: M, S => (tstep x.1 S).bind (trl M)
theorem trl_app (N : List (Nat × Nat)) : ∀ (M : List (Nat × Nat)) (S : List Bool), trl (M ++ N) S = (trl M S).bind (trl N)
  | [], _ => rfl
  | x :: M, S => by
    show (tstep x.1 S).bind (trl (M ++ N)) = ((tstep x.1 S).bind (trl M)).bind (trl N)
    cases tstep x.1 S with
    | none => rfl
    | some S' => exact trl_app N M S'
def Ty2 (M : List (Nat × Nat)) (h : Nat) (fs : List Bool) : Prop := ∀ S : List Bool, S.length + h ≤ 40 → trl M S = some (fs ++ S)
theorem trl_1 (x : Nat × Nat) (S : List Bool) : trl [x] S = tstep x.1 S := by
  show (tstep x.1 S).bind (trl []) = _
  cases tstep x.1 S <;> rfl
theorem ty_nil (h : Nat) : Ty2 [] h [] := fun _ _ => rfl
theorem ty_one {M : List (Nat × Nat)} {h : Nat} {fs fs' : List Bool} {x : Nat × Nat} (hM : Ty2 M h fs) (hx : ∀ S : List Bool, S.length + h ≤ 40 → tstep x.1 (fs ++ S) = some (fs' ++ S)) : Ty2 (M ++ [x]) h fs' := fun S hS => by rw [trl_app, hM S hS, Option.bind_some, trl_1, hx S hS]
theorem ty_push {M : List (Nat × Nat)} {h : Nat} {fs : List Bool} {x : Nat × Nat} (hM : Ty2 M h fs) (hx : x.1 < 23) (hl : fs.length < h) : Ty2 (M ++ [x]) h (false :: fs) := ty_one hM fun S hS => by
  unfold tstep
  rw [if_pos hx, if_pos (by rw [List.length_append]; omega)]
  rfl
theorem ty_div {M : List (Nat × Nat)} {h v : Nat} {fs : List Bool} (hM : Ty2 M h (false :: fs)) : Ty2 (M ++ [(26, v)]) h (false :: fs) := ty_one hM fun S _ => rfl
theorem ty_bin {M : List (Nat × Nat)} {h s v : Nat} {fs : List Bool} (hs : s = 23 ∨ s = 24 ∨ s = 25) (hM : Ty2 M h (false :: false :: fs)) : Ty2 (M ++ [(s, v)]) h (false :: fs) := ty_one hM fun S _ => by rcases hs with rfl | rfl | rfl <;> rfl
theorem ty_cmp {M : List (Nat × Nat)} {h s v : Nat} {fs : List Bool} (hs : s = 27 ∨ s = 28 ∨ s = 29) (hM : Ty2 M h (false :: false :: fs)) : Ty2 (M ++ [(s, v)]) h (true :: fs) := ty_one hM fun S _ => by rcases hs with rfl | rfl | rfl <;> rfl
theorem ty_not {M : List (Nat × Nat)} {h v : Nat} {fs : List Bool} (hM : Ty2 M h (true :: fs)) : Ty2 (M ++ [(30, v)]) h (true :: fs) := ty_one hM fun S _ => rfl
theorem ty_and {M : List (Nat × Nat)} {h s v : Nat} {fs : List Bool} (hs : s = 31 ∨ s = 32) (hM : Ty2 M h (true :: true :: fs)) : Ty2 (M ++ [(s, v)]) h (true :: fs) := ty_one hM fun S _ => by rcases hs with rfl | rfl <;> rfl
theorem ty_seq {M N : List (Nat × Nat)} {h h' : Nat} {fs fs' : List Bool} (hM : Ty2 M h fs) (hN : Ty2 N h' fs') (hh : fs.length + h' ≤ h) : Ty2 (M ++ N) h (fs' ++ fs) := fun S hS => by
  rw [trl_app, hM S hS, Option.bind_some, hN (fs ++ S) (by rw [List.length_append]; omega), List.append_assoc]
theorem ty_le {M : List (Nat × Nat)} {h h' : Nat} {fs : List Bool} (hM : Ty2 M h fs) (hh : h ≤ h') : Ty2 M h' fs := fun S hS => hM S (by omega)
/-- the tails of the model's product and sum -/
noncomputable def pT (σ : zG) : Option (Int32 × zG) := (zlp (fun q : zG => b_X12_product_9 q) σ).bind (Sum.elim (fun e11 : zG => zb (f_X12_bad (1 : Int32) e11) (fun q12 => zg (zbl q12.1) (some (q12.1, q12.2)))) (Sum.elim (fun e13 : zG => zb (f_X12_bad (2 : Int32) e13) (fun q14 => zg (zbl q14.1) (some (q14.1, q14.2)))) (Sum.elim (fun e15 : zG => some ((0 : Int32), e15)) (fun e16 : zG => some ((1 : Int32), e16)))))
noncomputable def sT (σ : zG) : Option (Int32 × zG) := (zlp (fun q : zG => b_X12_sumUp_9 q) σ).bind (Sum.elim (fun e9 : zG => some ((0 : Int32), e9)) (fun e10 : zG => some ((1 : Int32), e10)))
noncomputable def mC (how : Nat) (σ : zG) : Option (Int32 × zG) := (pT σ).bind (fun q => if q.1 = 0 then some ((0 : Int32), q.2) else (if how = 0 then some q.2 else f_X12_lay (nI how) 0 q.2).bind sT)
noncomputable def cC (wt i : Int32) (b : Int32) (σ : zG) : Option (Int32 × zG) := (zlp (fun q : Int32 × Int32 × Int32 × zG => b_X4_readSum_9 q.1 q.2.1 q.2.2.1 q.2.2.2) (wt, b, i, σ)).bind (fun e13 : Int32 × Int32 × zG => (f_X4_addWaiting e13.1 e13.2.2).bind (fun q14 => zg (zbl e13.2.1) (some (e13.2.1, q14))))
theorem sT_more {σ : zG} {t : Nat} (ht : t ≠ 0) (h : b_X12_sumUp_9 σ = j_X12_sumUp_46_9 (nI t) σ) : sT σ = (f_X12_next0 σ).bind (fun q6 => (f_X12_unit q6).bind (fun q1 => if q1.1 = 0 then some ((0 : Int32), q1.2) else mC t q1.2)) := by
  have e0 : sT σ = (b_X12_sumUp_9 σ).bind (fun x => (Sum.elim (zlp (fun q : zG => b_X12_sumUp_9 q)) some x).bind (Sum.elim (fun e9 : zG => some ((0 : Int32), e9)) (fun e10 : zG => some ((1 : Int32), e10)))) := by
    unfold sT
    rw [zlp_unf, Option.bind_assoc]
  rw [e0, h]
  unfold j_X12_sumUp_46_9
  rw [Option.bind_assoc]
  refine congrArg _ (funext fun q6 => ?_)
  unfold f_X12_product
  rw [Option.bind_assoc, Option.bind_assoc]
  refine congrArg _ (funext fun q1 => ?_)
  by_cases a : q1.1 = 0
  · rw [if_pos a, if_pos a]; rfl
  · rw [if_neg a, if_neg a]
    unfold mC
    show (pT q1.2).bind _ = _
    refine congrArg _ (funext fun q7 => ?_)
    by_cases b : q7.1 = 0
    · rw [if_pos b, if_pos b]; rfl
    · rw [if_neg b, if_neg b, if_neg ht, Option.bind_assoc]
      rfl
section PURE
variable {σ σ' σc σm sc sm : zG} {B : Nat → Nat} {n T k r kk : Nat} {L M : List (Nat × Nat)}
def pnd (how : Nat) (M : List (Nat × Nat)) : List (Nat × Nat) := if how = 0 then M else M ++ [(how, 0)]
def Pw (wt how : Nat) : Prop := (wt = 0 ∧ how = 0) ∨ (wt = 43 ∧ how = 23) ∨ (wt = 45 ∧ how = 24)
theorem c_pend {wt how : Nat} (hw : Pw wt how) (h : ORc σ (L ++ M)) (hl : how ≠ 0 → (L ++ M).length < 400) : ∃ s, f_X4_addWaiting (nI wt) σ = some s ∧ ORc s (L ++ pnd how M) ∧ FrA arO σ s := by
  unfold f_X4_addWaiting pnd
  rcases hw with ⟨rfl, rfl⟩ | ⟨rfl, rfl⟩ | ⟨rfl, rfl⟩
  · exact ⟨σ, rfl, h, FrA.refl _ _⟩
  · obtain ⟨s, e, h1, h2⟩ := c_ord h (hl (by decide)) (c := nI 43) (w := 0) (s := 23) (v := 0) (by decide)
    rw [if_neg (by decide), e, if_neg (by decide), ← List.append_assoc]
    exact ⟨s, rfl, h1, h2⟩
  · obtain ⟨s, e, h1, h2⟩ := c_ord h (hl (by decide)) (c := nI 45) (w := 0) (s := 24) (v := 0) (by decide)
    rw [if_neg (by decide), e, if_neg (by decide), ← List.append_assoc]
    exact ⟨s, rfl, h1, h2⟩
theorem m_pend {wt how : Nat} (hw : Pw wt how) (h : ORm σ (L ++ M)) (hl : how ≠ 0 → (L ++ M).length < 400) : ∃ s, (if how = 0 then some σ else f_X12_lay (nI how) 0 σ) = some s ∧ ORm s (L ++ pnd how M) ∧ FrA arL σ s := by
  unfold pnd
  rcases hw with ⟨rfl, rfl⟩ | ⟨rfl, rfl⟩ | ⟨rfl, rfl⟩
  · exact ⟨σ, rfl, h, FrA.refl _ _⟩
  · obtain ⟨s, e, h1, h2⟩ := m_ord h (hl (by decide)) (s := 23) (v := 0) (x := 0) (fun _ => rfl)
    rw [if_neg (by decide), e, if_neg (by decide), ← List.append_assoc]
    exact ⟨s, rfl, h1, h2⟩
  · obtain ⟨s, e, h1, h2⟩ := m_ord h (hl (by decide)) (s := 24) (v := 0) (x := 0) (fun _ => rfl)
    rw [if_neg (by decide), e, if_neg (by decide), ← List.append_assoc]
    exact ⟨s, rfl, h1, h2⟩
theorem ok_pend {wt how : Nat} (hw : Pw wt how) (h : ∀ x ∈ L ++ M, lwOk kk x.1 x.2) : ∀ x ∈ L ++ pnd how M, lwOk kk x.1 x.2 := by
  unfold pnd
  by_cases c : how = 0
  · rw [if_pos c]; exact h
  · rw [if_neg c, ← List.append_assoc]
    intro x hx
    rcases List.mem_append.mp hx with q | q
    · exact h x q
    · rw [List.mem_singleton.mp q]
      unfold lwOk Pw at *
      show (how = 0 ∧ _) ∨ _
      omega
theorem c_sumX (wt : Nat) (i : Int32) (hc : ∃ m, m ≤ 400 ∧ σ.1 10 2 1 = nI m) : ∃ s, cC (nI wt) i 0 σ = some (0, s) ∧ FrA arO σ s ∧ ∃ m, m ≤ 400 ∧ s.1 10 2 1 = nI m := by
  unfold cC
  have e : zlp (fun q : Int32 × Int32 × Int32 × zG => b_X4_readSum_9 q.1 q.2.1 q.2.2.1 q.2.2.2) (nI wt, 0, i, σ) = some (nI wt, 0, σ) := zlp_done (by
    show b_X4_readSum_9 (nI wt) 0 i σ = _
    unfold b_X4_readSum_9
    rw [if_pos rfl]
    by_cases c : i ≤ 400
    · rw [if_pos c]
    · rw [if_neg c])
  rw [e, Option.bind_some]
  unfold f_X4_addWaiting
  dsimp only
  by_cases c : nI wt = 0
  · rw [if_pos c]
    exact ⟨σ, rfl, FrA.refl _ _, hc⟩
  · rw [if_neg c]
    obtain ⟨s, e1, e2, e3⟩ := c_ordx hc (nI wt) 0
    rw [e1]
    exact ⟨s, rfl, e3, e2⟩
theorem c_step {wt i b : Int32} {wt' i' b' : Int32} {σ σ' : zG} (h : b_X4_readSum_9 wt b i σ = some (Sum.inl (wt', b', i', σ'))) : cC wt i b σ = cC wt' i' b' σ' := by
  unfold cC
  rw [zlp_step (a := (wt, b, i, σ)) (a' := (wt', b', i', σ')) h]
theorem p_step {σ σ' : zG} (h : b_X12_product_9 σ = some (Sum.inl σ')) : pT σ = pT σ' := by
  unfold pT
  rw [zlp_step (a := σ) (a' := σ') h]
theorem bd_fr (h : BdF sc sm) (hf : FrA arO sc σ') : BdF σ' sm := ⟨by rw [hf.1 4 0 3 rfl]; exact h.1, by rw [hf.1 4 0 4 rfl]; exact h.2⟩
end PURE
