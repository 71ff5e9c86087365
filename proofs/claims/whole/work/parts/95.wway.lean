/-! PURE LAYER: a walker's way, both sides -/
def ways (P : List (Nat × Nat)) : List Nat := P.flatMap (fun x => List.replicate x.2 x.1)
theorem ways_app (P : List (Nat × Nat)) (a b : Nat) : ways (P ++ [(a, b)]) = ways P ++ List.replicate b a := by
  unfold ways
  rw [List.flatMap_append]
  simp
theorem ways_len (P : List (Nat × Nat)) (h : ∀ x ∈ P, x.2 ≤ 60) : (ways P).length ≤ 60 * P.length := by
  induction P with
  | nil => exact Nat.le_refl 0
  | cons x P ih =>
    have i1 := ih fun y hy => h y (List.mem_cons_of_mem _ hy)
    have i2 := h x List.mem_cons_self
    have e : ways (x :: P) = List.replicate x.2 x.1 ++ ways P := rfl
    rw [e, List.length_append, List.length_replicate, List.length_cons]
    omega
def okP (P : List (Nat × Nat)) : Prop := ∀ x ∈ P, (103 ≤ x.1 ∧ x.1 ≤ 107) ∧ 1 ≤ x.2 ∧ x.2 ≤ 60
/-- the parts of walker i of list q -/
def WP (σ : zG) (q i : Nat) (P : List (Nat × Nat)) : Prop := σ.1 18 q i = nI P.length ∧ P.length ≤ 8 ∧ ∀ j, j < P.length → σ.1 19 q (8 * i + j) = nI (P.getD j (0, 0)).1 ∧ σ.1 20 q (8 * i + j) = nI (P.getD j (0, 0)).2
/-- only walker i's parts change -/
def arI (i0 f i k : Nat) : Bool := f == 4 || ((f == 18 && (i == 1 && k == i0)) || ((f == 19 || f == 20) && (i == 1 && (decide (8 * i0 ≤ k) && decide (k < 8 * i0 + 8)))))
theorem wI {σ σ' : zG} {i0 : Nat} (h : FrA arW σ σ') : FrA (arI i0) σ σ' := h.mono fun f i k a => by unfold arI at a; unfold arW; simp at a ⊢; omega
def arU (w f i k : Nat) : Bool := arV f i k || arR w f i k
theorem vU {σ σ' : zG} {w : Nat} (h : FrA arV σ σ') : FrA (arU w) σ σ' := h.mono fun f i k a => by unfold arU at a; simp only [Bool.or_eq_false_iff] at a; exact a.1
theorem rU {σ σ' : zG} {w : Nat} (h : FrA (arR w) σ σ') : FrA (arU w) σ σ' := h.mono fun f i k a => by unfold arU at a; simp only [Bool.or_eq_false_iff] at a; exact a.2
theorem rT {σ σ' : zG} {w : Nat} (h : FrA (arR w) σ σ') : FrA tsM σ σ' := h.mono fun f i k a => by unfold tsM at a; unfold arR; simp at a ⊢; omega
section PURE
variable {σ σ' σc σm sc sm : zG} {B : Nat → Nat} {n T k i0 : Nat} {P : List (Nat × Nat)} {W H w c0 cm : Nat} {K : List Nat}
theorem c_addPart (hi : i0 < 12) (h : WP σ 1 i0 P) (h8 : P.length < 8) (a b : Nat) : ∃ s, f_X10_addPart 1 (nI i0) (nI a) (nI b) σ = some s ∧ WP s 1 i0 (P ++ [(a, b)]) ∧ FrA (arI i0) σ s ∧ FrA tsC σ s ∧ s.1 4 = σ.1 4 := by
  unfold f_X10_addPart
  have e8 : nI i0 * 8 = nI (8 * i0) := by
    have : nI i0 * 8 = nI (i0 * 8) := pk_mul i0 8
    rw [this, Nat.mul_comm]
  rw [if_pos (nI_pos' (by omega)), if_pos (show nI i0 < 12 from nI_lt (b := 12) hi (by decide)), zin_ok hi (by decide), nI_clamp (show i0 < 2 ^ 31 by omega), h.1, e8, nI_add, zin_ok (show 8 * i0 + P.length < 96 by omega) (by decide), nI_clamp (show 8 * i0 + P.length < 2 ^ 31 by omega)]
  simp only [zgT, zb]
  rw [if_pos (show nI P.length < 8 from nI_lt (b := 8) h8 (by decide))]
  have g1 : (zwI (zwI σ 19 1 (8 * i0 + P.length) (nI a)) 20 1 (8 * i0 + P.length) (nI b)).1 18 1 i0 = nI P.length := by rw [zw_at, if_neg (fun z => absurd z.1 (by decide)), zw_at, if_neg (fun z => absurd z.1 (by decide))]; exact h.1
  rw [g1, nI_1]
  refine ⟨_, rfl, ⟨?_, ?_, fun j hj => ?_⟩, ?_, ((fra_w rfl).w rfl).w rfl, ?_⟩
  · rw [zw_at, if_pos ⟨rfl, rfl, rfl⟩, List.length_append]; rfl
  · rw [List.length_append]; exact h8
  · rw [List.length_append] at hj
    have hj' : j < P.length + 1 := hj
    rw [getD_app]
    by_cases q : j = P.length
    · rw [if_neg (by omega), if_pos q, q]
      refine ⟨?_, ?_⟩ <;> simp [zw_at]
    · rw [if_pos (by omega)]
      have := h.2.2 j (by omega)
      refine ⟨?_, ?_⟩
      · rw [zw_at, if_neg (fun z => absurd z.1 (by decide)), zw_at, if_neg (fun z => absurd z.1 (by decide)), zw_at, if_neg (fun z => by omega)]; exact this.1
      · rw [zw_at, if_neg (fun z => absurd z.1 (by decide)), zw_at, if_neg (fun z => by omega), zw_at, if_neg (fun z => absurd z.1 (by decide))]; exact this.2
  · have m1 : arI i0 19 1 (8 * i0 + P.length) = true := by unfold arI; simp; omega
    have m2 : arI i0 20 1 (8 * i0 + P.length) = true := by unfold arI; simp; omega
    have m3 : arI i0 18 1 i0 = true := by unfold arI; simp
    exact ((fra_w m1).w m2).w m3
  · funext i k
    rw [zw_at, if_neg (fun z => absurd z.1 (by decide)), zw_at, if_neg (fun z => absurd z.1 (by decide)), zw_at, if_neg (fun z => absurd z.1 (by decide))]
end PURE
