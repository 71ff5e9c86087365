/-! PURE LAYER: a law that was read is put in its place -/
def ar1 (f i k : Nat) : Bool := f == 1 && i == 0
/-- the places of law kk in the model's array -/
def lrg (kk k : Nat) : Prop := k = 37 + kk ∨ (7512 + 16 * kk ≤ k ∧ k < 7512 + 16 * kk + 16) ∨ (7544 + 16 * kk ≤ k ∧ k < 7544 + 16 * kk + 16) ∨ (7576 + 16 * kk ≤ k ∧ k < 7576 + 16 * kk + 16) ∨ (7608 + 820 * kk ≤ k ∧ k < 7608 + 820 * kk + 820)
section PURE
variable {σ σ' : zG} {kk : Nat}
theorem m_putsLaw (hkk : kk < 2) {a b : Nat} (ha : a ≤ 16) (hb : b ≤ 400) (h13 : σ.1 0 0 13 = nI a) (h14 : σ.1 0 0 14 = nI b) : ∃ s, f_X12_putsLaw (nI kk) σ = some (nI a, s) ∧ FrA ar1 σ s ∧ s.1 1 0 (37 + kk) = nI a ∧ (∀ i, i < a → s.1 1 0 (7512 + 16 * kk + i) = σ.1 4 0 (3 * i) ∧ s.1 1 0 (7544 + 16 * kk + i) = σ.1 4 0 (3 * i + 1) ∧ s.1 1 0 (7576 + 16 * kk + i) = σ.1 4 0 (3 * i + 2)) ∧ (∀ j, j < 2 * b → s.1 1 0 (7608 + 820 * kk + j) = σ.1 5 0 j) ∧ ∀ k, ¬ lrg kk k → s.1 1 0 k = σ.1 1 0 k := by
  unfold f_X12_putsLaw
  have e37 : (37 : Int32) + nI kk = nI (37 + kk) := nI_add 37 kk
  rw [e37, zin_ok (show 37 + kk < 9248 by omega) (by decide), zgT, nI_clamp (show 37 + kk < 2 ^ 31 by omega), h13]
  simp only [zb]
  have e16 : (16 : Int32) * nI kk = nI (16 * kk) := pk_mul 16 kk
  have e820 : (820 : Int32) * nI kk = nI (820 * kk) := pk_mul 820 kk
  have A1 : (7512 : Int32) + nI (16 * kk) = nI (7512 + 16 * kk) := nI_add 7512 _
  have A2 : (7544 : Int32) + nI (16 * kk) = nI (7544 + 16 * kk) := nI_add 7544 _
  have A3 : (7576 : Int32) + nI (16 * kk) = nI (7576 + 16 * kk) := nI_add 7576 _
  have A4 : (7608 : Int32) + nI (820 * kk) = nI (7608 + 820 * kk) := nI_add 7608 _
  obtain ⟨s1, d1, d2, d3, d4, d5⟩ := zlp_run (f := fun q : Int32 × zG => b_X12_putsLaw_15 (nI kk) q.1 q.2) a (fun i q => q.1 = nI i ∧ FrA ar1 σ q.2 ∧ q.2.1 1 0 (37 + kk) = nI a ∧ (∀ j, j < i → q.2.1 1 0 (7512 + 16 * kk + j) = σ.1 4 0 (3 * j) ∧ q.2.1 1 0 (7544 + 16 * kk + j) = σ.1 4 0 (3 * j + 1) ∧ q.2.1 1 0 (7576 + 16 * kk + j) = σ.1 4 0 (3 * j + 2)) ∧ ∀ k, ¬ lrg kk k → q.2.1 1 0 k = σ.1 1 0 k) (fun s => FrA ar1 σ s ∧ s.1 1 0 (37 + kk) = nI a ∧ (∀ j, j < a → s.1 1 0 (7512 + 16 * kk + j) = σ.1 4 0 (3 * j) ∧ s.1 1 0 (7544 + 16 * kk + j) = σ.1 4 0 (3 * j + 1) ∧ s.1 1 0 (7576 + 16 * kk + j) = σ.1 4 0 (3 * j + 2)) ∧ ∀ k, ¬ lrg kk k → s.1 1 0 k = σ.1 1 0 k) (a := ((0 : Int32), zwI σ 1 0 (37 + kk) (nI a))) ⟨rfl, fra_w rfl, by rw [zw_at, if_pos ⟨rfl, rfl, rfl⟩], fun j hj => absurd hj (Nat.not_lt_zero j), fun k hk => by rw [zw_at, if_neg (fun z => hk (Or.inl z.2.2))]⟩ (by
    rintro i hi ⟨v, s⟩ ⟨hv, c2, c3, c4, c5⟩
    right
    have hv' : v = nI i := hv
    subst hv'
    have c2' : FrA ar1 σ s := c2
    have s13 : s.1 0 0 13 = nI a := by rw [c2'.1 0 0 13 rfl]; exact h13
    have e3 : (3 : Int32) * nI i = nI (3 * i) := pk_mul 3 i
    have e31 : nI (3 * i) + 1 = nI (3 * i + 1) := nI_1 _
    have e32 : nI (3 * i) + 2 = nI (3 * i + 2) := nI_add _ 2
    show ∃ q', b_X12_putsLaw_15 (nI kk) (nI i) s = _ ∧ _
    unfold b_X12_putsLaw_15
    rw [s13, if_pos (nI_lt hi (by omega)), e3, e31, e32, e16, A1, A2, A3, nI_add, nI_add, nI_add, zin_ok (show 3 * i < 48 by omega) (by decide), zin_ok (show 7512 + 16 * kk + i < 9248 by omega) (by decide), zin_ok (show 3 * i + 1 < 48 by omega) (by decide), zin_ok (show 7544 + 16 * kk + i < 9248 by omega) (by decide), zin_ok (show 3 * i + 2 < 48 by omega) (by decide), zin_ok (show 7576 + 16 * kk + i < 9248 by omega) (by decide), nI_clamp (show 3 * i < 2 ^ 31 by omega), nI_clamp (show 3 * i + 1 < 2 ^ 31 by omega), nI_clamp (show 3 * i + 2 < 2 ^ 31 by omega), nI_clamp (show 7512 + 16 * kk + i < 2 ^ 31 by omega), nI_clamp (show 7544 + 16 * kk + i < 2 ^ 31 by omega), nI_clamp (show 7576 + 16 * kk + i < 2 ^ 31 by omega), nI_1]
    simp only [zgT, zb]
    have r1 : ∀ x, (zwI s 1 0 (7512 + 16 * kk + i) x).1 4 0 (3 * i + 1) = σ.1 4 0 (3 * i + 1) := fun x => by rw [zw_at, if_neg (fun z => absurd z.1 (by decide))]; exact c2'.1 4 0 _ rfl
    have r2 : ∀ x y, (zwI (zwI s 1 0 (7512 + 16 * kk + i) x) 1 0 (7544 + 16 * kk + i) y).1 4 0 (3 * i + 2) = σ.1 4 0 (3 * i + 2) := fun x y => by rw [zw_at, if_neg (fun z => absurd z.1 (by decide)), zw_at, if_neg (fun z => absurd z.1 (by decide))]; exact c2'.1 4 0 _ rfl
    rw [r1, r2, c2'.1 4 0 (3 * i) rfl]
    refine ⟨_, rfl, rfl, ((c2'.w rfl).w rfl).w rfl, ?_, fun j hj => ?_, fun k hk => ?_⟩
    · show (zwI (zwI (zwI s 1 0 _ _) 1 0 _ _) 1 0 _ _).1 1 0 (37 + kk) = _
      rw [zw_at, if_neg (fun z => by omega), zw_at, if_neg (fun z => by omega), zw_at, if_neg (fun z => by omega)]
      exact c3
    · show (zwI (zwI (zwI s 1 0 _ _) 1 0 _ _) 1 0 _ _).1 1 0 _ = _ ∧ (zwI (zwI (zwI s 1 0 _ _) 1 0 _ _) 1 0 _ _).1 1 0 _ = _ ∧ (zwI (zwI (zwI s 1 0 _ _) 1 0 _ _) 1 0 _ _).1 1 0 _ = _
      by_cases q : j = i
      · subst q
        refine ⟨?_, ?_, ?_⟩
        · rw [zw_at, if_neg (fun z => by omega), zw_at, if_neg (fun z => by omega), zw_at, if_pos ⟨rfl, rfl, rfl⟩]
        · rw [zw_at, if_neg (fun z => by omega), zw_at, if_pos ⟨rfl, rfl, rfl⟩]
        · rw [zw_at, if_pos ⟨rfl, rfl, rfl⟩]
      · obtain ⟨x1, x2, x3⟩ := c4 j (by omega)
        refine ⟨?_, ?_, ?_⟩
        · rw [zw_at, if_neg (fun z => by omega), zw_at, if_neg (fun z => by omega), zw_at, if_neg (fun z => by omega)]; exact x1
        · rw [zw_at, if_neg (fun z => by omega), zw_at, if_neg (fun z => by omega), zw_at, if_neg (fun z => by omega)]; exact x2
        · rw [zw_at, if_neg (fun z => by omega), zw_at, if_neg (fun z => by omega), zw_at, if_neg (fun z => by omega)]; exact x3
    · show (zwI (zwI (zwI s 1 0 _ _) 1 0 _ _) 1 0 _ _).1 1 0 k = _
      unfold lrg at hk
      rw [zw_at, if_neg (fun z => by omega), zw_at, if_neg (fun z => by omega), zw_at, if_neg (fun z => by omega)]
      exact c5 k hk) (by
    rintro ⟨v, s⟩ ⟨hv, c2, c3, c4, c5⟩
    have hv' : v = nI a := hv
    subst hv'
    have c2' : FrA ar1 σ s := c2
    have s13 : s.1 0 0 13 = nI a := by rw [c2'.1 0 0 13 rfl]; exact h13
    show ∃ q', b_X12_putsLaw_15 (nI kk) (nI a) s = _ ∧ _
    unfold b_X12_putsLaw_15
    rw [s13, if_neg (nI_nlt (Nat.le_refl a) (by omega))]
    exact ⟨s, rfl, c2, c3, c4, c5⟩)
  rw [d1, Option.bind_some]
  obtain ⟨s2, f1, f2, f3, f4, f5, f6⟩ := zlp_run (f := fun q : Int32 × zG => b_X12_putsLaw_104 (nI kk) q.1 q.2) (2 * b) (fun i q => q.1 = nI i ∧ FrA ar1 σ q.2 ∧ q.2.1 1 0 (37 + kk) = nI a ∧ (∀ j, j < a → q.2.1 1 0 (7512 + 16 * kk + j) = σ.1 4 0 (3 * j) ∧ q.2.1 1 0 (7544 + 16 * kk + j) = σ.1 4 0 (3 * j + 1) ∧ q.2.1 1 0 (7576 + 16 * kk + j) = σ.1 4 0 (3 * j + 2)) ∧ (∀ j, j < i → q.2.1 1 0 (7608 + 820 * kk + j) = σ.1 5 0 j) ∧ ∀ k, ¬ lrg kk k → q.2.1 1 0 k = σ.1 1 0 k) (fun s => FrA ar1 σ s ∧ s.1 1 0 (37 + kk) = nI a ∧ (∀ j, j < a → s.1 1 0 (7512 + 16 * kk + j) = σ.1 4 0 (3 * j) ∧ s.1 1 0 (7544 + 16 * kk + j) = σ.1 4 0 (3 * j + 1) ∧ s.1 1 0 (7576 + 16 * kk + j) = σ.1 4 0 (3 * j + 2)) ∧ (∀ j, j < 2 * b → s.1 1 0 (7608 + 820 * kk + j) = σ.1 5 0 j) ∧ ∀ k, ¬ lrg kk k → s.1 1 0 k = σ.1 1 0 k) (a := ((0 : Int32), s1)) ⟨rfl, d2, d3, d4, fun j hj => absurd hj (Nat.not_lt_zero j), d5⟩ (by
    rintro i hi ⟨v, s⟩ ⟨hv, c2, c3, c4, c6, c5⟩
    right
    have hv' : v = nI i := hv
    subst hv'
    have c2' : FrA ar1 σ s := c2
    have s14 : s.1 0 0 14 = nI b := by rw [c2'.1 0 0 14 rfl]; exact h14
    have e2 : (2 : Int32) * nI b = nI (2 * b) := pk_mul 2 b
    show ∃ q', b_X12_putsLaw_104 (nI kk) (nI i) s = _ ∧ _
    unfold b_X12_putsLaw_104
    rw [s14, e2, if_pos (nI_lt hi (by omega)), e820, A4, nI_add, zin_ok (show i < 820 by omega) (by decide), zgT, zin_ok (show 7608 + 820 * kk + i < 9248 by omega) (by decide), zgT, nI_clamp (show i < 2 ^ 31 by omega), nI_clamp (show 7608 + 820 * kk + i < 2 ^ 31 by omega), nI_1, c2'.1 5 0 i rfl]
    simp only [zb]
    refine ⟨_, rfl, rfl, c2'.w rfl, ?_, fun j hj => ?_, fun j hj => ?_, fun k hk => ?_⟩
    · rw [zw_at, if_neg (fun z => by omega)]; exact c3
    · obtain ⟨x1, x2, x3⟩ := c4 j hj
      refine ⟨?_, ?_, ?_⟩
      · rw [zw_at, if_neg (fun z => by omega)]; exact x1
      · rw [zw_at, if_neg (fun z => by omega)]; exact x2
      · rw [zw_at, if_neg (fun z => by omega)]; exact x3
    · rw [zw_at]
      by_cases q : j = i
      · rw [if_pos ⟨rfl, rfl, by omega⟩, q]
      · rw [if_neg (fun z => by omega)]
        exact c6 j (by omega)
    · unfold lrg at hk
      rw [zw_at, if_neg (fun z => by omega)]
      exact c5 k hk) (by
    rintro ⟨v, s⟩ ⟨hv, c2, c3, c4, c6, c5⟩
    have hv' : v = nI (2 * b) := hv
    subst hv'
    have c2' : FrA ar1 σ s := c2
    have s14 : s.1 0 0 14 = nI b := by rw [c2'.1 0 0 14 rfl]; exact h14
    have e2 : (2 : Int32) * nI b = nI (2 * b) := pk_mul 2 b
    show ∃ q', b_X12_putsLaw_104 (nI kk) (nI (2 * b)) s = _ ∧ _
    unfold b_X12_putsLaw_104
    rw [s14, e2, if_neg (nI_nlt (Nat.le_refl _) (by omega))]
    exact ⟨s, rfl, c2, c3, c4, c6, c5⟩)
  rw [f1, Option.bind_some]
  refine ⟨s2, ?_, f2, f3, f4, f5, f6⟩
  rw [f2.1 0 0 13 rfl, h13]
end PURE
