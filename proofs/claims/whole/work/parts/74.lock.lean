/-! PURE LAYER: both readers at the same word -/
/-- the words' end is known -/
def EvT (B : Nat → Nat) (n T : Nat) : Prop := T ≤ n ∧ n ≤ 400 ∧ plc B n T = n ∧ (∀ k, k < T → plc B n k < n) ∧ ∀ k, k < n → B k < 256
def CS (B : Nat → Nat) (n T k : Nat) (σ : zG) : Prop := CT σ B n ∧ TKs σ B n T ∧ k ≤ T ∧ σ.1 4 0 7 = nI k ∧ σ.1 4 0 8 = nI (knd B n k) ∧ σ.1 4 0 9 = nI (nbr B n k)
def MS (B : Nat → Nat) (n r k : Nat) (σ : zG) : Prop := MT σ B n r ∧ σ.1 0 0 17 = nI (hdd B n (k + 1)) ∧ σ.1 0 0 18 = nI (img r (knd B n k)) ∧ σ.1 0 0 19 = nI (plc B n k) ∧ (knd B n k = 2 → σ.1 0 0 20 = nI (nbr B n k))
/-- what may change without the readers' noticing -/
def tsC (f i k : Nat) : Bool := !(f == 3 || (f == 38 || (f == 39 || (f == 40 || (f == 41 || (f == 4 && (k == 7 || (k == 8 || k == 9))))))))
def tsM (f i k : Nat) : Bool := !(f == 8 || (f == 0 && (k == 12 || (k == 16 || (k == 17 || (k == 18 || (k == 19 || k == 20)))))))
def arA (f i k : Nat) : Bool := f == 4 && (i == 0 && (k == 7 || (k == 8 || k == 9)))
section PURE
variable {σ σ' σc σm sc sm : zG} {B : Nat → Nat} {n T k r : Nat}
theorem CS.fr (h : CS B n T k σ) (hf : FrA tsC σ σ') : CS B n T k σ' := by
  obtain ⟨⟨a1, a2, a3⟩, ⟨b1, b2⟩, c, d, e, f⟩ := h
  refine ⟨⟨a1, by rw [hf.1 3 0 1 rfl]; exact a2, fun j hj => ⟨(a3 j hj).1, by rw [hf.1 38 0 j rfl]; exact (a3 j hj).2⟩⟩, ⟨by rw [hf.1 3 0 5 rfl]; exact b1, fun j hj => ?_⟩, c, by rw [hf.1 4 0 7 rfl]; exact d, by rw [hf.1 4 0 8 rfl]; exact e, by rw [hf.1 4 0 9 rfl]; exact f⟩
  rw [hf.1 39 0 j rfl, hf.1 40 0 j rfl, hf.1 41 0 j rfl]
  exact b2 j hj
theorem MS.fr (h : MS B n r k σ) (hf : FrA tsM σ σ') : MS B n r k σ' := by
  obtain ⟨a, b, c, d, e⟩ := h
  exact ⟨mt_fr a hf rfl rfl (fun _ => rfl), by rw [hf.1 0 0 17 rfl]; exact b, by rw [hf.1 0 0 18 rfl]; exact c, by rw [hf.1 0 0 19 rfl]; exact d, fun z => by rw [hf.1 0 0 20 rfl]; exact e z⟩
theorem ev_lt (hE : EvT B n T) (hk : k ≤ T) (h : knd B n k ≠ 0) : k < T := by
  refine Nat.lt_of_le_of_ne hk fun e => h ?_
  unfold knd
  rw [e, if_neg (by rw [hE.2.2.1]; exact Nat.lt_irrefl n)]
theorem ev_knd (hE : EvT B n T) (hk : k ≤ T) : knd B n k < 122 ∧ (k < T → knd B n k ≠ 0) := by
  by_cases c : k < T
  · have hp := hE.2.2.2.1 k c
    have hb := hE.2.2.2.2 _ hp
    unfold knd
    rw [if_pos hp]
    unfold kd
    by_cases a : dgt (B (plc B n k)) = true
    · rw [if_pos a]
      by_cases d : spn B n dgt (plc B n k) - plc B n k ≤ 4
      · rw [if_pos d]; exact ⟨by decide, fun _ => by decide⟩
      · rw [if_neg d]; exact ⟨by decide, fun _ => by decide⟩
    · rw [if_neg a]
      by_cases b : ltr (B (plc B n k)) = true
      · rw [if_pos b]
        unfold wkd
        by_cases d : fa_first (fun w => decide (zstrC.getD w [] = str B (plc B n k) (spn B n ltr (plc B n k)))) 22 < 22
        · rw [if_pos d]; exact ⟨by omega, fun _ => by omega⟩
        · rw [if_neg d]; exact ⟨by decide, fun _ => by decide⟩
      · rw [if_neg b]
        by_cases d : sgn (B (plc B n k)) = true
        · rw [if_pos d]
          unfold sgn at d
          simp only [Bool.or_eq_true, decide_eq_true_eq] at d
          exact ⟨by omega, fun _ => by omega⟩
        · rw [if_neg d]; exact ⟨by decide, fun _ => by decide⟩
  · refine ⟨?_, fun z => absurd z c⟩
    have e : k = T := by omega
    unfold knd
    rw [e, if_neg (by rw [hE.2.2.1]; exact Nat.lt_irrefl n)]
    decide
theorem ev_nbr (hE : EvT B n T) (hk : k ≤ T) : nbr B n k ≤ 9999 := by
  unfold nbr
  by_cases c : plc B n k < n
  · rw [if_pos c]
    unfold nm
    by_cases a : dgt (B (plc B n k)) = true
    · rw [if_pos a]
      by_cases d : spn B n dgt (plc B n k) - plc B n k ≤ 4
      · rw [if_pos d]
        have h1 := dval_lt (B := B) (q := plc B n k) (spn B n dgt (plc B n k) - plc B n k) (fun i hi => spn_in (n := n) (P := dgt) (p := plc B n k) (by omega) (by omega))
        have h2 : 10 ^ (spn B n dgt (plc B n k) - plc B n k) ≤ 10 ^ 4 := Nat.pow_le_pow_right (by decide) d
        omega
      · rw [if_neg d]; decide
    · rw [if_neg a]; decide
  · rw [if_neg c]; decide
theorem c_adv (hE : EvT B n T) (h : CS B n T k σ) (hk : k < T) : ∃ s, f_X4_advance σ = some s ∧ CS B n T (k + 1) s ∧ FrA arA σ s := by
  obtain ⟨a, ⟨b1, b2⟩, c, d, e, f⟩ := h
  have hT := hE.1
  have hn := hE.2.1
  have b2' := b2 (k + 1) (by omega)
  unfold f_X4_advance
  have e1 : nI (T + 1) - 1 = nI T := nI_pred T
  rw [d, b1, e1, if_pos (nI_lt hk (by omega)), if_pos (show nI k < 400 from nI_lt (b := 400) (by omega) (by decide)), nI_1]
  simp only [zb]
  have g1 : (zwI σ 4 0 7 (nI (k + 1))).1 4 0 7 = nI (k + 1) := by rw [zw_at, if_pos ⟨rfl, rfl, rfl⟩]
  have g2 : (zwI σ 4 0 7 (nI (k + 1))).1 39 0 (k + 1) = nI (knd B n (k + 1)) := by rw [zw_at, if_neg (fun z => absurd z.1 (by decide))]; exact b2'.1
  rw [g1, zin_ok (show k + 1 < 401 by omega) (by decide), zgT, nI_clamp (show k + 1 < 2 ^ 31 by omega), g2]
  have g3 : (zwI (zwI σ 4 0 7 (nI (k + 1))) 4 0 8 (nI (knd B n (k + 1)))).1 4 0 7 = nI (k + 1) := by rw [zw_at, if_neg (by decide)]; exact g1
  have g4 : (zwI (zwI σ 4 0 7 (nI (k + 1))) 4 0 8 (nI (knd B n (k + 1)))).1 40 0 (k + 1) = nI (nbr B n (k + 1)) := by rw [zw_at, if_neg (fun z => absurd z.1 (by decide)), zw_at, if_neg (fun z => absurd z.1 (by decide))]; exact b2'.2.1
  rw [g3, zin_ok (show k + 1 < 401 by omega) (by decide), zgT, nI_clamp (show k + 1 < 2 ^ 31 by omega), g4]
  have hf : FrA arA σ (zwI (zwI (zwI σ 4 0 7 (nI (k + 1))) 4 0 8 (nI (knd B n (k + 1)))) 4 0 9 (nI (nbr B n (k + 1)))) := ((fra_w rfl).w rfl).w rfl
  refine ⟨_, rfl, ⟨⟨a.1, by rw [hf.1 3 0 1 rfl]; exact a.2.1, fun j hj => ⟨(a.2.2 j hj).1, by rw [hf.1 38 0 j rfl]; exact (a.2.2 j hj).2⟩⟩, ⟨by rw [hf.1 3 0 5 rfl]; exact b1, fun j hj => ?_⟩, by omega, ?_, ?_, ?_⟩, hf⟩
  · rw [hf.1 39 0 j rfl, hf.1 40 0 j rfl, hf.1 41 0 j rfl]
    exact b2 j hj
  · rw [zw_at, if_neg (by decide)]; exact g3
  · rw [zw_at, if_neg (by decide), zw_at, if_pos ⟨rfl, rfl, rfl⟩]
  · rw [zw_at, if_pos ⟨rfl, rfl, rfl⟩]
theorem m_to (h : MT σ B n r) (hh : σ.1 0 0 17 = nI (hdd B n k)) : ∃ s, f_X12_next0 σ = some s ∧ MS B n r k s ∧ FrA arN σ s := by
  obtain ⟨s, e, f, g1, g2, g3, g4⟩ := m_next h hh (hdd_le k)
  have ep : spn B n blk (hdd B n k) = plc B n k := rfl
  rw [ep] at g1 g2 g3 g4
  refine ⟨s, e, ⟨mt_n h f, g1, ?_, g2, fun z => ?_⟩, f⟩
  · rw [g3]
    unfold knd
    by_cases c : plc B n k < n
    · rw [if_pos c, if_pos c]
    · rw [if_neg c, if_neg c]; rfl
  · unfold knd at z
    unfold nbr
    by_cases c : plc B n k < n
    · rw [if_pos c] at z ⊢; exact g4 c z
    · rw [if_neg c] at z; cases z
theorem m_adv (h : MS B n r k σ) : ∃ s, f_X12_next0 σ = some s ∧ MS B n r (k + 1) s ∧ FrA arN σ s := m_to h.1 h.2.1
def arF (f i k : Nat) : Bool := f == 4 && (i == 0 && (k == 3 || k == 4))
def arB (f i k : Nat) : Bool := f == 0 && (i == 0 && (k == 21 || k == 22))
/-- the same fault on both sides -/
def BdF (sc sm : zG) : Prop := sc.1 4 0 3 = sm.1 0 0 21 ∧ sc.1 4 0 4 = sm.1 0 0 22
theorem ls_bad (hE : EvT B n T) (hc : CS B n T k σc) (hm : MS B n r k σm) (w : Int32) : ∃ sc sm, f_X4_fail w σc = some (0, sc) ∧ f_X12_bad w σm = (0, sm) ∧ BdF sc sm ∧ FrA arF σc sc ∧ FrA arB σm sm := by
  obtain ⟨a, ⟨b1, b2⟩, c, d, e, f⟩ := hc
  have hT := hE.1
  have hn := hE.2.1
  refine ⟨zwI (zwI σc 4 0 3 w) 4 0 4 (nI (plc B n k)), zwI (zwI σm 0 0 21 w) 0 0 22 (nI (plc B n k)), ?_, ?_, ⟨?_, ?_⟩, (fra_w rfl).w rfl, (fra_w rfl).w rfl⟩
  · unfold f_X4_fail
    have g1 : (zwI σc 4 0 3 w).1 4 0 7 = nI k := by rw [zw_at, if_neg (by decide)]; exact d
    have g2 : (zwI σc 4 0 3 w).1 41 0 k = nI (plc B n k) := by rw [zw_at, if_neg (fun z => absurd z.1 (by decide))]; exact (b2 k c).2.2
    simp only [zb]
    rw [g1, if_pos (nI_pos' (by omega)), if_pos (show nI k ≤ 400 from nI_le (b := 400) (by omega) (by decide)), zin_ok (show k < 401 by omega) (by decide), zgT, nI_clamp (show k < 2 ^ 31 by omega), g2]
  · unfold f_X12_bad
    have g1 : (zwI σm 0 0 21 w).1 0 0 19 = nI (plc B n k) := by rw [zw_at, if_neg (by decide)]; exact hm.2.2.2.1
    simp only [zb]
    rw [g1]
  · rw [zw_at, if_neg (by decide), zw_at, if_pos ⟨rfl, rfl, rfl⟩, zw_at, if_neg (by decide), zw_at, if_pos ⟨rfl, rfl, rfl⟩]
  · rw [zw_at, if_pos ⟨rfl, rfl, rfl⟩, zw_at, if_pos ⟨rfl, rfl, rfl⟩]
/-- which word it is: both sides see it alike -/
def tblL : List (Nat × Nat) := [(43, 143), (45, 145), (42, 142), (47, 147), (60, 160), (61, 161), (62, 162), (40, 140), (41, 141), (59, 159), (113, 6), (112, 5), (111, 4), (110, 3), (0, 0), (2, 2)]
def tblW : List (Nat × Nat) := [(100, 8), (101, 9), (102, 10), (103, 11), (104, 12), (105, 13), (106, 14), (107, 15), (59, 159), (0, 0), (2, 2)]
theorem im_L : ∀ kk, kk < 2 → ∀ k, k < 122 → ∀ p ∈ tblL, (img (kk + 1) k = p.2 ↔ k = p.1) := by decide +kernel
theorem im_W : ∀ k, k < 122 → ∀ p ∈ tblW, (img 0 k = p.2 ↔ k = p.1) := by decide +kernel
theorem im_7 : ∀ kk, kk < 2 → ∀ k, k < 122 → (img (kk + 1) k = 7 ↔ k = 108 + kk) := by decide +kernel
theorem im_nm : ∀ kk, kk < 2 → ∀ k, k < 122 → ((41 ≤ img (kk + 1) k ∧ img (kk + 1) k ≤ 48) ↔ (114 + 3 * kk ≤ k ∧ k ≤ 117 + 4 * kk)) := by decide +kernel
theorem im_lt : ∀ r, r < 3 → ∀ k, k < 122 → img r k < 256 := by decide +kernel
theorem tkc (hE : EvT B n T) (h : CS B n T k σ) (c : Nat) (hc : c < 2 ^ 31) : (σ.1 4 0 8 = nI c) = (knd B n k = c) := by
  rw [h.2.2.2.2.1]
  have := (ev_knd hE h.2.2.1).1
  exact nI_eqI (by omega) hc
theorem tkm (hE : EvT B n T) (hk : k ≤ T) (h : MS B n r k σ) {t c : Nat} (ht : t < 2 ^ 31) (hi : ∀ k, k < 122 → (img r k = t ↔ k = c)) : (σ.1 0 0 18 = nI t) = (knd B n k = c) := by
  rw [h.2.2.1]
  have h1 := (ev_knd hE hk).1
  have h2 := im_lt r h.1.2.2.2.2 _ h1
  rw [nI_eqI (by omega) ht]
  exact propext (hi _ h1)
end PURE
