/-! PURE LAYER: one walker -/
def arY (i0 f i k : Nat) : Bool := f == 4 || ((f == 8 && (i == 1 && k == 0)) || (((f == 15 || (f == 16 || (f == 17 || f == 18))) && (i == 1 && decide (i0 ≤ k))) || ((f == 19 || f == 20) && (i == 1 && decide (8 * i0 ≤ k)))))
def arX (w f i k : Nat) : Bool := arV f i k || (arR w f i k || ((f == 6 && decide (4 * w ≤ k)) || (f == 0 && (i == 0 && k == 15))))
theorem iY {σ σ' : zG} {i0 : Nat} (h : FrA (arI i0) σ σ') : FrA (arY i0) σ σ' := h.mono fun f i k a => by unfold arY at a; unfold arI; simp at a ⊢; omega
theorem wY {σ σ' : zG} {i0 : Nat} (h : FrA arW σ σ') : FrA (arY i0) σ σ' := h.mono fun f i k a => by unfold arY at a; unfold arW; simp at a ⊢; omega
theorem uX {σ σ' : zG} {w : Nat} (h : FrA (arU w) σ σ') : FrA (arX w) σ σ' := h.mono fun f i k a => by
  unfold arX at a
  unfold arU
  simp only [Bool.or_eq_false_iff] at a ⊢
  exact ⟨a.1, a.2.1⟩
theorem vX {σ σ' : zG} {w : Nat} (h : FrA arV σ σ') : FrA (arX w) σ σ' := uX (vU h)
theorem rX {σ σ' : zG} {w : Nat} (h : FrA (arR w) σ σ') : FrA (arX w) σ σ' := uX (rU h)
section PURE
variable {σ σ' σc σm sc sm : zG} {B : Nat → Nat} {n T k i0 N : Nat} {P : List (Nat × Nat)} {W H w c0 cm : Nat} {K : List Nat}
theorem neg1_lt {a : Nat} (h : a < 2 ^ 31) : (-1 : Int32) < nI a := by
  have e2 : (-1 : Int32).toInt = -1 := rfl
  rw [Int32.lt_iff_toInt_lt, nI_toInt h, e2]
  omega
theorem WQ.wc (h : WQ B n T k σc σm) {f i j : Nat} (x : Int32) (hf : tsC f i j = true) (h4 : f ≠ 4) : WQ B n T k (zwI σc f i j x) σm := h.fr (fra_w hf) (funext fun a => funext fun b => by rw [zw_at, if_neg (fun z => h4 z.1.symm)]) (FrA.refl _ _)
theorem WQ.wm (h : WQ B n T k σc σm) {f i j : Nat} (x : Int32) (hf : tsM f i j = true) : WQ B n T k σc (zwI σm f i j x) := h.fr (FrA.refl _ _) rfl (fra_w hf)
theorem BdF.wc (h : BdF σc σm) {f i j : Nat} (x : Int32) (h4 : f ≠ 4) : BdF (zwI σc f i j x) σm := by
  refine ⟨?_, ?_⟩
  · rw [zw_at, if_neg (fun z => h4 z.1.symm)]; exact h.1
  · rw [zw_at, if_neg (fun z => h4 z.1.symm)]; exact h.2
theorem m_told0 {a b c : Int32} {s1 : zG} (h : f_X12_need b σ = some (0, s1)) : f_X12_told a b c σ = some (0, s1) := by
  unfold f_X12_told
  rw [h, Option.bind_some, if_pos rfl]
theorem m_told1 {a b c : Int32} {s1 s2 : zG} (h : f_X12_need b σ = some (1, s1)) (h2 : f_X12_number 0 c s1 = some (0, s2)) : f_X12_told a b c σ = some (0, s2) := by
  unfold f_X12_told
  rw [h, Option.bind_some, if_neg (show ¬ (1 : Int32) = 0 by decide), h2, Option.bind_some, if_pos rfl]
theorem m_told {b c : Int32} {s1 s2 : zG} (hw : w < 12) (a v : Nat) (ha : a < 4) (h : f_X12_need b σ = some (1, s1)) (h2 : f_X12_number 0 c s1 = some (1, s2)) (h15 : s2.1 0 0 15 = nI w) (h26 : s2.1 0 0 26 = nI v) : f_X12_told (nI a) b c σ = some (1, zwI s2 6 0 (4 * w + a) (nI v)) := by
  unfold f_X12_told
  have e4 : (4 : Int32) * nI w = nI (4 * w) := pk_mul 4 w
  rw [h, Option.bind_some, if_neg (show ¬ (1 : Int32) = 0 by decide), h2, Option.bind_some, if_neg (show ¬ (1 : Int32) = 0 by decide)]
  dsimp only
  rw [h15, h26, e4, nI_add, zin_ok (show 4 * w + a < 48 by omega) (by decide), nI_clamp (show 4 * w + a < 2 ^ 31 by omega)]
  rfl
/-- the model's spot, behind its word -/
noncomputable def mSP (σ : zG) : Option (Int32 × zG) := if (σ.1 0 0 18) = (2 : Int32) then (f_X12_isSpot (σ.1 0 0 20) σ).bind (fun q5 => if q5 = 0 then zb (f_X12_bad (2 : Int32) σ) (fun q6 => zg (zbl q6.1) (some (q6.1, q6.2))) else j_X12_spotTold_36 σ) else j_X12_spotTold_36 σ
theorem ws_spot (hE : EvT B n T) (h : WQ B n T k σc σm) (hI : Inv (σm.1 1 0)) (eW : aW (σm.1 1 0) = W) (eH : aH (σm.1 1 0) = H) (hw : w < 12) (h15 : σm.1 0 0 15 = nI w) : (∃ c sc sm, spW W H c ∧ f_X4_readSpot (nI W) (nI H) σc = some (nI c, sc) ∧ mSP σm = some (1, zwI sm 6 0 (4 * w + 2) (nI c)) ∧ WQ B n T (k + 1) sc sm ∧ FrA arW σc sc ∧ FrA arV σm sm) ∨ ∃ sc sm, f_X4_readSpot (nI W) (nI H) σc = some (-1, sc) ∧ mSP σm = some (0, sm) ∧ BdF sc sm ∧ FrA arW σc sc ∧ FrA arV σm sm := by
  have q := tkW hE h 2 2 (by decide) (by decide) (by decide)
  have c2 : (σc.1 4 0 8 = (2 : Int32)) = (knd B n k = 2) := q.1
  have m2 : (σm.1 0 0 18 = (2 : Int32)) = (knd B n k = 2) := q.2
  have hk := h.1.2.2.1
  have hN := ev_nbr hE hk
  have e9 : σc.1 4 0 9 = nI (nbr B n k) := h.1.2.2.2.2.2
  have hW8 : W ≤ 8 := by rw [← eW]; exact hI.1.2.2
  have hH7 : H ≤ 7 := by rw [← eH]; exact hI.2.1.2.2
  have er : zrem (nI (nbr B n k)) 8 = nI (nbr B n k % 8) := zrem_nI (d := 8) (by omega) (by decide) (by decide)
  have ed : nI (nbr B n k) / 8 = nI (nbr B n k / 8) := pk_div (d := 8) (by omega) (by decide) (by decide)
  have l1 : (nI (nbr B n k % 8) < nI W) = (nbr B n k % 8 < W) := nI_ltQ (by omega) (by omega)
  have l2 : (nI (nbr B n k / 8) < nI H) = (nbr B n k / 8 < H) := nI_ltQ (by omega) (by omega)
  have e4 : (4 : Int32) * nI w = nI (4 * w) := pk_mul 4 w
  have e42 : nI (4 * w) + (2 : Int32) = nI (4 * w + 2) := nI_add (4 * w) 2
  have hS : spW W H (nbr B n k) → f_X4_readSpot (nI W) (nI H) σc = (f_X4_readNumber (0 : Int32) (9999 : Int32) σc).bind (fun q5 => some (q5.1, q5.2)) := fun s => by
    unfold f_X4_readSpot j_X4_readSpot_27
    rw [e9, er, ed, if_pos (l1.mpr s.1), if_pos (l2.mpr s.2), if_neg (show ¬ (1 : Int32) = 0 by decide)]
  have hNS : ¬ spW W H (nbr B n k) → f_X4_readSpot (nI W) (nI H) σc = (f_X4_readNumber (0 : Int32) (-1 : Int32) σc).bind (fun q4 => some (q4.1, q4.2)) := fun s => by
    unfold f_X4_readSpot j_X4_readSpot_26 j_X4_readSpot_27
    rw [e9, er, ed]
    by_cases x : nbr B n k % 8 < W
    · rw [if_pos (l1.mpr x), if_neg (fun y => s ⟨x, l2.mp y⟩), if_pos rfl]
    · rw [if_neg (fun y => x (l1.mp y)), if_pos rfl]
  unfold mSP
  simp only [m2]
  by_cases s : spW W H (nbr B n k)
  · have s64 : nbr B n k < 64 := by unfold spW at s; omega
    have hr : f_X4_readNumber (0 : Int32) (9999 : Int32) σc = f_X4_readNumber (nI 0) (nI 63) σc := by
      unfold f_X4_readNumber
      rw [e9, if_neg (show ¬ (9999 : Int32) < nI (nbr B n k) from nI_nlt (a := 9999) (by omega) (by decide)), if_neg (show ¬ nI 63 < nI (nbr B n k) from nI_nlt (by omega) (by decide))]
      rfl
    have hmm : (if knd B n k = 2 then (f_X12_isSpot (σm.1 0 0 20) σm).bind (fun q5 => if q5 = 0 then zb (f_X12_bad (2 : Int32) σm) (fun q6 => zg (zbl q6.1) (some (q6.1, q6.2))) else j_X12_spotTold_36 σm) else j_X12_spotTold_36 σm) = j_X12_spotTold_36 σm := by
      by_cases a : knd B n k = 2
      · have e20 : σm.1 0 0 20 = nI (nbr B n k) := h.2.1.2.2.2.2 a
        have es : sp (σm.1 1 0) (nbr B n k) = true := by unfold sp; rw [eW, eH, decide_eq_true s.1, decide_eq_true s.2]; rfl
        rw [if_pos a, e20, m_isSpot hI s64, Option.bind_some, es, if_neg (by decide)]
      · rw [if_neg a]
    rw [hmm, hS s, hr]
    unfold j_X12_spotTold_36
    rcases ws_num hE h 0 63 (by decide) (by decide) with ⟨v, s2, t2, v1, v2, ev, a2, b2, e26, h2, f2, g2⟩ | ⟨s2, t2, a2, b2, bd, f2, g2⟩
    · left
      have b2' : f_X12_number (0 : Int32) (63 : Int32) σm = some (1, t2) := b2
      have t15 : t2.1 0 0 15 = nI w := by rw [g2.1 0 0 15 rfl]; exact h15
      rw [ev] at s
      refine ⟨v, s2, t2, s, ?_, ?_, h2, f2, g2⟩
      · rw [a2]; rfl
      · rw [b2', Option.bind_some, if_neg (show ¬ (1 : Int32) = 0 by decide)]
        dsimp only
        rw [t15, e26, e4, e42, zin_ok (show 4 * w + 2 < 48 by omega) (by decide), nI_clamp (show 4 * w + 2 < 2 ^ 31 by omega)]
        rfl
    · right
      have b2' : f_X12_number (0 : Int32) (63 : Int32) σm = some (0, t2) := b2
      refine ⟨s2, t2, ?_, ?_, bd, f2, g2⟩
      · rw [a2]; rfl
      · rw [b2', Option.bind_some, if_pos rfl]
  · right
    rw [hNS s]
    by_cases a : knd B n k = 2
    · have e20 : σm.1 0 0 20 = nI (nbr B n k) := h.2.1.2.2.2.2 a
      obtain ⟨x, y, a1, a2, a3, a4, a5⟩ := ws_fail hE h 2
      have hs : f_X12_isSpot (nI (nbr B n k)) σm = some 0 := by
        by_cases z : nbr B n k < 64
        · rw [m_isSpot hI z]
          have es : sp (σm.1 1 0) (nbr B n k) = false := by
            unfold sp
            rw [eW, eH]
            cases e : (decide (nbr B n k % 8 < W) && decide (nbr B n k / 8 < H)) with
            | false => rfl
            | true =>
              simp only [Bool.and_eq_true, decide_eq_true_eq] at e
              exact absurd e s
          rw [es]
          rfl
        · exact m_isSpotX _ fun c hc e => z (by
            have := (nI_eq (a := nbr B n k) (b := c) (by omega) (by omega)).mp e
            omega)
      refine ⟨x, y, ?_, ?_, a3, a4, a5⟩
      · unfold f_X4_readNumber
        simp only [c2]
        rw [if_pos a, e9, if_pos (nI_pos' (by omega)), if_pos (show (-1 : Int32) < nI (nbr B n k) from neg1_lt (by omega)), a1]
        rfl
      · rw [if_pos a, e20, hs, Option.bind_some, if_pos rfl, a2]
        rfl
    · obtain ⟨x, y, a1, a2, a3, a4, a5⟩ := ws_fail hE h 1
      refine ⟨x, y, ?_, ?_, a3, a4, a5⟩
      · unfold f_X4_readNumber
        simp only [c2]
        rw [if_neg a, a1]
        rfl
      · unfold j_X12_spotTold_36 f_X12_number
        simp only [m2]
        rw [if_neg a, if_neg a, a2]
        rfl
end PURE
