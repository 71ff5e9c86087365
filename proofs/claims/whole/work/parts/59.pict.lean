/-! PURE LAYER: the picture -/
section PURE
variable {σ σc σm : zG} {g : zGa}
def frm (g : zGa) (c : Nat) : Int32 := g (40 + c)
def frI (g : zGa) (c : Nat) : Nat := (frm g c).toNatClampNeg
/-- a spot is from a shot that has it in view -/
def ps (g : zGa) (c : Nat) : Bool := sp g c && (!decide (frm g c = -1) && sV g (frI g c) c)
theorem ps_cs (hI : Inv g) {c : Nat} (hc : c < 64) : (ps g c = false) ∨ (ps g c = true ∧ c < 56 ∧ sp g c = true ∧ ∃ i, i < aShN g ∧ frm g c = nI i ∧ frI g c = i ∧ sV g i c = true) := by
  cases h : ps g c
  · exact Or.inl rfl
  · right
    unfold ps at h
    simp only [Bool.and_eq_true, Bool.not_eq_true', decide_eq_false_iff_not] at h
    obtain ⟨h1, h2, h3⟩ := h
    have h56 := sp_56 hI h1
    have hN := tp_Sh (iv_Top hI)
    rcases tp_Pa (iv_Top hI) h56 with e | ⟨i, hi, e⟩
    · exact absurd e h2
    · have e' : frm g c = nI i := e
      have en : frI g c = i := by unfold frI; rw [e', nI_clamp (by omega)]
      rw [en] at h3
      exact ⟨rfl, h56, h1, i, hi, e', en, h3⟩
theorem m_from {c : Nat} (hc : c < 64) : f_X12_from (nI c) σ = some (frm (σ.1 1 0) c) := by
  unfold f_X12_from frm
  have e : (40 : Int32) + nI c = nI (40 + c) := by simp only [zlit, nI_add]
  rw [e, zin_ok (show 40 + c < 9248 by omega) (by decide), zgT, nI_clamp (by omega)]
theorem m_pasted (hI : Inv (σ.1 1 0)) {c : Nat} (hc : c < 64) : f_X12_isPasted (nI c) σ = some (zt (ps (σ.1 1 0) c)) := by
  have hN := tp_Sh (iv_Top hI)
  unfold f_X12_isPasted
  rw [m_isSpot hI hc, m_from hc]
  simp only [Option.bind_some, zt_0]
  unfold ps
  by_cases hs : sp (σ.1 1 0) c = true
  · rw [if_neg (by rw [hs]; decide), hs, Bool.true_and]
    rcases tp_Pa (iv_Top hI) (sp_56 hI hs) with e | ⟨i, hi, e⟩
    · have e' : frm (σ.1 1 0) c = -1 := e
      rw [if_pos e', e']
      rfl
    · have e' : frm (σ.1 1 0) c = nI i := e
      have en : frI (σ.1 1 0) c = i := by unfold frI; rw [e', nI_clamp (by omega)]
      have n1 : (nI i = -1) = False := nI_nm1 (by omega)
      rw [e', en, m_hasView (show i < 10 by omega) hc]
      simp only [n1, if_false, Option.bind_some, zt_0, decide_false]
      cases sV (σ.1 1 0) i c <;> rfl
  · rw [if_pos (Bool.eq_false_iff.mpr hs), Bool.eq_false_iff.mpr hs]
    rfl
theorem c_source (hI : Inv g) (hR : RB σ 0 g) {c : Nat} (hc : c < 64) : f_X0_sourceOf (nI c) σ = some (if ps g c then some (frI g c) else none) := by
  have hN := tp_Sh (iv_Top hI)
  unfold f_X0_sourceOf
  rw [c_isSpot hI hR.1 hc]
  simp only [zt_0]
  unfold ps
  by_cases hs : sp g c = true
  · have h56 := sp_56 hI hs
    have ef : σ.1 32 0 c = frm g c := hR.2.2.2.2.2.2 c h56
    rw [if_neg (by rw [hs]; decide), hs, Bool.true_and, zin_ok h56 (by decide), zgT, nI_clamp (by omega), ef]
    unfold f_X1_shotOf
    rw [rN hR, hN.1]
    rcases tp_Pa (iv_Top hI) h56 with e | ⟨i, hi, e⟩
    · have e' : frm g c = -1 := e
      rw [e', if_neg (by decide)]
      rfl
    · have e' : frm g c = nI i := e
      have en : frI g c = i := by unfold frI; rw [e', nI_clamp (by omega)]
      have n1 : (nI i = -1) = False := nI_nm1 (by omega)
      have p0 : (0 : Int32) ≤ nI i := nI_pos' (by omega)
      have p1 : nI i < nI (aShN g) := nI_lt hi (by omega)
      have p2 : nI i < 10 := nI_lt (b := 10) (by omega) (by decide)
      rw [e', en]
      simp (disch := omega) only [p0, p1, p2, if_true, zin_nI, show i < 10 by omega, decide_true, zgT, nI_clamp, Option.bind_some, Nat.mul_zero, Nat.zero_add, zoc, n1, decide_false]
      rw [holds_lb _ hc, c_view hR hi hc]
      simp only [zt_0]
      cases sV g i c <;> rfl
  · rw [if_pos (Bool.eq_false_iff.mpr hs), Bool.eq_false_iff.mpr hs]
    rfl
theorem ps_big (hI : Inv g) {c : Nat} (h1 : 56 ≤ c) (hc : c < 64) : ps g c = false := by
  rcases ps_cs hI hc with h | ⟨-, h, -⟩
  · exact h
  · omega
theorem ct_big {p : Nat → Bool} (h : ∀ c, 56 ≤ c → c < 64 → p c = false) : fb_ct p 64 = fb_ct p 56 := by
  rw [show (64 : Nat) = 56 + 8 from rfl, fb_ct_split, fb_ct_zero.mpr (fun k hk => h (56 + k) (by omega) (by omega)), Nat.add_zero]
/-- holes -/
theorem hol_two [Inhabited BFT] (h : Rel σc σm) : ∃ r, f_X0_holes σc = some r ∧ f_X12_holes σm = some r := by
  unfold f_X0_holes f_X12_holes
  rw [c_viewNow (rI h) (rB h).1, Option.bind_some]
  rw [zlp_for (a := ((0 : Int32), (0 : Int32))) (fun c => (nI (fb_ct (fun c => vw (σm.1 1 0) c && !ps (σm.1 1 0) c) c), nI c)) 56 (b := nI (fb_ct (fun c => vw (σm.1 1 0) c && !ps (σm.1 1 0) c) 56)) rfl ?_ ?_]
  · refine ⟨_, rfl, ?_⟩
    rw [zlp_for (a := ((0 : Int32), (0 : Int32))) (fun c => (nI (fb_ct (fun c => vw (σm.1 1 0) c && !ps (σm.1 1 0) c) c), nI c)) 64 (b := nI (fb_ct (fun c => vw (σm.1 1 0) c && !ps (σm.1 1 0) c) 56)) rfl ?_ ?_]
    · rfl
    · intro c hc
      have l64 : nI c < 64 := nI_lt (b := 64) hc (by decide)
      unfold b_X12_holes_4
      rw [if_pos l64, m_isInView (rI h) hc, m_pasted (rI h) hc]
      simp only [Option.bind_some, zt_0, fb_ct_succ, nI_1]
      cases vw (σm.1 1 0) c <;> cases ps (σm.1 1 0) c <;> simp [nI_1]
    · unfold b_X12_holes_4
      rw [if_neg (show ¬ (nI 64 : Int32) < 64 by decide), ct_big]
      intro c h1 h2
      have : vw (σm.1 1 0) c = false := Bool.eq_false_iff.mpr fun q => by
        have := sp_56 (rI h) (vw_sp q)
        omega
      rw [this]
      rfl
  · intro c hc
    have l56 : nI c < 56 := nI_lt (b := 56) hc (by decide)
    unfold b_X0_holes_13
    rw [if_pos l56, holds_lb _ (show c < 64 by omega), lb_view (rI h) (show c < 64 by omega), c_source (rI h) (rB h) (show c < 64 by omega)]
    simp only [Option.bind_some, zt_0, fb_ct_succ, nI_1]
    cases vw (σm.1 1 0) c <;> cases ps (σm.1 1 0) c <;> simp [zoc]
  · unfold b_X0_holes_13
    rw [if_neg (show ¬ (nI 56 : Int32) < 56 by decide)]
/-- feet -/
def ftw (g : zGa) (c : Nat) : Int32 := g (152 + 134 * frI g c + 4 + c)
def ftp (g : zGa) (c : Nat) : Bool := ps g c && (decide (0 ≤ ftw g c) && decide (ftw g c < 12))
def ftX (g : zGa) : Nat → Int32
  | 0 => 0
  | k + 1 => if ftp g k then ftX g k ||| zshl 1 (ftw g k) else ftX g k
theorem in11 (w : Int32) : f_X12_isIn w 0 11 = zt (decide (0 ≤ w) && decide (w < 12)) := by
  rw [isIn_zt]
  congr 1
  rw [Bool.eq_iff_iff, Bool.and_eq_true, decide_eq_true_eq, decide_eq_true_eq, decide_eq_true_eq]
  have e0 : (0 : Int32).toInt = 0 := rfl
  have e1 : (11 : Int32).toInt = 11 := rfl
  have e2 : (12 : Int32).toInt = 12 := rfl
  rw [fa_le, fa_le, fa_lt, e0, e1, e2]
  omega
theorem feet_two [Inhabited BFT] (h : Rel σc σm) : ∃ r, f_X0_feet σc = some r ∧ f_X12_feet σm = some r := by
  have hN := tp_Sh (iv_Top (rI h))
  unfold f_X0_feet f_X12_feet
  rw [zlp_for (a := ((0 : Int32), (0 : Int32))) (fun c => (ftX (σm.1 1 0) c, nI c)) 56 (b := ftX (σm.1 1 0) 56) rfl ?_ ?_]
  · refine ⟨_, rfl, ?_⟩
    rw [zlp_for (a := ((0 : Int32), (0 : Int32))) (fun c => (ftX (σm.1 1 0) c, nI c)) 64 (b := ftX (σm.1 1 0) 56) rfl ?_ ?_]
    · rfl
    · intro c hc
      have l64 : nI c < 64 := nI_lt (b := 64) hc (by decide)
      unfold b_X12_feet_4
      rw [if_pos l64, m_pasted (rI h) hc, m_from hc, ftX]
      simp only [Option.bind_some, zt_0, nI_1]
      unfold ftp
      rcases ps_cs (rI h) hc with hp | ⟨hp, h56, hsp, i, hi, e1, e2, hv⟩
      · rw [hp]; simp
      · rw [hp, e1, m_sWho (show i < 10 by omega) hc]
        have ew : ftw (σm.1 1 0) c = σm.1 1 0 (152 + 134 * i + 4 + c) := by unfold ftw; rw [e2]
        rw [← ew]
        simp only [Option.bind_some, in11, zt_0, Bool.true_and, Bool.true_eq_false, if_false]
        cases (decide (0 ≤ ftw (σm.1 1 0) c) && decide (ftw (σm.1 1 0) c < 12)) <;> simp
    · unfold b_X12_feet_4
      rw [if_neg (show ¬ (nI 64 : Int32) < 64 by decide)]
      have st : ∀ d, d ≤ 8 → ftX (σm.1 1 0) (56 + d) = ftX (σm.1 1 0) 56 := by
        intro d
        induction d with
        | zero => intro _; rfl
        | succ d ih =>
          intro hd
          show (if ftp (σm.1 1 0) (56 + d) then _ else ftX (σm.1 1 0) (56 + d)) = _
          rw [if_neg, ih (by omega)]
          unfold ftp
          rw [ps_big (rI h) (by omega) (by omega)]
          simp
      have := st 8 (by decide)
      show some (Sum.inr (ftX (σm.1 1 0) 64)) = _
      rw [this]
  · intro c hc
    have l56 : nI c < 56 := nI_lt (b := 56) hc (by decide)
    unfold b_X0_feet_4
    rw [if_pos l56, c_source (rI h) (rB h) (show c < 64 by omega), zin_ok hc (by decide), nI_clamp (by omega), ftX]
    simp only [Option.bind_some, zgT, nI_1]
    unfold ftp
    rcases ps_cs (rI h) (show c < 64 by omega) with hp | ⟨hp, h56, hsp, i, hi, e1, e2, hv⟩
    · rw [hp]; simp [zoc]
    · have ew : σc.1 30 i c = ftw (σm.1 1 0) c := by unfold ftw; rw [e2]; exact (c_who_tone (rB h) hi hc hv).1
      rw [hp, e2]
      simp only [if_true, zoc, ew, Bool.true_and]
      by_cases q1 : 0 ≤ ftw (σm.1 1 0) c
      · by_cases q2 : ftw (σm.1 1 0) c < 12
        · simp [q1, q2]
        · simp [q1, q2]
      · simp [q1]
  · unfold b_X0_feet_4
    rw [if_neg (show ¬ (nI 56 : Int32) < 56 by decide)]
/-- seams -/
def smB (g : zGa) (c d : Nat) : Bool := ps g c && (ps g d && !decide (frm g c = frm g d))
theorem m_seam (hI : Inv (σ.1 1 0)) {c d : Nat} (hc : c < 64) (hd : d < 64) : f_X12_isSeam (nI c) (nI d) σ = some (zt (smB (σ.1 1 0) c d)) := by
  unfold f_X12_isSeam smB
  rw [m_pasted hI hc, m_pasted hI hd, m_from hc, m_from hd]
  simp only [Option.bind_some, zt_0]
  cases ps (σ.1 1 0) c
  · rfl
  · cases ps (σ.1 1 0) d
    · rfl
    · by_cases q : frm (σ.1 1 0) c = frm (σ.1 1 0) d <;> simp [q, zt]
theorem c_seam14 (hI : Inv g) (hR : RB σ 0 g) {c d : Nat} (hc : c < 64) (hd : d < 64) : j_X0_isSeam_14 (nI c) σ (nI d) = some (zt (smB g c d)) := by
  have s1 := c_source hI hR hc
  have s2 := c_source hI hR hd
  rcases ps_cs hI hc with hp | ⟨hp, c56, -⟩
  · rw [hp, if_neg Bool.false_ne_true] at s1
    have e : smB g c d = false := by unfold smB; rw [hp]; exact Bool.false_and _
    rw [e]
    unfold j_X0_isSeam_14
    rw [s1]
    rfl
  · rw [hp, if_pos rfl] at s1
    rcases ps_cs hI hd with hq | ⟨hq, d56, -⟩
    · rw [hq, if_neg Bool.false_ne_true] at s2
      have e : smB g c d = false := by unfold smB; rw [hp, hq]; rfl
      rw [e]
      unfold j_X0_isSeam_14
      rw [s1, s2]
      rfl
    · rw [hq, if_pos rfl] at s2
      have e1 : σ.1 32 0 c = frm g c := hR.2.2.2.2.2.2 c c56
      have e2 : σ.1 32 0 d = frm g d := hR.2.2.2.2.2.2 d d56
      have z1 : zin (nI c) 56 = true := zin_ok c56 (by decide)
      have z2 : zin (nI d) 56 = true := zin_ok d56 (by decide)
      have k1 : (nI c).toNatClampNeg = c := nI_clamp (by omega)
      have k2 : (nI d).toNatClampNeg = d := nI_clamp (by omega)
      have e : smB g c d = !decide (frm g c = frm g d) := by unfold smB; rw [hp, hq, Bool.true_and, Bool.true_and]
      rw [e]
      unfold j_X0_isSeam_14
      rw [s1, s2, Option.bind_some, Option.bind_some, z1, z2, k1, k2, e1, e2]
      by_cases q : frm g c = frm g d
      · rw [decide_eq_true q]
        show (if frm g c = frm g d then some (0 : Int32) else some 1) = some 0
        rw [if_pos q]
      · rw [decide_eq_false q]
        show (if frm g c = frm g d then some (0 : Int32) else some 1) = some 1
        rw [if_neg q]
def smF (g : zGa) (c : Nat) : Bool := decide (c % 8 + 1 < 8) && smB g c (c + 1)
def smG (g : zGa) (c : Nat) : Bool := smB g c (c + 8)
theorem seam_two [Inhabited BFT] (h : Rel σc σm) : ∃ r, f_X0_seams σc = some r ∧ f_X12_seams σm = some r := by
  unfold f_X0_seams f_X12_seams
  have bF := fb_ct_le (smF (σm.1 1 0)) 64
  have bG := fb_ct_le (smG (σm.1 1 0)) 64
  rw [zlp_for (a := ((0 : Int32), (0 : Int32))) (fun c => (nI (fb_ct (smF (σm.1 1 0)) c + fb_ct (smG (σm.1 1 0)) c), nI c)) 56 (b := nI (fb_ct (smF (σm.1 1 0)) 56 + fb_ct (smG (σm.1 1 0)) 56)) rfl ?_ ?_]
  · refine ⟨_, rfl, ?_⟩
    rw [zlp_for (a := ((0 : Int32), (0 : Int32))) (fun c => (nI (fb_ct (smF (σm.1 1 0)) c + fb_ct (smG (σm.1 1 0)) c), nI c)) 64 (b := nI (fb_ct (smF (σm.1 1 0)) 56 + fb_ct (smG (σm.1 1 0)) 56)) rfl ?_ ?_]
    · rfl
    · intro c hc
      have l64 : nI c < 64 := nI_lt (b := 64) hc (by decide)
      have e8 : zrem (nI c) 8 + 1 = nI (c % 8 + 1) := by
        have := zrem_nI (a := c) (d := 8) (by omega) (by decide) (by decide)
        rw [show (8 : Int32) = nI 8 from rfl, this, nI_1]
      have lt8 : (nI (c % 8 + 1) < 8) = (c % 8 + 1 < 8) := nI_ltQ (b := 8) (by omega) (by decide)
      have ec8 : nI c + 8 = nI (c + 8) := nI_add c 8
      have lt64 : (nI (c + 8) < 64) = (c + 8 < 64) := nI_ltQ (b := 64) (by omega) (by decide)
      have fin : ∀ F, j_X12_seams_35_4 σm (nI F) (nI c) = some (Sum.inl (nI (F + (if smG (σm.1 1 0) c then 1 else 0)), nI (c + 1))) := fun F => by
        unfold j_X12_seams_35_4
        rw [ec8]
        simp only [lt64, nI_1]
        by_cases q : c + 8 < 64
        · rw [if_pos q, m_seam (rI h) hc q, Option.bind_some]
          unfold smG
          simp only [zt_0]
          cases smB (σm.1 1 0) c (c + 8) <;> simp
        · rw [if_neg q]
          have : smG (σm.1 1 0) c = false := by unfold smG smB; rw [ps_big (rI h) (by omega) hc]; rfl
          rw [this]
          simp
      unfold b_X12_seams_4
      rw [if_pos l64, e8]
      simp only [lt8, nI_1, fin]
      by_cases q : c % 8 + 1 < 8
      · rw [if_pos q, m_seam (rI h) hc (show c + 1 < 64 by omega), Option.bind_some]
        have eF : smF (σm.1 1 0) c = smB (σm.1 1 0) c (c + 1) := by unfold smF; rw [decide_eq_true q, Bool.true_and]
        simp only [zt_0, fb_ct_succ, eF]
        cases smB (σm.1 1 0) c (c + 1) <;> simp [Nat.add_assoc, Nat.add_left_comm, Nat.add_comm]
      · rw [if_neg q]
        have eF : smF (σm.1 1 0) c = false := by unfold smF; rw [decide_eq_false q, Bool.false_and]
        simp only [fb_ct_succ, eF]
        simp [Nat.add_assoc]
    · unfold b_X12_seams_4
      rw [if_neg (show ¬ (nI 64 : Int32) < 64 by decide), ct_big, ct_big]
      · intro c h1 h2
        unfold smG smB
        rw [ps_big (rI h) h1 h2]
        rfl
      · intro c h1 h2
        unfold smF smB
        rw [ps_big (rI h) h1 h2, Bool.false_and, Bool.and_false]
  · intro c hc
    have l56 : nI c < 56 := nI_lt (b := 56) hc (by decide)
    have n8 : ¬ nI (c + 8) = nI (c + 1) := by rw [nI_eqI (by omega) (by omega)]; omega
    have ec8 : nI c + 8 = nI (c + 8) := nI_add c 8
    have s8 : f_X0_isSeam (nI c) (nI (c + 8)) σc = some (zt (smG (σm.1 1 0) c)) := by
      unfold f_X0_isSeam
      rw [nI_1, if_neg n8, c_seam14 (rI h) (rB h) (by omega) (by omega)]
      rfl
    have s1 : f_X0_isSeam (nI c) (nI (c + 1)) σc = some (zt (smF (σm.1 1 0) c)) := by
      have e8 : zrem (nI (c + 1)) 8 = nI ((c + 1) % 8) := zrem_nI (a := c + 1) (d := 8) (by omega) (by decide) (by decide)
      have z8 : (nI ((c + 1) % 8) = 0) = ((c + 1) % 8 = 0) := nI_eqI (b := 0) (by omega) (by decide)
      unfold f_X0_isSeam
      rw [nI_1, if_pos rfl, e8]
      simp only [z8]
      unfold smF
      by_cases q : (c + 1) % 8 = 0
      · rw [if_pos q, decide_eq_false (show ¬ c % 8 + 1 < 8 by omega)]
        rfl
      · rw [if_neg q, decide_eq_true (show c % 8 + 1 < 8 by omega), Bool.true_and, c_seam14 (rI h) (rB h) (by omega) (by omega)]
    unfold b_X0_seams_4 j_X0_seams_27_4
    rw [if_pos l56, ec8, nI_1, s1, s8]
    simp only [Option.bind_some, zt_0, fb_ct_succ]
    cases smF (σm.1 1 0) c <;> cases smG (σm.1 1 0) c <;> simp [nI_1, Nat.add_assoc, Nat.add_left_comm, Nat.add_comm]
  · unfold b_X0_seams_4
    rw [if_neg (show ¬ (nI 56 : Int32) < 56 by decide)]
theorem pr_picture [Inhabited BFT] : PR_picture Rel := fun x σc σm h => by
  obtain ⟨r0, a0, b0⟩ := feet_two h
  obtain ⟨r1, a1, b1⟩ := hol_two h
  obtain ⟨r2, a2, b2⟩ := seam_two h
  unfold f_X11_picture f_X12_picture
  rw [a0, b0, a1, b1, a2, b2]
  by_cases h0 : x = 0
  · subst h0; exact ⟨_, rfl, rfl, h⟩
  by_cases h1 : x = 1
  · subst h1; exact ⟨_, rfl, rfl, h⟩
  by_cases h2 : x = 2
  · subst h2; exact ⟨_, rfl, rfl, h⟩
  simp only [h0, h1, h2, if_false]
  have e9 : (9 : Int32).toInt = 9 := rfl
  have e10 : (10 : Int32).toInt = 10 := rfl
  by_cases h10 : (10 : Int32) ≤ x
  · have h9 : (9 : Int32) < x := by
      rw [fa_le] at h10
      rw [fa_lt]
      omega
    simp only [h10, h9, if_true]
    rcases sp_cs h (x - 10) with ⟨c, hc, ex, hsp, e3, e4⟩ | ⟨e3, e4⟩
    · rw [e3, e4, ex, zin_ok hc (by decide), nI_clamp (by omega), m_from (show c < 64 by omega)]
      simp only [Option.bind_some, show ¬ (1 : Int32) = 0 by decide, if_false, zgT]
      have ef : σc.1 32 0 c = frm (σm.1 1 0) c := (rB h).2.2.2.2.2.2 c hc
      rw [ef]
      exact ⟨_, rfl, rfl, h⟩
    · rw [e3, e4]
      exact ⟨_, rfl, rfl, h⟩
  · have h9 : ¬ (9 : Int32) < x := by
      rw [fa_le] at h10
      rw [fa_lt]
      omega
    simp only [h10, h9, if_false]
    exact ⟨_, rfl, rfl, h⟩
end PURE
