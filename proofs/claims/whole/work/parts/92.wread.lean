/-! PURE LAYER: numbers and words among the walkers -/
def WQ (B : Nat → Nat) (n T k : Nat) (σc σm : zG) : Prop := CS B n T k σc ∧ MS B n 0 k σm ∧ σc.1 4 0 3 = 0 ∧ σc.1 4 0 4 = -1
def arW (f i k : Nat) : Bool := f == 4
def arV (f i k : Nat) : Bool := f == 0 && (i == 0 && (k == 17 || (k == 18 || (k == 19 || (k == 20 || (k == 21 || (k == 22 || k == 26)))))))
theorem wA {σ σ' : zG} (h : FrA arA σ σ') : FrA arW σ σ' := h.mono fun f i k a => by unfold arW at a; unfold arA; simp at a ⊢; omega
theorem wF {σ σ' : zG} (h : FrA arF σ σ') : FrA arW σ σ' := h.mono fun f i k a => by unfold arW at a; unfold arF; simp at a ⊢; omega
theorem vN {σ σ' : zG} (h : FrA arN σ σ') : FrA arV σ σ' := h.mono fun f i k a => by unfold arV at a; unfold arN; simp at a ⊢; omega
theorem vB {σ σ' : zG} (h : FrA arB σ σ') : FrA arV σ σ' := h.mono fun f i k a => by unfold arV at a; unfold arB; simp at a ⊢; omega
section PURE
variable {σ σ' σc σm sc sm : zG} {B : Nat → Nat} {n T k : Nat}
theorem ws_adv (hE : EvT B n T) (h : WQ B n T k σc σm) (hk : k < T) : ∃ sc sm, f_X4_advance σc = some sc ∧ f_X12_next0 σm = some sm ∧ WQ B n T (k + 1) sc sm ∧ FrA arW σc sc ∧ FrA arN σm sm := by
  obtain ⟨a, b, c, d⟩ := h
  obtain ⟨sc, a1, a2, a3⟩ := c_adv hE a hk
  obtain ⟨sm, b1, b2, b3⟩ := m_adv b
  exact ⟨sc, sm, a1, b1, ⟨a2, b2, by rw [a3.1 4 0 3 rfl]; exact c, by rw [a3.1 4 0 4 rfl]; exact d⟩, wA a3, b3⟩
theorem tkW (hE : EvT B n T) (h : WQ B n T k σc σm) (c t : Nat) (hp : (c, t) ∈ tblW) (hc : c < 256) (ht : t < 256) : (σc.1 4 0 8 = nI c) = (knd B n k = c) ∧ (σm.1 0 0 18 = nI t) = (knd B n k = c) :=
  ⟨tkc hE h.1 c (by omega), tkm hE h.1.2.2.1 h.2.1 (by omega) (fun k hk => im_W k hk (c, t) hp)⟩
theorem ws_fail (hE : EvT B n T) (h : WQ B n T k σc σm) (w : Int32) : ∃ sc sm, f_X4_fail w σc = some (0, sc) ∧ f_X12_bad w σm = (0, sm) ∧ BdF sc sm ∧ FrA arW σc sc ∧ FrA arV σm sm := by
  obtain ⟨sc, sm, a1, a2, a3, a4, a5⟩ := ls_bad hE h.1 h.2.1 w
  exact ⟨sc, sm, a1, a2, a3, wF a4, vB a5⟩
theorem ws_num (hE : EvT B n T) (h : WQ B n T k σc σm) (lo hi : Nat) (hhi : hi < 2 ^ 30) (hlo : lo < 2 ^ 30) : (∃ v sc sm, lo ≤ v ∧ v ≤ hi ∧ nbr B n k = v ∧ f_X4_readNumber (nI lo) (nI hi) σc = some (nI v, sc) ∧ f_X12_number (nI lo) (nI hi) σm = some (1, sm) ∧ sm.1 0 0 26 = nI v ∧ WQ B n T (k + 1) sc sm ∧ FrA arW σc sc ∧ FrA arV σm sm) ∨ ∃ sc sm, f_X4_readNumber (nI lo) (nI hi) σc = some (-1, sc) ∧ f_X12_number (nI lo) (nI hi) σm = some (0, sm) ∧ BdF sc sm ∧ FrA arW σc sc ∧ FrA arV σm sm := by
  have q := tkW hE h 2 2 (by decide) (by decide) (by decide)
  have c2 : (σc.1 4 0 8 = (2 : Int32)) = (knd B n k = 2) := q.1
  have m2 : (σm.1 0 0 18 = (2 : Int32)) = (knd B n k = 2) := q.2
  have hk := h.1.2.2.1
  have hN := ev_nbr hE hk
  have e9 : σc.1 4 0 9 = nI (nbr B n k) := h.1.2.2.2.2.2
  unfold f_X4_readNumber f_X12_number
  simp only [c2, m2]
  by_cases a : knd B n k = 2
  · have e20 : σm.1 0 0 20 = nI (nbr B n k) := h.2.1.2.2.2.2 a
    rw [if_pos a, if_pos a, e9, e20]
    have l1 : (nI lo ≤ nI (nbr B n k)) = (lo ≤ nbr B n k) := nI_leQ (by omega) (by omega)
    have l2 : (nI hi < nI (nbr B n k)) = (hi < nbr B n k) := nI_ltQ (by omega) (by omega)
    have l3 : f_X12_isIn (nI (nbr B n k)) (nI lo) (nI hi) = zt (decide (lo ≤ nbr B n k ∧ nbr B n k ≤ hi)) := by
      rw [isIn_zt]
      refine congrArg zt (decide_eq_decide.mpr ?_)
      rw [nI_leI (by omega) (by omega), nI_leI (by omega) (by omega)]
    simp only [l1, l2]
    rw [l3]
    by_cases b : lo ≤ nbr B n k ∧ nbr B n k ≤ hi
    · left
      have hkT := ev_lt hE hk (by omega)
      rw [if_pos b.1, if_neg (by omega), decide_eq_true b, if_neg (show ¬ zt true = 0 by decide)]
      simp only [zb]
      have hf : FrA (fun f _ k => f == 0 && k == 26) σm (zwI σm 0 0 26 (nI (nbr B n k))) := fra_w rfl
      have hf2 : FrA tsM σm (zwI σm 0 0 26 (nI (nbr B n k))) := hf.mono fun f i k a => by unfold tsM at a; simp at a ⊢; omega
      have h' : WQ B n T k σc (zwI σm 0 0 26 (nI (nbr B n k))) := ⟨h.1, h.2.1.fr hf2, h.2.2⟩
      obtain ⟨sc, sm, a1, b1, h1, f1, g1⟩ := ws_adv hE h' hkT
      rw [a1, b1]
      refine ⟨nbr B n k, sc, sm, b.1, b.2, rfl, rfl, rfl, ?_, h1, f1, (fra_w rfl).trans (vN g1)⟩
      rw [g1.1 0 0 26 rfl, zw_at, if_pos ⟨rfl, rfl, rfl⟩]
    · right
      obtain ⟨sc, sm, a1, a2, a3, a4, a5⟩ := ws_fail hE h 2
      rw [decide_eq_false b, if_pos (show zt false = 0 from rfl), a1, a2]
      refine ⟨sc, sm, ?_, rfl, a3, a4, a5⟩
      by_cases c : lo ≤ nbr B n k
      · rw [if_pos c, if_pos (by omega)]; rfl
      · rw [if_neg c]; rfl
  · right
    obtain ⟨sc, sm, a1, a2, a3, a4, a5⟩ := ws_fail hE h 1
    rw [if_neg a, if_neg a, a1, a2]
    exact ⟨sc, sm, rfl, rfl, a3, a4, a5⟩
theorem ws_pass (hE : EvT B n T) (h : WQ B n T k σc σm) (c t : Nat) (hp : (c, t) ∈ tblW) (hc : c < 256) (ht : t < 256) (h0 : c ≠ 0) : ∃ b sc sm, f_X4_pass (nI c) σc = some (zt b, sc) ∧ f_X12_need (nI t) σm = some (zt b, sm) ∧ FrA arW σc sc ∧ FrA arV σm sm ∧ (b = true → WQ B n T (k + 1) sc sm) ∧ (b = false → BdF sc sm) := by
  have q := tkW hE h c t hp hc ht
  unfold f_X4_pass f_X12_need
  simp only [q.1, q.2]
  by_cases a : knd B n k = c
  · have hkT := ev_lt hE h.1.2.2.1 (by omega)
    obtain ⟨s1, t1, a1, b1, h1, f1, g1⟩ := ws_adv hE h hkT
    rw [if_pos a, if_pos a, a1, b1]
    exact ⟨true, s1, t1, rfl, rfl, f1, vN g1, fun _ => h1, fun z => Bool.noConfusion z⟩
  · obtain ⟨sc, sm, a1, a2, a3, a4, a5⟩ := ws_fail hE h 1
    rw [if_neg a, if_neg a, a1, a2]
    exact ⟨false, sc, sm, rfl, rfl, a4, a5, fun z => Bool.noConfusion z, fun _ => a3⟩
end PURE
