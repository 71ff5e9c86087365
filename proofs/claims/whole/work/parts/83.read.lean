/-! PURE LAYER: what reading leaves alone -/
def arP (f i k : Nat) : Bool := (f == 3 || (f == 4 || (f == 39 || (f == 40 || f == 41)))) || (((f == 10 || (f == 23 || (f == 24 || (f == 25 || f == 26)))) && i == 2) || ((f == 8 || (f == 15 || (f == 16 || (f == 17 || (f == 18 || (f == 19 || f == 20)))))) && i == 1))
def arPM (f i k : Nat) : Bool := (f == 0 && decide (12 ≤ k)) || (f == 4 || (f == 5 || (f == 6 || f == 7)))
theorem fSP {σ σ' : zG} (h : FrA arS σ σ') : FrA arP σ σ' := h.mono fun f i k a => by unfold arP at a; unfold arS arT; simp at a ⊢; omega
theorem fCP {σ σ' : zG} (h : FrA arCL σ σ') : FrA arP σ σ' := h.mono fun f i k a => by unfold arP at a; unfold arCL; simp at a ⊢; omega
theorem fMP {σ σ' : zG} (h : FrA arML σ σ') : FrA arPM σ σ' := h.mono fun f i k a => by unfold arPM at a; unfold arML; simp at a ⊢; omega
theorem fNP {σ σ' : zG} (h : FrA arN σ σ') : FrA arPM σ σ' := h.mono fun f i k a => by unfold arPM at a; unfold arN; simp at a ⊢; omega
theorem fr_req {ar : Nat → Nat → Nat → Bool} {p : Nat → Nat → Bool} {σ σ' : zG} (h : FrA ar σ σ') (hp : ∀ f i k, p f i = true → ar f i k = false) : REq p σ σ' := fun f i hi => ⟨funext fun k => h.1 f i k (hp f i k hi), by rw [h.2]⟩
theorem rws_P (b f i k : Nat) (hb : b < 2) (h : rws b f i = true) : arP f i k = false := by
  unfold rws at h
  unfold arP
  simp at h ⊢
  omega
theorem rwk_P (f i k : Nat) (h : rwk f i = true) : arP f i k = false := by
  unfold rwk at h
  unfold arP
  simp at h ⊢
  omega
section PURE
variable {σ σ' σc σm sc sm : zG}
theorem read_rel [Inhabited BFT] (h : Rel σc σm) (hc : FrA arP σc sc) (hm : FrA arPM σm sm) (h1 : sc.1 3 0 1 = 0) (h2 : sm.1 0 0 16 = 0) (hF : RFa sc sm) : Rel sc sm := by
  obtain ⟨r1, r2, r3, -, -, r6⟩ := h
  have em : ∀ f, f ≠ 0 → f ≠ 4 → f ≠ 5 → f ≠ 6 → f ≠ 7 → sm.1 f = σm.1 f := fun f a b c d e => funext fun i => funext fun k => hm.1 f i k (by unfold arPM; simp [a, b, c, d, e])
  have e1 : sm.1 1 = σm.1 1 := em 1 (by decide) (by decide) (by decide) (by decide) (by decide)
  have q0 : REq (rws 0) σc sc := fr_req hc fun f i k hp => rws_P 0 f i k (by decide) hp
  refine ⟨?_, by rw [e1]; exact r2, ?_, ⟨0, by decide, h1, h2, fun k hk => absurd hk (Nat.not_lt_zero k)⟩, hF, ?_⟩
  · rw [e1]
    refine rb_top r1 (fun f i hp => q0 f i (by unfold rwt at hp; simp only [Bool.and_eq_true] at hp; exact hp.1)) (fun _ _ => rfl) (Nat.le_refl _) (tp_Sh (iv_Top r2)).2 ?_ ?_
    · unfold RSc; rw [(q0 1 0 rfl).1]; exact r1.1
    · unfold RSt
      rw [(q0 7 (7 * 0) rfl).1, (q0 12 (7 * 0) rfl).1, (q0 13 (7 * 0) rfl).1, (q0 14 (7 * 0) rfl).1]
      exact r1.2.1
  · exact kp_same r3 (fr_req hc fun f i k hp => rwk_P f i k hp) (hm.1 0 0 3 rfl) (em 3 (by decide) (by decide) (by decide) (by decide) (by decide)) (fun k _ => by rw [e1]) (by rw [e1]; exact Nat.le_refl _)
  · exact im_ok r6 (fr_req hc fun f i k hp => rws_P 1 f i k (by decide) hp) (hc.1 0 0 6 rfl) (em 2 (by decide) (by decide) (by decide) (by decide) (by decide)) (hm.1 0 0 4 rfl)
/-- the tapes of both, read -/
theorem rel_ct [Inhabited BFT] (h : Rel σc σm) : ∃ B n, CT σc B n ∧ n ≤ 400 ∧ σm.1 0 0 16 = nI n ∧ ∀ k, k < n → B k < 256 ∧ σm.1 8 0 k = nI (B k) := by
  obtain ⟨n, hn, t1, t2, t3⟩ := h.2.2.2.1
  refine ⟨fun k => (σc.1 38 0 k).toNatClampNeg, n, ⟨hn, t1, fun k hk => ?_⟩, hn, t2, fun k hk => ?_⟩
  · obtain ⟨v, hv, e1, e2⟩ := t3 k hk
    dsimp only
    rw [e1, nI_clamp (show v < 2 ^ 31 by omega)]
    exact ⟨hv, rfl⟩
  · obtain ⟨v, hv, e1, e2⟩ := t3 k hk
    dsimp only
    rw [e1, nI_clamp (show v < 2 ^ 31 by omega)]
    exact ⟨hv, e2⟩
end PURE
