/-! PURE LAYER: a part of a way -/
section PURE
variable {σ σ0 : zG} {W H w c0 cm : Nat} {K : List Nat}
theorem m_partL (hI : Inv (σ.1 1 0)) (eW : aW (σ.1 1 0) = W) (eH : aH (σ.1 1 0) = H) (hw : w < 12) (hcm : cm ≤ 500) (hsp : spW W H c0) {x l : Nat} (hx : 103 ≤ x ∧ x ≤ 107) (hl : K.length + l ≤ 600) (h0 : σ0.1 0 0 18 = nI (x - 92)) (h26 : σ.1 0 0 26 = nI l) (h : MR W H w c0 cm K σ) : ∃ s, zlp (fun q : Int32 × zG => b_X12_aPart_23 σ0 q.1 q.2) ((0 : Int32), σ) = some s ∧ MR W H w c0 cm (K ++ List.replicate l x) s ∧ FrA (arR w) σ s := by
  have hW8 : W ≤ 8 := by rw [← eW]; exact hI.1.2.2
  have hH7 : H ≤ 7 := by rw [← eH]; exact hI.2.1.2.2
  have lt64 : ∀ (K : List Nat) (c : Nat), wpos W H c0 K = some c → c < 64 := fun K c e => by
    have := wpos_sp hW8 hH7 hsp e
    unfold spW at this
    omega
  refine zlp_run (f := fun q : Int32 × zG => b_X12_aPart_23 σ0 q.1 q.2) l (fun v q => q.1 = nI v ∧ MR W H w c0 cm (K ++ List.replicate v x) q.2 ∧ FrA (arR w) σ q.2) (fun s => MR W H w c0 cm (K ++ List.replicate l x) s ∧ FrA (arR w) σ s) ⟨rfl, by rw [List.replicate_zero, List.append_nil]; exact h, FrA.refl _ _⟩ ?_ ?_
  · rintro v hv ⟨i, s⟩ ⟨hi, hM, hf⟩
    have hi' : i = nI v := hi
    subst hi'
    have hM' : MR W H w c0 cm (K ++ List.replicate v x) s := hM
    have hf' : FrA (arR w) σ s := hf
    have s26 : s.1 0 0 26 = nI l := by rw [hf'.1 0 0 26 rfl]; exact h26
    have s1 : s.1 1 0 = σ.1 1 0 := funext fun k => hf'.1 1 0 k rfl
    have e27 := hM'.2.2.1
    have em1 : (enc (wpos W H c0 (K ++ List.replicate v x)) = -1) = (wpos W H c0 (K ++ List.replicate v x) = none) := enc_m1 fun c e => by have := lt64 _ c e; omega
    by_cases a : wpos W H c0 (K ++ List.replicate v x) = none
    · left
      refine ⟨s, ?_, ?_, hf⟩
      · show b_X12_aPart_23 σ0 (nI v) s = _
        unfold b_X12_aPart_23
        rw [s26, if_pos (nI_lt hv (by omega)), e27, if_pos (by rw [em1]; exact a)]
      · have := (MR_off hM' a x (l - v)).1
        rw [List.append_assoc, List.replicate_append_replicate, show v + (l - v) = l by omega] at this
        exact this
    · right
      obtain ⟨c, ec⟩ := Option.ne_none_iff_exists'.mp a
      have hsc := wpos_sp hW8 hH7 hsp ec
      have hst := m_stepTo (σ := s) (by rw [s1]; exact hI) hx (by rw [s1, eW, eH]; exact hsc)
      rw [s1, eW, eH] at hst
      have ew : wpos W H c0 (K ++ List.replicate v x ++ [x]) = wstep W H x c := by rw [wpos_app, ec]; rfl
      obtain ⟨s', y1, y2, y3⟩ := m_isThere1 hw hcm (by rw [List.length_append, List.length_replicate]; omega) hM' a x
      rw [ew] at y1
      refine ⟨(nI (v + 1), s'), ?_, rfl, ?_, hf'.trans y3⟩
      · show b_X12_aPart_23 σ0 (nI v) s = _
        unfold b_X12_aPart_23
        rw [s26, if_pos (nI_lt hv (by omega)), e27, if_neg (by rw [em1]; exact a), ec, h0]
        show (f_X12_steppedTo (nI c) (nI (x - 92)) s).bind _ = _
        rw [hst, Option.bind_some, y1, Option.bind_some, nI_1]
      · show MR W H w c0 cm (K ++ List.replicate (v + 1) x) s'
        rw [List.replicate_succ', ← List.append_assoc]
        exact y2
  · rintro ⟨i, s⟩ ⟨hi, hM, hf⟩
    have hi' : i = nI l := hi
    subst hi'
    have hf' : FrA (arR w) σ s := hf
    have s26 : s.1 0 0 26 = nI l := by rw [hf'.1 0 0 26 rfl]; exact h26
    refine ⟨s, ?_, hM, hf⟩
    show b_X12_aPart_23 σ0 (nI l) s = _
    unfold b_X12_aPart_23
    rw [s26, if_neg (nI_nlt (Nat.le_refl l) (by omega))]
end PURE
