/-! PURE LAYER: the class walks -/
/-- walker i0's row is p; the rest is base's -/
def CR (i0 : Nat) (p : Nat → Int32) (b s : zG) : Prop := (∀ f i k, ¬ (f = 21 ∧ i = 0 ∧ 501 * i0 ≤ k ∧ k < 501 * i0 + 501) → s.1 f i k = b.1 f i k) ∧ (∀ f i k, ¬ (f = 22 ∧ i = 0) → s.2 f i k = b.2 f i k) ∧ (∀ m, m < 501 → s.1 21 0 (501 * i0 + m) = p m) ∧ ∀ m, m < 501 → ∀ c, c < 64 → (lb (s.2 22 0 m) c = true ↔ lb (b.2 22 0 m) c = true ∨ p m = nI c)
theorem nb_ok : ∀ c, c < 64 → zi2b (zi2b (nI c)) = nI c := by decide +kernel
section PURE
variable {σ σ' b s : zG} {i0 W H c0 cm c : Nat} {p p' : Nat → Int32} {K : List Nat}
theorem CR.cong (h : CR i0 p b s) (e : ∀ m, m < 501 → p' m = p m) : CR i0 p' b s := ⟨h.1, h.2.1, fun m hm => by rw [e m hm]; exact h.2.2.1 m hm, fun m hm c hc => by rw [e m hm]; exact h.2.2.2 m hm c hc⟩
theorem c_mark (h : CR i0 p b s) (hi : i0 < 12) {m0 c : Nat} (hm : m0 < 501) (hc : c < 64) (h0 : p m0 = -1) : ∃ s', f_X5_mark 0 (nI i0) (nI m0) (nI c) s = some s' ∧ CR i0 (fun m => if m = m0 then nI c else p m) b s' := by
  unfold f_X5_mark
  have e5 : nI i0 * (501 : Int32) = nI (501 * i0) := by
    have : nI i0 * (501 : Int32) = nI (i0 * 501) := pk_mul i0 501
    rw [this, Nat.mul_comm]
  rw [(min_ok hm).1, if_neg (by decide), if_pos (nI_pos' (by omega)), if_pos (show nI i0 < (12 : Int32) from nI_lt (b := 12) hi (by decide)), e5, nI_add, zin_ok (show 501 * i0 + m0 < 6012 by omega) (by decide), zin_ok hm (by decide), nI_clamp (show 501 * i0 + m0 < 2 ^ 31 by omega), nI_clamp (show m0 < 2 ^ 31 by omega), nb_ok c hc]
  simp only [zgT, zb]
  refine ⟨_, rfl, fun f i k hn => ?_, fun f i k hn => ?_, fun m hm' => ?_, fun m hm' c' hc' => ?_⟩
  · show (zwI s 21 0 (501 * i0 + m0) (nI c)).1 f i k = _
    rw [zw_at, if_neg (fun z => hn ⟨z.1, z.2.1, by omega⟩)]
    exact h.1 f i k hn
  · show (if f = 22 ∧ i = 0 ∧ k = m0 then _ else s.2 f i k) = _
    rw [if_neg (fun z => hn ⟨z.1, z.2.1⟩)]
    exact h.2.1 f i k hn
  · show (zwI s 21 0 (501 * i0 + m0) (nI c)).1 21 0 (501 * i0 + m) = if m = m0 then nI c else p m
    rw [zw_at]
    by_cases q : m = m0
    · rw [if_pos ⟨rfl, rfl, by omega⟩, if_pos q]
    · rw [if_neg (fun z => by omega), if_neg q]; exact h.2.2.1 m hm'
  · show lb (if 22 = 22 ∧ 0 = 0 ∧ m = m0 then s.2 22 0 m0 ||| zlshl 1 (nI c) else s.2 22 0 m) c' = true ↔ _ ∨ (if m = m0 then nI c else p m) = nI c'
    by_cases q : m = m0
    · rw [if_pos ⟨rfl, rfl, q⟩, if_pos q, lb_or, lb_bit c hc c' hc', q]
      have h1 := h.2.2.2 m0 hm c' hc'
      rw [h0, show ((-1 : Int32) = nI c') = False from m1_nI (by omega)] at h1
      rw [nI_eqI (show c < 2 ^ 31 by omega) (show c' < 2 ^ 31 by omega)]
      simp only [Bool.or_eq_true, decide_eq_true_eq]
      rw [h1]
      constructor
      · rintro (z | z)
        · rcases z with z | z
          · exact Or.inl z
          · exact z.elim
        · exact Or.inr z.symm
      · rintro (z | z)
        · exact Or.inl (Or.inl z)
        · exact Or.inr z.symm
    · rw [if_neg (fun z => q z.2.2), if_neg q]
      exact h.2.2.2 m hm' c' hc'
theorem j_in {p2 cnt X a y : Int32} {mn x' y' : Nat} (hW : W ≤ 8) (hH : H ≤ 7) (hm : mn + 1 ≤ 500) (hx : x' < W) (hy : y' < H) (eX : X = nI x') (eY : y + a = nI y') : j_X5_follow_157_97 (nI W) (nI H) 0 p2 (nI mn) X cnt a y s = (f_X5_mark 0 p2 (nI (mn + 1)) (nI (8 * y' + x')) s).bind (fun q24 => some (Sum.inl (nI (mn + 1), nI x', nI y', cnt + 1, q24))) := by
  unfold j_X5_follow_157_97
  have e8 : nI y' * (8 : Int32) = nI (8 * y') := by
    have : nI y' * (8 : Int32) = nI (y' * 8) := pk_mul y' 8
    rw [this, Nat.mul_comm]
  rw [eX, eY, nI_1, if_pos (show nI (mn + 1) ≤ (500 : Int32) from nI_le (b := 500) hm (by decide)), if_pos (nI_pos' (by omega)), if_pos (nI_lt hx (by omega)), if_pos (nI_pos' (by omega)), if_neg (show ¬ nI H ≤ nI y' from nI_ge hy (by omega)), e8, nI_add]
theorem j_late {p2 cnt X a y : Int32} {mn : Nat} (h1 : mn ≤ 500) (hm : ¬ mn + 1 ≤ 500) : j_X5_follow_157_97 (nI W) (nI H) 0 p2 (nI mn) X cnt a y s = some (Sum.inr (Sum.inl s)) := by
  unfold j_X5_follow_157_97
  rw [nI_1, if_neg (show ¬ nI (mn + 1) ≤ (500 : Int32) from nI_ge (a := 500) (by omega) (by omega))]
theorem j_outX {p2 cnt X a y : Int32} {mn : Nat} (hW : W ≤ 8) (h : X = -1 ∨ X = nI W) : j_X5_follow_157_97 (nI W) (nI H) 0 p2 (nI mn) X cnt a y s = some (Sum.inr (Sum.inl s)) := by
  unfold j_X5_follow_157_97
  by_cases q : nI mn + 1 ≤ (500 : Int32)
  · rw [if_pos q]
    rcases h with h | h
    · rw [h, if_neg (by decide)]
    · rw [h, if_pos (nI_pos' (by omega)), if_neg (show ¬ nI W < nI W from nI_nlt (Nat.le_refl W) (by omega))]
  · rw [if_neg q]
theorem j_outY {p2 cnt X a y : Int32} {mn : Nat} (hH : H ≤ 7) (h : y + a = -1 ∨ y + a = nI H) : j_X5_follow_157_97 (nI W) (nI H) 0 p2 (nI mn) X cnt a y s = some (Sum.inr (Sum.inl s)) := by
  unfold j_X5_follow_157_97
  by_cases q : nI mn + 1 ≤ (500 : Int32)
  · rw [if_pos q]
    by_cases q2 : 0 ≤ X
    · rw [if_pos q2]
      by_cases q3 : X < nI W
      · rw [if_pos q3]
        rcases h with h | h
        · rw [h, if_neg (by decide)]
        · rw [h, if_pos (nI_pos' (by omega)), if_pos (show nI H ≤ nI H from nI_le (Nat.le_refl H) (by omega))]
      · rw [if_neg q3]
    · rw [if_neg q2]
  · rw [if_neg q]
/-- a step of the class -/
theorem c_fstep {s6 : zG} {p1 : Nat} {p2 v8 : Int32} {x l v mn : Nat} (hW : W ≤ 8) (hH : H ≤ 7) (hx : 103 ≤ x ∧ x ≤ 107) (hc : spW W H c) (hmn : mn ≤ 500) (hl : l ≤ 60) (hv : v < l) (h19 : s6.1 19 p1 (p2 * (8 : Int32) + v8).toNatClampNeg = nI x) (h20 : s6.1 20 p1 (p2 * (8 : Int32) + v8).toNatClampNeg = nI l) :
    b_X5_follow_97 s6 p1 p2 v8 (nI W) (nI H) 0 (nI mn) (nI (c % 8)) (nI (c / 8)) (nI v) s = if mn + 1 ≤ 500 then (match wstep W H x c with
      | none => some (Sum.inr (Sum.inl s))
      | some c' => (f_X5_mark 0 p2 (nI (mn + 1)) (nI c') s).bind (fun q => some (Sum.inl (nI (mn + 1), nI (c' % 8), nI (c' / 8), nI (v + 1), q)))) else some (Sum.inr (Sum.inl s)) := by
  have e0 : ∀ x : Nat, nI x + (0 : Int32) = nI x := fun x => nI_add x 0
  have hc' := hc
  unfold spW at hc'
  have h5 : x = 103 ∨ x = 104 ∨ x = 105 ∨ x = 106 ∨ x = 107 := by omega
  by_cases q : mn + 1 ≤ 500
  · rw [if_pos q]
    unfold b_X5_follow_97 j_X5_follow_129_97 wstep
    rw [h19, h20, if_pos (nI_lt hv (by omega))]
    rcases h5 with rfl | rfl | rfl | rfl | rfl
    · rw [if_neg (show ¬ nI 103 = (105 : Int32) by decide), if_neg (show ¬ nI 103 = (107 : Int32) by decide), if_neg (show ¬ nI 103 = (106 : Int32) by decide), if_neg (show ¬ nI 103 = (104 : Int32) by decide), if_neg (by decide), if_neg (by decide), if_neg (by decide), if_neg (by decide), j_in hW hH q hc'.1 hc'.2 (e0 _) (e0 _), nI_1, show 8 * (c / 8) + c % 8 = c by omega]
    · rw [if_neg (show ¬ nI 104 = (105 : Int32) by decide), if_neg (show ¬ nI 104 = (107 : Int32) by decide), if_neg (show ¬ nI 104 = (106 : Int32) by decide), if_pos (show nI 104 = (104 : Int32) from rfl), if_neg (by decide), if_neg (by decide), if_neg (by decide), if_pos rfl]
      by_cases z : 1 ≤ c / 8
      · rw [if_pos z, j_in hW hH q hc'.1 (show c / 8 - 1 < H by omega) (e0 _) (pm1 z), nI_1]
        show _ = (f_X5_mark 0 p2 (nI (mn + 1)) (nI (c - 8)) s).bind _
        rw [show 8 * (c / 8 - 1) + c % 8 = c - 8 by omega, show (c - 8) % 8 = c % 8 by omega, show (c - 8) / 8 = c / 8 - 1 by omega]
      · rw [if_neg z]
        exact j_outY hH (Or.inl (by rw [show c / 8 = 0 by omega]; decide))
    · rw [if_pos (show nI 105 = (105 : Int32) from rfl), if_neg (show ¬ nI 105 = (106 : Int32) by decide), if_neg (show ¬ nI 105 = (104 : Int32) by decide), if_pos rfl]
      by_cases z : c % 8 + 1 < W
      · rw [if_pos z, j_in hW hH q z hc'.2 (nI_1 _) (e0 _), nI_1]
        show _ = (f_X5_mark 0 p2 (nI (mn + 1)) (nI (c + 1)) s).bind _
        rw [show 8 * (c / 8) + (c % 8 + 1) = c + 1 by omega, show (c + 1) % 8 = c % 8 + 1 by omega, show (c + 1) / 8 = c / 8 by omega]
      · rw [if_neg z]
        exact j_outX hW (Or.inr (by rw [nI_1, show c % 8 + 1 = W by omega]))
    · rw [if_neg (show ¬ nI 106 = (105 : Int32) by decide), if_neg (show ¬ nI 106 = (107 : Int32) by decide), if_pos (show nI 106 = (106 : Int32) from rfl), if_neg (by decide), if_neg (by decide), if_pos rfl]
      by_cases z : c / 8 + 1 < H
      · rw [if_pos z, j_in hW hH q hc'.1 z (e0 _) (nI_1 _), nI_1]
        show _ = (f_X5_mark 0 p2 (nI (mn + 1)) (nI (c + 8)) s).bind _
        rw [show 8 * (c / 8 + 1) + c % 8 = c + 8 by omega, show (c + 8) % 8 = c % 8 by omega, show (c + 8) / 8 = c / 8 + 1 by omega]
      · rw [if_neg z]
        exact j_outY hH (Or.inr (by rw [nI_1, show c / 8 + 1 = H by omega]))
    · rw [if_neg (show ¬ nI 107 = (105 : Int32) by decide), if_pos (show nI 107 = (107 : Int32) from rfl), if_neg (show ¬ nI 107 = (106 : Int32) by decide), if_neg (show ¬ nI 107 = (104 : Int32) by decide), if_neg (by decide), if_pos rfl]
      by_cases z : 1 ≤ c % 8
      · rw [if_pos z, j_in hW hH q (show c % 8 - 1 < W by omega) hc'.2 (pm1 z) (e0 _), nI_1]
        show _ = (f_X5_mark 0 p2 (nI (mn + 1)) (nI (c - 1)) s).bind _
        rw [show 8 * (c / 8) + (c % 8 - 1) = c - 1 by omega, show (c - 1) % 8 = c % 8 - 1 by omega, show (c - 1) / 8 = c / 8 by omega]
      · rw [if_neg z]
        exact j_outX hW (Or.inl (by rw [show c % 8 = 0 by omega]; decide))
  · rw [if_neg q]
    unfold b_X5_follow_97 j_X5_follow_129_97
    rw [h19, h20, if_pos (nI_lt hv (by omega))]
    rcases h5 with rfl | rfl | rfl | rfl | rfl
    · rw [if_neg (show ¬ nI 103 = (105 : Int32) by decide), if_neg (show ¬ nI 103 = (107 : Int32) by decide), if_neg (show ¬ nI 103 = (106 : Int32) by decide), if_neg (show ¬ nI 103 = (104 : Int32) by decide), j_late hmn q]
    · rw [if_neg (show ¬ nI 104 = (105 : Int32) by decide), if_neg (show ¬ nI 104 = (107 : Int32) by decide), if_neg (show ¬ nI 104 = (106 : Int32) by decide), if_pos (show nI 104 = (104 : Int32) from rfl), j_late hmn q]
    · rw [if_pos (show nI 105 = (105 : Int32) from rfl), if_neg (show ¬ nI 105 = (106 : Int32) by decide), if_neg (show ¬ nI 105 = (104 : Int32) by decide), j_late hmn q]
    · rw [if_neg (show ¬ nI 106 = (105 : Int32) by decide), if_neg (show ¬ nI 106 = (107 : Int32) by decide), if_pos (show nI 106 = (106 : Int32) from rfl), j_late hmn q]
    · rw [if_neg (show ¬ nI 107 = (105 : Int32) by decide), if_pos (show nI 107 = (107 : Int32) from rfl), if_neg (show ¬ nI 107 = (106 : Int32) by decide), if_neg (show ¬ nI 107 = (104 : Int32) by decide), j_late hmn q]
/-- what is left of the ways shows no more -/
theorem plK_none {K : List Nat} (h : wpos W H c0 K = none) (m : Nat) : ∀ K', plK W H c0 cm (K ++ K') m = plK W H c0 cm K m := by
  intro K'
  have : ∀ n (K' : List Nat), K'.length = n → plK W H c0 cm (K ++ K') m = plK W H c0 cm K m ∧ wpos W H c0 (K ++ K') = none := by
    intro n
    induction n with
    | zero =>
      intro K' e
      rw [List.length_eq_zero_iff.mp e, List.append_nil]
      exact ⟨rfl, h⟩
    | succ n ih =>
      intro K' e
      have hne : K' ≠ [] := fun z => by rw [z] at e; cases e
      have e2 : K' = K'.dropLast ++ [K'.getLast hne] := (List.dropLast_concat_getLast hne).symm
      have i := ih K'.dropLast (by rw [List.length_dropLast, e]; rfl)
      rw [e2, ← List.append_assoc, plK_off i.2]
      exact ⟨i.1, wpos_off i.2 _⟩
  exact (this _ K' rfl).1
theorem plK_late {K : List Nat} (h : 500 ≤ cm + K.length) {m : Nat} (hm : m < 501) (K' : List Nat) : plK W H c0 cm (K ++ K') m = plK W H c0 cm K m := by
  unfold plK
  by_cases a : cm ≤ m
  · rw [if_pos (by rw [List.length_append]; omega), if_pos (by omega), List.take_append_of_le_length (by omega)]
  · rw [if_neg (by omega), if_neg (by omega)]
end PURE
