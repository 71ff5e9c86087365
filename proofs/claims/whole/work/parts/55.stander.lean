/-! PURE LAYER: stander -/
section PURE
variable {σ σc σm : zG} {g : zGa}
theorem pr_stander [Inhabited BFT] : PR_stander Rel := fun x σc σm h => by
  have hN := iv_WN (rI h)
  have w0 : σc.1 8 0 0 = σm.1 1 0 36 := (rB h).2.2.1.1
  obtain ⟨b, b', f1, f2, ⟨hb1, hb2, hb3⟩, hM⟩ := zlp_two (f := fun q : Int32 × Int32 × Int32 × Int32 => b_X9_longestStander_10 σc q.1 q.2.1 q.2.2.1 q.2.2.2) (f' := fun q : Int32 × Int32 × Int32 × Int32 × zG => b_X12_stander_21 q.1 q.2.1 q.2.2.1 q.2.2.2.1 q.2.2.2.2) (aWN (σm.1 1 0))
    (fun k q q' => (q.1 = q'.1 ∧ q.2.1 = q'.2.1 ∧ q.2.2.1 = q'.2.2.1) ∧ (q.2.2.2 = nI k ∧ q'.2.2.2.1 = nI k) ∧ SmO σm q'.2.2.2.2 ∧ 0 ≤ q.2.1)
    (fun b b' => (b.1 = b'.1 ∧ b.2.1 = b'.2.1 ∧ b.2.2 = b'.2.2.1) ∧ SmO σm b'.2.2.2)
    (a := ((-1 : Int32), (0 : Int32), (-1 : Int32), (0 : Int32))) (a' := ((-1 : Int32), (0 : Int32), (-1 : Int32), (0 : Int32), σm)) ⟨⟨rfl, rfl, rfl⟩, ⟨rfl, rfl⟩, SmO.refl _, by decide⟩ (by
      rintro i hi ⟨w, l, f, _⟩ ⟨_, _, _, _, s⟩ ⟨⟨rfl, rfl, rfl⟩, ⟨rfl, rfl⟩, hs, hl0⟩
      right
      have i12 : i < 12 := by omega
      have hs' : SmO σm s := hs
      have pls : ∀ t, SmO σm t → ∀ m, m < 501 → f_X12_placeOf (nI i) (nI m) t = some (pl (σm.1 1 0) i m) := fun t ht m hm => by
        rw [m_place (σ := t) i12 hm, ht.1 1 rfl]
      -- one walker
      obtain ⟨c, c', g1, g2, ht, hcc⟩ := zlp_two (f := fun q : Int32 × Int32 × Int32 × Int32 × Int32 × Int32 => b_X9_longestStander_34 (nI i) σc q.1 q.2.1 q.2.2.1 q.2.2.2.1 q.2.2.2.2.1 q.2.2.2.2.2) (f' := fun q : Int32 × Int32 × zG => b_X12_laysStanding_14 (nI i) q.1 q.2.1 q.2.2) 501
        (fun m q q' => (q.2.2.2.1 = q'.1 ∧ q.2.2.2.2.2 = nI m ∧ q'.2.1 = nI m) ∧ (q.2.2.2.2.1 = if m = 0 then -1 else pl (σm.1 1 0) i (m - 1)) ∧ SmO σm q'.2.2 ∧ (q.1, q.2.1, q.2.2.1) = if q'.2.2.1 0 0 33 ≤ l then (w, l, f) else (nI i, q'.2.2.1 0 0 33, q'.2.2.1 0 0 34))
        (fun c c' => SmO σm c' ∧ c = if c'.1 0 0 33 ≤ l then (w, l, f) else (nI i, c'.1 0 0 33, c'.1 0 0 34))
        (a := (w, l, f, (0 : Int32), (-1 : Int32), (0 : Int32))) (a' := ((0 : Int32), (0 : Int32), zwI (zwI s 0 0 33 0) 0 0 34 (-1))) ⟨⟨rfl, rfl, rfl⟩, rfl, (hs'.trans (smO_w0 rfl)).trans (smO_w0 rfl), by
            show (w, l, f) = if (zwI (zwI s 0 0 33 0) 0 0 34 (-1)).1 0 0 33 ≤ l then (w, l, f) else _
            have e33 : (zwI (zwI s 0 0 33 0) 0 0 34 (-1)).1 0 0 33 = 0 := by simp [zw_at]
            rw [e33, if_pos hl0]⟩ (by
          rintro m hm ⟨w1, l1, f1, len, bef, _⟩ ⟨_, _, t⟩ ⟨⟨rfl, rfl, rfl⟩, rfl, ht, hwlf⟩
          right
          have ht' : SmO σm t := ht
          have hle : nI m ≤ (500 : Int32) := nI_le (b := 500) (by omega) (by decide)
          -- the new length is the same
          have fin : ∀ x : Int32, ∃ r r', j_X9_longestStander_83_34 (nI i) w1 l1 f1 (nI m) (pl (σm.1 1 0) i m) x = some (Sum.inl r) ∧ j_X12_laysStanding_75_14 (nI m) x t = some (Sum.inl r') ∧ (r.2.2.2.1 = r'.1 ∧ r.2.2.2.2.2 = nI (m + 1) ∧ r'.2.1 = nI (m + 1)) ∧ (r.2.2.2.2.1 = if m + 1 = 0 then -1 else pl (σm.1 1 0) i (m + 1 - 1)) ∧ SmO σm r'.2.2 ∧ (r.1, r.2.1, r.2.2.1) = if r'.2.2.1 0 0 33 ≤ l then (w, l, f) else (nI i, r'.2.2.1 0 0 33, r'.2.2.1 0 0 34) := by
            intro x
            have hwlf' : (w1, l1, f1) = if t.1 0 0 33 ≤ l then (w, l, f) else (nI i, t.1 0 0 33, t.1 0 0 34) := hwlf
            unfold j_X9_longestStander_83_34 j_X12_laysStanding_75_14
            by_cases hx : x ≤ t.1 0 0 33
            · have nx : ¬ l1 < x := by
                by_cases q : t.1 0 0 33 ≤ l
                · rw [if_pos q] at hwlf'
                  cases hwlf'
                  rw [fa_le] at hx q
                  rw [fa_lt]
                  omega
                · rw [if_neg q] at hwlf'
                  cases hwlf'
                  exact i_nlt.mpr hx
              rw [if_pos hx, if_neg nx]
              exact ⟨_, _, rfl, rfl, ⟨rfl, nI_1 m, nI_1 m⟩, rfl, ht', hwlf⟩
            · rw [if_neg hx]
              simp only [zb]
              have v33 : (zwI (zwI t 0 0 33 x) 0 0 34 (nI m - x + 1)).1 0 0 33 = x := by simp [zw_at]
              have v34 : (zwI (zwI t 0 0 33 x) 0 0 34 (nI m - x + 1)).1 0 0 34 = nI m - x + 1 := by simp [zw_at]
              have hsm : SmO σm (zwI (zwI t 0 0 33 x) 0 0 34 (nI m - x + 1)) := (ht'.trans (smO_w0 rfl)).trans (smO_w0 rfl)
              by_cases q : t.1 0 0 33 ≤ l
              · rw [if_pos q] at hwlf'
                cases hwlf'
                by_cases q2 : l < x
                · rw [if_pos q2]
                  refine ⟨_, _, rfl, rfl, ⟨rfl, nI_1 m, nI_1 m⟩, rfl, hsm, ?_⟩
                  show (nI i, x, nI m - x + 1) = if (zwI (zwI t 0 0 33 x) 0 0 34 (nI m - x + 1)).1 0 0 33 ≤ l then _ else (nI i, (zwI (zwI t 0 0 33 x) 0 0 34 (nI m - x + 1)).1 0 0 33, (zwI (zwI t 0 0 33 x) 0 0 34 (nI m - x + 1)).1 0 0 34)
                  rw [v33, v34, if_neg (i_nle.mpr q2)]
                · rw [if_neg q2]
                  refine ⟨_, _, rfl, rfl, ⟨rfl, nI_1 m, nI_1 m⟩, rfl, hsm, ?_⟩
                  show (w, l, f) = if (zwI (zwI t 0 0 33 x) 0 0 34 (nI m - x + 1)).1 0 0 33 ≤ l then (w, l, f) else _
                  rw [v33, if_pos (i_nlt.mp q2)]
              · rw [if_neg q] at hwlf'
                cases hwlf'
                have q2 : t.1 0 0 33 < x := i_nle.mp hx
                have q3 : ¬ x ≤ l := by
                  rw [fa_le] at q ⊢
                  rw [fa_lt] at q2
                  omega
                rw [if_pos q2]
                refine ⟨_, _, rfl, rfl, ⟨rfl, nI_1 m, nI_1 m⟩, rfl, hsm, ?_⟩
                show (nI i, x, nI m - x + 1) = if (zwI (zwI t 0 0 33 x) 0 0 34 (nI m - x + 1)).1 0 0 33 ≤ l then _ else (nI i, (zwI (zwI t 0 0 33 x) 0 0 34 (nI m - x + 1)).1 0 0 33, (zwI (zwI t 0 0 33 x) 0 0 34 (nI m - x + 1)).1 0 0 34)
                rw [v33, v34, if_neg q3]
          unfold b_X9_longestStander_34 b_X12_laysStanding_14 j_X12_laysStanding_36_14 j_X12_laysStanding_74_14
          rw [c_spotIn (rI h) (rB h).2.2.2.1 hi hm, pls t ht' m hm]
          simp only [hle, if_true, Option.bind_some]
          by_cases hp : pl (σm.1 1 0) i m = -1
          · have := fin 0
            simp only [hp, if_true] at this ⊢
            exact this
          · simp only [hp, if_false, show ¬ (1 : Int32) = 0 by decide]
            by_cases hm0 : m = 0
            · subst hm0
              rw [if_neg (show ¬ (0 : Int32) < nI 0 by decide), if_neg (by rw [if_pos rfl]; exact hp)]
              exact fin 1
            · have p0 : (0 : Int32) < nI m := nI_lt (a := 0) (by omega) (by omega)
              rw [if_pos p0, pm1' (by omega), pls t ht' (m - 1) (by omega), Option.bind_some, if_neg hm0]
              by_cases q : pl (σm.1 1 0) i m = pl (σm.1 1 0) i (m - 1)
              · rw [if_pos q, if_pos q]
                exact fin _
              · rw [if_neg q, if_neg q]
                exact fin 1) (by
          rintro ⟨w1, l1, f1, len, bef, _⟩ ⟨_, _, t⟩ ⟨⟨rfl, rfl, rfl⟩, rfl, ht, hwlf⟩
          unfold b_X9_longestStander_34 b_X12_laysStanding_14
          rw [if_neg (show ¬ (nI 501 : Int32) ≤ 500 by decide), if_neg (show ¬ (nI 501 : Int32) ≤ 500 by decide)]
          exact ⟨_, _, rfl, rfl, ht, hwlf⟩)
      have l1 : nI i < nI (aWN (σm.1 1 0)) := nI_lt hi (by omega)
      have w1 : s.1 1 0 36 = σm.1 1 0 36 := by rw [hs'.1 1 rfl]
      unfold b_X9_longestStander_10 b_X12_stander_21 f_X12_laysStanding
      simp only [w0, w1, hN.1, l1, if_true, g1, zb, g2, Option.bind_some]
      by_cases q : c'.1 0 0 33 ≤ l
      · rw [if_pos q] at hcc
        subst hcc
        rw [if_pos q]
        exact ⟨_, _, rfl, rfl, ⟨rfl, rfl, rfl⟩, ⟨nI_1 i, nI_1 i⟩, ht, hl0⟩
      · rw [if_neg q] at hcc
        subst hcc
        rw [if_neg q]
        refine ⟨_, _, rfl, rfl, ⟨rfl, rfl, rfl⟩, ⟨nI_1 i, nI_1 i⟩, ht, ?_⟩
        show 0 ≤ c'.1 0 0 33
        have hl0' : (0 : Int32) ≤ l := hl0
        rw [fa_le] at q hl0' ⊢
        omega) (by
      rintro ⟨w, l, f, _⟩ ⟨_, _, _, _, s⟩ ⟨⟨rfl, rfl, rfl⟩, ⟨rfl, rfl⟩, hs, hl0⟩
      have hs' : SmO σm s := hs
      have l1 : ¬ nI (aWN (σm.1 1 0)) < nI (aWN (σm.1 1 0)) := nI_nlt (Nat.le_refl _) (by omega)
      have w1 : s.1 1 0 36 = σm.1 1 0 36 := by rw [hs'.1 1 rfl]
      unfold b_X9_longestStander_10 b_X12_stander_21
      simp only [w0, w1, hN.1, l1, if_false]
      exact ⟨_, _, rfl, rfl, ⟨rfl, rfl, rfl⟩, hs⟩)
  obtain ⟨b1, b2, b3⟩ := b
  obtain ⟨d1, d2, d3, d4⟩ := b'
  cases hb1
  cases hb2
  cases hb3
  unfold f_X11_stander f_X12_stander f_X9_longestStander
  rw [f1, f2, isIn02]
  simp only [Option.bind_some, zt_0]
  unfold f_X11_oneOf
  by_cases hw : b1 = -1
  · simp only [hw, if_true, Option.bind_some]
    by_cases hx : x = 0 ∨ x = 1 ∨ x = 2
    · simp only [hx, decide_true, Bool.true_eq_false, if_false]
      exact ⟨_, _, rfl, rfl, rel_same (SmC.refl _) (SmO.m hM) h⟩
    · simp only [hx, decide_false, if_true]
      exact ⟨_, _, rfl, rfl, h⟩
  · simp only [hw, if_false, Option.bind_some]
    by_cases h0 : x = 0
    · subst h0; exact ⟨_, _, rfl, rfl, rel_same (SmC.refl _) (SmO.m hM) h⟩
    by_cases h1 : x = 1
    · subst h1; exact ⟨_, _, rfl, rfl, rel_same (SmC.refl _) (SmO.m hM) h⟩
    by_cases h2 : x = 2
    · subst h2; exact ⟨_, _, rfl, rfl, rel_same (SmC.refl _) (SmO.m hM) h⟩
    simp only [h0, h1, h2, if_false, or_self, decide_false, if_true]
    exact ⟨_, _, rfl, rfl, h⟩
end PURE
