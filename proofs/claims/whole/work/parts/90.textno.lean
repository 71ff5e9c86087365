/-! PURE LAYER: text, of nothing -/
section PURE
variable {σc σm : zG}
theorem text_no [Inhabited BFT] {x : Int32} (h0 : x ≠ 0) (h1 : x ≠ 1) (h2 : x ≠ 2) (h : Rel σc σm) : ∃ r sc sm, f_X11_text x σc = some (r, sc) ∧ f_X12_text x σm = some (r, sm) ∧ Rel sc sm := by
  obtain ⟨B, n, hct, hn, h16, hb⟩ := rel_ct h
  obtain ⟨T, s1, hE, e1, hc, h3, h4, f1⟩ := c_begin hct
  have hin : f_X12_isIn x 0 2 = 0 := by
    unfold f_X12_isIn
    by_cases a : (0 : Int32) ≤ x
    · rw [if_pos a]
      by_cases b : x ≤ 2
      · exfalso
        obtain ⟨j, hj, e⟩ := nI_of2 (M := 2) (n := 2) rfl (Int32.not_lt.mpr a) b
        have : j = 0 ∨ j = 1 ∨ j = 2 := by omega
        rcases this with rfl | rfl | rfl
        · exact h0 e
        · exact h1 e
        · exact h2 e
      · rw [if_neg b]
    · rw [if_neg a]
  refine ⟨-1, zwI s1 3 0 1 0, zwI (zwI (zwI σm 0 0 23 0) 0 0 25 (-1)) 0 0 16 0, ?_, ?_, read_rel h ((fSP f1).w rfl) (((fra_w rfl).w rfl).w rfl) ?_ ?_ ⟨?_, ?_⟩⟩
  · unfold f_X11_text
    rw [e1, Option.bind_some, if_neg h0, if_neg h1, if_neg h2]
    rfl
  · unfold f_X12_text
    simp only [zb]
    rw [hin, if_pos rfl]
  · rw [zw_at, if_pos ⟨rfl, rfl, rfl⟩]
  · rw [zw_at, if_pos ⟨rfl, rfl, rfl⟩]
  · rw [zw_at, if_neg (by decide), h3]; simp [zw_at]
  · rw [zw_at, if_neg (by decide), h4]; simp [zw_at]
end PURE
