/-! PURE LAYER: the model walks while it reads -/
def arR (w f i k : Nat) : Bool := (f == 7 && decide (501 * w ≤ k)) || (f == 0 && (i == 0 && (k == 27 || k == 28)))
/-- walker w has gone the ways K -/
def MR (W H w c0 cm : Nat) (K : List Nat) (σ : zG) : Prop := σ.1 0 0 15 = nI w ∧ (∀ m, m < 501 → σ.1 7 0 (501 * w + m) = plK W H c0 cm K m) ∧ σ.1 0 0 27 = enc (wpos W H c0 K) ∧ (wpos W H c0 K ≠ none → σ.1 0 0 28 = nI (cm + 1 + K.length))
theorem wpos_off {W H c0 : Nat} {K : List Nat} (h : wpos W H c0 K = none) (w : Nat) : wpos W H c0 (K ++ [w]) = none := by rw [wpos_app, h]; rfl
theorem MR_off {W H w c0 cm : Nat} {K : List Nat} {σ : zG} (h : MR W H w c0 cm K σ) (hn : wpos W H c0 K = none) (x : Nat) : ∀ l, MR W H w c0 cm (K ++ List.replicate l x) σ ∧ wpos W H c0 (K ++ List.replicate l x) = none
  | 0 => by
    rw [List.replicate_zero, List.append_nil]
    exact ⟨h, hn⟩
  | l + 1 => by
    obtain ⟨⟨i1, i2, i3, i4⟩, i5⟩ := MR_off h hn x l
    rw [List.replicate_succ', ← List.append_assoc]
    have o := wpos_off i5 x
    refine ⟨⟨i1, fun m hm => ?_, ?_, fun z => absurd o z⟩, o⟩
    · rw [plK_off i5]; exact i2 m hm
    · rw [o, i3, i5]
section PURE
variable {σ σ' : zG} {W H w c0 cm : Nat} {K : List Nat}
theorem enc_m1 {a : Option Nat} (h : ∀ c, a = some c → c < 2 ^ 31) : (enc a = -1) = (a = none) := by
  cases a with
  | none => exact propext ⟨fun _ => rfl, fun _ => rfl⟩
  | some c =>
    have : (nI c = -1) = False := nI_nm1 (h c rfl)
    show (nI c = -1) = _
    rw [this]
    exact propext ⟨fun z => z.elim, fun z => by cases z⟩
theorem m_isThere1 (hw : w < 12) (hcm : cm ≤ 500) (hK : K.length ≤ 600) (h : MR W H w c0 cm K σ) (hs : wpos W H c0 K ≠ none) (x : Nat) : ∃ s, f_X12_isThere (enc (wpos W H c0 (K ++ [x]))) σ = some s ∧ MR W H w c0 cm (K ++ [x]) s ∧ FrA (arR w) σ s := by
  have m7 : ∀ j, arR w 7 0 (501 * w + j) = true := fun j => by unfold arR; simp
  obtain ⟨h1, h2, h3, h4⟩ := h
  have h28 := h4 hs
  unfold f_X12_isThere j_X12_isThere_29
  rw [h28, h1]
  have e5 : (501 : Int32) * nI w = nI (501 * w) := pk_mul 501 w
  simp only [zb]
  by_cases a : cm + 1 + K.length ≤ 500
  · rw [if_pos (show nI (cm + 1 + K.length) ≤ 500 from nI_le (b := 500) a (by decide)), e5, nI_add, zin_ok (show 501 * w + (cm + 1 + K.length) < 6012 by omega) (by decide), zgT, nI_clamp (show 501 * w + (cm + 1 + K.length) < 2 ^ 31 by omega)]
    have g1 : (zwI (zwI σ 7 0 (501 * w + (cm + 1 + K.length)) (enc (wpos W H c0 (K ++ [x])))) 0 0 27 (enc (wpos W H c0 (K ++ [x])))).1 0 0 28 = nI (cm + 1 + K.length) := by rw [zw_at, if_neg (by decide), zw_at, if_neg (fun z => absurd z.1 (by decide))]; exact h28
    rw [g1, nI_1]
    refine ⟨_, rfl, ⟨?_, fun m hm => ?_, ?_, fun _ => ?_⟩, ((fra_w (m7 _)).w rfl).w rfl⟩
    · rw [zw_at, if_neg (by decide), zw_at, if_neg (by decide), zw_at, if_neg (fun z => absurd z.1 (by decide))]; exact h1
    · rw [zw_at, if_neg (fun z => absurd z.1 (by decide)), zw_at, if_neg (fun z => absurd z.1 (by decide)), zw_at, plK_app]
      by_cases q : m = cm + K.length + 1
      · rw [if_pos ⟨rfl, rfl, by omega⟩, if_pos q]
      · rw [if_neg (fun z => by omega), if_neg q]; exact h2 m hm
    · rw [zw_at, if_neg (by decide), zw_at, if_pos ⟨rfl, rfl, rfl⟩]
    · rw [zw_at, if_pos ⟨rfl, rfl, rfl⟩, List.length_append]; rfl
  · rw [if_neg (show ¬ nI (cm + 1 + K.length) ≤ 500 from nI_ge (a := 500) (by omega) (by omega))]
    have g1 : (zwI σ 0 0 27 (enc (wpos W H c0 (K ++ [x])))).1 0 0 28 = nI (cm + 1 + K.length) := by rw [zw_at, if_neg (by decide)]; exact h28
    rw [g1, nI_1]
    refine ⟨_, rfl, ⟨?_, fun m hm => ?_, ?_, fun _ => ?_⟩, (fra_w rfl).w rfl⟩
    · rw [zw_at, if_neg (by decide), zw_at, if_neg (by decide)]; exact h1
    · rw [zw_at, if_neg (fun z => absurd z.1 (by decide)), zw_at, if_neg (fun z => absurd z.1 (by decide)), plK_app, if_neg (by omega)]
      exact h2 m hm
    · rw [zw_at, if_neg (by decide), zw_at, if_pos ⟨rfl, rfl, rfl⟩]
    · rw [zw_at, if_pos ⟨rfl, rfl, rfl⟩, List.length_append]; rfl
end PURE
