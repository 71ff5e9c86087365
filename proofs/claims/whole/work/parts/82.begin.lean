/-! PURE LAYER: the readers begin; a law is read -/
def arS (f i k : Nat) : Bool := arT f i k || (f == 4 && i == 0)
section PURE
variable {σ σ' σc σm sc sm : zG} {B : Nat → Nat} {n T k r kk p : Nat} {L M : List (Nat × Nat)} {X : List (Nat × Nat × Nat)}
theorem fTS (h : FrA arT σ σ') : FrA arS σ σ' := h.mono fun f i k a => by unfold arS at a; simp only [Bool.or_eq_false_iff] at a; exact a.1
theorem c_begin (h : CT σ B n) : ∃ T s, EvT B n T ∧ f_X4_start σ = some s ∧ CS B n T 0 s ∧ s.1 4 0 3 = 0 ∧ s.1 4 0 4 = -1 ∧ FrA arS σ s := by
  have hn := h.1
  have hf0 : FrA arS σ (zwI (zwI σ 4 0 3 0) 4 0 4 (-1)) := (fra_w rfl).w rfl
  have h1 : CT (zwI (zwI σ 4 0 3 0) 4 0 4 (-1)) B n := ⟨hn, by rw [hf0.1 3 0 1 rfl]; exact h.2.1, fun k hk => ⟨(h.2.2 k hk).1, by rw [hf0.1 38 0 k rfl]; exact (h.2.2 k hk).2⟩⟩
  obtain ⟨T, s1, e1, hT, hTn, hTl, ⟨k5, kA⟩, hf1⟩ := c_tokenize h1
  have h2 : CT s1 B n := ct_fr h1 hf1
  have k0 := kA 0 (Nat.zero_le T)
  have hf2 : FrA arS s1 (zwI (zwI (zwI s1 4 0 7 (nI 0)) 4 0 8 (nI (knd B n 0))) 4 0 9 (nI (nbr B n 0))) := ((fra_w rfl).w rfl).w rfl
  refine ⟨T, zwI (zwI (zwI s1 4 0 7 (nI 0)) 4 0 8 (nI (knd B n 0))) 4 0 9 (nI (nbr B n 0)), ⟨hT, hn, hTn, hTl, fun k hk => (h.2.2 k hk).1⟩, ?_, ⟨⟨hn, by rw [zw_at, if_neg (by decide), zw_at, if_neg (by decide), zw_at, if_neg (by decide)]; exact h2.2.1, fun k hk => ⟨(h.2.2 k hk).1, by rw [hf2.1 38 0 k rfl]; exact (h2.2.2 k hk).2⟩⟩, ⟨by rw [zw_at, if_neg (by decide), zw_at, if_neg (by decide), zw_at, if_neg (by decide)]; exact k5, fun k hk => ?_⟩, Nat.zero_le T, ?_, ?_, ?_⟩, ?_, ?_, (hf0.trans (fTS hf1)).trans hf2⟩
  · unfold f_X4_start
    simp only [zb]
    rw [e1, Option.bind_some]
    unfold f_X4_advance
    have g1 : (zwI s1 4 0 7 (-1)).1 4 0 7 = -1 := by rw [zw_at, if_pos ⟨rfl, rfl, rfl⟩]
    have g5 : (zwI s1 4 0 7 (-1)).1 3 0 5 = nI (T + 1) := by rw [zw_at, if_neg (by decide)]; exact k5
    have e2 : nI (T + 1) - 1 = nI T := nI_pred T
    have l1 : (-1 : Int32) < nI T := by
      rw [Int32.lt_iff_toInt_lt, nI_toInt (by omega)]
      have : (-1 : Int32).toInt = -1 := rfl
      omega
    rw [g1, g5, e2, if_pos l1, if_pos (show (-1 : Int32) < 400 by decide)]
    simp only [zb, zw_zw]
    have e0 : (-1 : Int32) + 1 = nI 0 := by decide
    rw [e0]
    have g2 : (zwI s1 4 0 7 (nI 0)).1 4 0 7 = nI 0 := by rw [zw_at, if_pos ⟨rfl, rfl, rfl⟩]
    have g3 : (zwI s1 4 0 7 (nI 0)).1 39 0 0 = nI (knd B n 0) := by rw [zw_at, if_neg (by decide)]; exact k0.1
    rw [g2, zin_ok (show 0 < 401 by decide) (by decide), zgT, nI_clamp (show 0 < 2 ^ 31 by decide), g3]
    have g4 : (zwI (zwI s1 4 0 7 (nI 0)) 4 0 8 (nI (knd B n 0))).1 4 0 7 = nI 0 := by rw [zw_at, if_neg (by decide)]; exact g2
    have g6 : (zwI (zwI s1 4 0 7 (nI 0)) 4 0 8 (nI (knd B n 0))).1 40 0 0 = nI (nbr B n 0) := by rw [zw_at, if_neg (by decide), zw_at, if_neg (by decide)]; exact k0.2.1
    rw [g4, zin_ok (show 0 < 401 by decide) (by decide), zgT, nI_clamp (show 0 < 2 ^ 31 by decide), g6]
    rfl
  · have hf3 : FrA arA s1 (zwI (zwI (zwI s1 4 0 7 (nI 0)) 4 0 8 (nI (knd B n 0))) 4 0 9 (nI (nbr B n 0))) := ((fra_w rfl).w rfl).w rfl
    rw [hf3.1 39 0 k rfl, hf3.1 40 0 k rfl, hf3.1 41 0 k rfl]
    exact kA k hk
  · rw [zw_at, if_neg (by decide), zw_at, if_neg (by decide), zw_at, if_pos ⟨rfl, rfl, rfl⟩]
  · rw [zw_at, if_neg (by decide), zw_at, if_pos ⟨rfl, rfl, rfl⟩]
  · rw [zw_at, if_pos ⟨rfl, rfl, rfl⟩]
  · rw [zw_at, if_neg (by decide), zw_at, if_neg (by decide), zw_at, if_neg (by decide), hf1.1 4 0 3 rfl, zw_at, if_neg (by decide), zw_at, if_pos ⟨rfl, rfl, rfl⟩]
  · rw [zw_at, if_neg (by decide), zw_at, if_neg (by decide), zw_at, if_neg (by decide), hf1.1 4 0 4 rfl, zw_at, if_pos ⟨rfl, rfl, rfl⟩]
/-- a law is read by both -/
theorem ls_law (hE : EvT B n T) (hkk : kk < 2) (hc : CS B n T 0 σc) (hm : MS B n (kk + 1) 0 σm) (h3 : σc.1 4 0 3 = 0) (h4 : σc.1 4 0 4 = -1) : RdL (f_X4_readLaw (nI (108 + kk)) (nI (114 + 3 * kk)) (nI (117 + 4 * kk)) σc) (f_X12_readsLaw σm) σc σm (LwG B n T kk) := by
  unfold f_X4_readLaw f_X12_readsLaw f_X3_clear
  simp only [zb]
  have hf : FrA (fun f i k => (f == 4 && (i == 0 && (k == 5 || k == 6))) || (f == 10 && i == 2)) σc (zwI (zwI (zwI (zwI σc 4 0 5 (nI (114 + 3 * kk))) 4 0 6 (nI (117 + 4 * kk))) 10 2 0 0) 10 2 1 0) := (((fra_w rfl).w rfl).w rfl).w rfl
  have hf2 : FrA tsC σc (zwI (zwI (zwI (zwI σc 4 0 5 (nI (114 + 3 * kk))) 4 0 6 (nI (117 + 4 * kk))) 10 2 0 0) 10 2 1 0) := hf.mono fun f i k a => by unfold tsC at a; simp at a ⊢; omega
  have hfL : FrA arCL σc (zwI (zwI (zwI (zwI σc 4 0 5 (nI (114 + 3 * kk))) 4 0 6 (nI (117 + 4 * kk))) 10 2 0 0) 10 2 1 0) := (((fra_w rfl).w rfl).w rfl).w rfl
  have hg : FrA (fun f i k => f == 0 && (i == 0 && (k == 13 || k == 14))) σm (zwI (zwI σm 0 0 13 0) 0 0 14 0) := (fra_w rfl).w rfl
  have hg2 : FrA tsM σm (zwI (zwI σm 0 0 13 0) 0 0 14 0) := hg.mono fun f i k a => by unfold tsM at a; simp at a ⊢; omega
  have hgL : FrA arML σm (zwI (zwI σm 0 0 13 0) 0 0 14 0) := (fra_w rfl).w rfl
  have b5 : (zwI (zwI (zwI (zwI σc 4 0 5 (nI (114 + 3 * kk))) 4 0 6 (nI (117 + 4 * kk))) 10 2 0 0) 10 2 1 0).1 4 0 5 = nI (114 + 3 * kk) := by simp [zw_at]
  have b6 : (zwI (zwI (zwI (zwI σc 4 0 5 (nI (114 + 3 * kk))) 4 0 6 (nI (117 + 4 * kk))) 10 2 0 0) 10 2 1 0).1 4 0 6 = nI (117 + 4 * kk) := by simp [zw_at]
  have b1 : (zwI (zwI (zwI (zwI σc 4 0 5 (nI (114 + 3 * kk))) 4 0 6 (nI (117 + 4 * kk))) 10 2 0 0) 10 2 1 0).1 10 2 1 = nI 0 := by rw [zw_at, if_pos ⟨rfl, rfl, rfl⟩]; rfl
  have b0 : (zwI (zwI (zwI (zwI σc 4 0 5 (nI (114 + 3 * kk))) 4 0 6 (nI (117 + 4 * kk))) 10 2 0 0) 10 2 1 0).1 10 2 0 = nI 0 := by rw [zw_at, if_neg (by decide), zw_at, if_pos ⟨rfl, rfl, rfl⟩]; rfl
  have d4 : (zwI (zwI σm 0 0 13 0) 0 0 14 0).1 0 0 14 = nI 0 := by rw [zw_at, if_pos ⟨rfl, rfl, rfl⟩]; rfl
  have d3 : (zwI (zwI σm 0 0 13 0) 0 0 14 0).1 0 0 13 = nI 0 := by rw [zw_at, if_neg (by decide), zw_at, if_pos ⟨rfl, rfl, rfl⟩]; rfl
  have b3 := hf.1 4 0 3 rfl
  have b4 := hf.1 4 0 4 rfl
  generalize zwI (zwI (zwI (zwI σc 4 0 5 (nI (114 + 3 * kk))) 4 0 6 (nI (117 + 4 * kk))) 10 2 0 0) 10 2 1 0 = s at *
  generalize zwI (zwI σm 0 0 13 0) 0 0 14 0 = t at *
  have hq : LQ B n T kk 0 [] s t := ⟨hc.fr hf2, hm.fr hg2, ⟨b1, fun j hj => absurd hj (Nat.not_lt_zero j)⟩, ⟨d4, fun j hj => absurd hj (Nat.not_lt_zero j)⟩, fun x hx => absurd hx List.not_mem_nil, b5, b6, by rw [b3]; exact h3, by rw [b4]; exact h4⟩
  exact (ls_lawL hE hkk T 0 0 [] [] s t (Nat.sub_le _ _) (Nat.le_refl 0) hq (Nat.le_refl 0) ⟨b0, fun j hj => absurd hj (Nat.not_lt_zero j)⟩ (by decide) d3 (fun j hj => absurd hj (Nat.not_lt_zero j)) (fun x hx => absurd hx List.not_mem_nil)).tr hfL hgL
end PURE
