/-! the law's loop, from its head; the case of image stands as a hypothesis -/
/-- what one call of image asks of cells and slots at most -/
def zCI : Nat := 100
def zSI : Nat := 12000
/-- the case of image, open: it may make a Bridge, so the class's world may grow -/
def PI (Rel : zG → zG → Prop) : Prop := ∀ {K : zKL} {wM wC : zW} {cs ss n : Nat} {σc σm : zG}, zLF K wM → zLC K wM wC → n + 6 ≤ K.2.2.2.2.2.2.2.2.2.1 → (cs + zCI ≤ 600000 ∧ ss + zSI ≤ 7302250) → Rel σc σm → (∀ wC' sc sm, zLC K wM wC' → Rel sc sm → zLL K wM wC' (cs + zCI) (ss + zSI) 1555 (zal K wM wC' n) [] sc sm) → zLL K wM wC cs ss 1493 (zal K wM wC n) [] σc σm
def PRall (Rel : zG → zG → Prop) : Prop := PR_state Rel ∧ PR_bridge Rel ∧ PR_set Rel ∧ PR_step Rel ∧ PR_feed Rel ∧ PR_end Rel ∧ PR_text Rel ∧ PR_fault Rel ∧ PR_minutes Rel ∧ PR_shoot Rel ∧ PR_of Rel ∧ PR_where Rel ∧ PR_stranger Rel ∧ PR_covered Rel ∧ PR_at Rel ∧ PR_worth Rel ∧ PR_shot Rel ∧ PR_book Rel ∧ PR_waits Rel ∧ PR_row Rel ∧ PR_best Rel ∧ PR_steps Rel ∧ PR_laid Rel ∧ PR_fewest Rel ∧ PR_never Rel ∧ PR_most Rel ∧ PR_middle Rel ∧ PR_sure Rel ∧ PR_exposed Rel ∧ PR_ghosts Rel ∧ PR_nobody Rel ∧ PR_copies Rel ∧ PR_enough Rel ∧ PR_hours Rel ∧ PR_judged Rel ∧ PR_whenShot Rel ∧ PR_stander Rel ∧ PR_with Rel ∧ PR_twos Rel ∧ PR_two Rel ∧ PR_paste Rel ∧ PR_picture Rel ∧ PR_undo Rel ∧ PR_look Rel ∧ PI Rel
theorem l_switch (Rel : zG → zG → Prop) (hp : PRall Rel) {K : zKL} {wM wC : zW} {cs ss n : Nat} {σc σm : zG} (hF : zLF K wM) (hCF : zLC K wM wC) (h6 : n + 6 ≤ K.2.2.2.2.2.2.2.2.2.1) (hcs : cs + zCI ≤ 600000 ∧ ss + zSI ≤ 7302250) (hrel : Rel σc σm) (next : ∀ wC' cs' ss' sc sm, zLC K wM wC' → cs' ≤ cs + zCI → ss' ≤ ss + zSI → Rel sc sm → zLL K wM wC' cs' ss' 1555 (zal K wM wC' n) [] sc sm) (j : Nat) (hj : j < 64) : zLL K wM wC cs ss 33 (zal K wM wC n) [.int (nI j)] σc σm := by
  have hcs0 : cs ≤ 600000 ∧ ss ≤ 7302250 := ⟨by omega, by omega⟩
  have nx : ∀ sc sm, Rel sc sm → zLL K wM wC cs ss 1555 (zal K wM wC n) [] sc sm := fun sc sm h => next wC cs ss sc sm hCF (by omega) (by omega) h
  have go : ∀ (k tgt : Nat) (off : Int), k < 45 → ((nI k).toInt - 0).toNat = k → (#[195, 218, 251, 284, 307, 370, 393, 416, 439, 462, 475, 508, 541, 574, 598, 641, 664, 697, 740, 753, 776, 799, 832, 856, 879, 913, 937, 970, 1004, 1057, 1091, 1114, 1147, 1180, 1223, 1256, 1289, 1312, 1345, 1368, 1391, 1424, 1447, 1460, 1499] : Array Int)[k]? = some off → ((33 : Nat) : Int) + off = (tgt : Int) → zLL K wM wC cs ss tgt (zal K wM wC n) [] σc σm → zLL K wM wC cs ss 33 (zal K wM wC n) [.int (nI k)] σc σm := by
    intro k tgt off hk hk2 ho ht kk
    obtain ⟨l, p, e, s, m, below, meth, c, b, L, xs⟩ := K
    intro H locs ls hC hM hS hl
    obtain ⟨⟨hx, hb, -⟩, -⟩ := id hF
    refine lv_tableIn hx hb (zdg DLh_law 21 (33, .tableswitch 1522 0 44 #[195, 218, 251, 284, 307, 370, 393, 416, 439, 462, 475, 508, 541, 574, 598, 641, 664, 697, 740, 753, 776, 799, 832, 856, 879, 913, 937, 970, 1004, 1057, 1091, 1114, 1147, 1180, 1223, 1256, 1289, 1312, 1345, 1368, 1391, 1424, 1447, 1460, 1499], 195) rfl) ?_ ?_ (by rw [hk2]; exact ho) ht (kk H locs ls hC hM hS hl)
    · rw [nI_toInt (by omega)]; omega
    · rw [nI_toInt (by omega)]; omega
  match j, hj with
  | 0, _ => exact go 0 228 195 (by decide) rfl rfl rfl (law_0 Rel hp.1 hF hCF h6 hcs0 hrel nx)
  | 1, _ => exact go 1 251 218 (by decide) rfl rfl rfl (law_1 Rel hp.2.1 hF hCF h6 hcs0 hrel nx)
  | 2, _ => exact go 2 284 251 (by decide) rfl rfl rfl (law_2 Rel hp.2.2.1 hF hCF h6 hcs0 hrel nx)
  | 3, _ => exact go 3 317 284 (by decide) rfl rfl rfl (law_3 Rel hp.2.2.2.1 hF hCF h6 hcs0 hrel nx)
  | 4, _ => exact go 4 340 307 (by decide) rfl rfl rfl (law_4 Rel hp.2.2.2.2.1 hF hCF h6 hcs0 hrel nx)
  | 5, _ => exact go 5 403 370 (by decide) rfl rfl rfl (law_5 Rel hp.2.2.2.2.2.1 hF hCF h6 hcs0 hrel nx)
  | 6, _ => exact go 6 426 393 (by decide) rfl rfl rfl (law_6 Rel hp.2.2.2.2.2.2.1 hF hCF h6 hcs0 hrel nx)
  | 7, _ => exact go 7 449 416 (by decide) rfl rfl rfl (law_7 Rel hp.2.2.2.2.2.2.2.1 hF hCF h6 hcs0 hrel nx)
  | 8, _ => exact go 8 472 439 (by decide) rfl rfl rfl (law_8 Rel hp.2.2.2.2.2.2.2.2.1 hF hCF h6 hcs0 hrel nx)
  | 9, _ => exact go 9 495 462 (by decide) rfl rfl rfl (law_9 Rel hp.2.2.2.2.2.2.2.2.2.1 hF hCF h6 hcs0 hrel nx)
  | 10, _ => exact go 10 508 475 (by decide) rfl rfl rfl (law_10 Rel hp.2.2.2.2.2.2.2.2.2.2.1 hF hCF h6 hcs0 hrel nx)
  | 11, _ => exact go 11 541 508 (by decide) rfl rfl rfl (law_11 Rel hp.2.2.2.2.2.2.2.2.2.2.2.1 hF hCF h6 hcs0 hrel nx)
  | 12, _ => exact go 12 574 541 (by decide) rfl rfl rfl (law_12 Rel hp.2.2.2.2.2.2.2.2.2.2.2.2.1 hF hCF h6 hcs0 hrel nx)
  | 13, _ => exact go 13 607 574 (by decide) rfl rfl rfl (law_13 Rel hp.2.2.2.2.2.2.2.2.2.2.2.2.2.1 hF hCF h6 hcs0 hrel nx)
  | 14, _ => exact go 14 631 598 (by decide) rfl rfl rfl (law_14 Rel hp.2.2.2.2.2.2.2.2.2.2.2.2.2.2.1 hF hCF h6 hcs0 hrel nx)
  | 15, _ => exact go 15 674 641 (by decide) rfl rfl rfl (law_15 Rel hp.2.2.2.2.2.2.2.2.2.2.2.2.2.2.2.1 hF hCF h6 hcs0 hrel nx)
  | 16, _ => exact go 16 697 664 (by decide) rfl rfl rfl (law_16 Rel hp.2.2.2.2.2.2.2.2.2.2.2.2.2.2.2.2.1 hF hCF h6 hcs0 hrel nx)
  | 17, _ => exact go 17 730 697 (by decide) rfl rfl rfl (law_17 Rel hp.2.2.2.2.2.2.2.2.2.2.2.2.2.2.2.2.2.1 hF hCF h6 hcs0 hrel nx)
  | 18, _ => exact go 18 773 740 (by decide) rfl rfl rfl (law_18 Rel hp.2.2.2.2.2.2.2.2.2.2.2.2.2.2.2.2.2.2.1 hF hCF h6 hcs0 hrel nx)
  | 19, _ => exact go 19 786 753 (by decide) rfl rfl rfl (law_19 Rel hp.2.2.2.2.2.2.2.2.2.2.2.2.2.2.2.2.2.2.2.1 hF hCF h6 hcs0 hrel nx)
  | 20, _ => exact go 20 809 776 (by decide) rfl rfl rfl (law_20 Rel hp.2.2.2.2.2.2.2.2.2.2.2.2.2.2.2.2.2.2.2.2.1 hF hCF h6 hcs0 hrel nx)
  | 21, _ => exact go 21 832 799 (by decide) rfl rfl rfl (law_21 Rel hp.2.2.2.2.2.2.2.2.2.2.2.2.2.2.2.2.2.2.2.2.2.1 hF hCF h6 hcs0 hrel nx)
  | 22, _ => exact go 22 865 832 (by decide) rfl rfl rfl (law_22 Rel hp.2.2.2.2.2.2.2.2.2.2.2.2.2.2.2.2.2.2.2.2.2.2.1 hF hCF h6 hcs0 hrel nx)
  | 23, _ => exact go 23 889 856 (by decide) rfl rfl rfl (law_23 Rel hp.2.2.2.2.2.2.2.2.2.2.2.2.2.2.2.2.2.2.2.2.2.2.2.1 hF hCF h6 hcs0 hrel nx)
  | 24, _ => exact go 24 912 879 (by decide) rfl rfl rfl (law_24 Rel hp.2.2.2.2.2.2.2.2.2.2.2.2.2.2.2.2.2.2.2.2.2.2.2.2.1 hF hCF h6 hcs0 hrel nx)
  | 25, _ => exact go 25 946 913 (by decide) rfl rfl rfl (law_25 Rel hp.2.2.2.2.2.2.2.2.2.2.2.2.2.2.2.2.2.2.2.2.2.2.2.2.2.1 hF hCF h6 hcs0 hrel nx)
  | 26, _ => exact go 26 970 937 (by decide) rfl rfl rfl (law_26 Rel hp.2.2.2.2.2.2.2.2.2.2.2.2.2.2.2.2.2.2.2.2.2.2.2.2.2.2.1 hF hCF h6 hcs0 hrel nx)
  | 27, _ => exact go 27 1003 970 (by decide) rfl rfl rfl (law_27 Rel hp.2.2.2.2.2.2.2.2.2.2.2.2.2.2.2.2.2.2.2.2.2.2.2.2.2.2.2.1 hF hCF h6 hcs0 hrel nx)
  | 28, _ => exact go 28 1037 1004 (by decide) rfl rfl rfl (law_28 Rel hp.2.2.2.2.2.2.2.2.2.2.2.2.2.2.2.2.2.2.2.2.2.2.2.2.2.2.2.2.1 hF hCF h6 hcs0 hrel nx)
  | 29, _ => exact go 29 1090 1057 (by decide) rfl rfl rfl (law_29 Rel hp.2.2.2.2.2.2.2.2.2.2.2.2.2.2.2.2.2.2.2.2.2.2.2.2.2.2.2.2.2.1 hF hCF h6 hcs0 hrel nx)
  | 30, _ => exact go 30 1124 1091 (by decide) rfl rfl rfl (law_30 Rel hp.2.2.2.2.2.2.2.2.2.2.2.2.2.2.2.2.2.2.2.2.2.2.2.2.2.2.2.2.2.2.1 hF hCF h6 hcs0 hrel nx)
  | 31, _ => exact go 31 1147 1114 (by decide) rfl rfl rfl (law_31 Rel hp.2.2.2.2.2.2.2.2.2.2.2.2.2.2.2.2.2.2.2.2.2.2.2.2.2.2.2.2.2.2.2.1 hF hCF h6 hcs0 hrel nx)
  | 32, _ => exact go 32 1180 1147 (by decide) rfl rfl rfl (law_32 Rel hp.2.2.2.2.2.2.2.2.2.2.2.2.2.2.2.2.2.2.2.2.2.2.2.2.2.2.2.2.2.2.2.2.1 hF hCF h6 hcs0 hrel nx)
  | 33, _ => exact go 33 1213 1180 (by decide) rfl rfl rfl (law_33 Rel hp.2.2.2.2.2.2.2.2.2.2.2.2.2.2.2.2.2.2.2.2.2.2.2.2.2.2.2.2.2.2.2.2.2.1 hF hCF h6 hcs0 hrel nx)
  | 34, _ => exact go 34 1256 1223 (by decide) rfl rfl rfl (law_34 Rel hp.2.2.2.2.2.2.2.2.2.2.2.2.2.2.2.2.2.2.2.2.2.2.2.2.2.2.2.2.2.2.2.2.2.2.1 hF hCF h6 hcs0 hrel nx)
  | 35, _ => exact go 35 1289 1256 (by decide) rfl rfl rfl (law_35 Rel hp.2.2.2.2.2.2.2.2.2.2.2.2.2.2.2.2.2.2.2.2.2.2.2.2.2.2.2.2.2.2.2.2.2.2.2.1 hF hCF h6 hcs0 hrel nx)
  | 36, _ => exact go 36 1322 1289 (by decide) rfl rfl rfl (law_36 Rel hp.2.2.2.2.2.2.2.2.2.2.2.2.2.2.2.2.2.2.2.2.2.2.2.2.2.2.2.2.2.2.2.2.2.2.2.2.1 hF hCF h6 hcs0 hrel nx)
  | 37, _ => exact go 37 1345 1312 (by decide) rfl rfl rfl (law_37 Rel hp.2.2.2.2.2.2.2.2.2.2.2.2.2.2.2.2.2.2.2.2.2.2.2.2.2.2.2.2.2.2.2.2.2.2.2.2.2.1 hF hCF h6 hcs0 hrel nx)
  | 38, _ => exact go 38 1378 1345 (by decide) rfl rfl rfl (law_38 Rel hp.2.2.2.2.2.2.2.2.2.2.2.2.2.2.2.2.2.2.2.2.2.2.2.2.2.2.2.2.2.2.2.2.2.2.2.2.2.2.1 hF hCF h6 hcs0 hrel nx)
  | 39, _ => exact go 39 1401 1368 (by decide) rfl rfl rfl (law_39 Rel hp.2.2.2.2.2.2.2.2.2.2.2.2.2.2.2.2.2.2.2.2.2.2.2.2.2.2.2.2.2.2.2.2.2.2.2.2.2.2.2.1 hF hCF h6 hcs0 hrel nx)
  | 40, _ => exact go 40 1424 1391 (by decide) rfl rfl rfl (law_40 Rel hp.2.2.2.2.2.2.2.2.2.2.2.2.2.2.2.2.2.2.2.2.2.2.2.2.2.2.2.2.2.2.2.2.2.2.2.2.2.2.2.2.1 hF hCF h6 hcs0 hrel nx)
  | 41, _ => exact go 41 1457 1424 (by decide) rfl rfl rfl (law_41 Rel hp.2.2.2.2.2.2.2.2.2.2.2.2.2.2.2.2.2.2.2.2.2.2.2.2.2.2.2.2.2.2.2.2.2.2.2.2.2.2.2.2.2.1 hF hCF h6 hcs0 hrel nx)
  | 42, _ => exact go 42 1480 1447 (by decide) rfl rfl rfl (law_42 Rel hp.2.2.2.2.2.2.2.2.2.2.2.2.2.2.2.2.2.2.2.2.2.2.2.2.2.2.2.2.2.2.2.2.2.2.2.2.2.2.2.2.2.2.1 hF hCF h6 hcs0 hrel nx)
  | 43, _ => exact go 43 1493 1460 (by decide) rfl rfl rfl (hp.2.2.2.2.2.2.2.2.2.2.2.2.2.2.2.2.2.2.2.2.2.2.2.2.2.2.2.2.2.2.2.2.2.2.2.2.2.2.2.2.2.2.2.2 hF hCF h6 hcs hrel (fun wC' sc sm h1 h2 => next wC' _ _ sc sm h1 (Nat.le_refl _) (Nat.le_refl _) h2))
  | 44, _ => exact go 44 1532 1499 (by decide) rfl rfl rfl (law_44 Rel hp.2.2.2.2.2.2.2.2.2.2.2.2.2.2.2.2.2.2.2.2.2.2.2.2.2.2.2.2.2.2.2.2.2.2.2.2.2.2.2.2.2.2.2.1 hF hCF h6 hcs0 hrel nx)
  | j + 45, hj =>
    obtain ⟨l, p, e, s, m, below, meth, c, b, L, xs⟩ := K
    intro H locs ls hC hM hS hl
    obtain ⟨⟨hx, hb, -⟩, -⟩ := id hF
    exact lv_tableOut hx hb (zdg DLh_law 21 (33, .tableswitch 1522 0 44 #[195, 218, 251, 284, 307, 370, 393, 416, 439, 462, 475, 508, 541, 574, 598, 641, 664, 697, 740, 753, 776, 799, 832, 856, 879, 913, 937, 970, 1004, 1057, 1091, 1114, 1147, 1180, 1223, 1256, 1289, 1312, 1345, 1368, 1391, 1424, 1447, 1460, 1499], 195) rfl) (Or.inr (by rw [nI_toInt (by omega)]; omega)) rfl (nx σc σm hrel H locs ls hC hM hS hl)
/-- THE LOOP -/
theorem law_loop (Rel : zG → zG → Prop) (hp : PRall Rel) {K : zKL} {wM : zW} (hF : zLF K wM) : ∀ (d n : Nat) (wC : zW) (cs ss : Nat) (σc σm : zG), (K.2.2.2.2.2.2.2.2.2.1 - n) / 6 < d → n ≤ 3078 → cs + ((K.2.2.2.2.2.2.2.2.2.1 - n) / 6) * zCI ≤ 600000 → ss + ((K.2.2.2.2.2.2.2.2.2.1 - n) / 6) * zSI ≤ 7302250 → zLC K wM wC → Rel σc σm → zLL K wM wC cs ss 18 (zal K wM wC n) [] σc σm := by
  intro d
  induction d with
  | zero => intro n wC cs ss σc σm h; omega
  | succ d ih =>
    intro n wC cs ss σc σm hd hn hcs hss hCF hrel
    have K0 := K
    by_cases h6 : n + 6 ≤ K.2.2.2.2.2.2.2.2.2.1
    · -- another call
      have e1 : (K.2.2.2.2.2.2.2.2.2.1 - n) / 6 = (K.2.2.2.2.2.2.2.2.2.1 - (n + 6)) / 6 + 1 := by omega
      have hb1 : cs + zCI ≤ 600000 := by
        rw [e1, Nat.add_mul, Nat.one_mul] at hcs
        have := Nat.zero_le (((K.2.2.2.2.2.2.2.2.2.1 - (n + 6)) / 6) * zCI)
        omega
      have hb2 : ss + zSI ≤ 7302250 := by
        rw [e1, Nat.add_mul, Nat.one_mul] at hss
        have := Nat.zero_le (((K.2.2.2.2.2.2.2.2.2.1 - (n + 6)) / 6) * zSI)
        omega
      have next : ∀ wC' cs' ss' sc sm, zLC K wM wC' → cs' ≤ cs + zCI → ss' ≤ ss + zSI → Rel sc sm → zLL K wM wC' cs' ss' 1555 (zal K wM wC' n) [] sc sm := by
        intro wC' cs' ss' sc sm h1 h2 h3 h4
        have hih := ih (n + 6) wC' cs' ss' sc sm (by omega) (by obtain ⟨l, p, e, s, m, below, meth, c, b, L, xs⟩ := K; have := hF.2.1; change n + 6 ≤ L at h6; omega) (by rw [e1, Nat.add_mul, Nat.one_mul] at hcs; omega) (by rw [e1, Nat.add_mul, Nat.one_mul] at hss; omega) h1 h4
        obtain ⟨l, p, e, s, m, below, meth, c, b, L, xs⟩ := K
        intro H locs ls hC hM hS hl
        obtain ⟨⟨hx, hb, -⟩, -⟩ := id hF
        refine lv_iinc (v := nI (n + 6)) (lv' := [(3, .int (nI (n + 6))), (0, .ref b), (1, .ref (wC'.1 0 0)), (2, .ref (wM.1 0 0))]) hx hb (zdg DLh_law 22 (1555, .iinc 3 6, 3) rfl) hl (k := 3) rfl (by rw [← nI_add]; rfl) (by decide) rfl (fun ls hl => ?_)
        refine lv_goto (tgt := 18) hx hb (zdg DLh_law 23 (1558, .goto (-1540), 3) rfl) rfl ?_
        exact hih H locs ls hC hM hS (lv_sub hl [1, 2, 3, 0] rfl)
      have sw := l_switch Rel hp hF hCF h6 ⟨hb1, hb2⟩ hrel next
      obtain ⟨l, p, e, s, m, below, meth, c, b, L, xs⟩ := K
      intro H locs ls hC hM hS hl
      obtain ⟨⟨hx, hb, hr, hml, hown, hts, hX, hbl, hlocks, hgv⟩, hL, -⟩ := id hF
      change n + 6 ≤ L at h6
      refine lv_iload_n hx hb (zdg DLh_law 10 (18, .iload_n 3, 1) rfl) rfl (lv_at hl 3 rfl) ?_
      refine lv_aload_n hx hb (zdg DLh_law 11 (19, .aload_n 0, 1) rfl) rfl (lv_at hl 0 rfl) ?_
      refine va_slen hx hb hX hbl (Nat.not_le.mpr hbl) hS (zdg DLh_law 12 (20, .arraylength, 1) rfl) ?_
      refine lv_bipush (v := 6) hx hb (zdg DLh_law 13 (21, .bipush 6, 2) rfl) rfl ?_
      refine lv_isub hx hb (zdg DLh_law 14 (23, .isub, 1) rfl) ?_
      have e2 : (Int32.ofNat L - 6 : Int32) = nI (L - 6) := pk_sub (a := L) (b := 6) (by omega)
      rw [e2]
      refine lv_icmp_gt (tgt := 1561) hx hb (zdg DLh_law 15 (24, .if_icmp .gt 1537, 3) rfl) rfl (fun hgt => absurd hgt (nI_nlt (by omega) (by omega))) (fun _ => ?_)
      refine lv_aload_n hx hb (zdg DLh_law 16 (27, .aload_n 0, 1) rfl) rfl (lv_at hl 0 rfl) ?_
      refine lv_iload_n hx hb (zdg DLh_law 17 (28, .iload_n 3, 1) rfl) rfl (lv_at hl 3 rfl) ?_
      refine va_sld hx hb hX hbl (Nat.not_le.mpr hbl) hS (vp_in_nI (by omega) (by omega)) (zdg DLh_law 18 (29, .iaload, 1) rfl) ?_
      refine lv_bipush (v := 63) hx hb (zdg DLh_law 19 (30, .bipush 63, 2) rfl) rfl ?_
      refine lv_iand hx hb (zdg DLh_law 20 (32, .iand, 1) rfl) ?_
      obtain ⟨j, hj, ej⟩ := pk_andE (xs (nI n).toNatClampNeg) (m := 63) 6 (by decide)
      rw [ej]
      exact sw j hj H locs ls hC hM hS hl
    · -- the end
      obtain ⟨l, p, e, s, m, below, meth, c, b, L, xs⟩ := K
      intro H locs ls hC hM hS hl
      obtain ⟨⟨hx, hb, hr, hml, hown, hts, hX, hbl, hlocks, hgv⟩, hL, -⟩ := id hF
      change ¬ n + 6 ≤ L at h6
      change L ≤ 3072 at hL
      refine lv_iload_n hx hb (zdg DLh_law 10 (18, .iload_n 3, 1) rfl) rfl (lv_at hl 3 rfl) ?_
      refine lv_aload_n hx hb (zdg DLh_law 11 (19, .aload_n 0, 1) rfl) rfl (lv_at hl 0 rfl) ?_
      refine va_slen hx hb hX hbl (Nat.not_le.mpr hbl) hS (zdg DLh_law 12 (20, .arraylength, 1) rfl) ?_
      refine lv_bipush (v := 6) hx hb (zdg DLh_law 13 (21, .bipush 6, 2) rfl) rfl ?_
      refine lv_isub hx hb (zdg DLh_law 14 (23, .isub, 1) rfl) ?_
      have hgt : (Int32.ofNat L - 6 : Int32) < nI n := by
        rw [Int32.lt_iff_toInt_lt, nI_toInt (by omega), show (Int32.ofNat L - 6 : Int32).toInt = (L : Int) - 6 from pk_sub_toInt (a := L) (b := 6) (by omega) (by omega)]
        omega
      refine lv_icmp_gt (tgt := 1561) hx hb (zdg DLh_law 15 (24, .if_icmp .gt 1537, 3) rfl) rfl (fun _ => ?_) (fun hg => absurd hgt hg)
      refine lv_iconst (v := 1) hx hb (zdg DLh_law 24 (1561, .iconst 1, 1) rfl) rfl ?_
      refine va_forget hS.2.2 ?_
      refine W.widen (k := 600000) (n := 7302250) (by omega) (by omega) ?_
      exact lw_ret hx hb hr hlocks (zdg DLh_law 25 (1562, .ireturn, 1) rfl)
