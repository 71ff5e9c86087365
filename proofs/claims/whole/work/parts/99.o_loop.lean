/-! THE LAW's loop, with image -/
def RW (wC : zW) (σc σm : zG) : Prop := (zLA wC ∧ @Rel iF σc σm) ∨ (zLB wC ∧ @Rel iT σc σm)
theorem zsm_ext {σ σ' : zG} {g j : Nat} (h : zSame zlyCK zlyC σ g j) (he : ∀ k, zlyC.2.1 g k = 2 → σ'.1 g j k = σ.1 g j k) : zSame zlyCK zlyC σ' g j := by
  rcases h with h | ⟨h0, h⟩
  · exact Or.inl h
  · refine Or.inr ⟨h0, fun k hk => ?_⟩
    rcases h k hk with e | ⟨e1, e2, e3⟩
    · exact Or.inl e
    · exact Or.inr ⟨e1, e2, by rw [he k e1]; exact e3⟩
theorem cX_B : ∀ x, x ∈ cX → x ∈ cB_1 := fun _ h => h
theorem nB1_keep (σ : zG) (g j : Nat) (h : (g, j) ∉ cX) (k : Nat) : (k_X1_1 σ).1 g j k = σ.1 g j k ∧ (k_X1_1 σ).2 g j k = σ.2 g j k := k_X1_1_keep σ g j (fun e => h (by rw [e]; exact List.mem_cons_self)) (fun e => h (List.mem_cons_of_mem _ e)) k
theorem cX_nodup : cX.Nodup := by decide
theorem rel_0 [Inhabited BFT] {σc σm : zG} (h : Rel σc σm) : Rel0 σc σm := ⟨h.1, h.2.1, h.2.2.1, h.2.2.2.1, h.2.2.2.2.1⟩
theorem cb_up (σ : zG) (b N : Nat) : CB (zup σ) σ b b N := by
  have t1 : ∀ k, k < 10 → zlyC.2.1 1 k ≠ 2 := by decide
  have z : ¬ (0 : Nat) = 2 := by decide
  exact ⟨fun k hk => zup_at (t1 k hk), ⟨zup_at (by decide), fun j hj => ⟨zup_at z, zup_at z, zup_at z⟩⟩, ⟨zup_at (by decide), fun j hj => ⟨zup_at z, zup_at z, zup_at z⟩⟩, ⟨fun j hj => zup_at z, fun j hj => rfl⟩, fun q hq => ⟨zup_at (by decide), fun j hj => zup_at z, fun j hj => ⟨zup_at z, zup_at z, zup_at z⟩⟩, fun j hj => ⟨⟨zup_at (by decide), zup_at (by decide), zup_at (by decide), rfl, rfl⟩, fun c hc => ⟨zup_at z, zup_at z⟩⟩, fun c hc => zup_at z⟩
theorem rel0_up {σ σm : zG} (h : Rel0 σ σm) : Rel0 (zup σ) σm := rel0_data h (fun f i k _ _ h2 => zup_at h2) (fun f i k _ => rfl)
theorem zG_up {w : zW} {σ : zG} : ∀ H, zGW zlyC w σ H → zGW zlyCK w (zup σ) H := fun H h => (zGW_K (fun g j _ => zup_sm σ g j)).mp (zGW_data (fun f i k _ h2 => zup_at h2) (fun _ _ _ _ => rfl) h)
theorem zG_up0 {w : zW} {σ : zG} (ha : zLA w) : ∀ H, zGW zlyC w σ H → zGW zlyCK w (zup0 σ) H := fun H h => by
  have hn : ∀ f i, w.2.2.2.2 f i → (f, i) ∉ cX := fun f i hw z => ha.1 _ z hw
  exact (zGW_K (fun g j hw => zsm fun k hk => by rw [zup0_fl (hn g j hw) hk]; decide)).mp (zGW_data (fun f i k hw h2 => zup0_at (hn f i hw) h2) (fun f i k hw => zup0_2 (hn f i hw)) h)
theorem sm_new (σ : zG) : SmF (zwI (k_X1_1 (zup0 σ)) 0 0 6 1) := fun g j => by
  have e6 : ∀ k, zlyC.2.1 g k = 2 → (zwI (k_X1_1 (zup0 σ)) 0 0 6 1).1 g j k = (k_X1_1 (zup0 σ)).1 g j k := fun k hk => by
    rw [zw_at, if_neg]
    rintro ⟨rfl, -, rfl⟩
    exact absurd hk (by decide)
  by_cases h : (g, j) ∈ cX
  · exact zsm_ext (hb2_1 (zup0 σ) (g, j) (cX_B _ h)) e6
  · refine zsm fun k hk => ?_
    rw [e6 k hk, (nB1_keep (zup0 σ) g j h k).1, zup0_fl h hk]
    decide
section ZLJ
variable {K : zKL} {wM wC : zW} {cs ss n : Nat} {σc σm : zG}
/-- behind the class's image: the model's, and both answers are the same -/
theorem l_image2 {r : Int32} {sm : zG} (hF : zLF K wM) (hCF : zLC K wM wC) (h6 : n + 6 ≤ K.2.2.2.2.2.2.2.2.2.1) (hcs : cs ≤ 600000 ∧ ss ≤ 7302250) (e2 : f_X12_image (if K.2.2.2.2.2.2.2.2.2.2 (n + 1) = 0 then 0 else 1) σm = some (r, sm)) (next : zLL K wM wC cs ss 1555 (zal K wM wC n) [] σc sm) : zLL K wM wC cs ss 1510 (zal K wM wC n) [.int r] σc σm := by
  refine l_aload (pc := 1510) 2 hF (zdg DLc43_law 11 (1510, .aload_n 2, 1) rfl) rfl ?_
  refine l_arg (pc := 1511) 1 hF h6 (by decide) rfl (zdg DLc43_law 12 (1511, .aload_n 0, 1) rfl) (zdg DLc43_law 13 (1512, .iload_n 3, 1) rfl) (zdg DLc43_law 14 (1513, .iconst 1, 1) rfl) (zdg DLc43_law 15 (1514, .iadd, 1) rfl) (zdg DLc43_law 16 (1515, .iaload, 1) rfl) ?_
  refine l_bool (pc := 1516) hF (zdg DLc43_law 17 (1516, .ifCond .eq 7, 3) rfl) rfl (zdg DLc43_law 18 (1519, .iconst 1, 1) rfl) (zdg DLc43_law 19 (1520, .goto 4, 3) rfl) rfl (zdg DLc43_law 20 (1523, .iconst 0, 1) rfl) ?_
  generalize (if K.2.2.2.2.2.2.2.2.2.2 (n + 1) = 0 then (0 : Int32) else 1) = x at e2 ⊢
  refine l_callM (pc := 1524) (av := [zI x]) (rest := [.int r]) (st2 := [.int r, .int r]) (v1 := (some (zI r))) (σ1 := sm) hF hCF (fun w a ha => by simp at ha; rcases ha with rfl <;> trivial) (fun l => by have h := c_X12_image l x σm (r, sm) e2; exact h) zv_X12_image ll_200 rfl rfl rfl rfl rfl (Nat.le_of_ble_eq_true rfl) ⟨by decide, by decide⟩ hcs (zdg DLc43_law 21 (1524, .invokevirtual 200, 3) rfl) ?_
  refine l_eqI (pc := 1527) 1555 hF (zdg DLc43_law 22 (1527, .if_icmp .eq 28, 3) rfl) rfl ?_
  exact next
theorem l_image (hF : zLF K wM) (hCF : zLC K wM wC) (hX : zLX K wC) (h6 : n + 6 ≤ K.2.2.2.2.2.2.2.2.2.1) (hcs : cs + zCI ≤ 600000 ∧ ss + zSI ≤ 7302250) (hrel : RW wC σc σm) (next : ∀ wC' cs' ss' sc sm, zLC K wM wC' → zLX K wC' → cs' ≤ cs + zCI → ss' ≤ ss + zSI → RW wC' sc sm → zLL K wM wC' cs' ss' 1555 (zal K wM wC' n) [] sc sm) : zLL K wM wC cs ss 1493 (zal K wM wC n) [] σc σm := by
  have hzC : zCI = 100 := rfl
  have hzS : zSI = 12000 := rfl
  have hW : zWF zlyC wC := by obtain ⟨l, p, e, s, m, below, meth, c, b, L, xs⟩ := K; exact hCF.1.2.1
  refine l_aload (pc := 1493) 1 hF (zdg DLc43_law 0 (1493, .aload_n 1, 1) rfl) rfl ?_
  refine l_arg (pc := 1494) 1 hF h6 (by decide) rfl (zdg DLc43_law 1 (1494, .aload_n 0, 1) rfl) (zdg DLc43_law 2 (1495, .iload_n 3, 1) rfl) (zdg DLc43_law 3 (1496, .iconst 1, 1) rfl) (zdg DLc43_law 4 (1497, .iadd, 1) rfl) (zdg DLc43_law 5 (1498, .iaload, 1) rfl) ?_
  refine l_bool (pc := 1499) hF (zdg DLc43_law 6 (1499, .ifCond .eq 7, 3) rfl) rfl (zdg DLc43_law 7 (1502, .iconst 1, 1) rfl) (zdg DLc43_law 8 (1503, .goto 4, 3) rfl) rfl (zdg DLc43_law 9 (1506, .iconst 0, 1) rfl) ?_
  have dI := zdg DLc43_law 10 (1507, .invokevirtual 196, 3) rfl
  have nil : ∀ σ, zFr wC σ [] := fun σ => ⟨List.nodup_nil, fun x hx => by cases hx⟩
  have t0 : zlyC.2.1 0 0 = 2 := rfl
  have t1 : zlyC.2.1 0 1 = 2 := rfl
  have up0 : ∀ k, zlyC.2.1 0 k = 2 → (zup σc).1 0 0 k ≠ 0 := fun k hk => by
    show (if zlyC.2.1 0 k = 2 then (1 : Int32) else σc.1 0 0 k) ≠ 0
    rw [if_pos hk]
    decide
  have up6 : (zup σc).1 0 0 6 = σc.1 0 0 6 := zup_at (by decide)
  by_cases x0 : K.2.2.2.2.2.2.2.2.2.2 (n + 1) = 0
  · rcases hrel with ⟨ha, hr⟩ | ⟨hb, hr⟩
    · obtain ⟨i1, i2, i3⟩ := hr.2.2.2.2.2
      rw [bfI_F] at i1 i2
      have im : f_X12_image 0 σm = some (0, σm) := by
        unfold f_X12_image
        rw [if_pos rfl, if_pos i2]
      have hr0 : @Rel iF (zup σc) σm := by
        obtain ⟨r1, r2, r3, r4, r5⟩ := rel0_up (@rel_0 iF _ _ hr)
        exact ⟨r1, r2, r3, r4, r5, by rw [up6, bfI_F]; exact i1, i2, fun z => absurd z (by rw [bfI_F]; decide)⟩
      rw [if_pos x0]
      refine l_callI (pc := 1507) (r := 0) (mc := 0) (ms := 0) (news := []) (σ0 := zup σc) (σ1 := zup σc) hF hCF hX (fun l => cj_no l (by rw [up6]; exact i1)) zG_up (zFl_A1 hW ha i1) (nil _) (zup_sm σc) ⟨by omega, by omega⟩ dI (fun wC' hE hCF' hX' => ?_)
      refine l_image2 hF hCF' h6 ⟨by omega, by omega⟩ (by rw [if_pos x0]; exact im) ?_
      refine next wC' _ _ _ _ hCF' hX' (by omega) (by omega) (Or.inl ⟨⟨fun x hx z => ?_, fun i z => ?_⟩, hr0⟩)
      · exact ((hE.1 _ _).mp z).elim (fun h => by cases h) (ha.1 x hx)
      · exact ((hE.1 _ _).mp z).elim (fun h => by cases h) (ha.2 i)
    · obtain ⟨i1, i2, i3⟩ := hr.2.2.2.2.2
      obtain ⟨i4, i5⟩ := i3 rfl
      rw [bfI_T] at i1 i2
      obtain ⟨s, sm, q1, q2, q3, q4, q5⟩ := img_back (rel0_up (@rel_0 iT _ _ hr)) (by rw [up6]; exact i1) i2 (rb_copy i4 i5 (cb_up σc 1 _) (fun _ _ => rfl)) i5
      rw [if_pos x0]
      refine l_callI (pc := 1507) (r := 1) (mc := 0) (ms := 0) (news := []) (σ0 := zup σc) (σ1 := f_X2_forget s) hF hCF hX (fun l => cj_back l (up0 0 t0) (up0 1 t1) (by rw [up6, i1]; decide) (zup_sm σc) q1 q2 q3) zG_up (zFl_B hW hb) (nil _) (((zup_sm σc).fr q2).fr q3) ⟨by omega, by omega⟩ dI (fun wC' hE hCF' hX' => ?_)
      refine l_image2 hF hCF' h6 ⟨by omega, by omega⟩ (by rw [if_pos x0]; exact q4) ?_
      exact next wC' _ _ _ _ hCF' hX' (by omega) (by omega) (Or.inr ⟨(hE.1 1 1).mpr (Or.inr hb), q5⟩)
  · rcases hrel with ⟨ha, hr⟩ | ⟨hb, hr⟩
    · obtain ⟨i1, i2, i3⟩ := hr.2.2.2.2.2
      rw [bfI_F] at i1 i2
      have n00 : (0, 0) ∉ cX := by decide
      have hR0 : Rel0 (zwI (k_X1_1 (zup0 σc)) 0 0 6 1) σm := rel0_data (@rel_0 iF _ _ hr) (fun f i k h0 hn h2 => by rw [zw_at, if_neg (fun z => h0 z.1), (nB1_keep _ f i hn k).1, zup0_at hn h2]) (fun f i k hn => by
        show (k_X1_1 (zup0 σc)).2 f i k = _
        rw [(nB1_keep _ f i hn k).2, zup0_2 hn])
      obtain ⟨s, sm, q1, q2, q4, q5⟩ := img_take (x := 1) (by decide) hR0 (by rw [zw_at, if_pos ⟨rfl, rfl, rfl⟩])
      rw [if_neg x0]
      refine l_callI (pc := 1507) (r := 1) (mc := 61) (ms := 9071) (news := (1, 1) :: nB1) (σ0 := zup0 σc) (σ1 := s) hF hCF hX (fun l => cj_new l (by decide) (by rw [(nB1_keep _ 0 0 n00 0).1, zup0_fl n00 t0]; decide) (by rw [zup0_at n00 (by decide)]; exact i1) (sm_new σc) q1 q2) (zG_up0 ha) (zFl_A hW ha i1) ⟨cX_nodup, fun x hx => ⟨ha.1 x hx, fun k => zup0_z hx⟩⟩ ((sm_new σc).fr q2) ⟨by omega, by omega⟩ dI (fun wC' hE hCF' hX' => ?_)
      refine l_image2 hF hCF' h6 ⟨by omega, by omega⟩ (by rw [if_neg x0]; exact q4) ?_
      exact next wC' _ _ _ _ hCF' hX' (by omega) (by omega) (Or.inr ⟨(hE.1 1 1).mpr (Or.inl List.mem_cons_self), q5⟩)
    · obtain ⟨i1, i2, i3⟩ := hr.2.2.2.2.2
      rw [bfI_T] at i1 i2
      obtain ⟨s, sm, q1, q2, q4, q5⟩ := img_take (x := 1) (by decide) (rel0_up (@rel_0 iT _ _ hr)) (by rw [up6]; exact i1)
      rw [if_neg x0]
      refine l_callI (pc := 1507) (r := 1) (mc := 0) (ms := 0) (news := []) (σ0 := zup σc) (σ1 := s) hF hCF hX (fun l => cj_take l (by decide) (up0 0 t0) (by rw [up6, i1]; decide) (zup_sm σc) q1 q2) zG_up (zFl_B hW hb) (nil _) ((zup_sm σc).fr q2) ⟨by omega, by omega⟩ dI (fun wC' hE hCF' hX' => ?_)
      refine l_image2 hF hCF' h6 ⟨by omega, by omega⟩ (by rw [if_neg x0]; exact q4) ?_
      exact next wC' _ _ _ _ hCF' hX' (by omega) (by omega) (Or.inr ⟨(hE.1 1 1).mpr (Or.inr hb), q5⟩)
end ZLJ
def PR44 (Rel : zG → zG → Prop) : Prop := PR_state Rel ∧ PR_bridge Rel ∧ PR_set Rel ∧ PR_step Rel ∧ PR_feed Rel ∧ PR_end Rel ∧ PR_text Rel ∧ PR_fault Rel ∧ PR_minutes Rel ∧ PR_shoot Rel ∧ PR_of Rel ∧ PR_where Rel ∧ PR_stranger Rel ∧ PR_covered Rel ∧ PR_at Rel ∧ PR_worth Rel ∧ PR_shot Rel ∧ PR_book Rel ∧ PR_waits Rel ∧ PR_row Rel ∧ PR_best Rel ∧ PR_steps Rel ∧ PR_laid Rel ∧ PR_fewest Rel ∧ PR_never Rel ∧ PR_most Rel ∧ PR_middle Rel ∧ PR_sure Rel ∧ PR_exposed Rel ∧ PR_ghosts Rel ∧ PR_nobody Rel ∧ PR_copies Rel ∧ PR_enough Rel ∧ PR_hours Rel ∧ PR_judged Rel ∧ PR_whenShot Rel ∧ PR_stander Rel ∧ PR_with Rel ∧ PR_twos Rel ∧ PR_two Rel ∧ PR_paste Rel ∧ PR_picture Rel ∧ PR_undo Rel ∧ PR_look Rel
theorem pr_all [Inhabited BFT] : PR44 Rel := ⟨pr_state, pr_bridge, pr_set, pr_step, pr_feed, pr_end, pr_text, pr_fault, pr_minutes, pr_shoot, pr_of, pr_where, pr_stranger, pr_covered, pr_at, pr_worth, pr_shot, pr_book, pr_waits, pr_row, pr_best, pr_steps, pr_laid, pr_fewest, pr_never, pr_most, pr_middle, pr_sure, pr_exposed, pr_ghosts, pr_nobody, pr_copies, pr_enough, pr_hours, pr_judged, pr_whenShot, pr_stander, pr_with, pr_twos, pr_two, pr_paste, pr_picture, pr_undo, pr_look⟩
theorem l_switch2 (Rel : zG → zG → Prop) (hp : PR44 Rel) {K : zKL} {wM wC : zW} {cs ss n : Nat} {σc σm : zG} (hF : zLF K wM) (hCF : zLC K wM wC) (h6 : n + 6 ≤ K.2.2.2.2.2.2.2.2.2.1) (hcs0 : cs ≤ 600000 ∧ ss ≤ 7302250) (hrel : Rel σc σm) (nx : ∀ sc sm, Rel sc sm → zLL K wM wC cs ss 1555 (zal K wM wC n) [] sc sm) (hI : zLL K wM wC cs ss 1493 (zal K wM wC n) [] σc σm) (j : Nat) (hj : j < 64) : zLL K wM wC cs ss 33 (zal K wM wC n) [.int (nI j)] σc σm := by
  have go : ∀ (k tgt : Nat) (off : Int), k < 45 → ((nI k).toInt - 0).toNat = k → (#[195, 218, 251, 284, 307, 370, 393, 416, 439, 462, 475, 508, 541, 574, 598, 641, 664, 697, 740, 753, 776, 799, 832, 856, 879, 913, 937, 970, 1004, 1057, 1091, 1114, 1147, 1180, 1223, 1256, 1289, 1312, 1345, 1368, 1391, 1424, 1447, 1460, 1499] : Array Int)[k]? = some off → ((33 : Nat) : Int) + off = (tgt : Int) → zLL K wM wC cs ss tgt (zal K wM wC n) [] σc σm → zLL K wM wC cs ss 33 (zal K wM wC n) [.int (nI k)] σc σm := by
    intro k tgt off hk hk2 ho ht kk
    obtain ⟨l, p, e, s, m, below, meth, c, b, L, xs⟩ := K
    intro H locs ls hC hM hS hl
    obtain ⟨⟨hx, hb, -⟩, -⟩ := id hF
    refine lv_tableIn hx hb (zdg DLh_law 21 (33, .tableswitch 1522 0 44 #[195, 218, 251, 284, 307, 370, 393, 416, 439, 462, 475, 508, 541, 574, 598, 641, 664, 697, 740, 753, 776, 799, 832, 856, 879, 913, 937, 970, 1004, 1057, 1091, 1114, 1147, 1180, 1223, 1256, 1289, 1312, 1345, 1368, 1391, 1424, 1447, 1460, 1499], 195) rfl) ?_ ?_ (by rw [hk2]; exact ho) ht (kk H locs ls hC hM hS hl)
    · rw [nI_toInt (by omega)]; omega
    · rw [nI_toInt (by omega)]; omega
  match j, hj with
  | 0, _ => exact go 0 228 195 (by decide) rfl rfl rfl (law_0 Rel hp.1 hF hCF h6 hcs0 hrel nx)
  | 1, _ => exact go 1 251 218 (by decide) rfl rfl rfl (law_1 Rel hp.2.1 hF hCF h6 hcs0 hrel nx)
  | 2, _ => exact go 2 284 251 (by decide) rfl rfl rfl (law_2 Rel hp.2.2.1 hF hCF h6 hcs0 hrel nx)
  | 3, _ => exact go 3 317 284 (by decide) rfl rfl rfl (law_3 Rel hp.2.2.2.1 hF hCF h6 hcs0 hrel nx)
  | 4, _ => exact go 4 340 307 (by decide) rfl rfl rfl (law_4 Rel hp.2.2.2.2.1 hF hCF h6 hcs0 hrel nx)
  | 5, _ => exact go 5 403 370 (by decide) rfl rfl rfl (law_5 Rel hp.2.2.2.2.2.1 hF hCF h6 hcs0 hrel nx)
  | 6, _ => exact go 6 426 393 (by decide) rfl rfl rfl (law_6 Rel hp.2.2.2.2.2.2.1 hF hCF h6 hcs0 hrel nx)
  | 7, _ => exact go 7 449 416 (by decide) rfl rfl rfl (law_7 Rel hp.2.2.2.2.2.2.2.1 hF hCF h6 hcs0 hrel nx)
  | 8, _ => exact go 8 472 439 (by decide) rfl rfl rfl (law_8 Rel hp.2.2.2.2.2.2.2.2.1 hF hCF h6 hcs0 hrel nx)
  | 9, _ => exact go 9 495 462 (by decide) rfl rfl rfl (law_9 Rel hp.2.2.2.2.2.2.2.2.2.1 hF hCF h6 hcs0 hrel nx)
  | 10, _ => exact go 10 508 475 (by decide) rfl rfl rfl (law_10 Rel hp.2.2.2.2.2.2.2.2.2.2.1 hF hCF h6 hcs0 hrel nx)
  | 11, _ => exact go 11 541 508 (by decide) rfl rfl rfl (law_11 Rel hp.2.2.2.2.2.2.2.2.2.2.2.1 hF hCF h6 hcs0 hrel nx)
  | 12, _ => exact go 12 574 541 (by decide) rfl rfl rfl (law_12 Rel hp.2.2.2.2.2.2.2.2.2.2.2.2.1 hF hCF h6 hcs0 hrel nx)
  | 13, _ => exact go 13 607 574 (by decide) rfl rfl rfl (law_13 Rel hp.2.2.2.2.2.2.2.2.2.2.2.2.2.1 hF hCF h6 hcs0 hrel nx)
  | 14, _ => exact go 14 631 598 (by decide) rfl rfl rfl (law_14 Rel hp.2.2.2.2.2.2.2.2.2.2.2.2.2.2.1 hF hCF h6 hcs0 hrel nx)
  | 15, _ => exact go 15 674 641 (by decide) rfl rfl rfl (law_15 Rel hp.2.2.2.2.2.2.2.2.2.2.2.2.2.2.2.1 hF hCF h6 hcs0 hrel nx)
  | 16, _ => exact go 16 697 664 (by decide) rfl rfl rfl (law_16 Rel hp.2.2.2.2.2.2.2.2.2.2.2.2.2.2.2.2.1 hF hCF h6 hcs0 hrel nx)
  | 17, _ => exact go 17 730 697 (by decide) rfl rfl rfl (law_17 Rel hp.2.2.2.2.2.2.2.2.2.2.2.2.2.2.2.2.2.1 hF hCF h6 hcs0 hrel nx)
  | 18, _ => exact go 18 773 740 (by decide) rfl rfl rfl (law_18 Rel hp.2.2.2.2.2.2.2.2.2.2.2.2.2.2.2.2.2.2.1 hF hCF h6 hcs0 hrel nx)
  | 19, _ => exact go 19 786 753 (by decide) rfl rfl rfl (law_19 Rel hp.2.2.2.2.2.2.2.2.2.2.2.2.2.2.2.2.2.2.2.1 hF hCF h6 hcs0 hrel nx)
  | 20, _ => exact go 20 809 776 (by decide) rfl rfl rfl (law_20 Rel hp.2.2.2.2.2.2.2.2.2.2.2.2.2.2.2.2.2.2.2.2.1 hF hCF h6 hcs0 hrel nx)
  | 21, _ => exact go 21 832 799 (by decide) rfl rfl rfl (law_21 Rel hp.2.2.2.2.2.2.2.2.2.2.2.2.2.2.2.2.2.2.2.2.2.1 hF hCF h6 hcs0 hrel nx)
  | 22, _ => exact go 22 865 832 (by decide) rfl rfl rfl (law_22 Rel hp.2.2.2.2.2.2.2.2.2.2.2.2.2.2.2.2.2.2.2.2.2.2.1 hF hCF h6 hcs0 hrel nx)
  | 23, _ => exact go 23 889 856 (by decide) rfl rfl rfl (law_23 Rel hp.2.2.2.2.2.2.2.2.2.2.2.2.2.2.2.2.2.2.2.2.2.2.2.1 hF hCF h6 hcs0 hrel nx)
  | 24, _ => exact go 24 912 879 (by decide) rfl rfl rfl (law_24 Rel hp.2.2.2.2.2.2.2.2.2.2.2.2.2.2.2.2.2.2.2.2.2.2.2.2.1 hF hCF h6 hcs0 hrel nx)
  | 25, _ => exact go 25 946 913 (by decide) rfl rfl rfl (law_25 Rel hp.2.2.2.2.2.2.2.2.2.2.2.2.2.2.2.2.2.2.2.2.2.2.2.2.2.1 hF hCF h6 hcs0 hrel nx)
  | 26, _ => exact go 26 970 937 (by decide) rfl rfl rfl (law_26 Rel hp.2.2.2.2.2.2.2.2.2.2.2.2.2.2.2.2.2.2.2.2.2.2.2.2.2.2.1 hF hCF h6 hcs0 hrel nx)
  | 27, _ => exact go 27 1003 970 (by decide) rfl rfl rfl (law_27 Rel hp.2.2.2.2.2.2.2.2.2.2.2.2.2.2.2.2.2.2.2.2.2.2.2.2.2.2.2.1 hF hCF h6 hcs0 hrel nx)
  | 28, _ => exact go 28 1037 1004 (by decide) rfl rfl rfl (law_28 Rel hp.2.2.2.2.2.2.2.2.2.2.2.2.2.2.2.2.2.2.2.2.2.2.2.2.2.2.2.2.1 hF hCF h6 hcs0 hrel nx)
  | 29, _ => exact go 29 1090 1057 (by decide) rfl rfl rfl (law_29 Rel hp.2.2.2.2.2.2.2.2.2.2.2.2.2.2.2.2.2.2.2.2.2.2.2.2.2.2.2.2.2.1 hF hCF h6 hcs0 hrel nx)
  | 30, _ => exact go 30 1124 1091 (by decide) rfl rfl rfl (law_30 Rel hp.2.2.2.2.2.2.2.2.2.2.2.2.2.2.2.2.2.2.2.2.2.2.2.2.2.2.2.2.2.2.1 hF hCF h6 hcs0 hrel nx)
  | 31, _ => exact go 31 1147 1114 (by decide) rfl rfl rfl (law_31 Rel hp.2.2.2.2.2.2.2.2.2.2.2.2.2.2.2.2.2.2.2.2.2.2.2.2.2.2.2.2.2.2.2.1 hF hCF h6 hcs0 hrel nx)
  | 32, _ => exact go 32 1180 1147 (by decide) rfl rfl rfl (law_32 Rel hp.2.2.2.2.2.2.2.2.2.2.2.2.2.2.2.2.2.2.2.2.2.2.2.2.2.2.2.2.2.2.2.2.1 hF hCF h6 hcs0 hrel nx)
  | 33, _ => exact go 33 1213 1180 (by decide) rfl rfl rfl (law_33 Rel hp.2.2.2.2.2.2.2.2.2.2.2.2.2.2.2.2.2.2.2.2.2.2.2.2.2.2.2.2.2.2.2.2.2.1 hF hCF h6 hcs0 hrel nx)
  | 34, _ => exact go 34 1256 1223 (by decide) rfl rfl rfl (law_34 Rel hp.2.2.2.2.2.2.2.2.2.2.2.2.2.2.2.2.2.2.2.2.2.2.2.2.2.2.2.2.2.2.2.2.2.2.1 hF hCF h6 hcs0 hrel nx)
  | 35, _ => exact go 35 1289 1256 (by decide) rfl rfl rfl (law_35 Rel hp.2.2.2.2.2.2.2.2.2.2.2.2.2.2.2.2.2.2.2.2.2.2.2.2.2.2.2.2.2.2.2.2.2.2.2.1 hF hCF h6 hcs0 hrel nx)
  | 36, _ => exact go 36 1322 1289 (by decide) rfl rfl rfl (law_36 Rel hp.2.2.2.2.2.2.2.2.2.2.2.2.2.2.2.2.2.2.2.2.2.2.2.2.2.2.2.2.2.2.2.2.2.2.2.2.1 hF hCF h6 hcs0 hrel nx)
  | 37, _ => exact go 37 1345 1312 (by decide) rfl rfl rfl (law_37 Rel hp.2.2.2.2.2.2.2.2.2.2.2.2.2.2.2.2.2.2.2.2.2.2.2.2.2.2.2.2.2.2.2.2.2.2.2.2.2.1 hF hCF h6 hcs0 hrel nx)
  | 38, _ => exact go 38 1378 1345 (by decide) rfl rfl rfl (law_38 Rel hp.2.2.2.2.2.2.2.2.2.2.2.2.2.2.2.2.2.2.2.2.2.2.2.2.2.2.2.2.2.2.2.2.2.2.2.2.2.2.1 hF hCF h6 hcs0 hrel nx)
  | 39, _ => exact go 39 1401 1368 (by decide) rfl rfl rfl (law_39 Rel hp.2.2.2.2.2.2.2.2.2.2.2.2.2.2.2.2.2.2.2.2.2.2.2.2.2.2.2.2.2.2.2.2.2.2.2.2.2.2.2.1 hF hCF h6 hcs0 hrel nx)
  | 40, _ => exact go 40 1424 1391 (by decide) rfl rfl rfl (law_40 Rel hp.2.2.2.2.2.2.2.2.2.2.2.2.2.2.2.2.2.2.2.2.2.2.2.2.2.2.2.2.2.2.2.2.2.2.2.2.2.2.2.2.1 hF hCF h6 hcs0 hrel nx)
  | 41, _ => exact go 41 1457 1424 (by decide) rfl rfl rfl (law_41 Rel hp.2.2.2.2.2.2.2.2.2.2.2.2.2.2.2.2.2.2.2.2.2.2.2.2.2.2.2.2.2.2.2.2.2.2.2.2.2.2.2.2.2.1 hF hCF h6 hcs0 hrel nx)
  | 42, _ => exact go 42 1480 1447 (by decide) rfl rfl rfl (law_42 Rel hp.2.2.2.2.2.2.2.2.2.2.2.2.2.2.2.2.2.2.2.2.2.2.2.2.2.2.2.2.2.2.2.2.2.2.2.2.2.2.2.2.2.2.1 hF hCF h6 hcs0 hrel nx)
  | 43, _ => exact go 43 1493 1460 (by decide) rfl rfl rfl hI
  | 44, _ => exact go 44 1532 1499 (by decide) rfl rfl rfl (law_44 Rel hp.2.2.2.2.2.2.2.2.2.2.2.2.2.2.2.2.2.2.2.2.2.2.2.2.2.2.2.2.2.2.2.2.2.2.2.2.2.2.2.2.2.2.2 hF hCF h6 hcs0 hrel nx)
  | j + 45, hj =>
    obtain ⟨l, p, e, s, m, below, meth, c, b, L, xs⟩ := K
    intro H locs ls hC hM hS hl
    obtain ⟨⟨hx, hb, -⟩, -⟩ := id hF
    exact lv_tableOut hx hb (zdg DLh_law 21 (33, .tableswitch 1522 0 44 #[195, 218, 251, 284, 307, 370, 393, 416, 439, 462, 475, 508, 541, 574, 598, 641, 664, 697, 740, 753, 776, 799, 832, 856, 879, 913, 937, 970, 1004, 1057, 1091, 1114, 1147, 1180, 1223, 1256, 1289, 1312, 1345, 1368, 1391, 1424, 1447, 1460, 1499], 195) rfl) (Or.inr (by rw [nI_toInt (by omega)]; omega)) rfl (nx σc σm hrel H locs ls hC hM hS hl)
/-- THE LOOP -/
theorem law_loop2 {K : zKL} {wM : zW} (hF : zLF K wM) : ∀ (d n : Nat) (wC : zW) (cs ss : Nat) (σc σm : zG), (K.2.2.2.2.2.2.2.2.2.1 - n) / 6 < d → n ≤ 3078 → cs + ((K.2.2.2.2.2.2.2.2.2.1 - n) / 6) * zCI ≤ 600000 → ss + ((K.2.2.2.2.2.2.2.2.2.1 - n) / 6) * zSI ≤ 7302250 → zLC K wM wC → zLX K wC → RW wC σc σm → zLL K wM wC cs ss 18 (zal K wM wC n) [] σc σm := by
  intro d
  induction d with
  | zero => intro n wC cs ss σc σm h; omega
  | succ d ih =>
    intro n wC cs ss σc σm hd hn hcs hss hCF hX hrel
    have K0 := K
    by_cases h6 : n + 6 ≤ K.2.2.2.2.2.2.2.2.2.1
    · -- another call
      have e1 : (K.2.2.2.2.2.2.2.2.2.1 - n) / 6 = (K.2.2.2.2.2.2.2.2.2.1 - (n + 6)) / 6 + 1 := by omega
      have hb1 : cs + zCI ≤ 600000 := by
        rw [e1, Nat.add_mul, Nat.one_mul] at hcs
        have := Nat.zero_le (((K.2.2.2.2.2.2.2.2.2.1 - (n + 6)) / 6) * zCI)
        omega
      have hb2 : ss + zSI ≤ 7302250 := by
        rw [e1, Nat.add_mul, Nat.one_mul] at hss
        have := Nat.zero_le (((K.2.2.2.2.2.2.2.2.2.1 - (n + 6)) / 6) * zSI)
        omega
      have next : ∀ wC' cs' ss' sc sm, zLC K wM wC' → zLX K wC' → cs' ≤ cs + zCI → ss' ≤ ss + zSI → RW wC' sc sm → zLL K wM wC' cs' ss' 1555 (zal K wM wC' n) [] sc sm := by
        intro wC' cs' ss' sc sm h1 hX1 h2 h3 h4
        have hih := ih (n + 6) wC' cs' ss' sc sm (by omega) (by obtain ⟨l, p, e, s, m, below, meth, c, b, L, xs⟩ := K; have := hF.2.1; change n + 6 ≤ L at h6; omega) (by rw [e1, Nat.add_mul, Nat.one_mul] at hcs; omega) (by rw [e1, Nat.add_mul, Nat.one_mul] at hss; omega) h1 hX1 h4
        obtain ⟨l, p, e, s, m, below, meth, c, b, L, xs⟩ := K
        intro H locs ls hC hM hS hl
        obtain ⟨⟨hx, hb, -⟩, -⟩ := id hF
        refine lv_iinc (v := nI (n + 6)) (lv' := [(3, .int (nI (n + 6))), (0, .ref b), (1, .ref (wC'.1 0 0)), (2, .ref (wM.1 0 0))]) hx hb (zdg DLh_law 22 (1555, .iinc 3 6, 3) rfl) hl (k := 3) rfl (by rw [← nI_add]; rfl) (by decide) rfl (fun ls hl => ?_)
        refine lv_goto (tgt := 18) hx hb (zdg DLh_law 23 (1558, .goto (-1540), 3) rfl) rfl ?_
        exact hih H locs ls hC hM hS (lv_sub hl [1, 2, 3, 0] rfl)
      have hI := l_image hF hCF hX h6 ⟨hb1, hb2⟩ hrel next
      have sw : ∀ j : Nat, j < 64 → zLL K wM wC cs ss 33 (zal K wM wC n) [.int (nI j)] σc σm := by
        rcases hrel with ⟨ha, hr⟩ | ⟨hb, hr⟩
        · exact l_switch2 (@Rel iF) (@pr_all iF) hF hCF h6 ⟨by omega, by omega⟩ hr (fun sc sm h => next wC cs ss sc sm hCF hX (by omega) (by omega) (Or.inl ⟨ha, h⟩)) hI
        · exact l_switch2 (@Rel iT) (@pr_all iT) hF hCF h6 ⟨by omega, by omega⟩ hr (fun sc sm h => next wC cs ss sc sm hCF hX (by omega) (by omega) (Or.inr ⟨hb, h⟩)) hI
      obtain ⟨l, p, e, s, m, below, meth, c, b, L, xs⟩ := K
      intro H locs ls hC hM hS hl
      obtain ⟨⟨hx, hb, hr, hml, hown, hts, hX, hbl, hlocks, hgv⟩, hL, -⟩ := id hF
      change n + 6 ≤ L at h6
      refine lv_iload_n hx hb (zdg DLh_law 10 (18, .iload_n 3, 1) rfl) rfl (lv_at hl 3 rfl) ?_
      refine lv_aload_n hx hb (zdg DLh_law 11 (19, .aload_n 0, 1) rfl) rfl (lv_at hl 0 rfl) ?_
      refine va_slen hx hb hX hbl (Nat.not_le.mpr hbl) hS (zdg DLh_law 12 (20, .arraylength, 1) rfl) ?_
      refine lv_bipush (v := 6) hx hb (zdg DLh_law 13 (21, .bipush 6, 2) rfl) rfl ?_
      refine lv_isub hx hb (zdg DLh_law 14 (23, .isub, 1) rfl) ?_
      have e2 : (Int32.ofNat L - 6 : Int32) = nI (L - 6) := pk_sub (a := L) (b := 6) (by omega)
      rw [e2]
      refine lv_icmp_gt (tgt := 1561) hx hb (zdg DLh_law 15 (24, .if_icmp .gt 1537, 3) rfl) rfl (fun hgt => absurd hgt (nI_nlt (by omega) (by omega))) (fun _ => ?_)
      refine lv_aload_n hx hb (zdg DLh_law 16 (27, .aload_n 0, 1) rfl) rfl (lv_at hl 0 rfl) ?_
      refine lv_iload_n hx hb (zdg DLh_law 17 (28, .iload_n 3, 1) rfl) rfl (lv_at hl 3 rfl) ?_
      refine va_sld hx hb hX hbl (Nat.not_le.mpr hbl) hS (vp_in_nI (by omega) (by omega)) (zdg DLh_law 18 (29, .iaload, 1) rfl) ?_
      refine lv_bipush (v := 63) hx hb (zdg DLh_law 19 (30, .bipush 63, 2) rfl) rfl ?_
      refine lv_iand hx hb (zdg DLh_law 20 (32, .iand, 1) rfl) ?_
      obtain ⟨j, hj, ej⟩ := pk_andE (xs (nI n).toNatClampNeg) (m := 63) 6 (by decide)
      rw [ej]
      exact sw j hj H locs ls hC hM hS hl
    · -- the end
      obtain ⟨l, p, e, s, m, below, meth, c, b, L, xs⟩ := K
      intro H locs ls hC hM hS hl
      obtain ⟨⟨hx, hb, hr, hml, hown, hts, hX, hbl, hlocks, hgv⟩, hL, -⟩ := id hF
      change ¬ n + 6 ≤ L at h6
      change L ≤ 3072 at hL
      refine lv_iload_n hx hb (zdg DLh_law 10 (18, .iload_n 3, 1) rfl) rfl (lv_at hl 3 rfl) ?_
      refine lv_aload_n hx hb (zdg DLh_law 11 (19, .aload_n 0, 1) rfl) rfl (lv_at hl 0 rfl) ?_
      refine va_slen hx hb hX hbl (Nat.not_le.mpr hbl) hS (zdg DLh_law 12 (20, .arraylength, 1) rfl) ?_
      refine lv_bipush (v := 6) hx hb (zdg DLh_law 13 (21, .bipush 6, 2) rfl) rfl ?_
      refine lv_isub hx hb (zdg DLh_law 14 (23, .isub, 1) rfl) ?_
      have hgt : (Int32.ofNat L - 6 : Int32) < nI n := by
        rw [Int32.lt_iff_toInt_lt, nI_toInt (by omega), show (Int32.ofNat L - 6 : Int32).toInt = (L : Int) - 6 from pk_sub_toInt (a := L) (b := 6) (by omega) (by omega)]
        omega
      refine lv_icmp_gt (tgt := 1561) hx hb (zdg DLh_law 15 (24, .if_icmp .gt 1537, 3) rfl) rfl (fun _ => ?_) (fun hg => absurd hgt hg)
      refine lv_iconst (v := 1) hx hb (zdg DLh_law 24 (1561, .iconst 1, 1) rfl) rfl ?_
      refine va_forget hS.2.2 ?_
      refine W.widen (k := 600000) (n := 7302250) (by omega) (by omega) ?_
      exact lw_ret hx hb hr hlocks (zdg DLh_law 25 (1562, .ireturn, 1) rfl)
