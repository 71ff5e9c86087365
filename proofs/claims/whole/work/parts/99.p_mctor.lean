/-! THE MODEL's constructor (by program) -/
theorem wk_127 : Cond.initialized "NobodyThereModel" ∈ zTB := zW_at wC_1 14 rfl rfl
theorem wk_1395 : Cond.instanceMethod yX12_init ∈ zTB := zW_at wC_6 82 rfl rfl
theorem wk_1396 : Cond.code yX12_init cX12_init 1 none ∈ zTB := zW_at wC_6 83 rfl rfl
theorem wk_1397 : Cond.methodLink RX12 1 Lib.objectInit ∈ zTB := zW_at wC_6 84 rfl rfl
theorem wk_1402 : Cond.fieldLink RX12 7 "NobodyThereModel" "w" "[I" ∈ zTB := zW_at wC_6 89 rfl rfl
theorem wk_1403 : Cond.fieldLink RX12 13 "NobodyThereModel" "kept" "[I" ∈ zTB := zW_at wC_6 90 rfl rfl
theorem wk_1404 : Cond.fieldLink RX12 16 "NobodyThereModel" "back" "[I" ∈ zTB := zW_at wC_6 91 rfl rfl
theorem wk_1407 : Cond.fieldLink RX12 19 "NobodyThereModel" "freshLine" "[I" ∈ zTB := zW_at wC_6 94 rfl rfl
theorem wk_1408 : Cond.fieldLink RX12 22 "NobodyThereModel" "freshStep" "[I" ∈ zTB := zW_at wC_6 95 rfl rfl
theorem wk_1409 : Cond.fieldLink RX12 25 "NobodyThereModel" "freshWalker" "[I" ∈ zTB := zW_at wC_6 96 rfl rfl
theorem wk_1410 : Cond.fieldLink RX12 28 "NobodyThereModel" "freshPlaces" "[I" ∈ zTB := zW_at wC_6 97 rfl rfl
theorem wk_1411 : Cond.fieldLink RX12 31 "NobodyThereModel" "tape" "[I" ∈ zTB := zW_at wC_6 98 rfl rfl
theorem wk_1412 : Cond.fieldLink RX12 34 "NobodyThereModel" "pile" "[I" ∈ zTB := zW_at wC_6 99 rfl rfl
theorem wk_1413 : Cond.fieldLink RX12 37 "NobodyThereModel" "facts" "[I" ∈ zTB := zW_at wC_6 100 rfl rfl
theorem wk_1427 : Cond.fieldLink RX12 40 "NobodyThereModel" "faultPlace" "I" ∈ zTB := zW_at wC_6 114 rfl rfl
theorem wk_1431 : Cond.fieldLink RX12 44 "NobodyThereModel" "clear" "[J" ∈ zTB := zW_at wC_6 118 rfl rfl
theorem wk_1432 : Cond.fieldLink RX12 48 "NobodyThereModel" "tones" "[I" ∈ zTB := zW_at wC_6 119 rfl rfl
theorem wk_1434 : Cond.fieldLink RX12 51 "NobodyThereModel" "chance" "[I" ∈ zTB := zW_at wC_6 121 rfl rfl
theorem wk_1437 : Cond.fieldLink RX12 54 "NobodyThereModel" "hidden" "[J" ∈ zTB := zW_at wC_6 124 rfl rfl
def L_X12_init : List (Nat × Instr × Nat) := [(0, .aload_n 0, 1), (1, .invokespecial 1, 3), (4, .aload_n 0, 1), (5, .sipush 9248, 3), (8, .newarray .int, 2), (10, .putfield 7, 3), (13, .aload_n 0, 1), (14, .sipush 9248, 3), (17, .newarray .int, 2), (19, .putfield 13, 3), (22, .aload_n 0, 1), (23, .sipush 180, 3), (26, .newarray .int, 2), (28, .putfield 16, 3), (31, .aload_n 0, 1), (32, .bipush 48, 2), (34, .newarray .int, 2), (36, .putfield 19, 3), (39, .aload_n 0, 1), (40, .sipush 820, 3), (43, .newarray .int, 2), (45, .putfield 22, 3), (48, .aload_n 0, 1), (49, .bipush 48, 2), (51, .newarray .int, 2), (53, .putfield 25, 3), (56, .aload_n 0, 1), (57, .sipush 6012, 3), (60, .newarray .int, 2), (62, .putfield 28, 3), (65, .aload_n 0, 1), (66, .sipush 400, 3), (69, .newarray .int, 2), (71, .putfield 31, 3), (74, .aload_n 0, 1), (75, .sipush 420, 3), (78, .newarray .int, 2), (80, .putfield 34, 3), (83, .aload_n 0, 1), (84, .bipush 9, 2), (86, .newarray .int, 2), (88, .putfield 37, 3), (91, .aload_n 0, 1), (92, .iconst (-1), 1), (93, .putfield 40, 3), (96, .aload_n 0, 1), (97, .bipush 10, 2), (99, .newarray .long, 2), (101, .putfield 44, 3), (104, .aload_n 0, 1), (105, .bipush 10, 2), (107, .newarray .int, 2), (109, .putfield 48, 3), (112, .aload_n 0, 1), (113, .bipush 17, 2), (115, .newarray .int, 2), (117, .putfield 51, 3), (120, .aload_n 0, 1), (121, .bipush 61, 2), (123, .newarray .long, 2), (125, .putfield 54, 3), (128, .aload_n 0, 1), (129, .bipush 6, 2), (131, .iconst 4, 1), (132, .invokevirtual 57, 3), (135, .return_, 1)]
set_option maxRecDepth 100000 in
theorem D_X12_init : zdecs cX12_init L_X12_init = true := by decide +kernel
abbrev mc_X12 : zMT := (RX12, cX12_init, 1, 4, none)
theorem zi_X12 : zcI yX12_init mc_X12 0 := ⟨⟨wk_127, wk_1396, by decide +kernel, by decide +kernel, by decide +kernel⟩, wk_1395, rfl, rfl⟩
def nM : List (Nat × Nat) := [(1, 0), (2, 0), (3, 0), (4, 0), (5, 0), (6, 0), (7, 0), (8, 0), (9, 0), (10, 0), (11, 0), (12, 0), (13, 0), (14, 0)]
def cM : List (Nat × Nat) := (0, 0) :: nM
def kp_X12 (σ : zG) : zG := zwI (zwI (zwI (zwI (zwI (zwI (zwI (zwI (zwI (zwI (zwI (zwI (zwI (zwI (zwI (σ) 0 0 0 1) 0 0 1 1) 0 0 2 1) 0 0 5 1) 0 0 6 1) 0 0 7 1) 0 0 8 1) 0 0 9 1) 0 0 10 1) 0 0 11 1) 0 0 25 (-1 : Int32)) 0 0 29 1) 0 0 30 1) 0 0 32 1) 0 0 35 1
theorem zlyM_sz (g j k : Nat) (t : Nat × Nat) (h1 : zlyM.2.1 g k = 2) (h2 : zlyM.2.2 g j k = some t) : k < zsz zlyMK g := by
  change zrfM g j k = some t at h2
  unfold zrfM at h2
  split at h2 <;> first
    | (split at h2 <;> first | (cases h2; done) | (decide; done))
    | (cases h2; done)
theorem zrfM_in (g j k : Nat) (t : Nat × Nat) (h : zlyM.2.2 g j k = some t) : (t.1, t.2) ∈ cM := by
  change zrfM g j k = some t at h
  unfold zrfM at h
  split at h <;> first
    | (split at h <;> first | (cases h; decide) | (cases h; done))
    | (cases h; done)
theorem tagM (f k : Nat) : zlyMK.2.1 f k = if zlyM.2.1 f k = 2 then 3 else zlyM.2.1 f k := rfl
theorem tagM2 : ∀ f, f < 15 → f ≠ 0 → ztgM.getD f (.inl 0) = .inl 0 ∨ ztgM.getD f (.inl 0) = .inl 1 := by decide
theorem tagM0 {f k : Nat} (h : zlyM.2.1 f k = 2) : f = 0 := by
  refine Classical.byContradiction fun hf => ?_
  change (match ztgM.getD f (.inl 0) with | .inl t => t | .inr l => l.getD k 0) = 2 at h
  by_cases h15 : f < 15
  · rcases tagM2 f h15 hf with e | e
    · rw [e] at h; exact absurd h (show ¬ (0 : Nat) = 2 by decide)
    · rw [e] at h; exact absurd h (show ¬ (1 : Nat) = 2 by decide)
  · rw [List.getD_eq_getElem?_getD, List.getElem?_eq_none (by show 15 ≤ f; omega)] at h
    exact absurd h (show ¬ (0 : Nat) = 2 by decide)
theorem zsmM {σ : zG} {g j : Nat} (h : ∀ k, zlyM.2.1 g k = 2 → σ.1 g j k ≠ 0) : zSame zlyMK zlyM σ g j := by
  by_cases hh : ∀ k, zlyM.2.1 g k ≠ 2
  · refine Or.inl fun k => ?_
    rw [tagM, if_neg (hh k)]
  · have hx : ∃ k, zlyM.2.1 g k = 2 := Classical.byContradiction fun z => hh fun k hk => z ⟨k, hk⟩
    obtain ⟨k, hk⟩ := hx
    have g0 := tagM0 hk
    subst g0
    refine Or.inr ⟨fun ty n e => (by cases e), fun k _ => ?_⟩
    by_cases h2 : zlyM.2.1 0 k = 2
    · exact Or.inr ⟨h2, by rw [tagM, if_pos h2], h k h2⟩
    · exact Or.inl (by rw [tagM, if_neg h2])
theorem flM : ∀ k, k < 36 → zlyM.2.1 0 k = 2 → ∀ σ : zG, (kp_X12 σ).1 0 0 k ≠ 0 := by
  intro k hk
  have : ∀ k, k < 36 → zlyM.2.1 0 k = 2 → k ∈ [0, 1, 2, 5, 6, 7, 8, 9, 10, 11, 29, 30, 32, 35] := by decide
  intro h2 σ
  have hm := this k hk h2
  simp only [List.mem_cons, List.not_mem_nil, or_false] at hm
  rcases hm with rfl | rfl | rfl | rfl | rfl | rfl | rfl | rfl | rfl | rfl | rfl | rfl | rfl | rfl <;> (show ¬ (1 : Int32) = 0; decide)
theorem tag36 {k : Nat} (h : zlyM.2.1 0 k = 2) : k < 36 := by
  refine Nat.lt_of_not_le fun z => ?_
  change ([2, 2, 2, 0, 0, 2, 2, 2, 2, 2, 2, 2, 0, 0, 0, 0, 0, 0, 0, 0, 0, 0, 0, 0, 0, 0, 0, 0, 0, 2, 2, 0, 2, 0, 0, 2] : List Nat).getD k 0 = 2 at h
  rw [List.getD_eq_getElem?_getD, List.getElem?_eq_none z] at h
  exact absurd h (by decide)
theorem cM_0 {g j : Nat} (h : (g, j) ∈ cM) : j = 0 := (by decide : ∀ x ∈ cM, x.2 = 0) (g, j) h
theorem hm1 (σ : zG) (g j : Nat) (hg : (g, j) ∈ cM) : zSame zlyMK zlyM (kp_X12 σ) g j := zsmM fun k hk => by
  have g0 := tagM0 hk
  have j0 := cM_0 hg
  subst g0
  subst j0
  exact flM k (tag36 hk) hk σ
section MCT
variable {σ σ1 : zG}
def chkM (f : Nat) : Bool := match ztgM.getD f (.inl 0) with
  | .inl t => t == 0 || t == 1 || t == 2
  | .inr l => decide (l.length ≤ 40) && (List.range 40).all (fun k => l.getD k 0 == 0 || l.getD k 0 == 1 || l.getD k 0 == 2)
theorem chkM_ok : ∀ f, f < 15 → chkM f = true := by decide
theorem tagM01 (f k : Nat) : zlyM.2.1 f k = 0 ∨ zlyM.2.1 f k = 1 ∨ zlyM.2.1 f k = 2 := by
  show (match ztgM.getD f (.inl 0) with | .inl t => t | .inr l => l.getD k 0) = 0 ∨ (match ztgM.getD f (.inl 0) with | .inl t => t | .inr l => l.getD k 0) = 1 ∨ (match ztgM.getD f (.inl 0) with | .inl t => t | .inr l => l.getD k 0) = 2
  by_cases hf : f < 15
  · have hc := chkM_ok f hf
    unfold chkM at hc
    cases e : ztgM.getD f (.inl 0) with
    | inl t =>
      rw [e] at hc
      simp at hc
      show t = 0 ∨ t = 1 ∨ t = 2
      omega
    | inr l =>
      rw [e] at hc
      simp only [Bool.and_eq_true, decide_eq_true_eq, List.all_eq_true, List.mem_range] at hc
      show l.getD k 0 = 0 ∨ l.getD k 0 = 1 ∨ l.getD k 0 = 2
      by_cases hk : k < 40
      · have := hc.2 k hk
        simp only [Bool.or_eq_true, beq_iff_eq] at this
        omega
      · left
        rw [List.getD_eq_getElem?_getD, List.getElem?_eq_none (by omega)]
        rfl
  · have e : ztgM.getD f (.inl 0) = .inl 0 := by
      rw [List.getD_eq_getElem?_getD, List.getElem?_eq_none (by show 15 ≤ f; omega)]
      rfl
    rw [e]
    exact Or.inl rfl
theorem begins_fr {τ : zG} (h : f_X12_begins 6 4 τ = some σ1) : FrA arZ τ σ1 := by
  unfold f_X12_begins at h
  obtain ⟨t1, e1, f1⟩ := zlp_run (f := fun q : Int32 × zG => b_X12_begins_10 q.1 q.2) (a := ((0 : Int32), τ)) 9248 (fun v q => q.1 = nI v ∧ FrA arZ τ q.2) (fun t => FrA arZ τ t) ⟨rfl, FrA.refl _ _⟩ (by
    rintro v hv ⟨i, s⟩ ⟨hi, hf⟩
    right
    have hi' : i = nI v := hi
    subst hi'
    have hf' : FrA arZ τ s := hf
    refine ⟨(nI (v + 1), zwI s 1 0 v 0), ?_, rfl, hf'.w rfl⟩
    show b_X12_begins_10 (nI v) s = _
    unfold b_X12_begins_10
    rw [if_pos (show nI v < (9248 : Int32) from nI_lt (b := 9248) hv (by decide)), zin_ok hv (by decide), nI_clamp (show v < 2 ^ 31 by omega), nI_1]
    rfl) (by
    rintro ⟨i, s⟩ ⟨hi, hf⟩
    have hi' : i = nI 9248 := hi
    subst hi'
    refine ⟨s, ?_, hf⟩
    show b_X12_begins_10 (nI 9248) s = _
    unfold b_X12_begins_10
    rw [if_neg (show ¬ nI 9248 < (9248 : Int32) from nI_nlt (b := 9248) (Nat.le_refl 9248) (by decide))])
  rw [e1, Option.bind_some] at h
  simp only [zb] at h
  have f2 : FrA arZ τ (zwI (zwI (zwI (zwI (zwI (zwI t1 1 0 2 (τ.1 1 0 2)) 1 0 30 6) 1 0 31 4) 1 0 32 6) 1 0 34 5) 1 0 35 20) := (((((FrA.w f1 rfl).w rfl).w rfl).w rfl).w rfl).w rfl
  generalize zwI (zwI (zwI (zwI (zwI (zwI t1 1 0 2 (τ.1 1 0 2)) 1 0 30 6) 1 0 31 4) 1 0 32 6) 1 0 34 5) 1 0 35 20 = t2 at h f2
  obtain ⟨t3, e3, f3⟩ := zlp_run (f := fun q : Int32 × zG => b_X12_begins_83 q.1 q.2) (a := ((0 : Int32), t2)) 64 (fun v q => q.1 = nI v ∧ FrA arZ τ q.2) (fun t => FrA arZ τ t) ⟨rfl, f2⟩ (by
    rintro v hv ⟨i, s⟩ ⟨hi, hf⟩
    right
    have hi' : i = nI v := hi
    subst hi'
    have hf' : FrA arZ τ s := hf
    have e40 : (40 : Int32) + nI v = nI (40 + v) := nI_add 40 v
    refine ⟨(nI (v + 1), zwI s 1 0 (40 + v) (-1)), ?_, rfl, hf'.w rfl⟩
    show b_X12_begins_83 (nI v) s = _
    unfold b_X12_begins_83
    rw [if_pos (show nI v < (64 : Int32) from nI_lt (b := 64) hv (by decide)), e40, zin_ok (show 40 + v < 9248 by omega) (by decide), nI_clamp (show 40 + v < 2 ^ 31 by omega), nI_1]
    rfl) (by
    rintro ⟨i, s⟩ ⟨hi, hf⟩
    have hi' : i = nI 64 := hi
    subst hi'
    refine ⟨s, ?_, hf⟩
    show b_X12_begins_83 (nI 64) s = _
    unfold b_X12_begins_83
    rw [if_neg (show ¬ nI 64 < (64 : Int32) from nI_nlt (b := 64) (Nat.le_refl 64) (by decide))])
  rw [e3, Option.bind_some] at h
  have e := Option.some.inj h
  rw [← e]
  exact FrA.w f3 rfl
theorem arZ_fl {k : Nat} (j : Nat) (h : zlyM.2.1 0 k = 2) : arZ 0 j k = false := by
  have h3 : k ≠ 3 := fun z => by rw [z] at h; exact absurd h (by decide)
  unfold arZ
  simp [h3]
theorem hmk (h : f_X12_begins 6 4 (kp_X12 σ) = some σ1) (g j k : Nat) (h0 : zlyMK.2.1 g k ≠ 0) (h1 : zlyMK.2.1 g k ≠ 1) : σ1.1 g j k = (kp_X12 σ).1 g j k := by
  have h2 : zlyM.2.1 g k = 2 := by
    refine Classical.byContradiction fun h2 => ?_
    rw [tagM, if_neg h2] at h0 h1
    rcases tagM01 g k with z | z | z
    · exact h0 z
    · exact h1 z
    · exact h2 z
  have g0 := tagM0 h2
  subst g0
  exact (begins_fr h).1 0 j k (arZ_fl j h2)
theorem hm2 (h : f_X12_begins 6 4 (kp_X12 σ) = some σ1) (g j : Nat) (hg : (g, j) ∈ cM) : zSame zlyMK zlyM σ1 g j := zsmM fun k hk => by
  have g0 := tagM0 hk
  have j0 := cM_0 hg
  subst g0
  subst j0
  rw [(begins_fr h).1 0 0 k (arZ_fl 0 hk)]
  exact flM k (tag36 hk) hk σ
theorem hmn (h : f_X12_begins 6 4 (kp_X12 σ) = some σ1) (g j : Nat) (hg : (g, j) ∉ cM) (k : Nat) : σ1.1 g j k = (kp_X12 σ).1 g j k ∧ σ1.2 g j k = (kp_X12 σ).2 g j k := by
  refine ⟨(begins_fr h).1 g j k ?_, by rw [(begins_fr h).2]⟩
  have n1 : ¬ (g = 1 ∧ j = 0) := fun z => hg (by rw [z.1, z.2]; decide)
  have n0 : ¬ (g = 0 ∧ j = 0) := fun z => hg (by rw [z.1, z.2]; decide)
  unfold arZ
  simp
  exact ⟨fun z => fun y => n1 ⟨z, y⟩, fun z y => absurd ⟨z, y⟩ n0⟩
set_option maxRecDepth 100000 in
set_option maxHeartbeats 4000000 in
theorem ct_X12 (l : Launch) (h : f_X12_begins 6 4 (kp_X12 σ) = some σ1) : zCt l zsyMK mc_X12 yX12_init 0 0 [] nM σ σ1 14 26531 := by
  refine yEnter [(0, zR 0 0)] (by decide) rfl rfl (fun _ => Nat.le_of_ble_eq_true rfl) (fun _ => rfl) (fun w h => zokm rfl h) (fun K w hRm hQ => ?_)
  refine y_aload_n (pc := 0) 0 (zdg D_X12_init 0 (0, .aload_n 0, 1) rfl) rfl rfl ?_
  refine y_obj (pc := 1) ⟨wk_1397, wk_142, wk_143⟩ (fun _ _ _ _ _ _ _ _ _ _ _ _ h => by rw [hRm _ _ _ _ _ _ _ _ _ _ _ _ h]; exact ⟨by decide, by decide⟩) (zdg D_X12_init 1 (1, .invokespecial 1, 3) rfl) ?_
  refine y_aload_n (pc := 4) 0 (zdg D_X12_init 2 (4, .aload_n 0, 1) rfl) rfl rfl ?_
  refine y_sipush (pc := 5) (v := 9248) (zdg D_X12_init 3 (5, .sipush 9248, 3) rfl) rfl ?_
  refine y_newa (pc := 8) (f := 1) (i := 0) rfl (fun _ => Or.inl rfl) rfl (fun _ => rfl) (fun _ => rfl) (fun _ _ h => h) rfl rfl (by decide) wk_174 (fun _ _ _ _ _ _ _ _ _ _ _ _ h => by rw [hRm _ _ _ _ _ _ _ _ _ _ _ _ h]; exact ⟨by decide, by decide⟩) (zdg D_X12_init 4 (8, .newarray .int, 2) rfl) (fun w => ?_)
  refine y_putR (pc := 10) (k := 0) (ty := tyX12 0) ⟨RX12, TX12, 36, tyX12, rfl, ix_X12, Nat.le_of_ble_eq_true rfl, wk_1402, tyX12_ok, nmX12, rfl, rfl, by decide +kernel⟩ rfl rfl rfl (fun _ => ⟨rfl, rfl⟩) (zdg D_X12_init 5 (10, .putfield 7, 3) rfl) ?_
  refine y_aload_n (pc := 13) 0 (zdg D_X12_init 6 (13, .aload_n 0, 1) rfl) rfl rfl ?_
  refine y_sipush (pc := 14) (v := 9248) (zdg D_X12_init 7 (14, .sipush 9248, 3) rfl) rfl ?_
  refine y_newa (pc := 17) (f := 2) (i := 0) rfl (fun _ => Or.inl rfl) rfl (fun _ => rfl) (fun _ => rfl) (fun _ _ h => h) rfl rfl (by decide) wk_174 (fun _ _ _ _ _ _ _ _ _ _ _ _ h => by rw [hRm _ _ _ _ _ _ _ _ _ _ _ _ h]; exact ⟨by decide, by decide⟩) (zdg D_X12_init 8 (17, .newarray .int, 2) rfl) (fun w => ?_)
  refine y_putR (pc := 19) (k := 1) (ty := tyX12 1) ⟨RX12, TX12, 36, tyX12, rfl, ix_X12, Nat.le_of_ble_eq_true rfl, wk_1403, tyX12_ok, nmX12, rfl, rfl, by decide +kernel⟩ rfl rfl rfl (fun _ => ⟨rfl, rfl⟩) (zdg D_X12_init 9 (19, .putfield 13, 3) rfl) ?_
  refine y_aload_n (pc := 22) 0 (zdg D_X12_init 10 (22, .aload_n 0, 1) rfl) rfl rfl ?_
  refine y_sipush (pc := 23) (v := 180) (zdg D_X12_init 11 (23, .sipush 180, 3) rfl) rfl ?_
  refine y_newa (pc := 26) (f := 3) (i := 0) rfl (fun _ => Or.inl rfl) rfl (fun _ => rfl) (fun _ => rfl) (fun _ _ h => h) rfl rfl (by decide) wk_174 (fun _ _ _ _ _ _ _ _ _ _ _ _ h => by rw [hRm _ _ _ _ _ _ _ _ _ _ _ _ h]; exact ⟨by decide, by decide⟩) (zdg D_X12_init 12 (26, .newarray .int, 2) rfl) (fun w => ?_)
  refine y_putR (pc := 28) (k := 2) (ty := tyX12 2) ⟨RX12, TX12, 36, tyX12, rfl, ix_X12, Nat.le_of_ble_eq_true rfl, wk_1404, tyX12_ok, nmX12, rfl, rfl, by decide +kernel⟩ rfl rfl rfl (fun _ => ⟨rfl, rfl⟩) (zdg D_X12_init 13 (28, .putfield 16, 3) rfl) ?_
  refine y_aload_n (pc := 31) 0 (zdg D_X12_init 14 (31, .aload_n 0, 1) rfl) rfl rfl ?_
  refine y_bipush (pc := 32) (v := 48) (zdg D_X12_init 15 (32, .bipush 48, 2) rfl) rfl ?_
  refine y_newa (pc := 34) (f := 4) (i := 0) rfl (fun _ => Or.inl rfl) rfl (fun _ => rfl) (fun _ => rfl) (fun _ _ h => h) rfl rfl (by decide) wk_174 (fun _ _ _ _ _ _ _ _ _ _ _ _ h => by rw [hRm _ _ _ _ _ _ _ _ _ _ _ _ h]; exact ⟨by decide, by decide⟩) (zdg D_X12_init 16 (34, .newarray .int, 2) rfl) (fun w => ?_)
  refine y_putR (pc := 36) (k := 5) (ty := tyX12 5) ⟨RX12, TX12, 36, tyX12, rfl, ix_X12, Nat.le_of_ble_eq_true rfl, wk_1407, tyX12_ok, nmX12, rfl, rfl, by decide +kernel⟩ rfl rfl rfl (fun _ => ⟨rfl, rfl⟩) (zdg D_X12_init 17 (36, .putfield 19, 3) rfl) ?_
  refine y_aload_n (pc := 39) 0 (zdg D_X12_init 18 (39, .aload_n 0, 1) rfl) rfl rfl ?_
  refine y_sipush (pc := 40) (v := 820) (zdg D_X12_init 19 (40, .sipush 820, 3) rfl) rfl ?_
  refine y_newa (pc := 43) (f := 5) (i := 0) rfl (fun _ => Or.inl rfl) rfl (fun _ => rfl) (fun _ => rfl) (fun _ _ h => h) rfl rfl (by decide) wk_174 (fun _ _ _ _ _ _ _ _ _ _ _ _ h => by rw [hRm _ _ _ _ _ _ _ _ _ _ _ _ h]; exact ⟨by decide, by decide⟩) (zdg D_X12_init 20 (43, .newarray .int, 2) rfl) (fun w => ?_)
  refine y_putR (pc := 45) (k := 6) (ty := tyX12 6) ⟨RX12, TX12, 36, tyX12, rfl, ix_X12, Nat.le_of_ble_eq_true rfl, wk_1408, tyX12_ok, nmX12, rfl, rfl, by decide +kernel⟩ rfl rfl rfl (fun _ => ⟨rfl, rfl⟩) (zdg D_X12_init 21 (45, .putfield 22, 3) rfl) ?_
  refine y_aload_n (pc := 48) 0 (zdg D_X12_init 22 (48, .aload_n 0, 1) rfl) rfl rfl ?_
  refine y_bipush (pc := 49) (v := 48) (zdg D_X12_init 23 (49, .bipush 48, 2) rfl) rfl ?_
  refine y_newa (pc := 51) (f := 6) (i := 0) rfl (fun _ => Or.inl rfl) rfl (fun _ => rfl) (fun _ => rfl) (fun _ _ h => h) rfl rfl (by decide) wk_174 (fun _ _ _ _ _ _ _ _ _ _ _ _ h => by rw [hRm _ _ _ _ _ _ _ _ _ _ _ _ h]; exact ⟨by decide, by decide⟩) (zdg D_X12_init 24 (51, .newarray .int, 2) rfl) (fun w => ?_)
  refine y_putR (pc := 53) (k := 7) (ty := tyX12 7) ⟨RX12, TX12, 36, tyX12, rfl, ix_X12, Nat.le_of_ble_eq_true rfl, wk_1409, tyX12_ok, nmX12, rfl, rfl, by decide +kernel⟩ rfl rfl rfl (fun _ => ⟨rfl, rfl⟩) (zdg D_X12_init 25 (53, .putfield 25, 3) rfl) ?_
  refine y_aload_n (pc := 56) 0 (zdg D_X12_init 26 (56, .aload_n 0, 1) rfl) rfl rfl ?_
  refine y_sipush (pc := 57) (v := 6012) (zdg D_X12_init 27 (57, .sipush 6012, 3) rfl) rfl ?_
  refine y_newa (pc := 60) (f := 7) (i := 0) rfl (fun _ => Or.inl rfl) rfl (fun _ => rfl) (fun _ => rfl) (fun _ _ h => h) rfl rfl (by decide) wk_174 (fun _ _ _ _ _ _ _ _ _ _ _ _ h => by rw [hRm _ _ _ _ _ _ _ _ _ _ _ _ h]; exact ⟨by decide, by decide⟩) (zdg D_X12_init 28 (60, .newarray .int, 2) rfl) (fun w => ?_)
  refine y_putR (pc := 62) (k := 8) (ty := tyX12 8) ⟨RX12, TX12, 36, tyX12, rfl, ix_X12, Nat.le_of_ble_eq_true rfl, wk_1410, tyX12_ok, nmX12, rfl, rfl, by decide +kernel⟩ rfl rfl rfl (fun _ => ⟨rfl, rfl⟩) (zdg D_X12_init 29 (62, .putfield 28, 3) rfl) ?_
  refine y_aload_n (pc := 65) 0 (zdg D_X12_init 30 (65, .aload_n 0, 1) rfl) rfl rfl ?_
  refine y_sipush (pc := 66) (v := 400) (zdg D_X12_init 31 (66, .sipush 400, 3) rfl) rfl ?_
  refine y_newa (pc := 69) (f := 8) (i := 0) rfl (fun _ => Or.inl rfl) rfl (fun _ => rfl) (fun _ => rfl) (fun _ _ h => h) rfl rfl (by decide) wk_174 (fun _ _ _ _ _ _ _ _ _ _ _ _ h => by rw [hRm _ _ _ _ _ _ _ _ _ _ _ _ h]; exact ⟨by decide, by decide⟩) (zdg D_X12_init 32 (69, .newarray .int, 2) rfl) (fun w => ?_)
  refine y_putR (pc := 71) (k := 9) (ty := tyX12 9) ⟨RX12, TX12, 36, tyX12, rfl, ix_X12, Nat.le_of_ble_eq_true rfl, wk_1411, tyX12_ok, nmX12, rfl, rfl, by decide +kernel⟩ rfl rfl rfl (fun _ => ⟨rfl, rfl⟩) (zdg D_X12_init 33 (71, .putfield 31, 3) rfl) ?_
  refine y_aload_n (pc := 74) 0 (zdg D_X12_init 34 (74, .aload_n 0, 1) rfl) rfl rfl ?_
  refine y_sipush (pc := 75) (v := 420) (zdg D_X12_init 35 (75, .sipush 420, 3) rfl) rfl ?_
  refine y_newa (pc := 78) (f := 9) (i := 0) rfl (fun _ => Or.inl rfl) rfl (fun _ => rfl) (fun _ => rfl) (fun _ _ h => h) rfl rfl (by decide) wk_174 (fun _ _ _ _ _ _ _ _ _ _ _ _ h => by rw [hRm _ _ _ _ _ _ _ _ _ _ _ _ h]; exact ⟨by decide, by decide⟩) (zdg D_X12_init 36 (78, .newarray .int, 2) rfl) (fun w => ?_)
  refine y_putR (pc := 80) (k := 10) (ty := tyX12 10) ⟨RX12, TX12, 36, tyX12, rfl, ix_X12, Nat.le_of_ble_eq_true rfl, wk_1412, tyX12_ok, nmX12, rfl, rfl, by decide +kernel⟩ rfl rfl rfl (fun _ => ⟨rfl, rfl⟩) (zdg D_X12_init 37 (80, .putfield 34, 3) rfl) ?_
  refine y_aload_n (pc := 83) 0 (zdg D_X12_init 38 (83, .aload_n 0, 1) rfl) rfl rfl ?_
  refine y_bipush (pc := 84) (v := 9) (zdg D_X12_init 39 (84, .bipush 9, 2) rfl) rfl ?_
  refine y_newa (pc := 86) (f := 10) (i := 0) rfl (fun _ => Or.inl rfl) rfl (fun _ => rfl) (fun _ => rfl) (fun _ _ h => h) rfl rfl (by decide) wk_174 (fun _ _ _ _ _ _ _ _ _ _ _ _ h => by rw [hRm _ _ _ _ _ _ _ _ _ _ _ _ h]; exact ⟨by decide, by decide⟩) (zdg D_X12_init 40 (86, .newarray .int, 2) rfl) (fun w => ?_)
  refine y_putR (pc := 88) (k := 11) (ty := tyX12 11) ⟨RX12, TX12, 36, tyX12, rfl, ix_X12, Nat.le_of_ble_eq_true rfl, wk_1413, tyX12_ok, nmX12, rfl, rfl, by decide +kernel⟩ rfl rfl rfl (fun _ => ⟨rfl, rfl⟩) (zdg D_X12_init 41 (88, .putfield 37, 3) rfl) ?_
  refine y_aload_n (pc := 91) 0 (zdg D_X12_init 42 (91, .aload_n 0, 1) rfl) rfl rfl ?_
  refine y_iconst (pc := 92) (v := -1) (zdg D_X12_init 43 (92, .iconst (-1), 1) rfl) rfl ?_
  refine y_putI (pc := 93) (k := 25) (ty := .int) ⟨RX12, TX12, 36, tyX12, rfl, ix_X12, Nat.le_of_ble_eq_true rfl, wk_1427, tyX12_ok, nmX12, rfl, by decide +kernel⟩ rfl rfl rfl rfl (zdg D_X12_init 44 (93, .putfield 40, 3) rfl) ?_
  refine y_aload_n (pc := 96) 0 (zdg D_X12_init 45 (96, .aload_n 0, 1) rfl) rfl rfl ?_
  refine y_bipush (pc := 97) (v := 10) (zdg D_X12_init 46 (97, .bipush 10, 2) rfl) rfl ?_
  refine y_newa (pc := 99) (f := 11) (i := 0) rfl (fun _ => Or.inr rfl) rfl (fun _ => rfl) (fun _ => rfl) (fun _ _ h => h) rfl rfl (by decide) wk_236 (fun _ _ _ _ _ _ _ _ _ _ _ _ h => by rw [hRm _ _ _ _ _ _ _ _ _ _ _ _ h]; exact ⟨by decide, by decide⟩) (zdg D_X12_init 47 (99, .newarray .long, 2) rfl) (fun w => ?_)
  refine y_putR (pc := 101) (k := 29) (ty := tyX12 29) ⟨RX12, TX12, 36, tyX12, rfl, ix_X12, Nat.le_of_ble_eq_true rfl, wk_1431, tyX12_ok, nmX12, rfl, rfl, by decide +kernel⟩ rfl rfl rfl (fun _ => ⟨rfl, rfl⟩) (zdg D_X12_init 48 (101, .putfield 44, 3) rfl) ?_
  refine y_aload_n (pc := 104) 0 (zdg D_X12_init 49 (104, .aload_n 0, 1) rfl) rfl rfl ?_
  refine y_bipush (pc := 105) (v := 10) (zdg D_X12_init 50 (105, .bipush 10, 2) rfl) rfl ?_
  refine y_newa (pc := 107) (f := 12) (i := 0) rfl (fun _ => Or.inl rfl) rfl (fun _ => rfl) (fun _ => rfl) (fun _ _ h => h) rfl rfl (by decide) wk_174 (fun _ _ _ _ _ _ _ _ _ _ _ _ h => by rw [hRm _ _ _ _ _ _ _ _ _ _ _ _ h]; exact ⟨by decide, by decide⟩) (zdg D_X12_init 51 (107, .newarray .int, 2) rfl) (fun w => ?_)
  refine y_putR (pc := 109) (k := 30) (ty := tyX12 30) ⟨RX12, TX12, 36, tyX12, rfl, ix_X12, Nat.le_of_ble_eq_true rfl, wk_1432, tyX12_ok, nmX12, rfl, rfl, by decide +kernel⟩ rfl rfl rfl (fun _ => ⟨rfl, rfl⟩) (zdg D_X12_init 52 (109, .putfield 48, 3) rfl) ?_
  refine y_aload_n (pc := 112) 0 (zdg D_X12_init 53 (112, .aload_n 0, 1) rfl) rfl rfl ?_
  refine y_bipush (pc := 113) (v := 17) (zdg D_X12_init 54 (113, .bipush 17, 2) rfl) rfl ?_
  refine y_newa (pc := 115) (f := 13) (i := 0) rfl (fun _ => Or.inl rfl) rfl (fun _ => rfl) (fun _ => rfl) (fun _ _ h => h) rfl rfl (by decide) wk_174 (fun _ _ _ _ _ _ _ _ _ _ _ _ h => by rw [hRm _ _ _ _ _ _ _ _ _ _ _ _ h]; exact ⟨by decide, by decide⟩) (zdg D_X12_init 55 (115, .newarray .int, 2) rfl) (fun w => ?_)
  refine y_putR (pc := 117) (k := 32) (ty := tyX12 32) ⟨RX12, TX12, 36, tyX12, rfl, ix_X12, Nat.le_of_ble_eq_true rfl, wk_1434, tyX12_ok, nmX12, rfl, rfl, by decide +kernel⟩ rfl rfl rfl (fun _ => ⟨rfl, rfl⟩) (zdg D_X12_init 56 (117, .putfield 51, 3) rfl) ?_
  refine y_aload_n (pc := 120) 0 (zdg D_X12_init 57 (120, .aload_n 0, 1) rfl) rfl rfl ?_
  refine y_bipush (pc := 121) (v := 61) (zdg D_X12_init 58 (121, .bipush 61, 2) rfl) rfl ?_
  refine y_newa (pc := 123) (f := 14) (i := 0) rfl (fun _ => Or.inr rfl) rfl (fun _ => rfl) (fun _ => rfl) (fun _ _ h => h) rfl rfl (by decide) wk_236 (fun _ _ _ _ _ _ _ _ _ _ _ _ h => by rw [hRm _ _ _ _ _ _ _ _ _ _ _ _ h]; exact ⟨by decide, by decide⟩) (zdg D_X12_init 59 (123, .newarray .long, 2) rfl) (fun w => ?_)
  refine y_putR (pc := 125) (k := 35) (ty := tyX12 35) ⟨RX12, TX12, 36, tyX12, rfl, ix_X12, Nat.le_of_ble_eq_true rfl, wk_1437, tyX12_ok, nmX12, rfl, rfl, by decide +kernel⟩ rfl rfl rfl (fun _ => ⟨rfl, rfl⟩) (zdg D_X12_init 60 (125, .putfield 54, 3) rfl) ?_
  refine y_aload_n (pc := 128) 0 (zdg D_X12_init 61 (128, .aload_n 0, 1) rfl) rfl rfl ?_
  refine y_bipush (pc := 129) (v := 6) (zdg D_X12_init 62 (129, .bipush 6, 2) rfl) rfl ?_
  refine y_iconst (pc := 131) (v := 4) (zdg D_X12_init 63 (131, .iconst 4, 1) rfl) rfl ?_
  refine y_callX (pc := 132) (rest := []) (av := [zI 6, zI 4]) (f := 0) (i := 0) (syN := zsyM) (fun g j => (g, j) ∈ cM) (fun l => c_X12_begins l 6 4 _ σ1 h) zv_X12_begins lm_X12_57 rfl rfl rfl rfl rfl (by decide) rfl rfl rfl rfl rfl (by decide) (fun a ha w => by simp at ha; rcases ha with rfl | rfl <;> trivial) (fun g j hg => hm1 σ g j hg) (fun g j hg => hm2 h g j hg) zlyM_sz (fun g j k t _ h1 h2 => zrfM_in g j k t h2) (fun g j hg k => hmn h g j hg k) (fun x hx => by cases hx) (fun g j k hg h0 h1 => hmk h g j k h0 h1) (fun _ _ _ _ _ _ _ _ _ _ _ _ h => by rw [hRm _ _ _ _ _ _ _ _ _ _ _ _ h]; exact ⟨⟨by decide, by decide⟩, by decide, by decide⟩) (zdg D_X12_init 64 (132, .invokevirtual 57, 3) rfl) ?_
  exact y_vret (pc := 135) rfl hQ (zdg D_X12_init 65 (135, .return_, 1) rfl)
end MCT
