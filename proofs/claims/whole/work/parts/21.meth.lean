/-! METHODS, by program: functions and contracts -/
def L_X1_copyFrom : List (Nat × Instr × Nat) := [(0, .aload_n 0, 1), (1, .aload_n 1, 1), (2, .getfield 57, 3), (5, .putfield 57, 3), (8, .aload_n 0, 1), (9, .aload_n 1, 1), (10, .getfield 61, 3), (13, .putfield 61, 3), (16, .aload_n 0, 1), (17, .aload_n 1, 1), (18, .getfield 99, 3), (21, .putfield 99, 3), (24, .aload_n 0, 1), (25, .aload_n 1, 1), (26, .getfield 64, 3), (29, .putfield 64, 3), (32, .aload_n 0, 1), (33, .aload_n 1, 1), (34, .getfield 67, 3), (37, .putfield 67, 3), (40, .aload_n 0, 1), (41, .aload_n 1, 1), (42, .getfield 70, 3), (45, .putfield 70, 3), (48, .aload_n 0, 1), (49, .aload_n 1, 1), (50, .getfield 73, 3), (53, .putfield 73, 3), (56, .aload_n 0, 1), (57, .aload_n 1, 1), (58, .getfield 76, 3), (61, .putfield 76, 3), (64, .aload_n 0, 1), (65, .aload_n 1, 1), (66, .getfield 79, 3), (69, .putfield 79, 3), (72, .aload_n 0, 1), (73, .aload_n 1, 1), (74, .getfield 82, 3), (77, .putfield 82, 3), (80, .aload_n 0, 1), (81, .getfield 12, 3), (84, .aload_n 1, 1), (85, .getfield 12, 3), (88, .invokevirtual 102, 3), (91, .aload_n 0, 1), (92, .getfield 21, 3), (95, .aload_n 1, 1), (96, .getfield 21, 3), (99, .invokevirtual 106, 3), (102, .aload_n 0, 1), (103, .getfield 28, 3), (106, .aload_n 1, 1), (107, .getfield 28, 3), (110, .invokevirtual 109, 3), (113, .aload_n 0, 1), (114, .getfield 35, 3), (117, .aload_n 1, 1), (118, .getfield 35, 3), (121, .invokevirtual 112, 3), (124, .aload_n 0, 1), (125, .getfield 39, 3), (128, .aload_n 1, 1), (129, .getfield 39, 3), (132, .invokevirtual 112, 3), (135, .iconst 0, 1), (136, .istore_n 2, 1), (137, .iload_n 2, 1), (138, .aload_n 0, 1), (139, .getfield 82, 3), (142, .if_icmp .ge 30, 3), (145, .iload_n 2, 1), (146, .bipush 10, 2), (148, .if_icmp .ge 24, 3), (151, .aload_n 0, 1), (152, .getfield 44, 3), (155, .iload_n 2, 1), (156, .aaload, 1), (157, .aload_n 1, 1), (158, .getfield 44, 3), (161, .iload_n 2, 1), (162, .aaload, 1), (163, .invokevirtual 115, 3), (166, .iinc 2 1, 3), (169, .goto (-32), 3), (172, .aload_n 1, 1), (173, .getfield 48, 3), (176, .iconst 0, 1), (177, .aload_n 0, 1), (178, .getfield 48, 3), (181, .iconst 0, 1), (182, .bipush 56, 2), (184, .invokestatic 118, 3), (187, .return_, 1)]
set_option maxRecDepth 100000 in
theorem D_X1_copyFrom : zdecs cX1_copyFrom L_X1_copyFrom = true := by decide +kernel
noncomputable def b_X1_copyFrom_137 (i : Nat) (p1 : Nat) (v2_16 : Int32) (s17 : zG) : Option ((Int32 × zG) ⊕ (zG)) :=
  if v2_16 < (s17.1 1 i 9) then if v2_16 < (10 : Int32) then zg (zin v2_16 10) (zg (zin v2_16 10) (zb (f_X6_copyFrom (10 * i + v2_16.toNatClampNeg) (10 * p1 + v2_16.toNatClampNeg) s17) (fun s18 => some (Sum.inl ((v2_16 + 1), s18))))) else some (Sum.inr s17) else some (Sum.inr s17)
noncomputable def j_X1_copyFrom_172 (p1 : Nat) (i : Nat) (s20 : zG) : Option (zG) :=
  zb (zcpI s20 32 p1 32 i 56) (fun s21 => some s21)
noncomputable def f_X1_copyFrom (i : Nat) (p1 : Nat) (σ : zG) : Option (zG) :=
  zb (zwI σ 1 i 0 (σ.1 1 p1 0)) (fun s1 => zb (zwI s1 1 i 1 (s1.1 1 p1 1)) (fun s2 => zb (zwI s2 1 i 2 (s2.1 1 p1 2)) (fun s3 => zb (zwI s3 1 i 3 (s3.1 1 p1 3)) (fun s4 => zb (zwI s4 1 i 4 (s4.1 1 p1 4)) (fun s5 => zb (zwI s5 1 i 5 (s5.1 1 p1 5)) (fun s6 => zb (zwI s6 1 i 6 (s6.1 1 p1 6)) (fun s7 => zb (zwI s7 1 i 7 (s7.1 1 p1 7)) (fun s8 => zb (zwI s8 1 i 8 (s8.1 1 p1 8)) (fun s9 => zb (zwI s9 1 i 9 (s9.1 1 p1 9)) (fun s10 => zb (f_X7_copyFrom (7 * i) (7 * p1) s10) (fun s11 => zb (f_X10_copyFrom (2 * i) (2 * p1) s11) (fun s12 => zb (f_X5_copyFrom i p1 s12) (fun s13 => zb (f_X3_copyFrom (3 * i) (3 * p1) s13) (fun s14 => zb (f_X3_copyFrom (3 * i + 1) (3 * p1 + 1) s14) (fun s15 => (zlp (fun q : Int32 × zG => b_X1_copyFrom_137 i p1 q.1 q.2) ((0 : Int32), s15)).bind (fun e19 : zG => j_X1_copyFrom_172 p1 i e19))))))))))))))))
set_option maxRecDepth 100000 in
set_option maxHeartbeats 4000000 in
theorem c_X1_copyFrom (l : Launch) (i : Nat) (p1 : Nat) (σ : zG) (q : zG) (hq : f_X1_copyFrom i p1 σ = some q) : zMet l zsyC m_X1_copyFrom yX1_copyFrom [zR 1 i, zR 1 p1] σ none q := by
  refine zEnter [(0, zR 1 i), (1, zR 1 p1)] (by decide) rfl (fun _ => Nat.le_of_ble_eq_true rfl) (fun _ => rfl) (fun w h => ?_) (fun K hv hs => ?_)
  · exact zokm rfl h
  · have hP : ∀ s, f_X1_copyFrom i p1 σ = some s → zKv K = none ∧ zKs K = s := fun s h => by rw [hq] at h; cases h; exact ⟨hv, hs⟩
    have hn : f_X1_copyFrom i p1 σ ≠ none := fun z => by rw [hq] at z; cases z
    have hf := f_X1_copyFrom.eq_1 i p1 σ
    have t_172 : ∀ (s20 : zG), f_X1_copyFrom i p1 σ = j_X1_copyFrom_172 p1 i s20 → zX zsyC m_X1_copyFrom K 172 [(0, zR 1 i), (1, zR 1 p1)] [] s20 := by
      intro s20 hf
      replace hf := hf.trans (j_X1_copyFrom_172.eq_1 p1 i s20)
      refine z_aload_n (pc := 172) 1 (zdg D_X1_copyFrom 85 (172, .aload_n 1, 1) rfl) rfl rfl ?_
      refine z_getR (pc := 173) (g := 32) (j := p1) lf_X1_48 rfl rfl rfl (zdg D_X1_copyFrom 86 (173, .getfield 48, 3) rfl) ?_
      refine z_iconst (pc := 176) (v := 0) (zdg D_X1_copyFrom 87 (176, .iconst 0, 1) rfl) rfl ?_
      refine z_aload_n (pc := 177) 0 (zdg D_X1_copyFrom 88 (177, .aload_n 0, 1) rfl) rfl rfl ?_
      refine z_getR (pc := 178) (g := 32) (j := i) lf_X1_48 rfl rfl rfl (zdg D_X1_copyFrom 89 (178, .getfield 48, 3) rfl) ?_
      refine z_iconst (pc := 181) (v := 0) (zdg D_X1_copyFrom 90 (181, .iconst 0, 1) rfl) rfl ?_
      refine z_bipush (pc := 182) (v := 56) (zdg D_X1_copyFrom 91 (182, .bipush 56, 2) rfl) rfl ?_
      refine z_copyI (pc := 184) (n := 56) (ty := .int) lm_X1_118 rfl rfl (fun _ => rfl) (fun _ => rfl) rfl rfl rfl (Nat.le_of_ble_eq_true rfl) (Nat.le_of_ble_eq_true rfl) (zdg D_X1_copyFrom 92 (184, .invokestatic 118, 3) rfl) ?_
      refine z_nmS hf (fun s21 hf => ?_)
      exact z_vret (pc := 187) rfl (zdg D_X1_copyFrom 93 (187, .return_, 1) rfl) (hP _ hf)
    refine z_aload_n (pc := 0) 0 (zdg D_X1_copyFrom 0 (0, .aload_n 0, 1) rfl) rfl rfl ?_
    refine z_aload_n (pc := 1) 1 (zdg D_X1_copyFrom 1 (1, .aload_n 1, 1) rfl) rfl rfl ?_
    refine z_getI (pc := 2) lf_X1_57 rfl rfl (zdg D_X1_copyFrom 2 (2, .getfield 57, 3) rfl) ?_
    refine z_putI (pc := 5) lw_X1_57 rfl rfl rfl rfl (zdg D_X1_copyFrom 3 (5, .putfield 57, 3) rfl) ?_
    refine z_nmS hf (fun s1 hf => ?_)
    refine z_aload_n (pc := 8) 0 (zdg D_X1_copyFrom 4 (8, .aload_n 0, 1) rfl) rfl rfl ?_
    refine z_aload_n (pc := 9) 1 (zdg D_X1_copyFrom 5 (9, .aload_n 1, 1) rfl) rfl rfl ?_
    refine z_getI (pc := 10) lf_X1_61 rfl rfl (zdg D_X1_copyFrom 6 (10, .getfield 61, 3) rfl) ?_
    refine z_putI (pc := 13) lw_X1_61 rfl rfl rfl rfl (zdg D_X1_copyFrom 7 (13, .putfield 61, 3) rfl) ?_
    refine z_nmS hf (fun s2 hf => ?_)
    refine z_aload_n (pc := 16) 0 (zdg D_X1_copyFrom 8 (16, .aload_n 0, 1) rfl) rfl rfl ?_
    refine z_aload_n (pc := 17) 1 (zdg D_X1_copyFrom 9 (17, .aload_n 1, 1) rfl) rfl rfl ?_
    refine z_getI (pc := 18) lf_X1_99 rfl rfl (zdg D_X1_copyFrom 10 (18, .getfield 99, 3) rfl) ?_
    refine z_putI (pc := 21) lw_X1_99 rfl rfl rfl rfl (zdg D_X1_copyFrom 11 (21, .putfield 99, 3) rfl) ?_
    refine z_nmS hf (fun s3 hf => ?_)
    refine z_aload_n (pc := 24) 0 (zdg D_X1_copyFrom 12 (24, .aload_n 0, 1) rfl) rfl rfl ?_
    refine z_aload_n (pc := 25) 1 (zdg D_X1_copyFrom 13 (25, .aload_n 1, 1) rfl) rfl rfl ?_
    refine z_getI (pc := 26) lf_X1_64 rfl rfl (zdg D_X1_copyFrom 14 (26, .getfield 64, 3) rfl) ?_
    refine z_putI (pc := 29) lw_X1_64 rfl rfl rfl rfl (zdg D_X1_copyFrom 15 (29, .putfield 64, 3) rfl) ?_
    refine z_nmS hf (fun s4 hf => ?_)
    refine z_aload_n (pc := 32) 0 (zdg D_X1_copyFrom 16 (32, .aload_n 0, 1) rfl) rfl rfl ?_
    refine z_aload_n (pc := 33) 1 (zdg D_X1_copyFrom 17 (33, .aload_n 1, 1) rfl) rfl rfl ?_
    refine z_getI (pc := 34) lf_X1_67 rfl rfl (zdg D_X1_copyFrom 18 (34, .getfield 67, 3) rfl) ?_
    refine z_putI (pc := 37) lw_X1_67 rfl rfl rfl rfl (zdg D_X1_copyFrom 19 (37, .putfield 67, 3) rfl) ?_
    refine z_nmS hf (fun s5 hf => ?_)
    refine z_aload_n (pc := 40) 0 (zdg D_X1_copyFrom 20 (40, .aload_n 0, 1) rfl) rfl rfl ?_
    refine z_aload_n (pc := 41) 1 (zdg D_X1_copyFrom 21 (41, .aload_n 1, 1) rfl) rfl rfl ?_
    refine z_getI (pc := 42) lf_X1_70 rfl rfl (zdg D_X1_copyFrom 22 (42, .getfield 70, 3) rfl) ?_
    refine z_putI (pc := 45) lw_X1_70 rfl rfl rfl rfl (zdg D_X1_copyFrom 23 (45, .putfield 70, 3) rfl) ?_
    refine z_nmS hf (fun s6 hf => ?_)
    refine z_aload_n (pc := 48) 0 (zdg D_X1_copyFrom 24 (48, .aload_n 0, 1) rfl) rfl rfl ?_
    refine z_aload_n (pc := 49) 1 (zdg D_X1_copyFrom 25 (49, .aload_n 1, 1) rfl) rfl rfl ?_
    refine z_getI (pc := 50) lf_X1_73 rfl rfl (zdg D_X1_copyFrom 26 (50, .getfield 73, 3) rfl) ?_
    refine z_putI (pc := 53) lw_X1_73 rfl rfl rfl rfl (zdg D_X1_copyFrom 27 (53, .putfield 73, 3) rfl) ?_
    refine z_nmS hf (fun s7 hf => ?_)
    refine z_aload_n (pc := 56) 0 (zdg D_X1_copyFrom 28 (56, .aload_n 0, 1) rfl) rfl rfl ?_
    refine z_aload_n (pc := 57) 1 (zdg D_X1_copyFrom 29 (57, .aload_n 1, 1) rfl) rfl rfl ?_
    refine z_getI (pc := 58) lf_X1_76 rfl rfl (zdg D_X1_copyFrom 30 (58, .getfield 76, 3) rfl) ?_
    refine z_putI (pc := 61) lw_X1_76 rfl rfl rfl rfl (zdg D_X1_copyFrom 31 (61, .putfield 76, 3) rfl) ?_
    refine z_nmS hf (fun s8 hf => ?_)
    refine z_aload_n (pc := 64) 0 (zdg D_X1_copyFrom 32 (64, .aload_n 0, 1) rfl) rfl rfl ?_
    refine z_aload_n (pc := 65) 1 (zdg D_X1_copyFrom 33 (65, .aload_n 1, 1) rfl) rfl rfl ?_
    refine z_getI (pc := 66) lf_X1_79 rfl rfl (zdg D_X1_copyFrom 34 (66, .getfield 79, 3) rfl) ?_
    refine z_putI (pc := 69) lw_X1_79 rfl rfl rfl rfl (zdg D_X1_copyFrom 35 (69, .putfield 79, 3) rfl) ?_
    refine z_nmS hf (fun s9 hf => ?_)
    refine z_aload_n (pc := 72) 0 (zdg D_X1_copyFrom 36 (72, .aload_n 0, 1) rfl) rfl rfl ?_
    refine z_aload_n (pc := 73) 1 (zdg D_X1_copyFrom 37 (73, .aload_n 1, 1) rfl) rfl rfl ?_
    refine z_getI (pc := 74) lf_X1_82 rfl rfl (zdg D_X1_copyFrom 38 (74, .getfield 82, 3) rfl) ?_
    refine z_putI (pc := 77) lw_X1_82 rfl rfl rfl rfl (zdg D_X1_copyFrom 39 (77, .putfield 82, 3) rfl) ?_
    refine z_nmS hf (fun s10 hf => ?_)
    refine z_aload_n (pc := 80) 0 (zdg D_X1_copyFrom 40 (80, .aload_n 0, 1) rfl) rfl rfl ?_
    refine z_getR (pc := 81) (g := 7) (j := 7 * i) lf_X1_12 rfl rfl rfl (zdg D_X1_copyFrom 41 (81, .getfield 12, 3) rfl) ?_
    refine z_aload_n (pc := 84) 1 (zdg D_X1_copyFrom 42 (84, .aload_n 1, 1) rfl) rfl rfl ?_
    refine z_getR (pc := 85) (g := 7) (j := 7 * p1) lf_X1_12 rfl rfl rfl (zdg D_X1_copyFrom 43 (85, .getfield 12, 3) rfl) ?_
    refine z_callV (pc := 88) (rest := []) (st2 := []) (fun l => c_X7_copyFrom l (7 * i) (7 * p1) s10) zv_X7_copyFrom lm_X1_102 rfl rfl rfl rfl rfl rfl (Nat.le_of_ble_eq_true rfl) ⟨Nat.le_of_ble_eq_true rfl, Nat.le_of_ble_eq_true rfl⟩ (zdg D_X1_copyFrom 44 (88, .invokevirtual 102, 3) rfl) ?_
    refine z_nmS hf (fun s11 hf => ?_)
    refine z_aload_n (pc := 91) 0 (zdg D_X1_copyFrom 45 (91, .aload_n 0, 1) rfl) rfl rfl ?_
    refine z_getR (pc := 92) (g := 8) (j := 2 * i) lf_X1_21 rfl rfl rfl (zdg D_X1_copyFrom 46 (92, .getfield 21, 3) rfl) ?_
    refine z_aload_n (pc := 95) 1 (zdg D_X1_copyFrom 47 (95, .aload_n 1, 1) rfl) rfl rfl ?_
    refine z_getR (pc := 96) (g := 8) (j := 2 * p1) lf_X1_21 rfl rfl rfl (zdg D_X1_copyFrom 48 (96, .getfield 21, 3) rfl) ?_
    refine z_callV (pc := 99) (rest := []) (st2 := []) (fun l => c_X10_copyFrom l (2 * i) (2 * p1) s11) zv_X10_copyFrom lm_X1_106 rfl rfl rfl rfl rfl rfl (Nat.le_of_ble_eq_true rfl) ⟨Nat.le_of_ble_eq_true rfl, Nat.le_of_ble_eq_true rfl⟩ (zdg D_X1_copyFrom 49 (99, .invokevirtual 106, 3) rfl) ?_
    refine z_nmS hf (fun s12 hf => ?_)
    refine z_aload_n (pc := 102) 0 (zdg D_X1_copyFrom 50 (102, .aload_n 0, 1) rfl) rfl rfl ?_
    refine z_getR (pc := 103) (g := 9) (j := i) lf_X1_28 rfl rfl rfl (zdg D_X1_copyFrom 51 (103, .getfield 28, 3) rfl) ?_
    refine z_aload_n (pc := 106) 1 (zdg D_X1_copyFrom 52 (106, .aload_n 1, 1) rfl) rfl rfl ?_
    refine z_getR (pc := 107) (g := 9) (j := p1) lf_X1_28 rfl rfl rfl (zdg D_X1_copyFrom 53 (107, .getfield 28, 3) rfl) ?_
    refine z_callV (pc := 110) (rest := []) (st2 := []) (fun l => c_X5_copyFrom l i p1 s12) zv_X5_copyFrom lm_X1_109 rfl rfl rfl rfl rfl rfl (Nat.le_of_ble_eq_true rfl) ⟨Nat.le_of_ble_eq_true rfl, Nat.le_of_ble_eq_true rfl⟩ (zdg D_X1_copyFrom 54 (110, .invokevirtual 109, 3) rfl) ?_
    refine z_nmS hf (fun s13 hf => ?_)
    refine z_aload_n (pc := 113) 0 (zdg D_X1_copyFrom 55 (113, .aload_n 0, 1) rfl) rfl rfl ?_
    refine z_getR (pc := 114) (g := 10) (j := 3 * i) lf_X1_35 rfl rfl rfl (zdg D_X1_copyFrom 56 (114, .getfield 35, 3) rfl) ?_
    refine z_aload_n (pc := 117) 1 (zdg D_X1_copyFrom 57 (117, .aload_n 1, 1) rfl) rfl rfl ?_
    refine z_getR (pc := 118) (g := 10) (j := 3 * p1) lf_X1_35 rfl rfl rfl (zdg D_X1_copyFrom 58 (118, .getfield 35, 3) rfl) ?_
    refine z_callV (pc := 121) (rest := []) (st2 := []) (fun l => c_X3_copyFrom l (3 * i) (3 * p1) s13) zv_X3_copyFrom lm_X1_112 rfl rfl rfl rfl rfl rfl (Nat.le_of_ble_eq_true rfl) ⟨Nat.le_of_ble_eq_true rfl, Nat.le_of_ble_eq_true rfl⟩ (zdg D_X1_copyFrom 59 (121, .invokevirtual 112, 3) rfl) ?_
    refine z_nmS hf (fun s14 hf => ?_)
    refine z_aload_n (pc := 124) 0 (zdg D_X1_copyFrom 60 (124, .aload_n 0, 1) rfl) rfl rfl ?_
    refine z_getR (pc := 125) (g := 10) (j := 3 * i + 1) lf_X1_39 rfl rfl rfl (zdg D_X1_copyFrom 61 (125, .getfield 39, 3) rfl) ?_
    refine z_aload_n (pc := 128) 1 (zdg D_X1_copyFrom 62 (128, .aload_n 1, 1) rfl) rfl rfl ?_
    refine z_getR (pc := 129) (g := 10) (j := 3 * p1 + 1) lf_X1_39 rfl rfl rfl (zdg D_X1_copyFrom 63 (129, .getfield 39, 3) rfl) ?_
    refine z_callV (pc := 132) (rest := []) (st2 := []) (fun l => c_X3_copyFrom l (3 * i + 1) (3 * p1 + 1) s14) zv_X3_copyFrom lm_X1_112 rfl rfl rfl rfl rfl rfl (Nat.le_of_ble_eq_true rfl) ⟨Nat.le_of_ble_eq_true rfl, Nat.le_of_ble_eq_true rfl⟩ (zdg D_X1_copyFrom 64 (132, .invokevirtual 112, 3) rfl) ?_
    refine z_nmS hf (fun s15 hf => ?_)
    refine z_iconst (pc := 135) (v := 0) (zdg D_X1_copyFrom 65 (135, .iconst 0, 1) rfl) rfl ?_
    refine z_istore_n (pc := 136) (al' := [(2, zI (0 : Int32)), (0, zR 1 i), (1, zR 1 p1)]) (zdg D_X1_copyFrom 66 (136, .istore_n 2, 1) rfl) rfl (by decide) rfl ?_
    refine z_sub (al' := [(0, zR 1 i), (1, zR 1 p1), (2, zI (0 : Int32))]) [1, 2, 0] rfl ?_
    refine z_loop (f := (fun q : Int32 × zG => b_X1_copyFrom_137 i p1 q.1 q.2)) (a := ((0 : Int32), s15)) (fun q : Int32 × zG => zX zsyC m_X1_copyFrom K 137 [(0, zR 1 i), (1, zR 1 p1), (2, zI q.1)] [] q.2) (fun e19 : zG => zX zsyC m_X1_copyFrom K 172 [(0, zR 1 i), (1, zR 1 p1)] [] e19) hn hf ?_ ?_
    · intro e19 hf
      exact t_172 e19 hf
    · rintro ⟨v2_16, s17⟩ hn hi hx
      have hf := b_X1_copyFrom_137.eq_1 i p1 v2_16 s17
      refine z_iload_n (pc := 137) 2 (zdg D_X1_copyFrom 67 (137, .iload_n 2, 1) rfl) rfl rfl ?_
      refine z_aload_n (pc := 138) 0 (zdg D_X1_copyFrom 68 (138, .aload_n 0, 1) rfl) rfl rfl ?_
      refine z_getI (pc := 139) lf_X1_82 rfl rfl (zdg D_X1_copyFrom 69 (139, .getfield 82, 3) rfl) ?_
      refine z_icmp_ge (pc := 142) 172 (zdg D_X1_copyFrom 70 (142, .if_icmp .ge 30, 3) rfl) rfl hf (fun hf => ?_) (fun hf => ?_)
      · refine z_sub (al' := [(0, zR 1 i), (1, zR 1 p1)]) [0, 1] rfl ?_
        exact hx s17 hf
      · refine z_iload_n (pc := 145) 2 (zdg D_X1_copyFrom 71 (145, .iload_n 2, 1) rfl) rfl rfl ?_
        refine z_bipush (pc := 146) (v := 10) (zdg D_X1_copyFrom 72 (146, .bipush 10, 2) rfl) rfl ?_
        refine z_icmp_ge (pc := 148) 172 (zdg D_X1_copyFrom 73 (148, .if_icmp .ge 24, 3) rfl) rfl hf (fun hf => ?_) (fun hf => ?_)
        · refine z_sub (al' := [(0, zR 1 i), (1, zR 1 p1)]) [0, 1] rfl ?_
          exact hx s17 hf
        · refine z_aload_n (pc := 151) 0 (zdg D_X1_copyFrom 74 (151, .aload_n 0, 1) rfl) rfl rfl ?_
          refine z_getR (pc := 152) (g := 31) (j := i) lf_X1_44 rfl rfl rfl (zdg D_X1_copyFrom 75 (152, .getfield 44, 3) rfl) ?_
          refine z_iload_n (pc := 155) 2 (zdg D_X1_copyFrom 76 (155, .iload_n 2, 1) rfl) rfl rfl ?_
          refine z_aald (pc := 156) (g := 11) (t := fun j => 10 * i + j) rfl (fun _ => rfl) (fun j h => by show (if j < 10 then some (11, 10 * i + j) else none) = _; rw [if_pos h]) (zdg D_X1_copyFrom 77 (156, .aaload, 1) rfl) hn hf (fun hf => ?_)
          refine z_aload_n (pc := 157) 1 (zdg D_X1_copyFrom 78 (157, .aload_n 1, 1) rfl) rfl rfl ?_
          refine z_getR (pc := 158) (g := 31) (j := p1) lf_X1_44 rfl rfl rfl (zdg D_X1_copyFrom 79 (158, .getfield 44, 3) rfl) ?_
          refine z_iload_n (pc := 161) 2 (zdg D_X1_copyFrom 80 (161, .iload_n 2, 1) rfl) rfl rfl ?_
          refine z_aald (pc := 162) (g := 11) (t := fun j => 10 * p1 + j) rfl (fun _ => rfl) (fun j h => by show (if j < 10 then some (11, 10 * p1 + j) else none) = _; rw [if_pos h]) (zdg D_X1_copyFrom 81 (162, .aaload, 1) rfl) hn hf (fun hf => ?_)
          refine z_callV (pc := 163) (rest := []) (st2 := []) (fun l => c_X6_copyFrom l (10 * i + v2_16.toNatClampNeg) (10 * p1 + v2_16.toNatClampNeg) s17) zv_X6_copyFrom lm_X1_115 rfl rfl rfl rfl rfl rfl (Nat.le_of_ble_eq_true rfl) ⟨Nat.le_of_ble_eq_true rfl, Nat.le_of_ble_eq_true rfl⟩ (zdg D_X1_copyFrom 82 (163, .invokevirtual 115, 3) rfl) ?_
          refine z_nmS hf (fun s18 hf => ?_)
          refine z_iinc (pc := 166) (v0 := (v2_16 + 1)) (al' := [(2, zI (v2_16 + 1)), (0, zR 1 i), (1, zR 1 p1)]) 2 (zdg D_X1_copyFrom 83 (166, .iinc 2 1, 3) rfl) rfl rfl (by decide) rfl ?_
          refine z_goto (pc := 169) 137 (zdg D_X1_copyFrom 84 (169, .goto (-32), 3) rfl) rfl ?_
          refine z_sub (al' := [(0, zR 1 i), (1, zR 1 p1), (2, zI (v2_16 + 1))]) [1, 2, 0] rfl ?_
          exact hi ((v2_16 + 1), s18) hf

def L_X1_tellWide : List (Nat × Instr × Nat) := [(0, .iload_n 1, 1), (1, .iconst 1, 1), (2, .if_icmp .lt 11, 3), (5, .iload_n 1, 1), (6, .aload_n 0, 1), (7, .getfield 57, 3), (10, .if_icmp .le 5, 3), (13, .iconst 0, 1), (14, .ireturn, 1), (15, .aload_n 0, 1), (16, .iload_n 1, 1), (17, .putfield 67, 3), (20, .aload_n 0, 1), (21, .iconst 0, 1), (22, .putfield 70, 3), (25, .iconst 1, 1), (26, .ireturn, 1)]
set_option maxRecDepth 100000 in
theorem D_X1_tellWide : zdecs cX1_tellWide L_X1_tellWide = true := by decide +kernel
noncomputable def f_X1_tellWide (i : Nat) (p1 : Int32) (σ : zG) : Int32 × zG :=
  if (1 : Int32) ≤ p1 then if (σ.1 1 i 0) < p1 then ((0 : Int32), σ) else zb (zwI σ 1 i 4 p1) (fun s1 => zb (zwI s1 1 i 5 (0 : Int32)) (fun s2 => ((1 : Int32), s2))) else ((0 : Int32), σ)
set_option maxRecDepth 100000 in
set_option maxHeartbeats 4000000 in
theorem c_X1_tellWide (l : Launch) (i : Nat) (p1 : Int32) (σ : zG) : zMet l zsyC m_X1_tellWide yX1_tellWide [zR 1 i, zI p1] σ (some (zI (f_X1_tellWide i p1 σ).1)) (f_X1_tellWide i p1 σ).2 := by
  refine zEnter [(0, zR 1 i), (1, zI p1)] (by decide) rfl (fun _ => Nat.le_of_ble_eq_true rfl) (fun _ => rfl) (fun w h => ?_) (fun K hv hs => ?_)
  · exact zokm rfl h
  · have hP : ∀ x s, f_X1_tellWide i p1 σ = (x, s) → zKv K = some (zI x) ∧ zKs K = s := fun x s h => by rw [h] at hv hs; exact ⟨hv, hs⟩
    have hf := f_X1_tellWide.eq_1 i p1 σ
    refine z_iload_n (pc := 0) 1 (zdg D_X1_tellWide 0 (0, .iload_n 1, 1) rfl) rfl rfl ?_
    refine z_iconst (pc := 1) (v := 1) (zdg D_X1_tellWide 1 (1, .iconst 1, 1) rfl) rfl ?_
    refine z_icmp_lt (pc := 2) 13 (zdg D_X1_tellWide 2 (2, .if_icmp .lt 11, 3) rfl) rfl hf (fun hf => ?_) (fun hf => ?_)
    · refine z_iconst (pc := 13) (v := 0) (zdg D_X1_tellWide 7 (13, .iconst 0, 1) rfl) rfl ?_
      exact z_iret (pc := 14) rfl rfl (zdg D_X1_tellWide 8 (14, .ireturn, 1) rfl) (hP _ _ hf)
    · refine z_iload_n (pc := 5) 1 (zdg D_X1_tellWide 3 (5, .iload_n 1, 1) rfl) rfl rfl ?_
      refine z_aload_n (pc := 6) 0 (zdg D_X1_tellWide 4 (6, .aload_n 0, 1) rfl) rfl rfl ?_
      refine z_getI (pc := 7) lf_X1_57 rfl rfl (zdg D_X1_tellWide 5 (7, .getfield 57, 3) rfl) ?_
      refine z_icmp_le (pc := 10) 15 (zdg D_X1_tellWide 6 (10, .if_icmp .le 5, 3) rfl) rfl hf (fun hf => ?_) (fun hf => ?_)
      · refine z_aload_n (pc := 15) 0 (zdg D_X1_tellWide 9 (15, .aload_n 0, 1) rfl) rfl rfl ?_
        refine z_iload_n (pc := 16) 1 (zdg D_X1_tellWide 10 (16, .iload_n 1, 1) rfl) rfl rfl ?_
        refine z_putI (pc := 17) lw_X1_67 rfl rfl rfl rfl (zdg D_X1_tellWide 11 (17, .putfield 67, 3) rfl) ?_
        refine z_nmS hf (fun s1 hf => ?_)
        refine z_aload_n (pc := 20) 0 (zdg D_X1_tellWide 12 (20, .aload_n 0, 1) rfl) rfl rfl ?_
        refine z_iconst (pc := 21) (v := 0) (zdg D_X1_tellWide 13 (21, .iconst 0, 1) rfl) rfl ?_
        refine z_putI (pc := 22) lw_X1_70 rfl rfl rfl rfl (zdg D_X1_tellWide 14 (22, .putfield 70, 3) rfl) ?_
        refine z_nmS hf (fun s2 hf => ?_)
        refine z_iconst (pc := 25) (v := 1) (zdg D_X1_tellWide 15 (25, .iconst 1, 1) rfl) rfl ?_
        exact z_iret (pc := 26) rfl rfl (zdg D_X1_tellWide 16 (26, .ireturn, 1) rfl) (hP _ _ hf)
      · refine z_iconst (pc := 13) (v := 0) (zdg D_X1_tellWide 7 (13, .iconst 0, 1) rfl) rfl ?_
        exact z_iret (pc := 14) rfl rfl (zdg D_X1_tellWide 8 (14, .ireturn, 1) rfl) (hP _ _ hf)

def L_X1_tell : List (Nat × Instr × Nat) := [(0, .iload_n 1, 1), (1, .tableswitch 96 0 3 #[31, 37, 57, 77], 31), (32, .aload_n 0, 1), (33, .iload_n 2, 1), (34, .invokevirtual 124, 3), (37, .ireturn, 1), (38, .iload_n 2, 1), (39, .ifCond .lt 10, 3), (42, .iload_n 2, 1), (43, .sipush 1000, 3), (46, .if_icmp .le 5, 3), (49, .iconst 0, 1), (50, .ireturn, 1), (51, .aload_n 0, 1), (52, .iload_n 2, 1), (53, .putfield 73, 3), (56, .iconst 1, 1), (57, .ireturn, 1), (58, .iload_n 2, 1), (59, .iconst 1, 1), (60, .if_icmp .lt 9, 3), (63, .iload_n 2, 1), (64, .bipush 60, 2), (66, .if_icmp .le 5, 3), (69, .iconst 0, 1), (70, .ireturn, 1), (71, .aload_n 0, 1), (72, .iload_n 2, 1), (73, .putfield 76, 3), (76, .iconst 1, 1), (77, .ireturn, 1), (78, .iload_n 2, 1), (79, .ifCond .lt 9, 3), (82, .iload_n 2, 1), (83, .bipush 99, 2), (85, .if_icmp .le 5, 3), (88, .iconst 0, 1), (89, .ireturn, 1), (90, .aload_n 0, 1), (91, .iload_n 2, 1), (92, .putfield 79, 3), (95, .iconst 1, 1), (96, .ireturn, 1), (97, .iconst 0, 1), (98, .ireturn, 1)]
set_option maxRecDepth 100000 in
theorem D_X1_tell : zdecs cX1_tell L_X1_tell = true := by decide +kernel
noncomputable def f_X1_tell (i : Nat) (p1 : Int32) (p2 : Int32) (σ : zG) : Option (Int32 × zG) :=
  if p1 = 0 then zb (f_X1_tellWide i p2 σ) (fun q1 => zg (zbl q1.1) (some (q1.1, q1.2))) else if p1 = 1 then if 0 ≤ p2 then if (1000 : Int32) < p2 then some ((0 : Int32), σ) else zb (zwI σ 1 i 6 p2) (fun s2 => some ((1 : Int32), s2)) else some ((0 : Int32), σ) else if p1 = 2 then if (1 : Int32) ≤ p2 then if (60 : Int32) < p2 then some ((0 : Int32), σ) else zb (zwI σ 1 i 7 p2) (fun s3 => some ((1 : Int32), s3)) else some ((0 : Int32), σ) else if p1 = 3 then if 0 ≤ p2 then if (99 : Int32) < p2 then some ((0 : Int32), σ) else zb (zwI σ 1 i 8 p2) (fun s4 => some ((1 : Int32), s4)) else some ((0 : Int32), σ) else some ((0 : Int32), σ)
set_option maxRecDepth 100000 in
set_option maxHeartbeats 4000000 in
theorem c_X1_tell (l : Launch) (i : Nat) (p1 : Int32) (p2 : Int32) (σ : zG) (q : Int32 × zG) (hq : f_X1_tell i p1 p2 σ = some q) : zMet l zsyC m_X1_tell yX1_tell [zR 1 i, zI p1, zI p2] σ (some (zI q.1)) q.2 := by
  refine zEnter [(0, zR 1 i), (1, zI p1), (2, zI p2)] (by decide) rfl (fun _ => Nat.le_of_ble_eq_true rfl) (fun _ => rfl) (fun w h => ?_) (fun K hv hs => ?_)
  · exact zokm rfl h
  · have hP : ∀ x s, f_X1_tell i p1 p2 σ = some (x, s) → zKv K = some (zI x) ∧ zKs K = s := fun x s h => by rw [hq] at h; cases h; exact ⟨hv, hs⟩
    have hn : f_X1_tell i p1 p2 σ ≠ none := fun z => by rw [hq] at z; cases z
    have hf := f_X1_tell.eq_1 i p1 p2 σ
    refine z_iload_n (pc := 0) 1 (zdg D_X1_tell 0 (0, .iload_n 1, 1) rfl) rfl rfl ?_
    refine zif hf (fun hc0 hf => ?_) (fun hc0 hf => ?_)
    · refine z_tsIn (pc := 1) (c := 0) (j := 0) 32 (zdg D_X1_tell 1 (1, .tableswitch 96 0 3 #[31, 37, 57, 77], 31) rfl) hc0 (by decide) (by decide) rfl rfl rfl ?_
      refine z_aload_n (pc := 32) 0 (zdg D_X1_tell 2 (32, .aload_n 0, 1) rfl) rfl rfl ?_
      refine z_iload_n (pc := 33) 2 (zdg D_X1_tell 3 (33, .iload_n 2, 1) rfl) rfl rfl ?_
      refine z_callV (pc := 34) (rest := []) (st2 := [zI ((f_X1_tellWide i p2 σ).1)]) (fun l => c_X1_tellWide l i p2 σ) zv_X1_tellWide lm_X1_124 rfl rfl rfl rfl rfl rfl (Nat.le_of_ble_eq_true rfl) ⟨Nat.le_of_ble_eq_true rfl, Nat.le_of_ble_eq_true rfl⟩ (zdg D_X1_tell 4 (34, .invokevirtual 124, 3) rfl) ?_
      refine z_nmWI hf (fun q1 hf => ?_)
      exact z_zret (pc := 37) rfl (zdg D_X1_tell 5 (37, .ireturn, 1) rfl) hn hf (fun hf => (hP _ _ hf))
    · skip
      refine zif hf (fun hc1 hf => ?_) (fun hc1 hf => ?_)
      · refine z_tsIn (pc := 1) (c := 1) (j := 1) 38 (zdg D_X1_tell 1 (1, .tableswitch 96 0 3 #[31, 37, 57, 77], 31) rfl) hc1 (by decide) (by decide) rfl rfl rfl ?_
        refine z_iload_n (pc := 38) 2 (zdg D_X1_tell 6 (38, .iload_n 2, 1) rfl) rfl rfl ?_
        refine z_if_lt (pc := 39) 49 (zdg D_X1_tell 7 (39, .ifCond .lt 10, 3) rfl) rfl hf (fun hf => ?_) (fun hf => ?_)
        · refine z_iconst (pc := 49) (v := 0) (zdg D_X1_tell 11 (49, .iconst 0, 1) rfl) rfl ?_
          exact z_iret (pc := 50) rfl rfl (zdg D_X1_tell 12 (50, .ireturn, 1) rfl) (hP _ _ hf)
        · refine z_iload_n (pc := 42) 2 (zdg D_X1_tell 8 (42, .iload_n 2, 1) rfl) rfl rfl ?_
          refine z_sipush (pc := 43) (v := 1000) (zdg D_X1_tell 9 (43, .sipush 1000, 3) rfl) rfl ?_
          refine z_icmp_le (pc := 46) 51 (zdg D_X1_tell 10 (46, .if_icmp .le 5, 3) rfl) rfl hf (fun hf => ?_) (fun hf => ?_)
          · refine z_aload_n (pc := 51) 0 (zdg D_X1_tell 13 (51, .aload_n 0, 1) rfl) rfl rfl ?_
            refine z_iload_n (pc := 52) 2 (zdg D_X1_tell 14 (52, .iload_n 2, 1) rfl) rfl rfl ?_
            refine z_putI (pc := 53) lw_X1_73 rfl rfl rfl rfl (zdg D_X1_tell 15 (53, .putfield 73, 3) rfl) ?_
            refine z_nmS hf (fun s2 hf => ?_)
            refine z_iconst (pc := 56) (v := 1) (zdg D_X1_tell 16 (56, .iconst 1, 1) rfl) rfl ?_
            exact z_iret (pc := 57) rfl rfl (zdg D_X1_tell 17 (57, .ireturn, 1) rfl) (hP _ _ hf)
          · refine z_iconst (pc := 49) (v := 0) (zdg D_X1_tell 11 (49, .iconst 0, 1) rfl) rfl ?_
            exact z_iret (pc := 50) rfl rfl (zdg D_X1_tell 12 (50, .ireturn, 1) rfl) (hP _ _ hf)
      · skip
        refine zif hf (fun hc2 hf => ?_) (fun hc2 hf => ?_)
        · refine z_tsIn (pc := 1) (c := 2) (j := 2) 58 (zdg D_X1_tell 1 (1, .tableswitch 96 0 3 #[31, 37, 57, 77], 31) rfl) hc2 (by decide) (by decide) rfl rfl rfl ?_
          refine z_iload_n (pc := 58) 2 (zdg D_X1_tell 18 (58, .iload_n 2, 1) rfl) rfl rfl ?_
          refine z_iconst (pc := 59) (v := 1) (zdg D_X1_tell 19 (59, .iconst 1, 1) rfl) rfl ?_
          refine z_icmp_lt (pc := 60) 69 (zdg D_X1_tell 20 (60, .if_icmp .lt 9, 3) rfl) rfl hf (fun hf => ?_) (fun hf => ?_)
          · refine z_iconst (pc := 69) (v := 0) (zdg D_X1_tell 24 (69, .iconst 0, 1) rfl) rfl ?_
            exact z_iret (pc := 70) rfl rfl (zdg D_X1_tell 25 (70, .ireturn, 1) rfl) (hP _ _ hf)
          · refine z_iload_n (pc := 63) 2 (zdg D_X1_tell 21 (63, .iload_n 2, 1) rfl) rfl rfl ?_
            refine z_bipush (pc := 64) (v := 60) (zdg D_X1_tell 22 (64, .bipush 60, 2) rfl) rfl ?_
            refine z_icmp_le (pc := 66) 71 (zdg D_X1_tell 23 (66, .if_icmp .le 5, 3) rfl) rfl hf (fun hf => ?_) (fun hf => ?_)
            · refine z_aload_n (pc := 71) 0 (zdg D_X1_tell 26 (71, .aload_n 0, 1) rfl) rfl rfl ?_
              refine z_iload_n (pc := 72) 2 (zdg D_X1_tell 27 (72, .iload_n 2, 1) rfl) rfl rfl ?_
              refine z_putI (pc := 73) lw_X1_76 rfl rfl rfl rfl (zdg D_X1_tell 28 (73, .putfield 76, 3) rfl) ?_
              refine z_nmS hf (fun s3 hf => ?_)
              refine z_iconst (pc := 76) (v := 1) (zdg D_X1_tell 29 (76, .iconst 1, 1) rfl) rfl ?_
              exact z_iret (pc := 77) rfl rfl (zdg D_X1_tell 30 (77, .ireturn, 1) rfl) (hP _ _ hf)
            · refine z_iconst (pc := 69) (v := 0) (zdg D_X1_tell 24 (69, .iconst 0, 1) rfl) rfl ?_
              exact z_iret (pc := 70) rfl rfl (zdg D_X1_tell 25 (70, .ireturn, 1) rfl) (hP _ _ hf)
        · skip
          refine zif hf (fun hc3 hf => ?_) (fun hc3 hf => ?_)
          · refine z_tsIn (pc := 1) (c := 3) (j := 3) 78 (zdg D_X1_tell 1 (1, .tableswitch 96 0 3 #[31, 37, 57, 77], 31) rfl) hc3 (by decide) (by decide) rfl rfl rfl ?_
            refine z_iload_n (pc := 78) 2 (zdg D_X1_tell 31 (78, .iload_n 2, 1) rfl) rfl rfl ?_
            refine z_if_lt (pc := 79) 88 (zdg D_X1_tell 32 (79, .ifCond .lt 9, 3) rfl) rfl hf (fun hf => ?_) (fun hf => ?_)
            · refine z_iconst (pc := 88) (v := 0) (zdg D_X1_tell 36 (88, .iconst 0, 1) rfl) rfl ?_
              exact z_iret (pc := 89) rfl rfl (zdg D_X1_tell 37 (89, .ireturn, 1) rfl) (hP _ _ hf)
            · refine z_iload_n (pc := 82) 2 (zdg D_X1_tell 33 (82, .iload_n 2, 1) rfl) rfl rfl ?_
              refine z_bipush (pc := 83) (v := 99) (zdg D_X1_tell 34 (83, .bipush 99, 2) rfl) rfl ?_
              refine z_icmp_le (pc := 85) 90 (zdg D_X1_tell 35 (85, .if_icmp .le 5, 3) rfl) rfl hf (fun hf => ?_) (fun hf => ?_)
              · refine z_aload_n (pc := 90) 0 (zdg D_X1_tell 38 (90, .aload_n 0, 1) rfl) rfl rfl ?_
                refine z_iload_n (pc := 91) 2 (zdg D_X1_tell 39 (91, .iload_n 2, 1) rfl) rfl rfl ?_
                refine z_putI (pc := 92) lw_X1_79 rfl rfl rfl rfl (zdg D_X1_tell 40 (92, .putfield 79, 3) rfl) ?_
                refine z_nmS hf (fun s4 hf => ?_)
                refine z_iconst (pc := 95) (v := 1) (zdg D_X1_tell 41 (95, .iconst 1, 1) rfl) rfl ?_
                exact z_iret (pc := 96) rfl rfl (zdg D_X1_tell 42 (96, .ireturn, 1) rfl) (hP _ _ hf)
              · refine z_iconst (pc := 88) (v := 0) (zdg D_X1_tell 36 (88, .iconst 0, 1) rfl) rfl ?_
                exact z_iret (pc := 89) rfl rfl (zdg D_X1_tell 37 (89, .ireturn, 1) rfl) (hP _ _ hf)
          · skip
            refine z_tsOut (pc := 1) 97 (zdg D_X1_tell 1 (1, .tableswitch 96 0 3 #[31, 37, 57, 77], 31) rfl) (by have e0 := lv_neT hc0 (k := 0) (a := 0) rfl; have e1 := lv_neT hc1 (k := 1) (a := 1) rfl; have e2 := lv_neT hc2 (k := 2) (a := 2) rfl; have e3 := lv_neT hc3 (k := 3) (a := 3) rfl; omega) rfl ?_
            refine z_iconst (pc := 97) (v := 0) (zdg D_X1_tell 43 (97, .iconst 0, 1) rfl) rfl ?_
            exact z_iret (pc := 98) rfl rfl (zdg D_X1_tell 44 (98, .ireturn, 1) rfl) (hP _ _ hf)

def L_X1_numberOf : List (Nat × Instr × Nat) := [(0, .iload_n 1, 1), (1, .tableswitch 120 0 14 #[75, 80, 85, 90, 95, 120, 120, 120, 100, 120, 120, 120, 105, 110, 115], 75), (76, .aload_n 0, 1), (77, .getfield 57, 3), (80, .ireturn, 1), (81, .aload_n 0, 1), (82, .getfield 61, 3), (85, .ireturn, 1), (86, .aload_n 0, 1), (87, .getfield 64, 3), (90, .ireturn, 1), (91, .aload_n 0, 1), (92, .getfield 67, 3), (95, .ireturn, 1), (96, .aload_n 0, 1), (97, .getfield 70, 3), (100, .ireturn, 1), (101, .aload_n 0, 1), (102, .getfield 99, 3), (105, .ireturn, 1), (106, .aload_n 0, 1), (107, .getfield 73, 3), (110, .ireturn, 1), (111, .aload_n 0, 1), (112, .getfield 76, 3), (115, .ireturn, 1), (116, .aload_n 0, 1), (117, .getfield 79, 3), (120, .ireturn, 1), (121, .iconst (-1), 1), (122, .ireturn, 1)]
set_option maxRecDepth 100000 in
theorem D_X1_numberOf : zdecs cX1_numberOf L_X1_numberOf = true := by decide +kernel
noncomputable def f_X1_numberOf (i : Nat) (p1 : Int32) (σ : zG) : Int32 :=
  if p1 = 0 then (σ.1 1 i 0) else if p1 = 1 then (σ.1 1 i 1) else if p1 = 2 then (σ.1 1 i 3) else if p1 = 3 then (σ.1 1 i 4) else if p1 = 4 then (σ.1 1 i 5) else if p1 = 5 then (-1 : Int32) else if p1 = 6 then (-1 : Int32) else if p1 = 7 then (-1 : Int32) else if p1 = 8 then (σ.1 1 i 2) else if p1 = 9 then (-1 : Int32) else if p1 = 10 then (-1 : Int32) else if p1 = 11 then (-1 : Int32) else if p1 = 12 then (σ.1 1 i 6) else if p1 = 13 then (σ.1 1 i 7) else if p1 = 14 then (σ.1 1 i 8) else (-1 : Int32)
set_option maxRecDepth 100000 in
set_option maxHeartbeats 4000000 in
theorem c_X1_numberOf (l : Launch) (i : Nat) (p1 : Int32) (σ : zG) : zMet l zsyC m_X1_numberOf yX1_numberOf [zR 1 i, zI p1] σ (some (zI (f_X1_numberOf i p1 σ))) σ := by
  refine zEnter [(0, zR 1 i), (1, zI p1)] (by decide) rfl (fun _ => Nat.le_of_ble_eq_true rfl) (fun _ => rfl) (fun w h => ?_) (fun K hv hs => ?_)
  · exact zokm rfl h
  · have hP : ∀ x, f_X1_numberOf i p1 σ = x → zKv K = some (zI x) ∧ zKs K = σ := fun x h => by rw [h] at hv; exact ⟨hv, hs⟩
    have hf := f_X1_numberOf.eq_1 i p1 σ
    refine z_iload_n (pc := 0) 1 (zdg D_X1_numberOf 0 (0, .iload_n 1, 1) rfl) rfl rfl ?_
    refine zif hf (fun hc0 hf => ?_) (fun hc0 hf => ?_)
    · refine z_tsIn (pc := 1) (c := 0) (j := 0) 76 (zdg D_X1_numberOf 1 (1, .tableswitch 120 0 14 #[75, 80, 85, 90, 95, 120, 120, 120, 100, 120, 120, 120, 105, 110, 115], 75) rfl) hc0 (by decide) (by decide) rfl rfl rfl ?_
      refine z_aload_n (pc := 76) 0 (zdg D_X1_numberOf 2 (76, .aload_n 0, 1) rfl) rfl rfl ?_
      refine z_getI (pc := 77) lf_X1_57 rfl rfl (zdg D_X1_numberOf 3 (77, .getfield 57, 3) rfl) ?_
      exact z_iret (pc := 80) rfl rfl (zdg D_X1_numberOf 4 (80, .ireturn, 1) rfl) (hP _ hf)
    · skip
      refine zif hf (fun hc1 hf => ?_) (fun hc1 hf => ?_)
      · refine z_tsIn (pc := 1) (c := 1) (j := 1) 81 (zdg D_X1_numberOf 1 (1, .tableswitch 120 0 14 #[75, 80, 85, 90, 95, 120, 120, 120, 100, 120, 120, 120, 105, 110, 115], 75) rfl) hc1 (by decide) (by decide) rfl rfl rfl ?_
        refine z_aload_n (pc := 81) 0 (zdg D_X1_numberOf 5 (81, .aload_n 0, 1) rfl) rfl rfl ?_
        refine z_getI (pc := 82) lf_X1_61 rfl rfl (zdg D_X1_numberOf 6 (82, .getfield 61, 3) rfl) ?_
        exact z_iret (pc := 85) rfl rfl (zdg D_X1_numberOf 7 (85, .ireturn, 1) rfl) (hP _ hf)
      · skip
        refine zif hf (fun hc2 hf => ?_) (fun hc2 hf => ?_)
        · refine z_tsIn (pc := 1) (c := 2) (j := 2) 86 (zdg D_X1_numberOf 1 (1, .tableswitch 120 0 14 #[75, 80, 85, 90, 95, 120, 120, 120, 100, 120, 120, 120, 105, 110, 115], 75) rfl) hc2 (by decide) (by decide) rfl rfl rfl ?_
          refine z_aload_n (pc := 86) 0 (zdg D_X1_numberOf 8 (86, .aload_n 0, 1) rfl) rfl rfl ?_
          refine z_getI (pc := 87) lf_X1_64 rfl rfl (zdg D_X1_numberOf 9 (87, .getfield 64, 3) rfl) ?_
          exact z_iret (pc := 90) rfl rfl (zdg D_X1_numberOf 10 (90, .ireturn, 1) rfl) (hP _ hf)
        · skip
          refine zif hf (fun hc3 hf => ?_) (fun hc3 hf => ?_)
          · refine z_tsIn (pc := 1) (c := 3) (j := 3) 91 (zdg D_X1_numberOf 1 (1, .tableswitch 120 0 14 #[75, 80, 85, 90, 95, 120, 120, 120, 100, 120, 120, 120, 105, 110, 115], 75) rfl) hc3 (by decide) (by decide) rfl rfl rfl ?_
            refine z_aload_n (pc := 91) 0 (zdg D_X1_numberOf 11 (91, .aload_n 0, 1) rfl) rfl rfl ?_
            refine z_getI (pc := 92) lf_X1_67 rfl rfl (zdg D_X1_numberOf 12 (92, .getfield 67, 3) rfl) ?_
            exact z_iret (pc := 95) rfl rfl (zdg D_X1_numberOf 13 (95, .ireturn, 1) rfl) (hP _ hf)
          · skip
            refine zif hf (fun hc4 hf => ?_) (fun hc4 hf => ?_)
            · refine z_tsIn (pc := 1) (c := 4) (j := 4) 96 (zdg D_X1_numberOf 1 (1, .tableswitch 120 0 14 #[75, 80, 85, 90, 95, 120, 120, 120, 100, 120, 120, 120, 105, 110, 115], 75) rfl) hc4 (by decide) (by decide) rfl rfl rfl ?_
              refine z_aload_n (pc := 96) 0 (zdg D_X1_numberOf 14 (96, .aload_n 0, 1) rfl) rfl rfl ?_
              refine z_getI (pc := 97) lf_X1_70 rfl rfl (zdg D_X1_numberOf 15 (97, .getfield 70, 3) rfl) ?_
              exact z_iret (pc := 100) rfl rfl (zdg D_X1_numberOf 16 (100, .ireturn, 1) rfl) (hP _ hf)
            · skip
              refine zif hf (fun hc5 hf => ?_) (fun hc5 hf => ?_)
              · refine z_tsIn (pc := 1) (c := 5) (j := 5) 121 (zdg D_X1_numberOf 1 (1, .tableswitch 120 0 14 #[75, 80, 85, 90, 95, 120, 120, 120, 100, 120, 120, 120, 105, 110, 115], 75) rfl) hc5 (by decide) (by decide) rfl rfl rfl ?_
                refine z_iconst (pc := 121) (v := -1) (zdg D_X1_numberOf 29 (121, .iconst (-1), 1) rfl) rfl ?_
                exact z_iret (pc := 122) rfl rfl (zdg D_X1_numberOf 30 (122, .ireturn, 1) rfl) (hP _ hf)
              · skip
                refine zif hf (fun hc6 hf => ?_) (fun hc6 hf => ?_)
                · refine z_tsIn (pc := 1) (c := 6) (j := 6) 121 (zdg D_X1_numberOf 1 (1, .tableswitch 120 0 14 #[75, 80, 85, 90, 95, 120, 120, 120, 100, 120, 120, 120, 105, 110, 115], 75) rfl) hc6 (by decide) (by decide) rfl rfl rfl ?_
                  refine z_iconst (pc := 121) (v := -1) (zdg D_X1_numberOf 29 (121, .iconst (-1), 1) rfl) rfl ?_
                  exact z_iret (pc := 122) rfl rfl (zdg D_X1_numberOf 30 (122, .ireturn, 1) rfl) (hP _ hf)
                · skip
                  refine zif hf (fun hc7 hf => ?_) (fun hc7 hf => ?_)
                  · refine z_tsIn (pc := 1) (c := 7) (j := 7) 121 (zdg D_X1_numberOf 1 (1, .tableswitch 120 0 14 #[75, 80, 85, 90, 95, 120, 120, 120, 100, 120, 120, 120, 105, 110, 115], 75) rfl) hc7 (by decide) (by decide) rfl rfl rfl ?_
                    refine z_iconst (pc := 121) (v := -1) (zdg D_X1_numberOf 29 (121, .iconst (-1), 1) rfl) rfl ?_
                    exact z_iret (pc := 122) rfl rfl (zdg D_X1_numberOf 30 (122, .ireturn, 1) rfl) (hP _ hf)
                  · skip
                    refine zif hf (fun hc8 hf => ?_) (fun hc8 hf => ?_)
                    · refine z_tsIn (pc := 1) (c := 8) (j := 8) 101 (zdg D_X1_numberOf 1 (1, .tableswitch 120 0 14 #[75, 80, 85, 90, 95, 120, 120, 120, 100, 120, 120, 120, 105, 110, 115], 75) rfl) hc8 (by decide) (by decide) rfl rfl rfl ?_
                      refine z_aload_n (pc := 101) 0 (zdg D_X1_numberOf 17 (101, .aload_n 0, 1) rfl) rfl rfl ?_
                      refine z_getI (pc := 102) lf_X1_99 rfl rfl (zdg D_X1_numberOf 18 (102, .getfield 99, 3) rfl) ?_
                      exact z_iret (pc := 105) rfl rfl (zdg D_X1_numberOf 19 (105, .ireturn, 1) rfl) (hP _ hf)
                    · skip
                      refine zif hf (fun hc9 hf => ?_) (fun hc9 hf => ?_)
                      · refine z_tsIn (pc := 1) (c := 9) (j := 9) 121 (zdg D_X1_numberOf 1 (1, .tableswitch 120 0 14 #[75, 80, 85, 90, 95, 120, 120, 120, 100, 120, 120, 120, 105, 110, 115], 75) rfl) hc9 (by decide) (by decide) rfl rfl rfl ?_
                        refine z_iconst (pc := 121) (v := -1) (zdg D_X1_numberOf 29 (121, .iconst (-1), 1) rfl) rfl ?_
                        exact z_iret (pc := 122) rfl rfl (zdg D_X1_numberOf 30 (122, .ireturn, 1) rfl) (hP _ hf)
                      · skip
                        refine zif hf (fun hc10 hf => ?_) (fun hc10 hf => ?_)
                        · refine z_tsIn (pc := 1) (c := 10) (j := 10) 121 (zdg D_X1_numberOf 1 (1, .tableswitch 120 0 14 #[75, 80, 85, 90, 95, 120, 120, 120, 100, 120, 120, 120, 105, 110, 115], 75) rfl) hc10 (by decide) (by decide) rfl rfl rfl ?_
                          refine z_iconst (pc := 121) (v := -1) (zdg D_X1_numberOf 29 (121, .iconst (-1), 1) rfl) rfl ?_
                          exact z_iret (pc := 122) rfl rfl (zdg D_X1_numberOf 30 (122, .ireturn, 1) rfl) (hP _ hf)
                        · skip
                          refine zif hf (fun hc11 hf => ?_) (fun hc11 hf => ?_)
                          · refine z_tsIn (pc := 1) (c := 11) (j := 11) 121 (zdg D_X1_numberOf 1 (1, .tableswitch 120 0 14 #[75, 80, 85, 90, 95, 120, 120, 120, 100, 120, 120, 120, 105, 110, 115], 75) rfl) hc11 (by decide) (by decide) rfl rfl rfl ?_
                            refine z_iconst (pc := 121) (v := -1) (zdg D_X1_numberOf 29 (121, .iconst (-1), 1) rfl) rfl ?_
                            exact z_iret (pc := 122) rfl rfl (zdg D_X1_numberOf 30 (122, .ireturn, 1) rfl) (hP _ hf)
                          · skip
                            refine zif hf (fun hc12 hf => ?_) (fun hc12 hf => ?_)
                            · refine z_tsIn (pc := 1) (c := 12) (j := 12) 106 (zdg D_X1_numberOf 1 (1, .tableswitch 120 0 14 #[75, 80, 85, 90, 95, 120, 120, 120, 100, 120, 120, 120, 105, 110, 115], 75) rfl) hc12 (by decide) (by decide) rfl rfl rfl ?_
                              refine z_aload_n (pc := 106) 0 (zdg D_X1_numberOf 20 (106, .aload_n 0, 1) rfl) rfl rfl ?_
                              refine z_getI (pc := 107) lf_X1_73 rfl rfl (zdg D_X1_numberOf 21 (107, .getfield 73, 3) rfl) ?_
                              exact z_iret (pc := 110) rfl rfl (zdg D_X1_numberOf 22 (110, .ireturn, 1) rfl) (hP _ hf)
                            · skip
                              refine zif hf (fun hc13 hf => ?_) (fun hc13 hf => ?_)
                              · refine z_tsIn (pc := 1) (c := 13) (j := 13) 111 (zdg D_X1_numberOf 1 (1, .tableswitch 120 0 14 #[75, 80, 85, 90, 95, 120, 120, 120, 100, 120, 120, 120, 105, 110, 115], 75) rfl) hc13 (by decide) (by decide) rfl rfl rfl ?_
                                refine z_aload_n (pc := 111) 0 (zdg D_X1_numberOf 23 (111, .aload_n 0, 1) rfl) rfl rfl ?_
                                refine z_getI (pc := 112) lf_X1_76 rfl rfl (zdg D_X1_numberOf 24 (112, .getfield 76, 3) rfl) ?_
                                exact z_iret (pc := 115) rfl rfl (zdg D_X1_numberOf 25 (115, .ireturn, 1) rfl) (hP _ hf)
                              · skip
                                refine zif hf (fun hc14 hf => ?_) (fun hc14 hf => ?_)
                                · refine z_tsIn (pc := 1) (c := 14) (j := 14) 116 (zdg D_X1_numberOf 1 (1, .tableswitch 120 0 14 #[75, 80, 85, 90, 95, 120, 120, 120, 100, 120, 120, 120, 105, 110, 115], 75) rfl) hc14 (by decide) (by decide) rfl rfl rfl ?_
                                  refine z_aload_n (pc := 116) 0 (zdg D_X1_numberOf 26 (116, .aload_n 0, 1) rfl) rfl rfl ?_
                                  refine z_getI (pc := 117) lf_X1_79 rfl rfl (zdg D_X1_numberOf 27 (117, .getfield 79, 3) rfl) ?_
                                  exact z_iret (pc := 120) rfl rfl (zdg D_X1_numberOf 28 (120, .ireturn, 1) rfl) (hP _ hf)
                                · skip
                                  refine z_tsOut (pc := 1) 121 (zdg D_X1_numberOf 1 (1, .tableswitch 120 0 14 #[75, 80, 85, 90, 95, 120, 120, 120, 100, 120, 120, 120, 105, 110, 115], 75) rfl) (by have e0 := lv_neT hc0 (k := 0) (a := 0) rfl; have e1 := lv_neT hc1 (k := 1) (a := 1) rfl; have e2 := lv_neT hc2 (k := 2) (a := 2) rfl; have e3 := lv_neT hc3 (k := 3) (a := 3) rfl; have e4 := lv_neT hc4 (k := 4) (a := 4) rfl; have e5 := lv_neT hc5 (k := 5) (a := 5) rfl; have e6 := lv_neT hc6 (k := 6) (a := 6) rfl; have e7 := lv_neT hc7 (k := 7) (a := 7) rfl; have e8 := lv_neT hc8 (k := 8) (a := 8) rfl; have e9 := lv_neT hc9 (k := 9) (a := 9) rfl; have e10 := lv_neT hc10 (k := 10) (a := 10) rfl; have e11 := lv_neT hc11 (k := 11) (a := 11) rfl; have e12 := lv_neT hc12 (k := 12) (a := 12) rfl; have e13 := lv_neT hc13 (k := 13) (a := 13) rfl; have e14 := lv_neT hc14 (k := 14) (a := 14) rfl; omega) rfl ?_
                                  refine z_iconst (pc := 121) (v := -1) (zdg D_X1_numberOf 29 (121, .iconst (-1), 1) rfl) rfl ?_
                                  exact z_iret (pc := 122) rfl rfl (zdg D_X1_numberOf 30 (122, .ireturn, 1) rfl) (hP _ hf)

def L_X1_isWalker : List (Nat × Instr × Nat) := [(0, .iload_n 1, 1), (1, .ifCond .lt 24, 3), (4, .iload_n 1, 1), (5, .aload_n 0, 1), (6, .getfield 21, 3), (9, .getfield 88, 3), (12, .if_icmp .ge 13, 3), (15, .iload_n 1, 1), (16, .bipush 12, 2), (18, .if_icmp .ge 7, 3), (21, .iconst 1, 1), (22, .goto 4, 3), (25, .iconst 0, 1), (26, .ireturn, 1)]
set_option maxRecDepth 100000 in
theorem D_X1_isWalker : zdecs cX1_isWalker L_X1_isWalker = true := by decide +kernel
noncomputable def f_X1_isWalker (i : Nat) (p1 : Int32) (σ : zG) : Int32 :=
  if 0 ≤ p1 then if p1 < (σ.1 8 (2 * i) 0) then if p1 < (12 : Int32) then (1 : Int32) else (0 : Int32) else (0 : Int32) else (0 : Int32)
set_option maxRecDepth 100000 in
set_option maxHeartbeats 4000000 in
theorem c_X1_isWalker (l : Launch) (i : Nat) (p1 : Int32) (σ : zG) : zMet l zsyC m_X1_isWalker yX1_isWalker [zR 1 i, zI p1] σ (some (zI (f_X1_isWalker i p1 σ))) σ := by
  refine zEnter [(0, zR 1 i), (1, zI p1)] (by decide) rfl (fun _ => Nat.le_of_ble_eq_true rfl) (fun _ => rfl) (fun w h => ?_) (fun K hv hs => ?_)
  · exact zokm rfl h
  · have hP : ∀ x, f_X1_isWalker i p1 σ = x → zKv K = some (zI x) ∧ zKs K = σ := fun x h => by rw [h] at hv; exact ⟨hv, hs⟩
    have hf := f_X1_isWalker.eq_1 i p1 σ
    refine z_iload_n (pc := 0) 1 (zdg D_X1_isWalker 0 (0, .iload_n 1, 1) rfl) rfl rfl ?_
    refine z_if_lt (pc := 1) 25 (zdg D_X1_isWalker 1 (1, .ifCond .lt 24, 3) rfl) rfl hf (fun hf => ?_) (fun hf => ?_)
    · refine z_iconst (pc := 25) (v := 0) (zdg D_X1_isWalker 12 (25, .iconst 0, 1) rfl) rfl ?_
      exact z_iret (pc := 26) rfl rfl (zdg D_X1_isWalker 13 (26, .ireturn, 1) rfl) (hP _ hf)
    · refine z_iload_n (pc := 4) 1 (zdg D_X1_isWalker 2 (4, .iload_n 1, 1) rfl) rfl rfl ?_
      refine z_aload_n (pc := 5) 0 (zdg D_X1_isWalker 3 (5, .aload_n 0, 1) rfl) rfl rfl ?_
      refine z_getR (pc := 6) (g := 8) (j := 2 * i) lf_X1_21 rfl rfl rfl (zdg D_X1_isWalker 4 (6, .getfield 21, 3) rfl) ?_
      refine z_getI (pc := 9) lf_X1_88 rfl rfl (zdg D_X1_isWalker 5 (9, .getfield 88, 3) rfl) ?_
      refine z_icmp_ge (pc := 12) 25 (zdg D_X1_isWalker 6 (12, .if_icmp .ge 13, 3) rfl) rfl hf (fun hf => ?_) (fun hf => ?_)
      · refine z_iconst (pc := 25) (v := 0) (zdg D_X1_isWalker 12 (25, .iconst 0, 1) rfl) rfl ?_
        exact z_iret (pc := 26) rfl rfl (zdg D_X1_isWalker 13 (26, .ireturn, 1) rfl) (hP _ hf)
      · refine z_iload_n (pc := 15) 1 (zdg D_X1_isWalker 7 (15, .iload_n 1, 1) rfl) rfl rfl ?_
        refine z_bipush (pc := 16) (v := 12) (zdg D_X1_isWalker 8 (16, .bipush 12, 2) rfl) rfl ?_
        refine z_icmp_ge (pc := 18) 25 (zdg D_X1_isWalker 9 (18, .if_icmp .ge 7, 3) rfl) rfl hf (fun hf => ?_) (fun hf => ?_)
        · refine z_iconst (pc := 25) (v := 0) (zdg D_X1_isWalker 12 (25, .iconst 0, 1) rfl) rfl ?_
          exact z_iret (pc := 26) rfl rfl (zdg D_X1_isWalker 13 (26, .ireturn, 1) rfl) (hP _ hf)
        · refine z_iconst (pc := 21) (v := 1) (zdg D_X1_isWalker 10 (21, .iconst 1, 1) rfl) rfl ?_
          refine z_goto (pc := 22) 26 (zdg D_X1_isWalker 11 (22, .goto 4, 3) rfl) rfl ?_
          exact z_iret (pc := 26) rfl rfl (zdg D_X1_isWalker 13 (26, .ireturn, 1) rfl) (hP _ hf)

def L_X1_draw : List (Nat × Instr × Nat) := [(0, .aload_n 0, 1), (1, .aload_n 0, 1), (2, .getfield 99, 3), (5, .ldc 128, 2), (7, .imul, 1), (8, .ldc 129, 2), (10, .iadd, 1), (11, .putfield 99, 3), (14, .iload_n 1, 1), (15, .ifCond .le 15, 3), (18, .aload_n 0, 1), (19, .getfield 99, 3), (22, .bipush 8, 2), (24, .iushr, 1), (25, .iload_n 1, 1), (26, .irem, 1), (27, .goto 4, 3), (30, .iconst 0, 1), (31, .ireturn, 1)]
set_option maxRecDepth 100000 in
theorem D_X1_draw : zdecs cX1_draw L_X1_draw = true := by decide +kernel
noncomputable def f_X1_draw (i : Nat) (p1 : Int32) (σ : zG) : Option (Int32 × zG) :=
  zb (zwI σ 1 i 2 (((σ.1 1 i 2) * (1664525 : Int32)) + (1013904223 : Int32))) (fun s1 => if 0 < p1 then zg (p1 != 0) (some ((zrem (zushr (s1.1 1 i 2) (8 : Int32)) p1), s1)) else some ((0 : Int32), s1))
set_option maxRecDepth 100000 in
set_option maxHeartbeats 4000000 in
theorem c_X1_draw (l : Launch) (i : Nat) (p1 : Int32) (σ : zG) (q : Int32 × zG) (hq : f_X1_draw i p1 σ = some q) : zMet l zsyC m_X1_draw yX1_draw [zR 1 i, zI p1] σ (some (zI q.1)) q.2 := by
  refine zEnter [(0, zR 1 i), (1, zI p1)] (by decide) rfl (fun _ => Nat.le_of_ble_eq_true rfl) (fun _ => rfl) (fun w h => ?_) (fun K hv hs => ?_)
  · exact zokm rfl h
  · have hP : ∀ x s, f_X1_draw i p1 σ = some (x, s) → zKv K = some (zI x) ∧ zKs K = s := fun x s h => by rw [hq] at h; cases h; exact ⟨hv, hs⟩
    have hn : f_X1_draw i p1 σ ≠ none := fun z => by rw [hq] at z; cases z
    have hf := f_X1_draw.eq_1 i p1 σ
    refine z_aload_n (pc := 0) 0 (zdg D_X1_draw 0 (0, .aload_n 0, 1) rfl) rfl rfl ?_
    refine z_aload_n (pc := 1) 0 (zdg D_X1_draw 1 (1, .aload_n 0, 1) rfl) rfl rfl ?_
    refine z_getI (pc := 2) lf_X1_99 rfl rfl (zdg D_X1_draw 2 (2, .getfield 99, 3) rfl) ?_
    refine z_ldc (pc := 5) lc_X1_128 (zdg D_X1_draw 3 (5, .ldc 128, 2) rfl) ?_
    refine z_imul (pc := 7) (zdg D_X1_draw 4 (7, .imul, 1) rfl) ?_
    refine z_ldc (pc := 8) lc_X1_129 (zdg D_X1_draw 5 (8, .ldc 129, 2) rfl) ?_
    refine z_iadd (pc := 10) (zdg D_X1_draw 6 (10, .iadd, 1) rfl) ?_
    refine z_putI (pc := 11) lw_X1_99 rfl rfl rfl rfl (zdg D_X1_draw 7 (11, .putfield 99, 3) rfl) ?_
    refine z_nmS hf (fun s1 hf => ?_)
    refine z_iload_n (pc := 14) 1 (zdg D_X1_draw 8 (14, .iload_n 1, 1) rfl) rfl rfl ?_
    refine z_if_le (pc := 15) 30 (zdg D_X1_draw 9 (15, .ifCond .le 15, 3) rfl) rfl hf (fun hf => ?_) (fun hf => ?_)
    · refine z_iconst (pc := 30) (v := 0) (zdg D_X1_draw 17 (30, .iconst 0, 1) rfl) rfl ?_
      exact z_iret (pc := 31) rfl rfl (zdg D_X1_draw 18 (31, .ireturn, 1) rfl) (hP _ _ hf)
    · refine z_aload_n (pc := 18) 0 (zdg D_X1_draw 10 (18, .aload_n 0, 1) rfl) rfl rfl ?_
      refine z_getI (pc := 19) lf_X1_99 rfl rfl (zdg D_X1_draw 11 (19, .getfield 99, 3) rfl) ?_
      refine z_bipush (pc := 22) (v := 8) (zdg D_X1_draw 12 (22, .bipush 8, 2) rfl) rfl ?_
      refine z_iushr (pc := 24) (zdg D_X1_draw 13 (24, .iushr, 1) rfl) ?_
      refine z_iload_n (pc := 25) 1 (zdg D_X1_draw 14 (25, .iload_n 1, 1) rfl) rfl rfl ?_
      refine z_irem (pc := 26) (zdg D_X1_draw 15 (26, .irem, 1) rfl) hn hf (fun hf => ?_)
      refine z_goto (pc := 27) 31 (zdg D_X1_draw 16 (27, .goto 4, 3) rfl) rfl ?_
      exact z_iret (pc := 31) rfl rfl (zdg D_X1_draw 18 (31, .ireturn, 1) rfl) (hP _ _ hf)

def L_X7_add : List (Nat × Instr × Nat) := [(0, .aload_n 0, 1), (1, .getfield 21, 3), (4, .bipush 8, 2), (6, .if_icmp .ge 43, 3), (9, .aload_n 0, 1), (10, .getfield 9, 3), (13, .aload_n 0, 1), (14, .getfield 21, 3), (17, .iload_n 1, 1), (18, .iastore, 1), (19, .aload_n 0, 1), (20, .getfield 18, 3), (23, .aload_n 0, 1), (24, .getfield 21, 3), (27, .iload_n 2, 1), (28, .iastore, 1), (29, .aload_n 0, 1), (30, .getfield 15, 3), (33, .aload_n 0, 1), (34, .getfield 21, 3), (37, .iload_n 3, 1), (38, .iastore, 1), (39, .aload_n 0, 1), (40, .dup, 1), (41, .getfield 21, 3), (44, .iconst 1, 1), (45, .iadd, 1), (46, .putfield 21, 3), (49, .return_, 1)]
set_option maxRecDepth 100000 in
theorem D_X7_add : zdecs cX7_add L_X7_add = true := by decide +kernel
noncomputable def f_X7_add (i : Nat) (p1 : Int32) (p2 : Int32) (p3 : Int32) (σ : zG) : Option (zG) :=
  if (σ.1 7 i 0) < (8 : Int32) then zg (zin (σ.1 7 i 0) 8) (zb (zwI σ 12 i (σ.1 7 i 0).toNatClampNeg p1) (fun s1 => zg (zin (s1.1 7 i 0) 8) (zb (zwI s1 14 i (s1.1 7 i 0).toNatClampNeg p2) (fun s2 => zg (zin (s2.1 7 i 0) 8) (zb (zwI s2 13 i (s2.1 7 i 0).toNatClampNeg p3) (fun s3 => zb (zwI s3 7 i 0 ((s3.1 7 i 0) + (1 : Int32))) (fun s4 => some s4))))))) else some σ
set_option maxRecDepth 100000 in
set_option maxHeartbeats 4000000 in
theorem c_X7_add (l : Launch) (i : Nat) (p1 : Int32) (p2 : Int32) (p3 : Int32) (σ : zG) (q : zG) (hq : f_X7_add i p1 p2 p3 σ = some q) : zMet l zsyC m_X7_add yX7_add [zR 7 i, zI p1, zI p2, zI p3] σ none q := by
  refine zEnter [(0, zR 7 i), (1, zI p1), (2, zI p2), (3, zI p3)] (by decide) rfl (fun _ => Nat.le_of_ble_eq_true rfl) (fun _ => rfl) (fun w h => ?_) (fun K hv hs => ?_)
  · exact zokm rfl h
  · have hP : ∀ s, f_X7_add i p1 p2 p3 σ = some s → zKv K = none ∧ zKs K = s := fun s h => by rw [hq] at h; cases h; exact ⟨hv, hs⟩
    have hn : f_X7_add i p1 p2 p3 σ ≠ none := fun z => by rw [hq] at z; cases z
    have hf := f_X7_add.eq_1 i p1 p2 p3 σ
    refine z_aload_n (pc := 0) 0 (zdg D_X7_add 0 (0, .aload_n 0, 1) rfl) rfl rfl ?_
    refine z_getI (pc := 1) lf_X7_21 rfl rfl (zdg D_X7_add 1 (1, .getfield 21, 3) rfl) ?_
    refine z_bipush (pc := 4) (v := 8) (zdg D_X7_add 2 (4, .bipush 8, 2) rfl) rfl ?_
    refine z_icmp_ge (pc := 6) 49 (zdg D_X7_add 3 (6, .if_icmp .ge 43, 3) rfl) rfl hf (fun hf => ?_) (fun hf => ?_)
    · exact z_vret (pc := 49) rfl (zdg D_X7_add 28 (49, .return_, 1) rfl) (hP _ hf)
    · refine z_aload_n (pc := 9) 0 (zdg D_X7_add 4 (9, .aload_n 0, 1) rfl) rfl rfl ?_
      refine z_getR (pc := 10) (g := 12) (j := i) lf_X7_9 rfl rfl rfl (zdg D_X7_add 5 (10, .getfield 9, 3) rfl) ?_
      refine z_aload_n (pc := 13) 0 (zdg D_X7_add 6 (13, .aload_n 0, 1) rfl) rfl rfl ?_
      refine z_getI (pc := 14) lf_X7_21 rfl rfl (zdg D_X7_add 7 (14, .getfield 21, 3) rfl) ?_
      refine z_iload_n (pc := 17) 1 (zdg D_X7_add 8 (17, .iload_n 1, 1) rfl) rfl rfl ?_
      refine z_iast (pc := 18) rfl (fun _ => rfl) (zdg D_X7_add 9 (18, .iastore, 1) rfl) hn hf (fun hf => ?_)
      refine z_nmS hf (fun s1 hf => ?_)
      refine z_aload_n (pc := 19) 0 (zdg D_X7_add 10 (19, .aload_n 0, 1) rfl) rfl rfl ?_
      refine z_getR (pc := 20) (g := 14) (j := i) lf_X7_18 rfl rfl rfl (zdg D_X7_add 11 (20, .getfield 18, 3) rfl) ?_
      refine z_aload_n (pc := 23) 0 (zdg D_X7_add 12 (23, .aload_n 0, 1) rfl) rfl rfl ?_
      refine z_getI (pc := 24) lf_X7_21 rfl rfl (zdg D_X7_add 13 (24, .getfield 21, 3) rfl) ?_
      refine z_iload_n (pc := 27) 2 (zdg D_X7_add 14 (27, .iload_n 2, 1) rfl) rfl rfl ?_
      refine z_iast (pc := 28) rfl (fun _ => rfl) (zdg D_X7_add 15 (28, .iastore, 1) rfl) hn hf (fun hf => ?_)
      refine z_nmS hf (fun s2 hf => ?_)
      refine z_aload_n (pc := 29) 0 (zdg D_X7_add 16 (29, .aload_n 0, 1) rfl) rfl rfl ?_
      refine z_getR (pc := 30) (g := 13) (j := i) lf_X7_15 rfl rfl rfl (zdg D_X7_add 17 (30, .getfield 15, 3) rfl) ?_
      refine z_aload_n (pc := 33) 0 (zdg D_X7_add 18 (33, .aload_n 0, 1) rfl) rfl rfl ?_
      refine z_getI (pc := 34) lf_X7_21 rfl rfl (zdg D_X7_add 19 (34, .getfield 21, 3) rfl) ?_
      refine z_iload_n (pc := 37) 3 (zdg D_X7_add 20 (37, .iload_n 3, 1) rfl) rfl rfl ?_
      refine z_iast (pc := 38) rfl (fun _ => rfl) (zdg D_X7_add 21 (38, .iastore, 1) rfl) hn hf (fun hf => ?_)
      refine z_nmS hf (fun s3 hf => ?_)
      refine z_aload_n (pc := 39) 0 (zdg D_X7_add 22 (39, .aload_n 0, 1) rfl) rfl rfl ?_
      refine z_dup (pc := 40) rfl (zdg D_X7_add 23 (40, .dup, 1) rfl) ?_
      refine z_getI (pc := 41) lf_X7_21 rfl rfl (zdg D_X7_add 24 (41, .getfield 21, 3) rfl) ?_
      refine z_iconst (pc := 44) (v := 1) (zdg D_X7_add 25 (44, .iconst 1, 1) rfl) rfl ?_
      refine z_iadd (pc := 45) (zdg D_X7_add 26 (45, .iadd, 1) rfl) ?_
      refine z_putI (pc := 46) lw_X7_21 rfl rfl rfl rfl (zdg D_X7_add 27 (46, .putfield 21, 3) rfl) ?_
      refine z_nmS hf (fun s4 hf => ?_)
      exact z_vret (pc := 49) rfl (zdg D_X7_add 28 (49, .return_, 1) rfl) (hP _ hf)

def L_X7_leaveBefore : List (Nat × Instr × Nat) := [(0, .iconst 0, 1), (1, .istore_n 2, 1), (2, .iconst 0, 1), (3, .istore_n 3, 1), (4, .iload_n 3, 1), (5, .aload_n 0, 1), (6, .getfield 21, 3), (9, .if_icmp .ge 64, 3), (12, .iload_n 3, 1), (13, .bipush 8, 2), (15, .if_icmp .ge 58, 3), (18, .aload_n 0, 1), (19, .getfield 15, 3), (22, .iload_n 3, 1), (23, .iaload, 1), (24, .iload_n 1, 1), (25, .if_icmp .lt 42, 3), (28, .aload_n 0, 1), (29, .getfield 9, 3), (32, .iload_n 2, 1), (33, .aload_n 0, 1), (34, .getfield 9, 3), (37, .iload_n 3, 1), (38, .iaload, 1), (39, .iastore, 1), (40, .aload_n 0, 1), (41, .getfield 18, 3), (44, .iload_n 2, 1), (45, .aload_n 0, 1), (46, .getfield 18, 3), (49, .iload_n 3, 1), (50, .iaload, 1), (51, .iastore, 1), (52, .aload_n 0, 1), (53, .getfield 15, 3), (56, .iload_n 2, 1), (57, .aload_n 0, 1), (58, .getfield 15, 3), (61, .iload_n 3, 1), (62, .iaload, 1), (63, .iastore, 1), (64, .iinc 2 1, 3), (67, .iinc 3 1, 3), (70, .goto (-66), 3), (73, .aload_n 0, 1), (74, .iload_n 2, 1), (75, .putfield 21, 3), (78, .return_, 1)]
set_option maxRecDepth 100000 in
theorem D_X7_leaveBefore : zdecs cX7_leaveBefore L_X7_leaveBefore = true := by decide +kernel
noncomputable def b_X7_leaveBefore_4 (i : Nat) (p1 : Int32) (v2_1 : Int32) (v3_2 : Int32) (s3 : zG) : Option ((Int32 × Int32 × zG) ⊕ (Int32 × zG)) :=
  if v3_2 < (s3.1 7 i 0) then if v3_2 < (8 : Int32) then zg (zin v3_2 8) (if p1 ≤ (s3.1 13 i v3_2.toNatClampNeg) then zg (zin v3_2 8) (zg (zin v2_1 8) (zb (zwI s3 12 i v2_1.toNatClampNeg (s3.1 12 i v3_2.toNatClampNeg)) (fun s4 => zg (zin v3_2 8) (zg (zin v2_1 8) (zb (zwI s4 14 i v2_1.toNatClampNeg (s4.1 14 i v3_2.toNatClampNeg)) (fun s5 => zg (zin v3_2 8) (zg (zin v2_1 8) (zb (zwI s5 13 i v2_1.toNatClampNeg (s5.1 13 i v3_2.toNatClampNeg)) (fun s6 => some (Sum.inl ((v2_1 + 1), (v3_2 + 1), s6))))))))))) else some (Sum.inl (v2_1, (v3_2 + 1), s3))) else some (Sum.inr (v2_1, s3)) else some (Sum.inr (v2_1, s3))
noncomputable def f_X7_leaveBefore (i : Nat) (p1 : Int32) (σ : zG) : Option (zG) :=
  (zlp (fun q : Int32 × Int32 × zG => b_X7_leaveBefore_4 i p1 q.1 q.2.1 q.2.2) ((0 : Int32), (0 : Int32), σ)).bind (fun e7 : Int32 × zG => zb (zwI e7.2 7 i 0 e7.1) (fun s8 => some s8))
set_option maxRecDepth 100000 in
set_option maxHeartbeats 4000000 in
theorem c_X7_leaveBefore (l : Launch) (i : Nat) (p1 : Int32) (σ : zG) (q : zG) (hq : f_X7_leaveBefore i p1 σ = some q) : zMet l zsyC m_X7_leaveBefore yX7_leaveBefore [zR 7 i, zI p1] σ none q := by
  refine zEnter [(0, zR 7 i), (1, zI p1)] (by decide) rfl (fun _ => Nat.le_of_ble_eq_true rfl) (fun _ => rfl) (fun w h => ?_) (fun K hv hs => ?_)
  · exact zokm rfl h
  · have hP : ∀ s, f_X7_leaveBefore i p1 σ = some s → zKv K = none ∧ zKs K = s := fun s h => by rw [hq] at h; cases h; exact ⟨hv, hs⟩
    have hn : f_X7_leaveBefore i p1 σ ≠ none := fun z => by rw [hq] at z; cases z
    have hf := f_X7_leaveBefore.eq_1 i p1 σ
    refine z_iconst (pc := 0) (v := 0) (zdg D_X7_leaveBefore 0 (0, .iconst 0, 1) rfl) rfl ?_
    refine z_istore_n (pc := 1) (al' := [(2, zI (0 : Int32)), (0, zR 7 i), (1, zI p1)]) (zdg D_X7_leaveBefore 1 (1, .istore_n 2, 1) rfl) rfl (by decide) rfl ?_
    refine z_iconst (pc := 2) (v := 0) (zdg D_X7_leaveBefore 2 (2, .iconst 0, 1) rfl) rfl ?_
    refine z_istore_n (pc := 3) (al' := [(3, zI (0 : Int32)), (2, zI (0 : Int32)), (0, zR 7 i), (1, zI p1)]) (zdg D_X7_leaveBefore 3 (3, .istore_n 3, 1) rfl) rfl (by decide) rfl ?_
    refine z_sub (al' := [(0, zR 7 i), (1, zI p1), (2, zI (0 : Int32)), (3, zI (0 : Int32))]) [2, 3, 1, 0] rfl ?_
    refine z_loop (f := (fun q : Int32 × Int32 × zG => b_X7_leaveBefore_4 i p1 q.1 q.2.1 q.2.2)) (a := ((0 : Int32), (0 : Int32), σ)) (fun q : Int32 × Int32 × zG => zX zsyC m_X7_leaveBefore K 4 [(0, zR 7 i), (1, zI p1), (2, zI q.1), (3, zI q.2.1)] [] q.2.2) (fun e7 : Int32 × zG => zX zsyC m_X7_leaveBefore K 73 [(0, zR 7 i), (2, zI e7.1)] [] e7.2) hn hf ?_ ?_
    · intro e7 hf
      refine z_aload_n (pc := 73) 0 (zdg D_X7_leaveBefore 44 (73, .aload_n 0, 1) rfl) rfl rfl ?_
      refine z_iload_n (pc := 74) 1 (zdg D_X7_leaveBefore 45 (74, .iload_n 2, 1) rfl) rfl rfl ?_
      refine z_putI (pc := 75) lw_X7_21 rfl rfl rfl rfl (zdg D_X7_leaveBefore 46 (75, .putfield 21, 3) rfl) ?_
      refine z_nmS hf (fun s8 hf => ?_)
      exact z_vret (pc := 78) rfl (zdg D_X7_leaveBefore 47 (78, .return_, 1) rfl) (hP _ hf)
    · rintro ⟨v2_1, v3_2, s3⟩ hn hi hx
      have hf := b_X7_leaveBefore_4.eq_1 i p1 v2_1 v3_2 s3
      refine z_iload_n (pc := 4) 3 (zdg D_X7_leaveBefore 4 (4, .iload_n 3, 1) rfl) rfl rfl ?_
      refine z_aload_n (pc := 5) 0 (zdg D_X7_leaveBefore 5 (5, .aload_n 0, 1) rfl) rfl rfl ?_
      refine z_getI (pc := 6) lf_X7_21 rfl rfl (zdg D_X7_leaveBefore 6 (6, .getfield 21, 3) rfl) ?_
      refine z_icmp_ge (pc := 9) 73 (zdg D_X7_leaveBefore 7 (9, .if_icmp .ge 64, 3) rfl) rfl hf (fun hf => ?_) (fun hf => ?_)
      · refine z_sub (al' := [(0, zR 7 i), (2, zI v2_1)]) [0, 2] rfl ?_
        exact hx (v2_1, s3) hf
      · refine z_iload_n (pc := 12) 3 (zdg D_X7_leaveBefore 8 (12, .iload_n 3, 1) rfl) rfl rfl ?_
        refine z_bipush (pc := 13) (v := 8) (zdg D_X7_leaveBefore 9 (13, .bipush 8, 2) rfl) rfl ?_
        refine z_icmp_ge (pc := 15) 73 (zdg D_X7_leaveBefore 10 (15, .if_icmp .ge 58, 3) rfl) rfl hf (fun hf => ?_) (fun hf => ?_)
        · refine z_sub (al' := [(0, zR 7 i), (2, zI v2_1)]) [0, 2] rfl ?_
          exact hx (v2_1, s3) hf
        · refine z_aload_n (pc := 18) 0 (zdg D_X7_leaveBefore 11 (18, .aload_n 0, 1) rfl) rfl rfl ?_
          refine z_getR (pc := 19) (g := 13) (j := i) lf_X7_15 rfl rfl rfl (zdg D_X7_leaveBefore 12 (19, .getfield 15, 3) rfl) ?_
          refine z_iload_n (pc := 22) 3 (zdg D_X7_leaveBefore 13 (22, .iload_n 3, 1) rfl) rfl rfl ?_
          refine z_iald (pc := 23) rfl (fun _ => rfl) (zdg D_X7_leaveBefore 14 (23, .iaload, 1) rfl) hn hf (fun hf => ?_)
          refine z_iload_n (pc := 24) 1 (zdg D_X7_leaveBefore 15 (24, .iload_n 1, 1) rfl) rfl rfl ?_
          refine z_icmp_lt (pc := 25) 67 (zdg D_X7_leaveBefore 16 (25, .if_icmp .lt 42, 3) rfl) rfl hf (fun hf => ?_) (fun hf => ?_)
          · refine z_iinc (pc := 67) (v0 := (v3_2 + 1)) (al' := [(3, zI (v3_2 + 1)), (0, zR 7 i), (1, zI p1), (2, zI v2_1)]) 3 (zdg D_X7_leaveBefore 42 (67, .iinc 3 1, 3) rfl) rfl rfl (by decide) rfl ?_
            refine z_goto (pc := 70) 4 (zdg D_X7_leaveBefore 43 (70, .goto (-66), 3) rfl) rfl ?_
            refine z_sub (al' := [(0, zR 7 i), (1, zI p1), (2, zI v2_1), (3, zI (v3_2 + 1))]) [1, 2, 3, 0] rfl ?_
            exact hi (v2_1, (v3_2 + 1), s3) hf
          · refine z_aload_n (pc := 28) 0 (zdg D_X7_leaveBefore 17 (28, .aload_n 0, 1) rfl) rfl rfl ?_
            refine z_getR (pc := 29) (g := 12) (j := i) lf_X7_9 rfl rfl rfl (zdg D_X7_leaveBefore 18 (29, .getfield 9, 3) rfl) ?_
            refine z_iload_n (pc := 32) 2 (zdg D_X7_leaveBefore 19 (32, .iload_n 2, 1) rfl) rfl rfl ?_
            refine z_aload_n (pc := 33) 0 (zdg D_X7_leaveBefore 20 (33, .aload_n 0, 1) rfl) rfl rfl ?_
            refine z_getR (pc := 34) (g := 12) (j := i) lf_X7_9 rfl rfl rfl (zdg D_X7_leaveBefore 21 (34, .getfield 9, 3) rfl) ?_
            refine z_iload_n (pc := 37) 3 (zdg D_X7_leaveBefore 22 (37, .iload_n 3, 1) rfl) rfl rfl ?_
            refine z_iald (pc := 38) rfl (fun _ => rfl) (zdg D_X7_leaveBefore 23 (38, .iaload, 1) rfl) hn hf (fun hf => ?_)
            refine z_iast (pc := 39) rfl (fun _ => rfl) (zdg D_X7_leaveBefore 24 (39, .iastore, 1) rfl) hn hf (fun hf => ?_)
            refine z_nmS hf (fun s4 hf => ?_)
            refine z_aload_n (pc := 40) 0 (zdg D_X7_leaveBefore 25 (40, .aload_n 0, 1) rfl) rfl rfl ?_
            refine z_getR (pc := 41) (g := 14) (j := i) lf_X7_18 rfl rfl rfl (zdg D_X7_leaveBefore 26 (41, .getfield 18, 3) rfl) ?_
            refine z_iload_n (pc := 44) 2 (zdg D_X7_leaveBefore 27 (44, .iload_n 2, 1) rfl) rfl rfl ?_
            refine z_aload_n (pc := 45) 0 (zdg D_X7_leaveBefore 28 (45, .aload_n 0, 1) rfl) rfl rfl ?_
            refine z_getR (pc := 46) (g := 14) (j := i) lf_X7_18 rfl rfl rfl (zdg D_X7_leaveBefore 29 (46, .getfield 18, 3) rfl) ?_
            refine z_iload_n (pc := 49) 3 (zdg D_X7_leaveBefore 30 (49, .iload_n 3, 1) rfl) rfl rfl ?_
            refine z_iald (pc := 50) rfl (fun _ => rfl) (zdg D_X7_leaveBefore 31 (50, .iaload, 1) rfl) hn hf (fun hf => ?_)
            refine z_iast (pc := 51) rfl (fun _ => rfl) (zdg D_X7_leaveBefore 32 (51, .iastore, 1) rfl) hn hf (fun hf => ?_)
            refine z_nmS hf (fun s5 hf => ?_)
            refine z_aload_n (pc := 52) 0 (zdg D_X7_leaveBefore 33 (52, .aload_n 0, 1) rfl) rfl rfl ?_
            refine z_getR (pc := 53) (g := 13) (j := i) lf_X7_15 rfl rfl rfl (zdg D_X7_leaveBefore 34 (53, .getfield 15, 3) rfl) ?_
            refine z_iload_n (pc := 56) 2 (zdg D_X7_leaveBefore 35 (56, .iload_n 2, 1) rfl) rfl rfl ?_
            refine z_aload_n (pc := 57) 0 (zdg D_X7_leaveBefore 36 (57, .aload_n 0, 1) rfl) rfl rfl ?_
            refine z_getR (pc := 58) (g := 13) (j := i) lf_X7_15 rfl rfl rfl (zdg D_X7_leaveBefore 37 (58, .getfield 15, 3) rfl) ?_
            refine z_iload_n (pc := 61) 3 (zdg D_X7_leaveBefore 38 (61, .iload_n 3, 1) rfl) rfl rfl ?_
            refine z_iald (pc := 62) rfl (fun _ => rfl) (zdg D_X7_leaveBefore 39 (62, .iaload, 1) rfl) hn hf (fun hf => ?_)
            refine z_iast (pc := 63) rfl (fun _ => rfl) (zdg D_X7_leaveBefore 40 (63, .iastore, 1) rfl) hn hf (fun hf => ?_)
            refine z_nmS hf (fun s6 hf => ?_)
            refine z_iinc (pc := 64) (v0 := (v2_1 + 1)) (al' := [(2, zI (v2_1 + 1)), (0, zR 7 i), (1, zI p1), (3, zI v3_2)]) 2 (zdg D_X7_leaveBefore 41 (64, .iinc 2 1, 3) rfl) rfl rfl (by decide) rfl ?_
            refine z_iinc (pc := 67) (v0 := (v3_2 + 1)) (al' := [(3, zI (v3_2 + 1)), (2, zI (v2_1 + 1)), (0, zR 7 i), (1, zI p1)]) 3 (zdg D_X7_leaveBefore 42 (67, .iinc 3 1, 3) rfl) rfl rfl (by decide) rfl ?_
            refine z_goto (pc := 70) 4 (zdg D_X7_leaveBefore 43 (70, .goto (-66), 3) rfl) rfl ?_
            refine z_sub (al' := [(0, zR 7 i), (1, zI p1), (2, zI (v2_1 + 1)), (3, zI (v3_2 + 1))]) [2, 3, 1, 0] rfl ?_
            exact hi ((v2_1 + 1), (v3_2 + 1), s6) hf

def L_X1_passMinute : List (Nat × Instr × Nat) := [(0, .aload_n 0, 1), (1, .getfield 73, 3), (4, .ifCond .le 33, 3), (7, .aload_n 0, 1), (8, .getfield 12, 3), (11, .getfield 85, 3), (14, .bipush 8, 2), (16, .if_icmp .ge 21, 3), (19, .aload_n 0, 1), (20, .sipush 1000, 3), (23, .invokevirtual 130, 3), (26, .aload_n 0, 1), (27, .getfield 73, 3), (30, .if_icmp .ge 7, 3), (33, .iconst 1, 1), (34, .goto 4, 3), (37, .iconst 0, 1), (38, .istore_n 1, 1), (39, .iload_n 1, 1), (40, .ifCond .eq 64, 3), (43, .aload_n 0, 1), (44, .getfield 57, 3), (47, .ifCond .le 57, 3), (50, .aload_n 0, 1), (51, .aload_n 0, 1), (52, .getfield 57, 3), (55, .aload_n 0, 1), (56, .getfield 61, 3), (59, .imul, 1), (60, .invokevirtual 130, 3), (63, .istore_n 2, 1), (64, .iload_n 2, 1), (65, .aload_n 0, 1), (66, .getfield 57, 3), (69, .idiv, 1), (70, .bipush 8, 2), (72, .imul, 1), (73, .iload_n 2, 1), (74, .aload_n 0, 1), (75, .getfield 57, 3), (78, .irem, 1), (79, .iadd, 1), (80, .istore_n 3, 1), (81, .aload_n 0, 1), (82, .getfield 12, 3), (85, .iload_n 3, 1), (86, .aload_n 0, 1), (87, .getfield 64, 3), (90, .aload_n 0, 1), (91, .getfield 64, 3), (94, .aload_n 0, 1), (95, .getfield 76, 3), (98, .iadd, 1), (99, .iconst 1, 1), (100, .isub, 1), (101, .invokevirtual 134, 3), (104, .aload_n 0, 1), (105, .dup, 1), (106, .getfield 64, 3), (109, .iconst 1, 1), (110, .iadd, 1), (111, .putfield 64, 3), (114, .aload_n 0, 1), (115, .getfield 12, 3), (118, .aload_n 0, 1), (119, .getfield 64, 3), (122, .invokevirtual 138, 3), (125, .iload_n 1, 1), (126, .ireturn, 1)]
set_option maxRecDepth 100000 in
theorem D_X1_passMinute : zdecs cX1_passMinute L_X1_passMinute = true := by decide +kernel
noncomputable def j_X1_passMinute_104 (i : Nat) (w1_4 : Int32) (s5 : zG) : Option (Int32 × zG) :=
  zb (zwI s5 1 i 3 ((s5.1 1 i 3) + (1 : Int32))) (fun s6 => (f_X7_leaveBefore (7 * i) (s6.1 1 i 3) s6).bind (fun q7 => zg (zbl w1_4) (some (w1_4, q7))))
noncomputable def j_X1_passMinute_38 (i : Nat) (t2 : Int32) (s3 : zG) : Option (Int32 × zG) :=
  if t2 = 0 then j_X1_passMinute_104 i t2 s3 else if 0 < (s3.1 1 i 0) then (f_X1_draw i ((s3.1 1 i 0) * (s3.1 1 i 1)) s3).bind (fun q8 => zg ((q8.2.1 1 i 0) != 0) (zg ((q8.2.1 1 i 0) != 0) (zb (((q8.1 / (q8.2.1 1 i 0)) * (8 : Int32)) + (zrem q8.1 (q8.2.1 1 i 0))) (fun x9 => (f_X7_add (7 * i) x9 (q8.2.1 1 i 3) (((q8.2.1 1 i 3) + (q8.2.1 1 i 7)) - (1 : Int32)) q8.2).bind (fun q10 => j_X1_passMinute_104 i t2 q10))))) else j_X1_passMinute_104 i t2 s3
noncomputable def j_X1_passMinute_37 (i : Nat) (s1 : zG) : Option (Int32 × zG) :=
  j_X1_passMinute_38 i (0 : Int32) s1
noncomputable def f_X1_passMinute (i : Nat) (σ : zG) : Option (Int32 × zG) :=
  if 0 < (σ.1 1 i 6) then if (σ.1 7 (7 * i) 0) < (8 : Int32) then (f_X1_draw i (1000 : Int32) σ).bind (fun q11 => if q11.1 < (q11.2.1 1 i 6) then j_X1_passMinute_38 i (1 : Int32) q11.2 else j_X1_passMinute_37 i q11.2) else j_X1_passMinute_37 i σ else j_X1_passMinute_37 i σ
set_option maxRecDepth 100000 in
set_option maxHeartbeats 4000000 in
theorem c_X1_passMinute (l : Launch) (i : Nat) (σ : zG) (q : Int32 × zG) (hq : f_X1_passMinute i σ = some q) : zMet l zsyC m_X1_passMinute yX1_passMinute [zR 1 i] σ (some (zI q.1)) q.2 := by
  refine zEnter [(0, zR 1 i)] (by decide) rfl (fun _ => Nat.le_of_ble_eq_true rfl) (fun _ => rfl) (fun w h => ?_) (fun K hv hs => ?_)
  · exact zokm rfl h
  · have hP : ∀ x s, f_X1_passMinute i σ = some (x, s) → zKv K = some (zI x) ∧ zKs K = s := fun x s h => by rw [hq] at h; cases h; exact ⟨hv, hs⟩
    have hn : f_X1_passMinute i σ ≠ none := fun z => by rw [hq] at z; cases z
    have hf := f_X1_passMinute.eq_1 i σ
    have t_104 : ∀ (w1_4 : Int32) (s5 : zG), f_X1_passMinute i σ = j_X1_passMinute_104 i w1_4 s5 → zX zsyC m_X1_passMinute K 104 [(0, zR 1 i), (1, zI w1_4)] [] s5 := by
      intro w1_4 s5 hf
      replace hf := hf.trans (j_X1_passMinute_104.eq_1 i w1_4 s5)
      refine z_aload_n (pc := 104) 0 (zdg D_X1_passMinute 56 (104, .aload_n 0, 1) rfl) rfl rfl ?_
      refine z_dup (pc := 105) rfl (zdg D_X1_passMinute 57 (105, .dup, 1) rfl) ?_
      refine z_getI (pc := 106) lf_X1_64 rfl rfl (zdg D_X1_passMinute 58 (106, .getfield 64, 3) rfl) ?_
      refine z_iconst (pc := 109) (v := 1) (zdg D_X1_passMinute 59 (109, .iconst 1, 1) rfl) rfl ?_
      refine z_iadd (pc := 110) (zdg D_X1_passMinute 60 (110, .iadd, 1) rfl) ?_
      refine z_putI (pc := 111) lw_X1_64 rfl rfl rfl rfl (zdg D_X1_passMinute 61 (111, .putfield 64, 3) rfl) ?_
      refine z_nmS hf (fun s6 hf => ?_)
      refine z_aload_n (pc := 114) 0 (zdg D_X1_passMinute 62 (114, .aload_n 0, 1) rfl) rfl rfl ?_
      refine z_getR (pc := 115) (g := 7) (j := 7 * i) lf_X1_12 rfl rfl rfl (zdg D_X1_passMinute 63 (115, .getfield 12, 3) rfl) ?_
      refine z_aload_n (pc := 118) 0 (zdg D_X1_passMinute 64 (118, .aload_n 0, 1) rfl) rfl rfl ?_
      refine z_getI (pc := 119) lf_X1_64 rfl rfl (zdg D_X1_passMinute 65 (119, .getfield 64, 3) rfl) ?_
      refine z_bind hn hf (fun q7 hq hf => ?_)
      refine z_callV (pc := 122) (rest := []) (st2 := []) (fun l => c_X7_leaveBefore l (7 * i) (s6.1 1 i 3) s6 q7 hq) zv_X7_leaveBefore lm_X1_138 rfl rfl rfl rfl rfl rfl (Nat.le_of_ble_eq_true rfl) ⟨Nat.le_of_ble_eq_true rfl, Nat.le_of_ble_eq_true rfl⟩ (zdg D_X1_passMinute 66 (122, .invokevirtual 138, 3) rfl) ?_
      refine z_iload_n (pc := 125) 1 (zdg D_X1_passMinute 67 (125, .iload_n 1, 1) rfl) rfl rfl ?_
      exact z_zret (pc := 126) rfl (zdg D_X1_passMinute 68 (126, .ireturn, 1) rfl) hn hf (fun hf => (hP _ _ hf))
    have t_38 : ∀ (t2 : Int32) (s3 : zG), f_X1_passMinute i σ = j_X1_passMinute_38 i t2 s3 → zX zsyC m_X1_passMinute K 38 [(0, zR 1 i)] [zI t2] s3 := by
      intro t2 s3 hf
      replace hf := hf.trans (j_X1_passMinute_38.eq_1 i t2 s3)
      refine z_istore_n (pc := 38) (al' := [(1, zI t2), (0, zR 1 i)]) (zdg D_X1_passMinute 17 (38, .istore_n 1, 1) rfl) rfl (by decide) rfl ?_
      refine z_iload_n (pc := 39) 0 (zdg D_X1_passMinute 18 (39, .iload_n 1, 1) rfl) rfl rfl ?_
      refine z_if_eq (pc := 40) 104 (zdg D_X1_passMinute 19 (40, .ifCond .eq 64, 3) rfl) rfl hf (fun hf => ?_) (fun hf => ?_)
      · refine z_sub (al' := [(0, zR 1 i), (1, zI t2)]) [1, 0] rfl ?_
        exact t_104 t2 s3 hf
      · refine z_aload_n (pc := 43) 1 (zdg D_X1_passMinute 20 (43, .aload_n 0, 1) rfl) rfl rfl ?_
        refine z_getI (pc := 44) lf_X1_57 rfl rfl (zdg D_X1_passMinute 21 (44, .getfield 57, 3) rfl) ?_
        refine z_if_le (pc := 47) 104 (zdg D_X1_passMinute 22 (47, .ifCond .le 57, 3) rfl) rfl hf (fun hf => ?_) (fun hf => ?_)
        · refine z_sub (al' := [(0, zR 1 i), (1, zI t2)]) [1, 0] rfl ?_
          exact t_104 t2 s3 hf
        · refine z_aload_n (pc := 50) 1 (zdg D_X1_passMinute 23 (50, .aload_n 0, 1) rfl) rfl rfl ?_
          refine z_aload_n (pc := 51) 1 (zdg D_X1_passMinute 24 (51, .aload_n 0, 1) rfl) rfl rfl ?_
          refine z_getI (pc := 52) lf_X1_57 rfl rfl (zdg D_X1_passMinute 25 (52, .getfield 57, 3) rfl) ?_
          refine z_aload_n (pc := 55) 1 (zdg D_X1_passMinute 26 (55, .aload_n 0, 1) rfl) rfl rfl ?_
          refine z_getI (pc := 56) lf_X1_61 rfl rfl (zdg D_X1_passMinute 27 (56, .getfield 61, 3) rfl) ?_
          refine z_imul (pc := 59) (zdg D_X1_passMinute 28 (59, .imul, 1) rfl) ?_
          refine z_bind hn hf (fun q8 hq hf => ?_)
          refine z_callV (pc := 60) (rest := []) (st2 := [zI q8.1]) (fun l => c_X1_draw l i ((s3.1 1 i 0) * (s3.1 1 i 1)) s3 q8 hq) zv_X1_draw lm_X1_130 rfl rfl rfl rfl rfl rfl (Nat.le_of_ble_eq_true rfl) ⟨Nat.le_of_ble_eq_true rfl, Nat.le_of_ble_eq_true rfl⟩ (zdg D_X1_passMinute 29 (60, .invokevirtual 130, 3) rfl) ?_
          refine z_istore_n (pc := 63) (al' := [(2, zI q8.1), (1, zI t2), (0, zR 1 i)]) (zdg D_X1_passMinute 30 (63, .istore_n 2, 1) rfl) rfl (by decide) rfl ?_
          refine z_iload_n (pc := 64) 0 (zdg D_X1_passMinute 31 (64, .iload_n 2, 1) rfl) rfl rfl ?_
          refine z_aload_n (pc := 65) 2 (zdg D_X1_passMinute 32 (65, .aload_n 0, 1) rfl) rfl rfl ?_
          refine z_getI (pc := 66) lf_X1_57 rfl rfl (zdg D_X1_passMinute 33 (66, .getfield 57, 3) rfl) ?_
          refine z_idiv (pc := 69) (zdg D_X1_passMinute 34 (69, .idiv, 1) rfl) hn hf (fun hf => ?_)
          refine z_bipush (pc := 70) (v := 8) (zdg D_X1_passMinute 35 (70, .bipush 8, 2) rfl) rfl ?_
          refine z_imul (pc := 72) (zdg D_X1_passMinute 36 (72, .imul, 1) rfl) ?_
          refine z_iload_n (pc := 73) 0 (zdg D_X1_passMinute 37 (73, .iload_n 2, 1) rfl) rfl rfl ?_
          refine z_aload_n (pc := 74) 2 (zdg D_X1_passMinute 38 (74, .aload_n 0, 1) rfl) rfl rfl ?_
          refine z_getI (pc := 75) lf_X1_57 rfl rfl (zdg D_X1_passMinute 39 (75, .getfield 57, 3) rfl) ?_
          refine z_irem (pc := 78) (zdg D_X1_passMinute 40 (78, .irem, 1) rfl) hn hf (fun hf => ?_)
          refine z_iadd (pc := 79) (zdg D_X1_passMinute 41 (79, .iadd, 1) rfl) ?_
          refine z_nmI hf (fun x9 hf => ?_)
          refine z_istore_n (pc := 80) (al' := [(3, zI x9), (2, zI q8.1), (1, zI t2), (0, zR 1 i)]) (zdg D_X1_passMinute 42 (80, .istore_n 3, 1) rfl) rfl (by decide) rfl ?_
          refine z_aload_n (pc := 81) 3 (zdg D_X1_passMinute 43 (81, .aload_n 0, 1) rfl) rfl rfl ?_
          refine z_getR (pc := 82) (g := 7) (j := 7 * i) lf_X1_12 rfl rfl rfl (zdg D_X1_passMinute 44 (82, .getfield 12, 3) rfl) ?_
          refine z_iload_n (pc := 85) 0 (zdg D_X1_passMinute 45 (85, .iload_n 3, 1) rfl) rfl rfl ?_
          refine z_aload_n (pc := 86) 3 (zdg D_X1_passMinute 46 (86, .aload_n 0, 1) rfl) rfl rfl ?_
          refine z_getI (pc := 87) lf_X1_64 rfl rfl (zdg D_X1_passMinute 47 (87, .getfield 64, 3) rfl) ?_
          refine z_aload_n (pc := 90) 3 (zdg D_X1_passMinute 48 (90, .aload_n 0, 1) rfl) rfl rfl ?_
          refine z_getI (pc := 91) lf_X1_64 rfl rfl (zdg D_X1_passMinute 49 (91, .getfield 64, 3) rfl) ?_
          refine z_aload_n (pc := 94) 3 (zdg D_X1_passMinute 50 (94, .aload_n 0, 1) rfl) rfl rfl ?_
          refine z_getI (pc := 95) lf_X1_76 rfl rfl (zdg D_X1_passMinute 51 (95, .getfield 76, 3) rfl) ?_
          refine z_iadd (pc := 98) (zdg D_X1_passMinute 52 (98, .iadd, 1) rfl) ?_
          refine z_iconst (pc := 99) (v := 1) (zdg D_X1_passMinute 53 (99, .iconst 1, 1) rfl) rfl ?_
          refine z_isub (pc := 100) (zdg D_X1_passMinute 54 (100, .isub, 1) rfl) ?_
          refine z_bind hn hf (fun q10 hq hf => ?_)
          refine z_callV (pc := 101) (rest := []) (st2 := []) (fun l => c_X7_add l (7 * i) x9 (q8.2.1 1 i 3) (((q8.2.1 1 i 3) + (q8.2.1 1 i 7)) - (1 : Int32)) q8.2 q10 hq) zv_X7_add lm_X1_134 rfl rfl rfl rfl rfl rfl (Nat.le_of_ble_eq_true rfl) ⟨Nat.le_of_ble_eq_true rfl, Nat.le_of_ble_eq_true rfl⟩ (zdg D_X1_passMinute 55 (101, .invokevirtual 134, 3) rfl) ?_
          refine z_sub (al' := [(0, zR 1 i), (1, zI t2)]) [3, 2] rfl ?_
          exact t_104 t2 q10 hf
    have t_37 : ∀ (s1 : zG), f_X1_passMinute i σ = j_X1_passMinute_37 i s1 → zX zsyC m_X1_passMinute K 37 [(0, zR 1 i)] [] s1 := by
      intro s1 hf
      replace hf := hf.trans (j_X1_passMinute_37.eq_1 i s1)
      refine z_iconst (pc := 37) (v := 0) (zdg D_X1_passMinute 16 (37, .iconst 0, 1) rfl) rfl ?_
      exact t_38 (0 : Int32) s1 hf
    refine z_aload_n (pc := 0) 0 (zdg D_X1_passMinute 0 (0, .aload_n 0, 1) rfl) rfl rfl ?_
    refine z_getI (pc := 1) lf_X1_73 rfl rfl (zdg D_X1_passMinute 1 (1, .getfield 73, 3) rfl) ?_
    refine z_if_le (pc := 4) 37 (zdg D_X1_passMinute 2 (4, .ifCond .le 33, 3) rfl) rfl hf (fun hf => ?_) (fun hf => ?_)
    · exact t_37 σ hf
    · refine z_aload_n (pc := 7) 0 (zdg D_X1_passMinute 3 (7, .aload_n 0, 1) rfl) rfl rfl ?_
      refine z_getR (pc := 8) (g := 7) (j := 7 * i) lf_X1_12 rfl rfl rfl (zdg D_X1_passMinute 4 (8, .getfield 12, 3) rfl) ?_
      refine z_getI (pc := 11) lf_X1_85 rfl rfl (zdg D_X1_passMinute 5 (11, .getfield 85, 3) rfl) ?_
      refine z_bipush (pc := 14) (v := 8) (zdg D_X1_passMinute 6 (14, .bipush 8, 2) rfl) rfl ?_
      refine z_icmp_ge (pc := 16) 37 (zdg D_X1_passMinute 7 (16, .if_icmp .ge 21, 3) rfl) rfl hf (fun hf => ?_) (fun hf => ?_)
      · exact t_37 σ hf
      · refine z_aload_n (pc := 19) 0 (zdg D_X1_passMinute 8 (19, .aload_n 0, 1) rfl) rfl rfl ?_
        refine z_sipush (pc := 20) (v := 1000) (zdg D_X1_passMinute 9 (20, .sipush 1000, 3) rfl) rfl ?_
        refine z_bind hn hf (fun q11 hq hf => ?_)
        refine z_callV (pc := 23) (rest := []) (st2 := [zI q11.1]) (fun l => c_X1_draw l i (1000 : Int32) σ q11 hq) zv_X1_draw lm_X1_130 rfl rfl rfl rfl rfl rfl (Nat.le_of_ble_eq_true rfl) ⟨Nat.le_of_ble_eq_true rfl, Nat.le_of_ble_eq_true rfl⟩ (zdg D_X1_passMinute 10 (23, .invokevirtual 130, 3) rfl) ?_
        refine z_aload_n (pc := 26) 0 (zdg D_X1_passMinute 11 (26, .aload_n 0, 1) rfl) rfl rfl ?_
        refine z_getI (pc := 27) lf_X1_73 rfl rfl (zdg D_X1_passMinute 12 (27, .getfield 73, 3) rfl) ?_
        refine z_icmp_ge (pc := 30) 37 (zdg D_X1_passMinute 13 (30, .if_icmp .ge 7, 3) rfl) rfl hf (fun hf => ?_) (fun hf => ?_)
        · exact t_37 q11.2 hf
        · refine z_iconst (pc := 33) (v := 1) (zdg D_X1_passMinute 14 (33, .iconst 1, 1) rfl) rfl ?_
          refine z_goto (pc := 34) 38 (zdg D_X1_passMinute 15 (34, .goto 4, 3) rfl) rfl ?_
          exact t_38 (1 : Int32) q11.2 hf

def L_X1_nextShot : List (Nat × Instr × Nat) := [(0, .aload_n 0, 1), (1, .getfield 82, 3), (4, .bipush 10, 2), (6, .if_icmp .ge 15, 3), (9, .aload_n 0, 1), (10, .getfield 44, 3), (13, .aload_n 0, 1), (14, .getfield 82, 3), (17, .aaload, 1), (18, .goto 4, 3), (21, .aconst_null, 1), (22, .areturn, 1)]
set_option maxRecDepth 100000 in
theorem D_X1_nextShot : zdecs cX1_nextShot L_X1_nextShot = true := by decide +kernel
noncomputable def f_X1_nextShot (i : Nat) (σ : zG) : Option (Option Nat) :=
  if (σ.1 1 i 9) < (10 : Int32) then zg (zin (σ.1 1 i 9) 10) (some (some (10 * i + (σ.1 1 i 9).toNatClampNeg))) else some none
set_option maxRecDepth 100000 in
set_option maxHeartbeats 4000000 in
theorem c_X1_nextShot (l : Launch) (i : Nat) (σ : zG) (q : Option Nat) (hq : f_X1_nextShot i σ = some q) : zMet l zsyC m_X1_nextShot yX1_nextShot [zR 1 i] σ (some (zQ 11 q)) σ := by
  refine zEnter [(0, zR 1 i)] (by decide) rfl (fun _ => Nat.le_of_ble_eq_true rfl) (fun _ => rfl) (fun w h => ?_) (fun K hv hs => ?_)
  · exact zokm rfl h
  · have hP : ∀ x, f_X1_nextShot i σ = some x → zKv K = some (zQ 11 x) ∧ zKs K = σ := fun x h => by rw [hq] at h; cases h; exact ⟨hv, hs⟩
    have hn : f_X1_nextShot i σ ≠ none := fun z => by rw [hq] at z; cases z
    have hf := f_X1_nextShot.eq_1 i σ
    refine z_aload_n (pc := 0) 0 (zdg D_X1_nextShot 0 (0, .aload_n 0, 1) rfl) rfl rfl ?_
    refine z_getI (pc := 1) lf_X1_82 rfl rfl (zdg D_X1_nextShot 1 (1, .getfield 82, 3) rfl) ?_
    refine z_bipush (pc := 4) (v := 10) (zdg D_X1_nextShot 2 (4, .bipush 10, 2) rfl) rfl ?_
    refine z_icmp_ge (pc := 6) 21 (zdg D_X1_nextShot 3 (6, .if_icmp .ge 15, 3) rfl) rfl hf (fun hf => ?_) (fun hf => ?_)
    · refine z_null (pc := 21) 11 (zdg D_X1_nextShot 10 (21, .aconst_null, 1) rfl) ?_
      exact z_aret (pc := 22) rfl (zdg D_X1_nextShot 11 (22, .areturn, 1) rfl) (hP _ hf)
    · refine z_aload_n (pc := 9) 0 (zdg D_X1_nextShot 4 (9, .aload_n 0, 1) rfl) rfl rfl ?_
      refine z_getR (pc := 10) (g := 31) (j := i) lf_X1_44 rfl rfl rfl (zdg D_X1_nextShot 5 (10, .getfield 44, 3) rfl) ?_
      refine z_aload_n (pc := 13) 0 (zdg D_X1_nextShot 6 (13, .aload_n 0, 1) rfl) rfl rfl ?_
      refine z_getI (pc := 14) lf_X1_82 rfl rfl (zdg D_X1_nextShot 7 (14, .getfield 82, 3) rfl) ?_
      refine z_aald (pc := 17) (g := 11) (t := fun j => 10 * i + j) rfl (fun _ => rfl) (fun j h => by show (if j < 10 then some (11, 10 * i + j) else none) = _; rw [if_pos h]) (zdg D_X1_nextShot 8 (17, .aaload, 1) rfl) hn hf (fun hf => ?_)
      refine z_goto (pc := 18) 22 (zdg D_X1_nextShot 9 (18, .goto 4, 3) rfl) rfl ?_
      exact z_aret (pc := 22) rfl (zdg D_X1_nextShot 11 (22, .areturn, 1) rfl) (hP _ hf)

def L_X11_isMinute : List (Nat × Instr × Nat) := [(0, .iload_n 0, 1), (1, .ifCond .lt 14, 3), (4, .iload_n 0, 1), (5, .sipush 500, 3), (8, .if_icmp .gt 7, 3), (11, .iconst 1, 1), (12, .goto 4, 3), (15, .iconst 0, 1), (16, .ireturn, 1)]
set_option maxRecDepth 100000 in
theorem D_X11_isMinute : zdecs cX11_isMinute L_X11_isMinute = true := by decide +kernel
noncomputable def f_X11_isMinute (p1 : Int32) : Int32 :=
  if 0 ≤ p1 then if p1 ≤ (500 : Int32) then (1 : Int32) else (0 : Int32) else (0 : Int32)
set_option maxRecDepth 100000 in
set_option maxHeartbeats 4000000 in
theorem c_X11_isMinute (l : Launch) (p1 : Int32) (σ : zG) : zMet l zsyC m_X11_isMinute yX11_isMinute [zI p1] σ (some (zI (f_X11_isMinute p1))) σ := by
  refine zEnter [(0, zI p1)] (by decide) rfl (fun _ => Nat.le_of_ble_eq_true rfl) (fun _ => rfl) (fun w h => ?_) (fun K hv hs => ?_)
  · exact zokm rfl h
  · have hP : ∀ x, f_X11_isMinute p1 = x → zKv K = some (zI x) ∧ zKs K = σ := fun x h => by rw [h] at hv; exact ⟨hv, hs⟩
    have hf := f_X11_isMinute.eq_1 p1
    refine z_iload_n (pc := 0) 0 (zdg D_X11_isMinute 0 (0, .iload_n 0, 1) rfl) rfl rfl ?_
    refine z_if_lt (pc := 1) 15 (zdg D_X11_isMinute 1 (1, .ifCond .lt 14, 3) rfl) rfl hf (fun hf => ?_) (fun hf => ?_)
    · refine z_iconst (pc := 15) (v := 0) (zdg D_X11_isMinute 7 (15, .iconst 0, 1) rfl) rfl ?_
      exact z_iret (pc := 16) rfl rfl (zdg D_X11_isMinute 8 (16, .ireturn, 1) rfl) (hP _ hf)
    · refine z_iload_n (pc := 4) 0 (zdg D_X11_isMinute 2 (4, .iload_n 0, 1) rfl) rfl rfl ?_
      refine z_sipush (pc := 5) (v := 500) (zdg D_X11_isMinute 3 (5, .sipush 500, 3) rfl) rfl ?_
      refine z_icmp_gt (pc := 8) 15 (zdg D_X11_isMinute 4 (8, .if_icmp .gt 7, 3) rfl) rfl hf (fun hf => ?_) (fun hf => ?_)
      · refine z_iconst (pc := 15) (v := 0) (zdg D_X11_isMinute 7 (15, .iconst 0, 1) rfl) rfl ?_
        exact z_iret (pc := 16) rfl rfl (zdg D_X11_isMinute 8 (16, .ireturn, 1) rfl) (hP _ hf)
      · refine z_iconst (pc := 11) (v := 1) (zdg D_X11_isMinute 5 (11, .iconst 1, 1) rfl) rfl ?_
        refine z_goto (pc := 12) 16 (zdg D_X11_isMinute 6 (12, .goto 4, 3) rfl) rfl ?_
        exact z_iret (pc := 16) rfl rfl (zdg D_X11_isMinute 8 (16, .ireturn, 1) rfl) (hP _ hf)

def L_X7_isThere : List (Nat × Instr × Nat) := [(0, .aload_n 0, 1), (1, .getfield 18, 3), (4, .iload_n 1, 1), (5, .iaload, 1), (6, .iload_n 2, 1), (7, .if_icmp .gt 17, 3), (10, .iload_n 2, 1), (11, .aload_n 0, 1), (12, .getfield 15, 3), (15, .iload_n 1, 1), (16, .iaload, 1), (17, .if_icmp .gt 7, 3), (20, .iconst 1, 1), (21, .goto 4, 3), (24, .iconst 0, 1), (25, .ireturn, 1)]
set_option maxRecDepth 100000 in
theorem D_X7_isThere : zdecs cX7_isThere L_X7_isThere = true := by decide +kernel
noncomputable def f_X7_isThere (i : Nat) (p1 : Int32) (p2 : Int32) (σ : zG) : Option (Int32) :=
  zg (zin p1 8) (if (σ.1 14 i p1.toNatClampNeg) ≤ p2 then zg (zin p1 8) (if p2 ≤ (σ.1 13 i p1.toNatClampNeg) then some (1 : Int32) else some (0 : Int32)) else some (0 : Int32))
set_option maxRecDepth 100000 in
set_option maxHeartbeats 4000000 in
theorem c_X7_isThere (l : Launch) (i : Nat) (p1 : Int32) (p2 : Int32) (σ : zG) (q : Int32) (hq : f_X7_isThere i p1 p2 σ = some q) : zMet l zsyC m_X7_isThere yX7_isThere [zR 7 i, zI p1, zI p2] σ (some (zI q)) σ := by
  refine zEnter [(0, zR 7 i), (1, zI p1), (2, zI p2)] (by decide) rfl (fun _ => Nat.le_of_ble_eq_true rfl) (fun _ => rfl) (fun w h => ?_) (fun K hv hs => ?_)
  · exact zokm rfl h
  · have hP : ∀ x, f_X7_isThere i p1 p2 σ = some x → zKv K = some (zI x) ∧ zKs K = σ := fun x h => by rw [hq] at h; cases h; exact ⟨hv, hs⟩
    have hn : f_X7_isThere i p1 p2 σ ≠ none := fun z => by rw [hq] at z; cases z
    have hf := f_X7_isThere.eq_1 i p1 p2 σ
    refine z_aload_n (pc := 0) 0 (zdg D_X7_isThere 0 (0, .aload_n 0, 1) rfl) rfl rfl ?_
    refine z_getR (pc := 1) (g := 14) (j := i) lf_X7_18 rfl rfl rfl (zdg D_X7_isThere 1 (1, .getfield 18, 3) rfl) ?_
    refine z_iload_n (pc := 4) 1 (zdg D_X7_isThere 2 (4, .iload_n 1, 1) rfl) rfl rfl ?_
    refine z_iald (pc := 5) rfl (fun _ => rfl) (zdg D_X7_isThere 3 (5, .iaload, 1) rfl) hn hf (fun hf => ?_)
    refine z_iload_n (pc := 6) 2 (zdg D_X7_isThere 4 (6, .iload_n 2, 1) rfl) rfl rfl ?_
    refine z_icmp_gt (pc := 7) 24 (zdg D_X7_isThere 5 (7, .if_icmp .gt 17, 3) rfl) rfl hf (fun hf => ?_) (fun hf => ?_)
    · refine z_iconst (pc := 24) (v := 0) (zdg D_X7_isThere 14 (24, .iconst 0, 1) rfl) rfl ?_
      exact z_iret (pc := 25) rfl rfl (zdg D_X7_isThere 15 (25, .ireturn, 1) rfl) (hP _ hf)
    · refine z_iload_n (pc := 10) 2 (zdg D_X7_isThere 6 (10, .iload_n 2, 1) rfl) rfl rfl ?_
      refine z_aload_n (pc := 11) 0 (zdg D_X7_isThere 7 (11, .aload_n 0, 1) rfl) rfl rfl ?_
      refine z_getR (pc := 12) (g := 13) (j := i) lf_X7_15 rfl rfl rfl (zdg D_X7_isThere 8 (12, .getfield 15, 3) rfl) ?_
      refine z_iload_n (pc := 15) 1 (zdg D_X7_isThere 9 (15, .iload_n 1, 1) rfl) rfl rfl ?_
      refine z_iald (pc := 16) rfl (fun _ => rfl) (zdg D_X7_isThere 10 (16, .iaload, 1) rfl) hn hf (fun hf => ?_)
      refine z_icmp_gt (pc := 17) 24 (zdg D_X7_isThere 11 (17, .if_icmp .gt 7, 3) rfl) rfl hf (fun hf => ?_) (fun hf => ?_)
      · refine z_iconst (pc := 24) (v := 0) (zdg D_X7_isThere 14 (24, .iconst 0, 1) rfl) rfl ?_
        exact z_iret (pc := 25) rfl rfl (zdg D_X7_isThere 15 (25, .ireturn, 1) rfl) (hP _ hf)
      · refine z_iconst (pc := 20) (v := 1) (zdg D_X7_isThere 12 (20, .iconst 1, 1) rfl) rfl ?_
        refine z_goto (pc := 21) 25 (zdg D_X7_isThere 13 (21, .goto 4, 3) rfl) rfl ?_
        exact z_iret (pc := 25) rfl rfl (zdg D_X7_isThere 15 (25, .ireturn, 1) rfl) (hP _ hf)

def L_X7_coverIn : List (Nat × Instr × Nat) := [(0, .lconst 0, 1), (1, .lstore_n 2, 1), (2, .iconst 0, 1), (3, .istore 4, 2), (5, .iload 4, 2), (7, .aload_n 0, 1), (8, .getfield 21, 3), (11, .if_icmp .ge 38, 3), (14, .iload 4, 2), (16, .bipush 8, 2), (18, .if_icmp .ge 31, 3), (21, .aload_n 0, 1), (22, .iload 4, 2), (24, .iload_n 1, 1), (25, .invokevirtual 25, 3), (28, .ifCond .eq 15, 3), (31, .lload_n 2, 1), (32, .lconst 1, 1), (33, .aload_n 0, 1), (34, .getfield 9, 3), (37, .iload 4, 2), (39, .iaload, 1), (40, .lshl, 1), (41, .lor, 1), (42, .lstore_n 2, 1), (43, .iinc 4 1, 3), (46, .goto (-41), 3), (49, .lload_n 2, 1), (50, .lreturn, 1)]
set_option maxRecDepth 100000 in
theorem D_X7_coverIn : zdecs cX7_coverIn L_X7_coverIn = true := by decide +kernel
noncomputable def b_X7_coverIn_5 (σ : zG) (i : Nat) (p1 : Int32) (v2_1 : Int64) (v4_2 : Int32) : Option ((Int64 × Int32) ⊕ (Int64)) :=
  if v4_2 < (σ.1 7 i 0) then if v4_2 < (8 : Int32) then (f_X7_isThere i v4_2 p1 σ).bind (fun q3 => if q3 = 0 then some (Sum.inl (v2_1, (v4_2 + 1))) else zg (zin v4_2 8) (some (Sum.inl ((v2_1 ||| (zlshl (1 : Int64) (σ.1 12 i v4_2.toNatClampNeg))), (v4_2 + 1))))) else some (Sum.inr v2_1) else some (Sum.inr v2_1)
noncomputable def f_X7_coverIn (i : Nat) (p1 : Int32) (σ : zG) : Option (Int64) :=
  (zlp (fun q : Int64 × Int32 => b_X7_coverIn_5 σ i p1 q.1 q.2) ((0 : Int64), (0 : Int32))).bind (fun e4 : Int64 => some e4)
set_option maxRecDepth 100000 in
set_option maxHeartbeats 4000000 in
theorem c_X7_coverIn (l : Launch) (i : Nat) (p1 : Int32) (σ : zG) (q : Int64) (hq : f_X7_coverIn i p1 σ = some q) : zMet l zsyC m_X7_coverIn yX7_coverIn [zR 7 i, zI p1] σ (some (zL q)) σ := by
  refine zEnter [(0, zR 7 i), (1, zI p1)] (by decide) rfl (fun _ => Nat.le_of_ble_eq_true rfl) (fun _ => rfl) (fun w h => ?_) (fun K hv hs => ?_)
  · exact zokm rfl h
  · have hP : ∀ x, f_X7_coverIn i p1 σ = some x → zKv K = some (zL x) ∧ zKs K = σ := fun x h => by rw [hq] at h; cases h; exact ⟨hv, hs⟩
    have hn : f_X7_coverIn i p1 σ ≠ none := fun z => by rw [hq] at z; cases z
    have hf := f_X7_coverIn.eq_1 i p1 σ
    refine z_lconst (pc := 0) (v := 0) (zdg D_X7_coverIn 0 (0, .lconst 0, 1) rfl) rfl ?_
    refine z_lstore_n (pc := 1) (al' := [(2, zL (0 : Int64)), (0, zR 7 i), (1, zI p1)]) (zdg D_X7_coverIn 1 (1, .lstore_n 2, 1) rfl) rfl (by decide) rfl ?_
    refine z_iconst (pc := 2) (v := 0) (zdg D_X7_coverIn 2 (2, .iconst 0, 1) rfl) rfl ?_
    refine z_istore (pc := 3) (al' := [(4, zI (0 : Int32)), (2, zL (0 : Int64)), (0, zR 7 i), (1, zI p1)]) (zdg D_X7_coverIn 3 (3, .istore 4, 2) rfl) (by decide) rfl ?_
    refine z_sub (al' := [(0, zR 7 i), (1, zI p1), (2, zL (0 : Int64)), (4, zI (0 : Int32))]) [2, 3, 1, 0] rfl ?_
    refine z_loop (f := (fun q : Int64 × Int32 => b_X7_coverIn_5 σ i p1 q.1 q.2)) (a := ((0 : Int64), (0 : Int32))) (fun q : Int64 × Int32 => zX zsyC m_X7_coverIn K 5 [(0, zR 7 i), (1, zI p1), (2, zL q.1), (4, zI q.2)] [] σ) (fun e4 : Int64 => zX zsyC m_X7_coverIn K 49 [(2, zL e4)] [] σ) hn hf ?_ ?_
    · intro e4 hf
      refine z_lload_n (pc := 49) 0 (zdg D_X7_coverIn 27 (49, .lload_n 2, 1) rfl) rfl rfl ?_
      exact z_lret (pc := 50) rfl (zdg D_X7_coverIn 28 (50, .lreturn, 1) rfl) (hP _ hf)
    · rintro ⟨v2_1, v4_2⟩ hn hi hx
      have hf := b_X7_coverIn_5.eq_1 σ i p1 v2_1 v4_2
      refine z_iload (pc := 5) 3 (zdg D_X7_coverIn 4 (5, .iload 4, 2) rfl) rfl ?_
      refine z_aload_n (pc := 7) 0 (zdg D_X7_coverIn 5 (7, .aload_n 0, 1) rfl) rfl rfl ?_
      refine z_getI (pc := 8) lf_X7_21 rfl rfl (zdg D_X7_coverIn 6 (8, .getfield 21, 3) rfl) ?_
      refine z_icmp_ge (pc := 11) 49 (zdg D_X7_coverIn 7 (11, .if_icmp .ge 38, 3) rfl) rfl hf (fun hf => ?_) (fun hf => ?_)
      · refine z_sub (al' := [(2, zL v2_1)]) [2] rfl ?_
        exact hx v2_1 hf
      · refine z_iload (pc := 14) 3 (zdg D_X7_coverIn 8 (14, .iload 4, 2) rfl) rfl ?_
        refine z_bipush (pc := 16) (v := 8) (zdg D_X7_coverIn 9 (16, .bipush 8, 2) rfl) rfl ?_
        refine z_icmp_ge (pc := 18) 49 (zdg D_X7_coverIn 10 (18, .if_icmp .ge 31, 3) rfl) rfl hf (fun hf => ?_) (fun hf => ?_)
        · refine z_sub (al' := [(2, zL v2_1)]) [2] rfl ?_
          exact hx v2_1 hf
        · refine z_aload_n (pc := 21) 0 (zdg D_X7_coverIn 11 (21, .aload_n 0, 1) rfl) rfl rfl ?_
          refine z_iload (pc := 22) 3 (zdg D_X7_coverIn 12 (22, .iload 4, 2) rfl) rfl ?_
          refine z_iload_n (pc := 24) 1 (zdg D_X7_coverIn 13 (24, .iload_n 1, 1) rfl) rfl rfl ?_
          refine z_bind hn hf (fun q3 hq hf => ?_)
          refine z_callV (pc := 25) (rest := []) (st2 := [zI q3]) (fun l => c_X7_isThere l i v4_2 p1 σ q3 hq) zv_X7_isThere lm_X7_25 rfl rfl rfl rfl rfl rfl (Nat.le_of_ble_eq_true rfl) ⟨Nat.le_of_ble_eq_true rfl, Nat.le_of_ble_eq_true rfl⟩ (zdg D_X7_coverIn 14 (25, .invokevirtual 25, 3) rfl) ?_
          refine z_if_eq (pc := 28) 43 (zdg D_X7_coverIn 15 (28, .ifCond .eq 15, 3) rfl) rfl hf (fun hf => ?_) (fun hf => ?_)
          · refine z_iinc (pc := 43) (v0 := (v4_2 + 1)) (al' := [(4, zI (v4_2 + 1)), (0, zR 7 i), (1, zI p1), (2, zL v2_1)]) 3 (zdg D_X7_coverIn 25 (43, .iinc 4 1, 3) rfl) rfl rfl (by decide) rfl ?_
            refine z_goto (pc := 46) 5 (zdg D_X7_coverIn 26 (46, .goto (-41), 3) rfl) rfl ?_
            refine z_sub (al' := [(0, zR 7 i), (1, zI p1), (2, zL v2_1), (4, zI (v4_2 + 1))]) [1, 2, 3, 0] rfl ?_
            exact hi (v2_1, (v4_2 + 1)) hf
          · refine z_lload_n (pc := 31) 2 (zdg D_X7_coverIn 16 (31, .lload_n 2, 1) rfl) rfl rfl ?_
            refine z_lconst (pc := 32) (v := 1) (zdg D_X7_coverIn 17 (32, .lconst 1, 1) rfl) rfl ?_
            refine z_aload_n (pc := 33) 0 (zdg D_X7_coverIn 18 (33, .aload_n 0, 1) rfl) rfl rfl ?_
            refine z_getR (pc := 34) (g := 12) (j := i) lf_X7_9 rfl rfl rfl (zdg D_X7_coverIn 19 (34, .getfield 9, 3) rfl) ?_
            refine z_iload (pc := 37) 3 (zdg D_X7_coverIn 20 (37, .iload 4, 2) rfl) rfl ?_
            refine z_iald (pc := 39) rfl (fun _ => rfl) (zdg D_X7_coverIn 21 (39, .iaload, 1) rfl) hn hf (fun hf => ?_)
            refine z_lshl (pc := 40) (zdg D_X7_coverIn 22 (40, .lshl, 1) rfl) ?_
            refine z_lor (pc := 41) (zdg D_X7_coverIn 23 (41, .lor, 1) rfl) ?_
            refine z_lstore_n (pc := 42) (al' := [(2, zL (v2_1 ||| (zlshl (1 : Int64) (σ.1 12 i v4_2.toNatClampNeg)))), (0, zR 7 i), (1, zI p1), (4, zI v4_2)]) (zdg D_X7_coverIn 24 (42, .lstore_n 2, 1) rfl) rfl (by decide) rfl ?_
            refine z_iinc (pc := 43) (v0 := (v4_2 + 1)) (al' := [(4, zI (v4_2 + 1)), (2, zL (v2_1 ||| (zlshl (1 : Int64) (σ.1 12 i v4_2.toNatClampNeg)))), (0, zR 7 i), (1, zI p1)]) 3 (zdg D_X7_coverIn 25 (43, .iinc 4 1, 3) rfl) rfl rfl (by decide) rfl ?_
            refine z_goto (pc := 46) 5 (zdg D_X7_coverIn 26 (46, .goto (-41), 3) rfl) rfl ?_
            refine z_sub (al' := [(0, zR 7 i), (1, zI p1), (2, zL (v2_1 ||| (zlshl (1 : Int64) (σ.1 12 i v4_2.toNatClampNeg)))), (4, zI (v4_2 + 1))]) [2, 3, 1, 0] rfl ?_
            exact hi ((v2_1 ||| (zlshl (1 : Int64) (σ.1 12 i v4_2.toNatClampNeg))), (v4_2 + 1)) hf

def L_X1_coverIn : List (Nat × Instr × Nat) := [(0, .iload_n 1, 1), (1, .invokestatic 182, 3), (4, .ifCond .eq 24, 3), (7, .aload_n 0, 1), (8, .getfield 28, 3), (11, .getfield 185, 3), (14, .iload_n 1, 1), (15, .laload, 1), (16, .aload_n 0, 1), (17, .getfield 12, 3), (20, .iload_n 1, 1), (21, .invokevirtual 188, 3), (24, .lor, 1), (25, .goto 4, 3), (28, .lconst 0, 1), (29, .lreturn, 1)]
set_option maxRecDepth 100000 in
theorem D_X1_coverIn : zdecs cX1_coverIn L_X1_coverIn = true := by decide +kernel
noncomputable def f_X1_coverIn (i : Nat) (p1 : Int32) (σ : zG) : Option (Int64) :=
  if (f_X11_isMinute p1) = 0 then some (0 : Int64) else zg (zin p1 501) ((f_X7_coverIn (7 * i) p1 σ).bind (fun q1 => some ((σ.2 22 i p1.toNatClampNeg) ||| q1)))
set_option maxRecDepth 100000 in
set_option maxHeartbeats 4000000 in
theorem c_X1_coverIn (l : Launch) (i : Nat) (p1 : Int32) (σ : zG) (q : Int64) (hq : f_X1_coverIn i p1 σ = some q) : zMet l zsyC m_X1_coverIn yX1_coverIn [zR 1 i, zI p1] σ (some (zL q)) σ := by
  refine zEnter [(0, zR 1 i), (1, zI p1)] (by decide) rfl (fun _ => Nat.le_of_ble_eq_true rfl) (fun _ => rfl) (fun w h => ?_) (fun K hv hs => ?_)
  · exact zokm rfl h
  · have hP : ∀ x, f_X1_coverIn i p1 σ = some x → zKv K = some (zL x) ∧ zKs K = σ := fun x h => by rw [hq] at h; cases h; exact ⟨hv, hs⟩
    have hn : f_X1_coverIn i p1 σ ≠ none := fun z => by rw [hq] at z; cases z
    have hf := f_X1_coverIn.eq_1 i p1 σ
    refine z_iload_n (pc := 0) 1 (zdg D_X1_coverIn 0 (0, .iload_n 1, 1) rfl) rfl rfl ?_
    refine z_callSN (pc := 1) (rest := []) (st2 := [zI (f_X11_isMinute p1)]) (host := "NobodyThere") (fun l => c_X11_isMinute l p1 σ) zs_X11_isMinute (by decide +kernel) rfl rfl rfl (Nat.le_of_ble_eq_true rfl) ⟨Nat.le_of_ble_eq_true rfl, Nat.le_of_ble_eq_true rfl⟩ (zdg D_X1_coverIn 1 (1, .invokestatic 182, 3) rfl) ?_
    refine z_if_eq (pc := 4) 28 (zdg D_X1_coverIn 2 (4, .ifCond .eq 24, 3) rfl) rfl hf (fun hf => ?_) (fun hf => ?_)
    · refine z_lconst (pc := 28) (v := 0) (zdg D_X1_coverIn 14 (28, .lconst 0, 1) rfl) rfl ?_
      exact z_lret (pc := 29) rfl (zdg D_X1_coverIn 15 (29, .lreturn, 1) rfl) (hP _ hf)
    · refine z_aload_n (pc := 7) 0 (zdg D_X1_coverIn 3 (7, .aload_n 0, 1) rfl) rfl rfl ?_
      refine z_getR (pc := 8) (g := 9) (j := i) lf_X1_28 rfl rfl rfl (zdg D_X1_coverIn 4 (8, .getfield 28, 3) rfl) ?_
      refine z_getR (pc := 11) (g := 22) (j := i) lf_X1_185 rfl rfl rfl (zdg D_X1_coverIn 5 (11, .getfield 185, 3) rfl) ?_
      refine z_iload_n (pc := 14) 1 (zdg D_X1_coverIn 6 (14, .iload_n 1, 1) rfl) rfl rfl ?_
      refine z_lald (pc := 15) rfl (fun _ => rfl) (zdg D_X1_coverIn 7 (15, .laload, 1) rfl) hn hf (fun hf => ?_)
      refine z_aload_n (pc := 16) 0 (zdg D_X1_coverIn 8 (16, .aload_n 0, 1) rfl) rfl rfl ?_
      refine z_getR (pc := 17) (g := 7) (j := 7 * i) lf_X1_12 rfl rfl rfl (zdg D_X1_coverIn 9 (17, .getfield 12, 3) rfl) ?_
      refine z_iload_n (pc := 20) 1 (zdg D_X1_coverIn 10 (20, .iload_n 1, 1) rfl) rfl rfl ?_
      refine z_bind hn hf (fun q1 hq hf => ?_)
      refine z_callV (pc := 21) (rest := [zL (σ.2 22 i p1.toNatClampNeg)]) (st2 := [zL q1, zL (σ.2 22 i p1.toNatClampNeg)]) (fun l => c_X7_coverIn l (7 * i) p1 σ q1 hq) zv_X7_coverIn lm_X1_188 rfl rfl rfl rfl rfl rfl (Nat.le_of_ble_eq_true rfl) ⟨Nat.le_of_ble_eq_true rfl, Nat.le_of_ble_eq_true rfl⟩ (zdg D_X1_coverIn 11 (21, .invokevirtual 188, 3) rfl) ?_
      refine z_lor (pc := 24) (zdg D_X1_coverIn 12 (24, .lor, 1) rfl) ?_
      refine z_goto (pc := 25) 29 (zdg D_X1_coverIn 13 (25, .goto 4, 3) rfl) rfl ?_
      exact z_lret (pc := 29) rfl (zdg D_X1_coverIn 15 (29, .lreturn, 1) rfl) (hP _ hf)

def L_X5_spotIn : List (Nat × Instr × Nat) := [(0, .iload_n 1, 1), (1, .ifCond .lt 16, 3), (4, .iload_n 1, 1), (5, .bipush 12, 2), (7, .if_icmp .ge 10, 3), (10, .iload_n 2, 1), (11, .invokestatic 61, 3), (14, .ifCond .ne 5, 3), (17, .iconst (-1), 1), (18, .ireturn, 1), (19, .aload_n 0, 1), (20, .getfield 9, 3), (23, .iload_n 1, 1), (24, .sipush 501, 3), (27, .imul, 1), (28, .iload_n 2, 1), (29, .iadd, 1), (30, .baload, 1), (31, .ireturn, 1)]
set_option maxRecDepth 100000 in
theorem D_X5_spotIn : zdecs cX5_spotIn L_X5_spotIn = true := by decide +kernel
noncomputable def f_X5_spotIn (i : Nat) (p1 : Int32) (p2 : Int32) (σ : zG) : Option (Int32) :=
  if 0 ≤ p1 then if p1 < (12 : Int32) then if (f_X11_isMinute p2) = 0 then some (-1 : Int32) else zg (zin ((p1 * (501 : Int32)) + p2) 6012) (some (σ.1 21 i ((p1 * (501 : Int32)) + p2).toNatClampNeg)) else some (-1 : Int32) else some (-1 : Int32)
set_option maxRecDepth 100000 in
set_option maxHeartbeats 4000000 in
theorem c_X5_spotIn (l : Launch) (i : Nat) (p1 : Int32) (p2 : Int32) (σ : zG) (q : Int32) (hq : f_X5_spotIn i p1 p2 σ = some q) : zMet l zsyC m_X5_spotIn yX5_spotIn [zR 9 i, zI p1, zI p2] σ (some (zI q)) σ := by
  refine zEnter [(0, zR 9 i), (1, zI p1), (2, zI p2)] (by decide) rfl (fun _ => Nat.le_of_ble_eq_true rfl) (fun _ => rfl) (fun w h => ?_) (fun K hv hs => ?_)
  · exact zokm rfl h
  · have hP : ∀ x, f_X5_spotIn i p1 p2 σ = some x → zKv K = some (zI x) ∧ zKs K = σ := fun x h => by rw [hq] at h; cases h; exact ⟨hv, hs⟩
    have hn : f_X5_spotIn i p1 p2 σ ≠ none := fun z => by rw [hq] at z; cases z
    have hf := f_X5_spotIn.eq_1 i p1 p2 σ
    refine z_iload_n (pc := 0) 1 (zdg D_X5_spotIn 0 (0, .iload_n 1, 1) rfl) rfl rfl ?_
    refine z_if_lt (pc := 1) 17 (zdg D_X5_spotIn 1 (1, .ifCond .lt 16, 3) rfl) rfl hf (fun hf => ?_) (fun hf => ?_)
    · refine z_iconst (pc := 17) (v := -1) (zdg D_X5_spotIn 8 (17, .iconst (-1), 1) rfl) rfl ?_
      exact z_iret (pc := 18) rfl rfl (zdg D_X5_spotIn 9 (18, .ireturn, 1) rfl) (hP _ hf)
    · refine z_iload_n (pc := 4) 1 (zdg D_X5_spotIn 2 (4, .iload_n 1, 1) rfl) rfl rfl ?_
      refine z_bipush (pc := 5) (v := 12) (zdg D_X5_spotIn 3 (5, .bipush 12, 2) rfl) rfl ?_
      refine z_icmp_ge (pc := 7) 17 (zdg D_X5_spotIn 4 (7, .if_icmp .ge 10, 3) rfl) rfl hf (fun hf => ?_) (fun hf => ?_)
      · refine z_iconst (pc := 17) (v := -1) (zdg D_X5_spotIn 8 (17, .iconst (-1), 1) rfl) rfl ?_
        exact z_iret (pc := 18) rfl rfl (zdg D_X5_spotIn 9 (18, .ireturn, 1) rfl) (hP _ hf)
      · refine z_iload_n (pc := 10) 2 (zdg D_X5_spotIn 5 (10, .iload_n 2, 1) rfl) rfl rfl ?_
        refine z_callSN (pc := 11) (rest := []) (st2 := [zI (f_X11_isMinute p2)]) (host := "NobodyThere") (fun l => c_X11_isMinute l p2 σ) zs_X11_isMinute (by decide +kernel) rfl rfl rfl (Nat.le_of_ble_eq_true rfl) ⟨Nat.le_of_ble_eq_true rfl, Nat.le_of_ble_eq_true rfl⟩ (zdg D_X5_spotIn 6 (11, .invokestatic 61, 3) rfl) ?_
        refine z_if_ne (pc := 14) 19 (zdg D_X5_spotIn 7 (14, .ifCond .ne 5, 3) rfl) rfl hf (fun hf => ?_) (fun hf => ?_)
        · refine z_aload_n (pc := 19) 0 (zdg D_X5_spotIn 10 (19, .aload_n 0, 1) rfl) rfl rfl ?_
          refine z_getR (pc := 20) (g := 21) (j := i) lf_X5_9 rfl rfl rfl (zdg D_X5_spotIn 11 (20, .getfield 9, 3) rfl) ?_
          refine z_iload_n (pc := 23) 1 (zdg D_X5_spotIn 12 (23, .iload_n 1, 1) rfl) rfl rfl ?_
          refine z_sipush (pc := 24) (v := 501) (zdg D_X5_spotIn 13 (24, .sipush 501, 3) rfl) rfl ?_
          refine z_imul (pc := 27) (zdg D_X5_spotIn 14 (27, .imul, 1) rfl) ?_
          refine z_iload_n (pc := 28) 2 (zdg D_X5_spotIn 15 (28, .iload_n 2, 1) rfl) rfl rfl ?_
          refine z_iadd (pc := 29) (zdg D_X5_spotIn 16 (29, .iadd, 1) rfl) ?_
          refine z_bald (pc := 30) rfl (fun _ => rfl) (zdg D_X5_spotIn 17 (30, .baload, 1) rfl) hn hf (fun hf => ?_)
          exact z_iret (pc := 31) rfl rfl (zdg D_X5_spotIn 18 (31, .ireturn, 1) rfl) (hP _ hf)
        · refine z_iconst (pc := 17) (v := -1) (zdg D_X5_spotIn 8 (17, .iconst (-1), 1) rfl) rfl ?_
          exact z_iret (pc := 18) rfl rfl (zdg D_X5_spotIn 9 (18, .ireturn, 1) rfl) (hP _ hf)

def L_X7_firstOn : List (Nat × Instr × Nat) := [(0, .iconst 0, 1), (1, .istore_n 3, 1), (2, .iload_n 3, 1), (3, .aload_n 0, 1), (4, .getfield 21, 3), (7, .if_icmp .ge 36, 3), (10, .iload_n 3, 1), (11, .bipush 8, 2), (13, .if_icmp .ge 30, 3), (16, .aload_n 0, 1), (17, .getfield 9, 3), (20, .iload_n 3, 1), (21, .iaload, 1), (22, .iload_n 1, 1), (23, .if_icmp .ne 14, 3), (26, .aload_n 0, 1), (27, .iload_n 3, 1), (28, .iload_n 2, 1), (29, .invokevirtual 25, 3), (32, .ifCond .eq 5, 3), (35, .iload_n 3, 1), (36, .ireturn, 1), (37, .iinc 3 1, 3), (40, .goto (-38), 3), (43, .iconst (-1), 1), (44, .ireturn, 1)]
set_option maxRecDepth 100000 in
theorem D_X7_firstOn : zdecs cX7_firstOn L_X7_firstOn = true := by decide +kernel
noncomputable def b_X7_firstOn_2 (σ : zG) (i : Nat) (p1 : Int32) (p2 : Int32) (v3_1 : Int32) : Option ((Int32) ⊕ ((Int32) ⊕ (Unit))) :=
  if v3_1 < (σ.1 7 i 0) then if v3_1 < (8 : Int32) then zg (zin v3_1 8) (if (σ.1 12 i v3_1.toNatClampNeg) = p1 then (f_X7_isThere i v3_1 p2 σ).bind (fun q2 => if q2 = 0 then some (Sum.inl (v3_1 + 1)) else some (Sum.inr (Sum.inl v3_1))) else some (Sum.inl (v3_1 + 1))) else some (Sum.inr (Sum.inr ())) else some (Sum.inr (Sum.inr ()))
noncomputable def f_X7_firstOn (i : Nat) (p1 : Int32) (p2 : Int32) (σ : zG) : Option (Int32) :=
  (zlp (fun q : Int32 => b_X7_firstOn_2 σ i p1 p2 q) (0 : Int32)).bind (Sum.elim (fun e3 : Int32 => some e3) (fun e4 : Unit => some (-1 : Int32)))
set_option maxRecDepth 100000 in
set_option maxHeartbeats 4000000 in
theorem c_X7_firstOn (l : Launch) (i : Nat) (p1 : Int32) (p2 : Int32) (σ : zG) (q : Int32) (hq : f_X7_firstOn i p1 p2 σ = some q) : zMet l zsyC m_X7_firstOn yX7_firstOn [zR 7 i, zI p1, zI p2] σ (some (zI q)) σ := by
  refine zEnter [(0, zR 7 i), (1, zI p1), (2, zI p2)] (by decide) rfl (fun _ => Nat.le_of_ble_eq_true rfl) (fun _ => rfl) (fun w h => ?_) (fun K hv hs => ?_)
  · exact zokm rfl h
  · have hP : ∀ x, f_X7_firstOn i p1 p2 σ = some x → zKv K = some (zI x) ∧ zKs K = σ := fun x h => by rw [hq] at h; cases h; exact ⟨hv, hs⟩
    have hn : f_X7_firstOn i p1 p2 σ ≠ none := fun z => by rw [hq] at z; cases z
    have hf := f_X7_firstOn.eq_1 i p1 p2 σ
    refine z_iconst (pc := 0) (v := 0) (zdg D_X7_firstOn 0 (0, .iconst 0, 1) rfl) rfl ?_
    refine z_istore_n (pc := 1) (al' := [(3, zI (0 : Int32)), (0, zR 7 i), (1, zI p1), (2, zI p2)]) (zdg D_X7_firstOn 1 (1, .istore_n 3, 1) rfl) rfl (by decide) rfl ?_
    refine z_sub (al' := [(0, zR 7 i), (1, zI p1), (2, zI p2), (3, zI (0 : Int32))]) [1, 2, 3, 0] rfl ?_
    refine z_loop (f := (fun q : Int32 => b_X7_firstOn_2 σ i p1 p2 q)) (a := (0 : Int32)) (fun q : Int32 => zX zsyC m_X7_firstOn K 2 [(0, zR 7 i), (1, zI p1), (2, zI p2), (3, zI q)] [] σ) (Sum.elim (fun e3 : Int32 => zX zsyC m_X7_firstOn K 35 [(3, zI e3)] [] σ) (fun e4 : Unit => zX zsyC m_X7_firstOn K 43 [] [] σ)) hn hf ?_ ?_
    · intro b hf
      cases b with
      | inl e3 =>
        refine z_iload_n (pc := 35) 0 (zdg D_X7_firstOn 20 (35, .iload_n 3, 1) rfl) rfl rfl ?_
        exact z_iret (pc := 36) rfl rfl (zdg D_X7_firstOn 21 (36, .ireturn, 1) rfl) (hP _ hf)
      | inr b =>
        revert hf
        revert b
        intro e4 hf
        refine z_iconst (pc := 43) (v := -1) (zdg D_X7_firstOn 24 (43, .iconst (-1), 1) rfl) rfl ?_
        exact z_iret (pc := 44) rfl rfl (zdg D_X7_firstOn 25 (44, .ireturn, 1) rfl) (hP _ hf)
    · intro v3_1 hn hi hx
      have hf := b_X7_firstOn_2.eq_1 σ i p1 p2 v3_1
      refine z_iload_n (pc := 2) 3 (zdg D_X7_firstOn 2 (2, .iload_n 3, 1) rfl) rfl rfl ?_
      refine z_aload_n (pc := 3) 0 (zdg D_X7_firstOn 3 (3, .aload_n 0, 1) rfl) rfl rfl ?_
      refine z_getI (pc := 4) lf_X7_21 rfl rfl (zdg D_X7_firstOn 4 (4, .getfield 21, 3) rfl) ?_
      refine z_icmp_ge (pc := 7) 43 (zdg D_X7_firstOn 5 (7, .if_icmp .ge 36, 3) rfl) rfl hf (fun hf => ?_) (fun hf => ?_)
      · refine z_sub (al' := []) [] rfl ?_
        exact hx (Sum.inr ()) hf
      · refine z_iload_n (pc := 10) 3 (zdg D_X7_firstOn 6 (10, .iload_n 3, 1) rfl) rfl rfl ?_
        refine z_bipush (pc := 11) (v := 8) (zdg D_X7_firstOn 7 (11, .bipush 8, 2) rfl) rfl ?_
        refine z_icmp_ge (pc := 13) 43 (zdg D_X7_firstOn 8 (13, .if_icmp .ge 30, 3) rfl) rfl hf (fun hf => ?_) (fun hf => ?_)
        · refine z_sub (al' := []) [] rfl ?_
          exact hx (Sum.inr ()) hf
        · refine z_aload_n (pc := 16) 0 (zdg D_X7_firstOn 9 (16, .aload_n 0, 1) rfl) rfl rfl ?_
          refine z_getR (pc := 17) (g := 12) (j := i) lf_X7_9 rfl rfl rfl (zdg D_X7_firstOn 10 (17, .getfield 9, 3) rfl) ?_
          refine z_iload_n (pc := 20) 3 (zdg D_X7_firstOn 11 (20, .iload_n 3, 1) rfl) rfl rfl ?_
          refine z_iald (pc := 21) rfl (fun _ => rfl) (zdg D_X7_firstOn 12 (21, .iaload, 1) rfl) hn hf (fun hf => ?_)
          refine z_iload_n (pc := 22) 1 (zdg D_X7_firstOn 13 (22, .iload_n 1, 1) rfl) rfl rfl ?_
          refine z_icmp_ne (pc := 23) 37 (zdg D_X7_firstOn 14 (23, .if_icmp .ne 14, 3) rfl) rfl hf (fun hf => ?_) (fun hf => ?_)
          · refine z_iinc (pc := 37) (v0 := (v3_1 + 1)) (al' := [(3, zI (v3_1 + 1)), (0, zR 7 i), (1, zI p1), (2, zI p2)]) 3 (zdg D_X7_firstOn 22 (37, .iinc 3 1, 3) rfl) rfl rfl (by decide) rfl ?_
            refine z_goto (pc := 40) 2 (zdg D_X7_firstOn 23 (40, .goto (-38), 3) rfl) rfl ?_
            refine z_sub (al' := [(0, zR 7 i), (1, zI p1), (2, zI p2), (3, zI (v3_1 + 1))]) [1, 2, 3, 0] rfl ?_
            exact hi (v3_1 + 1) hf
          · refine z_aload_n (pc := 26) 0 (zdg D_X7_firstOn 15 (26, .aload_n 0, 1) rfl) rfl rfl ?_
            refine z_iload_n (pc := 27) 3 (zdg D_X7_firstOn 16 (27, .iload_n 3, 1) rfl) rfl rfl ?_
            refine z_iload_n (pc := 28) 2 (zdg D_X7_firstOn 17 (28, .iload_n 2, 1) rfl) rfl rfl ?_
            refine z_bind hn hf (fun q2 hq hf => ?_)
            refine z_callV (pc := 29) (rest := []) (st2 := [zI q2]) (fun l => c_X7_isThere l i v3_1 p2 σ q2 hq) zv_X7_isThere lm_X7_25 rfl rfl rfl rfl rfl rfl (Nat.le_of_ble_eq_true rfl) ⟨Nat.le_of_ble_eq_true rfl, Nat.le_of_ble_eq_true rfl⟩ (zdg D_X7_firstOn 18 (29, .invokevirtual 25, 3) rfl) ?_
            refine z_if_eq (pc := 32) 37 (zdg D_X7_firstOn 19 (32, .ifCond .eq 5, 3) rfl) rfl hf (fun hf => ?_) (fun hf => ?_)
            · refine z_iinc (pc := 37) (v0 := (v3_1 + 1)) (al' := [(3, zI (v3_1 + 1)), (0, zR 7 i), (1, zI p1), (2, zI p2)]) 3 (zdg D_X7_firstOn 22 (37, .iinc 3 1, 3) rfl) rfl rfl (by decide) rfl ?_
              refine z_goto (pc := 40) 2 (zdg D_X7_firstOn 23 (40, .goto (-38), 3) rfl) rfl ?_
              refine z_sub (al' := [(0, zR 7 i), (1, zI p1), (2, zI p2), (3, zI (v3_1 + 1))]) [1, 2, 3, 0] rfl ?_
              exact hi (v3_1 + 1) hf
            · refine z_sub (al' := [(3, zI v3_1)]) [3] rfl ?_
              exact hx (Sum.inl v3_1) hf

def L_X1_whoCovers : List (Nat × Instr × Nat) := [(0, .iconst 0, 1), (1, .istore_n 3, 1), (2, .iload_n 3, 1), (3, .aload_n 0, 1), (4, .getfield 21, 3), (7, .getfield 88, 3), (10, .if_icmp .ge 24, 3), (13, .aload_n 0, 1), (14, .getfield 28, 3), (17, .iload_n 3, 1), (18, .iload_n 2, 1), (19, .invokevirtual 189, 3), (22, .iload_n 1, 1), (23, .if_icmp .ne 5, 3), (26, .iload_n 3, 1), (27, .ireturn, 1), (28, .iinc 3 1, 3), (31, .goto (-29), 3), (34, .aload_n 0, 1), (35, .getfield 12, 3), (38, .iload_n 1, 1), (39, .iload_n 2, 1), (40, .invokevirtual 192, 3), (43, .istore_n 3, 1), (44, .iload_n 3, 1), (45, .iconst (-1), 1), (46, .if_icmp .ne 7, 3), (49, .iconst (-1), 1), (50, .goto 7, 3), (53, .bipush 12, 2), (55, .iload_n 3, 1), (56, .iadd, 1), (57, .ireturn, 1)]
set_option maxRecDepth 100000 in
theorem D_X1_whoCovers : zdecs cX1_whoCovers L_X1_whoCovers = true := by decide +kernel
noncomputable def b_X1_whoCovers_2 (σ : zG) (i : Nat) (p2 : Int32) (p1 : Int32) (v3_1 : Int32) : Option ((Int32) ⊕ ((Int32) ⊕ (Unit))) :=
  if v3_1 < (σ.1 8 (2 * i) 0) then (f_X5_spotIn i v3_1 p2 σ).bind (fun q2 => if q2 = p1 then some (Sum.inr (Sum.inl v3_1)) else some (Sum.inl (v3_1 + 1))) else some (Sum.inr (Sum.inr ()))
noncomputable def f_X1_whoCovers (i : Nat) (p1 : Int32) (p2 : Int32) (σ : zG) : Option (Int32) :=
  (zlp (fun q : Int32 => b_X1_whoCovers_2 σ i p2 p1 q) (0 : Int32)).bind (Sum.elim (fun e3 : Int32 => some e3) (fun e4 : Unit => (f_X7_firstOn (7 * i) p1 p2 σ).bind (fun q5 => if q5 = (-1 : Int32) then some (-1 : Int32) else some ((12 : Int32) + q5))))
set_option maxRecDepth 100000 in
set_option maxHeartbeats 4000000 in
theorem c_X1_whoCovers (l : Launch) (i : Nat) (p1 : Int32) (p2 : Int32) (σ : zG) (q : Int32) (hq : f_X1_whoCovers i p1 p2 σ = some q) : zMet l zsyC m_X1_whoCovers yX1_whoCovers [zR 1 i, zI p1, zI p2] σ (some (zI q)) σ := by
  refine zEnter [(0, zR 1 i), (1, zI p1), (2, zI p2)] (by decide) rfl (fun _ => Nat.le_of_ble_eq_true rfl) (fun _ => rfl) (fun w h => ?_) (fun K hv hs => ?_)
  · exact zokm rfl h
  · have hP : ∀ x, f_X1_whoCovers i p1 p2 σ = some x → zKv K = some (zI x) ∧ zKs K = σ := fun x h => by rw [hq] at h; cases h; exact ⟨hv, hs⟩
    have hn : f_X1_whoCovers i p1 p2 σ ≠ none := fun z => by rw [hq] at z; cases z
    have hf := f_X1_whoCovers.eq_1 i p1 p2 σ
    refine z_iconst (pc := 0) (v := 0) (zdg D_X1_whoCovers 0 (0, .iconst 0, 1) rfl) rfl ?_
    refine z_istore_n (pc := 1) (al' := [(3, zI (0 : Int32)), (0, zR 1 i), (1, zI p1), (2, zI p2)]) (zdg D_X1_whoCovers 1 (1, .istore_n 3, 1) rfl) rfl (by decide) rfl ?_
    refine z_sub (al' := [(0, zR 1 i), (1, zI p1), (2, zI p2), (3, zI (0 : Int32))]) [1, 2, 3, 0] rfl ?_
    refine z_loop (f := (fun q : Int32 => b_X1_whoCovers_2 σ i p2 p1 q)) (a := (0 : Int32)) (fun q : Int32 => zX zsyC m_X1_whoCovers K 2 [(0, zR 1 i), (1, zI p1), (2, zI p2), (3, zI q)] [] σ) (Sum.elim (fun e3 : Int32 => zX zsyC m_X1_whoCovers K 26 [(3, zI e3)] [] σ) (fun e4 : Unit => zX zsyC m_X1_whoCovers K 34 [(0, zR 1 i), (1, zI p1), (2, zI p2)] [] σ)) hn hf ?_ ?_
    · intro b hf
      cases b with
      | inl e3 =>
        refine z_iload_n (pc := 26) 0 (zdg D_X1_whoCovers 14 (26, .iload_n 3, 1) rfl) rfl rfl ?_
        exact z_iret (pc := 27) rfl rfl (zdg D_X1_whoCovers 15 (27, .ireturn, 1) rfl) (hP _ hf)
      | inr b =>
        revert hf
        revert b
        intro e4 hf
        refine z_aload_n (pc := 34) 0 (zdg D_X1_whoCovers 18 (34, .aload_n 0, 1) rfl) rfl rfl ?_
        refine z_getR (pc := 35) (g := 7) (j := 7 * i) lf_X1_12 rfl rfl rfl (zdg D_X1_whoCovers 19 (35, .getfield 12, 3) rfl) ?_
        refine z_iload_n (pc := 38) 1 (zdg D_X1_whoCovers 20 (38, .iload_n 1, 1) rfl) rfl rfl ?_
        refine z_iload_n (pc := 39) 2 (zdg D_X1_whoCovers 21 (39, .iload_n 2, 1) rfl) rfl rfl ?_
        refine z_bind hn hf (fun q5 hq hf => ?_)
        refine z_callV (pc := 40) (rest := []) (st2 := [zI q5]) (fun l => c_X7_firstOn l (7 * i) p1 p2 σ q5 hq) zv_X7_firstOn lm_X1_192 rfl rfl rfl rfl rfl rfl (Nat.le_of_ble_eq_true rfl) ⟨Nat.le_of_ble_eq_true rfl, Nat.le_of_ble_eq_true rfl⟩ (zdg D_X1_whoCovers 22 (40, .invokevirtual 192, 3) rfl) ?_
        refine z_istore_n (pc := 43) (al' := [(3, zI q5), (0, zR 1 i), (1, zI p1), (2, zI p2)]) (zdg D_X1_whoCovers 23 (43, .istore_n 3, 1) rfl) rfl (by decide) rfl ?_
        refine z_iload_n (pc := 44) 0 (zdg D_X1_whoCovers 24 (44, .iload_n 3, 1) rfl) rfl rfl ?_
        refine z_iconst (pc := 45) (v := -1) (zdg D_X1_whoCovers 25 (45, .iconst (-1), 1) rfl) rfl ?_
        refine z_icmp_ne (pc := 46) 53 (zdg D_X1_whoCovers 26 (46, .if_icmp .ne 7, 3) rfl) rfl hf (fun hf => ?_) (fun hf => ?_)
        · refine z_bipush (pc := 53) (v := 12) (zdg D_X1_whoCovers 29 (53, .bipush 12, 2) rfl) rfl ?_
          refine z_iload_n (pc := 55) 0 (zdg D_X1_whoCovers 30 (55, .iload_n 3, 1) rfl) rfl rfl ?_
          refine z_iadd (pc := 56) (zdg D_X1_whoCovers 31 (56, .iadd, 1) rfl) ?_
          exact z_iret (pc := 57) rfl rfl (zdg D_X1_whoCovers 32 (57, .ireturn, 1) rfl) (hP _ hf)
        · refine z_iconst (pc := 49) (v := -1) (zdg D_X1_whoCovers 27 (49, .iconst (-1), 1) rfl) rfl ?_
          refine z_goto (pc := 50) 57 (zdg D_X1_whoCovers 28 (50, .goto 7, 3) rfl) rfl ?_
          exact z_iret (pc := 57) rfl rfl (zdg D_X1_whoCovers 32 (57, .ireturn, 1) rfl) (hP _ hf)
    · intro v3_1 hn hi hx
      have hf := b_X1_whoCovers_2.eq_1 σ i p2 p1 v3_1
      refine z_iload_n (pc := 2) 3 (zdg D_X1_whoCovers 2 (2, .iload_n 3, 1) rfl) rfl rfl ?_
      refine z_aload_n (pc := 3) 0 (zdg D_X1_whoCovers 3 (3, .aload_n 0, 1) rfl) rfl rfl ?_
      refine z_getR (pc := 4) (g := 8) (j := 2 * i) lf_X1_21 rfl rfl rfl (zdg D_X1_whoCovers 4 (4, .getfield 21, 3) rfl) ?_
      refine z_getI (pc := 7) lf_X1_88 rfl rfl (zdg D_X1_whoCovers 5 (7, .getfield 88, 3) rfl) ?_
      refine z_icmp_ge (pc := 10) 34 (zdg D_X1_whoCovers 6 (10, .if_icmp .ge 24, 3) rfl) rfl hf (fun hf => ?_) (fun hf => ?_)
      · refine z_sub (al' := [(0, zR 1 i), (1, zI p1), (2, zI p2)]) [0, 1, 2] rfl ?_
        exact hx (Sum.inr ()) hf
      · refine z_aload_n (pc := 13) 0 (zdg D_X1_whoCovers 7 (13, .aload_n 0, 1) rfl) rfl rfl ?_
        refine z_getR (pc := 14) (g := 9) (j := i) lf_X1_28 rfl rfl rfl (zdg D_X1_whoCovers 8 (14, .getfield 28, 3) rfl) ?_
        refine z_iload_n (pc := 17) 3 (zdg D_X1_whoCovers 9 (17, .iload_n 3, 1) rfl) rfl rfl ?_
        refine z_iload_n (pc := 18) 2 (zdg D_X1_whoCovers 10 (18, .iload_n 2, 1) rfl) rfl rfl ?_
        refine z_bind hn hf (fun q2 hq hf => ?_)
        refine z_callV (pc := 19) (rest := []) (st2 := [zI q2]) (fun l => c_X5_spotIn l i v3_1 p2 σ q2 hq) zv_X5_spotIn lm_X1_189 rfl rfl rfl rfl rfl rfl (Nat.le_of_ble_eq_true rfl) ⟨Nat.le_of_ble_eq_true rfl, Nat.le_of_ble_eq_true rfl⟩ (zdg D_X1_whoCovers 11 (19, .invokevirtual 189, 3) rfl) ?_
        refine z_iload_n (pc := 22) 1 (zdg D_X1_whoCovers 12 (22, .iload_n 1, 1) rfl) rfl rfl ?_
        refine z_icmp_ne (pc := 23) 28 (zdg D_X1_whoCovers 13 (23, .if_icmp .ne 5, 3) rfl) rfl hf (fun hf => ?_) (fun hf => ?_)
        · refine z_iinc (pc := 28) (v0 := (v3_1 + 1)) (al' := [(3, zI (v3_1 + 1)), (0, zR 1 i), (1, zI p1), (2, zI p2)]) 3 (zdg D_X1_whoCovers 16 (28, .iinc 3 1, 3) rfl) rfl rfl (by decide) rfl ?_
          refine z_goto (pc := 31) 2 (zdg D_X1_whoCovers 17 (31, .goto (-29), 3) rfl) rfl ?_
          refine z_sub (al' := [(0, zR 1 i), (1, zI p1), (2, zI p2), (3, zI (v3_1 + 1))]) [1, 2, 3, 0] rfl ?_
          exact hi (v3_1 + 1) hf
        · refine z_sub (al' := [(3, zI v3_1)]) [3] rfl ?_
          exact hx (Sum.inl v3_1) hf

def L_X3_changed : List (Nat × Instr × Nat) := [(0, .iload_n 0, 1), (1, .bipush 47, 2), (3, .if_icmp .ne 15, 3), (6, .iload_n 2, 1), (7, .ifCond .le 9, 3), (10, .iload_n 1, 1), (11, .iload_n 2, 1), (12, .idiv, 1), (13, .goto 4, 3), (16, .iload_n 1, 1), (17, .ireturn, 1), (18, .iload_n 1, 1), (19, .ifCond .ne 7, 3), (22, .iconst 1, 1), (23, .goto 4, 3), (26, .iconst 0, 1), (27, .ireturn, 1)]
set_option maxRecDepth 100000 in
theorem D_X3_changed : zdecs cX3_changed L_X3_changed = true := by decide +kernel
noncomputable def f_X3_changed (p1 : Int32) (p2 : Int32) (p3 : Int32) : Option (Int32) :=
  if p1 = (47 : Int32) then if 0 < p3 then zg (p3 != 0) (some (p2 / p3)) else some p2 else if p2 = 0 then some (1 : Int32) else some (0 : Int32)
set_option maxRecDepth 100000 in
set_option maxHeartbeats 4000000 in
theorem c_X3_changed (l : Launch) (p1 : Int32) (p2 : Int32) (p3 : Int32) (σ : zG) (q : Int32) (hq : f_X3_changed p1 p2 p3 = some q) : zMet l zsyC m_X3_changed yX3_changed [zI p1, zI p2, zI p3] σ (some (zI q)) σ := by
  refine zEnter [(0, zI p1), (1, zI p2), (2, zI p3)] (by decide) rfl (fun _ => Nat.le_of_ble_eq_true rfl) (fun _ => rfl) (fun w h => ?_) (fun K hv hs => ?_)
  · exact zokm rfl h
  · have hP : ∀ x, f_X3_changed p1 p2 p3 = some x → zKv K = some (zI x) ∧ zKs K = σ := fun x h => by rw [hq] at h; cases h; exact ⟨hv, hs⟩
    have hn : f_X3_changed p1 p2 p3 ≠ none := fun z => by rw [hq] at z; cases z
    have hf := f_X3_changed.eq_1 p1 p2 p3
    refine z_iload_n (pc := 0) 0 (zdg D_X3_changed 0 (0, .iload_n 0, 1) rfl) rfl rfl ?_
    refine z_bipush (pc := 1) (v := 47) (zdg D_X3_changed 1 (1, .bipush 47, 2) rfl) rfl ?_
    refine z_icmp_ne (pc := 3) 18 (zdg D_X3_changed 2 (3, .if_icmp .ne 15, 3) rfl) rfl hf (fun hf => ?_) (fun hf => ?_)
    · refine z_iload_n (pc := 18) 1 (zdg D_X3_changed 11 (18, .iload_n 1, 1) rfl) rfl rfl ?_
      refine z_if_ne (pc := 19) 26 (zdg D_X3_changed 12 (19, .ifCond .ne 7, 3) rfl) rfl hf (fun hf => ?_) (fun hf => ?_)
      · refine z_iconst (pc := 26) (v := 0) (zdg D_X3_changed 15 (26, .iconst 0, 1) rfl) rfl ?_
        exact z_iret (pc := 27) rfl rfl (zdg D_X3_changed 16 (27, .ireturn, 1) rfl) (hP _ hf)
      · refine z_iconst (pc := 22) (v := 1) (zdg D_X3_changed 13 (22, .iconst 1, 1) rfl) rfl ?_
        refine z_goto (pc := 23) 27 (zdg D_X3_changed 14 (23, .goto 4, 3) rfl) rfl ?_
        exact z_iret (pc := 27) rfl rfl (zdg D_X3_changed 16 (27, .ireturn, 1) rfl) (hP _ hf)
    · refine z_iload_n (pc := 6) 2 (zdg D_X3_changed 3 (6, .iload_n 2, 1) rfl) rfl rfl ?_
      refine z_if_le (pc := 7) 16 (zdg D_X3_changed 4 (7, .ifCond .le 9, 3) rfl) rfl hf (fun hf => ?_) (fun hf => ?_)
      · refine z_iload_n (pc := 16) 1 (zdg D_X3_changed 9 (16, .iload_n 1, 1) rfl) rfl rfl ?_
        exact z_iret (pc := 17) rfl rfl (zdg D_X3_changed 10 (17, .ireturn, 1) rfl) (hP _ hf)
      · refine z_iload_n (pc := 10) 1 (zdg D_X3_changed 5 (10, .iload_n 1, 1) rfl) rfl rfl ?_
        refine z_iload_n (pc := 11) 2 (zdg D_X3_changed 6 (11, .iload_n 2, 1) rfl) rfl rfl ?_
        refine z_idiv (pc := 12) (zdg D_X3_changed 7 (12, .idiv, 1) rfl) hn hf (fun hf => ?_)
        refine z_goto (pc := 13) 17 (zdg D_X3_changed 8 (13, .goto 4, 3) rfl) rfl ?_
        exact z_iret (pc := 17) rfl rfl (zdg D_X3_changed 10 (17, .ireturn, 1) rfl) (hP _ hf)

def L_X3_joined : List (Nat × Instr × Nat) := [(0, .iload_n 0, 1), (1, .lookupswitch 116 #[(42, 75), (43, 67), (45, 71), (60, 79), (61, 90), (62, 101), (112, 112)], 67), (68, .iload_n 1, 1), (69, .iload_n 2, 1), (70, .iadd, 1), (71, .ireturn, 1), (72, .iload_n 1, 1), (73, .iload_n 2, 1), (74, .isub, 1), (75, .ireturn, 1), (76, .iload_n 1, 1), (77, .iload_n 2, 1), (78, .imul, 1), (79, .ireturn, 1), (80, .iload_n 1, 1), (81, .iload_n 2, 1), (82, .if_icmp .ge 7, 3), (85, .iconst 1, 1), (86, .goto 4, 3), (89, .iconst 0, 1), (90, .ireturn, 1), (91, .iload_n 1, 1), (92, .iload_n 2, 1), (93, .if_icmp .ne 7, 3), (96, .iconst 1, 1), (97, .goto 4, 3), (100, .iconst 0, 1), (101, .ireturn, 1), (102, .iload_n 1, 1), (103, .iload_n 2, 1), (104, .if_icmp .le 7, 3), (107, .iconst 1, 1), (108, .goto 4, 3), (111, .iconst 0, 1), (112, .ireturn, 1), (113, .iload_n 1, 1), (114, .iload_n 2, 1), (115, .iand, 1), (116, .ireturn, 1), (117, .iload_n 1, 1), (118, .iload_n 2, 1), (119, .ior, 1), (120, .ireturn, 1)]
set_option maxRecDepth 100000 in
theorem D_X3_joined : zdecs cX3_joined L_X3_joined = true := by decide +kernel
noncomputable def f_X3_joined (p1 : Int32) (p2 : Int32) (p3 : Int32) : Int32 :=
  if p1 = 42 then (p2 * p3) else if p1 = 43 then (p2 + p3) else if p1 = 45 then (p2 - p3) else if p1 = 60 then if p2 < p3 then (1 : Int32) else (0 : Int32) else if p1 = 61 then if p2 = p3 then (1 : Int32) else (0 : Int32) else if p1 = 62 then if p3 < p2 then (1 : Int32) else (0 : Int32) else if p1 = 112 then (p2 &&& p3) else (p2 ||| p3)
set_option maxRecDepth 100000 in
set_option maxHeartbeats 4000000 in
theorem c_X3_joined (l : Launch) (p1 : Int32) (p2 : Int32) (p3 : Int32) (σ : zG) : zMet l zsyC m_X3_joined yX3_joined [zI p1, zI p2, zI p3] σ (some (zI (f_X3_joined p1 p2 p3))) σ := by
  refine zEnter [(0, zI p1), (1, zI p2), (2, zI p3)] (by decide) rfl (fun _ => Nat.le_of_ble_eq_true rfl) (fun _ => rfl) (fun w h => ?_) (fun K hv hs => ?_)
  · exact zokm rfl h
  · have hP : ∀ x, f_X3_joined p1 p2 p3 = x → zKv K = some (zI x) ∧ zKs K = σ := fun x h => by rw [h] at hv; exact ⟨hv, hs⟩
    have hf := f_X3_joined.eq_1 p1 p2 p3
    refine z_iload_n (pc := 0) 0 (zdg D_X3_joined 0 (0, .iload_n 0, 1) rfl) rfl rfl ?_
    refine zif hf (fun hc0 hf => ?_) (fun hc0 hf => ?_)
    · refine z_lsw (pc := 1) (off := 75) 76 (zdg D_X3_joined 1 (1, .lookupswitch 116 #[(42, 75), (43, 67), (45, 71), (60, 79), (61, 90), (62, 101), (112, 112)], 67) rfl) rfl (by rw [hc0]; try rfl) rfl ?_
      refine z_iload_n (pc := 76) 1 (zdg D_X3_joined 10 (76, .iload_n 1, 1) rfl) rfl rfl ?_
      refine z_iload_n (pc := 77) 2 (zdg D_X3_joined 11 (77, .iload_n 2, 1) rfl) rfl rfl ?_
      refine z_imul (pc := 78) (zdg D_X3_joined 12 (78, .imul, 1) rfl) ?_
      exact z_iret (pc := 79) rfl rfl (zdg D_X3_joined 13 (79, .ireturn, 1) rfl) (hP _ hf)
    · skip
      refine zif hf (fun hc1 hf => ?_) (fun hc1 hf => ?_)
      · refine z_lsw (pc := 1) (off := 67) 68 (zdg D_X3_joined 1 (1, .lookupswitch 116 #[(42, 75), (43, 67), (45, 71), (60, 79), (61, 90), (62, 101), (112, 112)], 67) rfl) rfl (by rw [hc1]; try rfl) rfl ?_
        refine z_iload_n (pc := 68) 1 (zdg D_X3_joined 2 (68, .iload_n 1, 1) rfl) rfl rfl ?_
        refine z_iload_n (pc := 69) 2 (zdg D_X3_joined 3 (69, .iload_n 2, 1) rfl) rfl rfl ?_
        refine z_iadd (pc := 70) (zdg D_X3_joined 4 (70, .iadd, 1) rfl) ?_
        exact z_iret (pc := 71) rfl rfl (zdg D_X3_joined 5 (71, .ireturn, 1) rfl) (hP _ hf)
      · skip
        refine zif hf (fun hc2 hf => ?_) (fun hc2 hf => ?_)
        · refine z_lsw (pc := 1) (off := 71) 72 (zdg D_X3_joined 1 (1, .lookupswitch 116 #[(42, 75), (43, 67), (45, 71), (60, 79), (61, 90), (62, 101), (112, 112)], 67) rfl) rfl (by rw [hc2]; try rfl) rfl ?_
          refine z_iload_n (pc := 72) 1 (zdg D_X3_joined 6 (72, .iload_n 1, 1) rfl) rfl rfl ?_
          refine z_iload_n (pc := 73) 2 (zdg D_X3_joined 7 (73, .iload_n 2, 1) rfl) rfl rfl ?_
          refine z_isub (pc := 74) (zdg D_X3_joined 8 (74, .isub, 1) rfl) ?_
          exact z_iret (pc := 75) rfl rfl (zdg D_X3_joined 9 (75, .ireturn, 1) rfl) (hP _ hf)
        · skip
          refine zif hf (fun hc3 hf => ?_) (fun hc3 hf => ?_)
          · refine z_lsw (pc := 1) (off := 79) 80 (zdg D_X3_joined 1 (1, .lookupswitch 116 #[(42, 75), (43, 67), (45, 71), (60, 79), (61, 90), (62, 101), (112, 112)], 67) rfl) rfl (by rw [hc3]; try rfl) rfl ?_
            refine z_iload_n (pc := 80) 1 (zdg D_X3_joined 14 (80, .iload_n 1, 1) rfl) rfl rfl ?_
            refine z_iload_n (pc := 81) 2 (zdg D_X3_joined 15 (81, .iload_n 2, 1) rfl) rfl rfl ?_
            refine z_icmp_ge (pc := 82) 89 (zdg D_X3_joined 16 (82, .if_icmp .ge 7, 3) rfl) rfl hf (fun hf => ?_) (fun hf => ?_)
            · refine z_iconst (pc := 89) (v := 0) (zdg D_X3_joined 19 (89, .iconst 0, 1) rfl) rfl ?_
              exact z_iret (pc := 90) rfl rfl (zdg D_X3_joined 20 (90, .ireturn, 1) rfl) (hP _ hf)
            · refine z_iconst (pc := 85) (v := 1) (zdg D_X3_joined 17 (85, .iconst 1, 1) rfl) rfl ?_
              refine z_goto (pc := 86) 90 (zdg D_X3_joined 18 (86, .goto 4, 3) rfl) rfl ?_
              exact z_iret (pc := 90) rfl rfl (zdg D_X3_joined 20 (90, .ireturn, 1) rfl) (hP _ hf)
          · skip
            refine zif hf (fun hc4 hf => ?_) (fun hc4 hf => ?_)
            · refine z_lsw (pc := 1) (off := 90) 91 (zdg D_X3_joined 1 (1, .lookupswitch 116 #[(42, 75), (43, 67), (45, 71), (60, 79), (61, 90), (62, 101), (112, 112)], 67) rfl) rfl (by rw [hc4]; try rfl) rfl ?_
              refine z_iload_n (pc := 91) 1 (zdg D_X3_joined 21 (91, .iload_n 1, 1) rfl) rfl rfl ?_
              refine z_iload_n (pc := 92) 2 (zdg D_X3_joined 22 (92, .iload_n 2, 1) rfl) rfl rfl ?_
              refine z_icmp_ne (pc := 93) 100 (zdg D_X3_joined 23 (93, .if_icmp .ne 7, 3) rfl) rfl hf (fun hf => ?_) (fun hf => ?_)
              · refine z_iconst (pc := 100) (v := 0) (zdg D_X3_joined 26 (100, .iconst 0, 1) rfl) rfl ?_
                exact z_iret (pc := 101) rfl rfl (zdg D_X3_joined 27 (101, .ireturn, 1) rfl) (hP _ hf)
              · refine z_iconst (pc := 96) (v := 1) (zdg D_X3_joined 24 (96, .iconst 1, 1) rfl) rfl ?_
                refine z_goto (pc := 97) 101 (zdg D_X3_joined 25 (97, .goto 4, 3) rfl) rfl ?_
                exact z_iret (pc := 101) rfl rfl (zdg D_X3_joined 27 (101, .ireturn, 1) rfl) (hP _ hf)
            · skip
              refine zif hf (fun hc5 hf => ?_) (fun hc5 hf => ?_)
              · refine z_lsw (pc := 1) (off := 101) 102 (zdg D_X3_joined 1 (1, .lookupswitch 116 #[(42, 75), (43, 67), (45, 71), (60, 79), (61, 90), (62, 101), (112, 112)], 67) rfl) rfl (by rw [hc5]; try rfl) rfl ?_
                refine z_iload_n (pc := 102) 1 (zdg D_X3_joined 28 (102, .iload_n 1, 1) rfl) rfl rfl ?_
                refine z_iload_n (pc := 103) 2 (zdg D_X3_joined 29 (103, .iload_n 2, 1) rfl) rfl rfl ?_
                refine z_icmp_le (pc := 104) 111 (zdg D_X3_joined 30 (104, .if_icmp .le 7, 3) rfl) rfl hf (fun hf => ?_) (fun hf => ?_)
                · refine z_iconst (pc := 111) (v := 0) (zdg D_X3_joined 33 (111, .iconst 0, 1) rfl) rfl ?_
                  exact z_iret (pc := 112) rfl rfl (zdg D_X3_joined 34 (112, .ireturn, 1) rfl) (hP _ hf)
                · refine z_iconst (pc := 107) (v := 1) (zdg D_X3_joined 31 (107, .iconst 1, 1) rfl) rfl ?_
                  refine z_goto (pc := 108) 112 (zdg D_X3_joined 32 (108, .goto 4, 3) rfl) rfl ?_
                  exact z_iret (pc := 112) rfl rfl (zdg D_X3_joined 34 (112, .ireturn, 1) rfl) (hP _ hf)
              · skip
                refine zif hf (fun hc6 hf => ?_) (fun hc6 hf => ?_)
                · refine z_lsw (pc := 1) (off := 112) 113 (zdg D_X3_joined 1 (1, .lookupswitch 116 #[(42, 75), (43, 67), (45, 71), (60, 79), (61, 90), (62, 101), (112, 112)], 67) rfl) rfl (by rw [hc6]; try rfl) rfl ?_
                  refine z_iload_n (pc := 113) 1 (zdg D_X3_joined 35 (113, .iload_n 1, 1) rfl) rfl rfl ?_
                  refine z_iload_n (pc := 114) 2 (zdg D_X3_joined 36 (114, .iload_n 2, 1) rfl) rfl rfl ?_
                  refine z_iand (pc := 115) (zdg D_X3_joined 37 (115, .iand, 1) rfl) ?_
                  exact z_iret (pc := 116) rfl rfl (zdg D_X3_joined 38 (116, .ireturn, 1) rfl) (hP _ hf)
                · skip
                  refine z_lsw (pc := 1) (off := 116) 117 (zdg D_X3_joined 1 (1, .lookupswitch 116 #[(42, 75), (43, 67), (45, 71), (60, 79), (61, 90), (62, 101), (112, 112)], 67) rfl) rfl (by show Op.lookupswitch.offset [(42, 75), (43, 67), (45, 71), (60, 79), (61, 90), (62, 101), (112, 112)] 116 _ = _; rw [lv_osw hc0 (k := 42) (a := 42) rfl, lv_osw hc1 (k := 43) (a := 43) rfl, lv_osw hc2 (k := 45) (a := 45) rfl, lv_osw hc3 (k := 60) (a := 60) rfl, lv_osw hc4 (k := 61) (a := 61) rfl, lv_osw hc5 (k := 62) (a := 62) rfl, lv_osw hc6 (k := 112) (a := 112) rfl]; try rfl) rfl ?_
                  refine z_iload_n (pc := 117) 1 (zdg D_X3_joined 39 (117, .iload_n 1, 1) rfl) rfl rfl ?_
                  refine z_iload_n (pc := 118) 2 (zdg D_X3_joined 40 (118, .iload_n 2, 1) rfl) rfl rfl ?_
                  refine z_ior (pc := 119) (zdg D_X3_joined 41 (119, .ior, 1) rfl) ?_
                  exact z_iret (pc := 120) rfl rfl (zdg D_X3_joined 42 (120, .ireturn, 1) rfl) (hP _ hf)

def L_X3_run : List (Nat × Instr × Nat) := [(0, .iconst 0, 1), (1, .istore_n 3, 1), (2, .iload_n 1, 1), (3, .iconst 0, 1), (4, .invokestatic 48, 3), (7, .istore 4, 2), (9, .iload 4, 2), (11, .iload_n 2, 1), (12, .if_icmp .ge 172, 3), (15, .iload 4, 2), (17, .sipush 400, 3), (20, .if_icmp .ge 164, 3), (23, .aload_n 0, 1), (24, .getfield 9, 3), (27, .iload 4, 2), (29, .iaload, 1), (30, .bipush 16, 2), (32, .iushr, 1), (33, .istore 5, 2), (35, .aload_n 0, 1), (36, .getfield 9, 3), (39, .iload 4, 2), (41, .iaload, 1), (42, .ldc 37, 2), (44, .iand, 1), (45, .istore 6, 2), (47, .iload 5, 2), (49, .iconst 2, 1), (50, .if_icmp .eq 10, 3), (53, .iload 5, 2), (55, .bipush 114, 2), (57, .if_icmp .ne 42, 3), (60, .iload_n 3, 1), (61, .bipush 40, 2), (63, .if_icmp .ge 115, 3), (66, .aload_n 0, 1), (67, .getfield 27, 3), (70, .iload_n 3, 1), (71, .iload 5, 2), (73, .iconst 2, 1), (74, .if_icmp .ne 8, 3), (77, .iload 6, 2), (79, .goto 13, 3), (82, .aload_n 0, 1), (83, .getfield 24, 3), (86, .iload 6, 2), (88, .bipush 8, 2), (90, .irem, 1), (91, .iaload, 1), (92, .iastore, 1), (93, .iinc 3 1, 3), (96, .goto 82, 3), (99, .iload 5, 2), (101, .bipush 47, 2), (103, .if_icmp .eq 10, 3), (106, .iload 5, 2), (108, .bipush 113, 2), (110, .if_icmp .ne 33, 3), (113, .iload_n 3, 1), (114, .ifCond .le 64, 3), (117, .aload_n 0, 1), (118, .getfield 27, 3), (121, .iload_n 3, 1), (122, .iconst 1, 1), (123, .isub, 1), (124, .iload 5, 2), (126, .aload_n 0, 1), (127, .getfield 27, 3), (130, .iload_n 3, 1), (131, .iconst 1, 1), (132, .isub, 1), (133, .iaload, 1), (134, .iload 6, 2), (136, .invokestatic 53, 3), (139, .iastore, 1), (140, .goto 38, 3), (143, .iload_n 3, 1), (144, .iconst 1, 1), (145, .if_icmp .le 33, 3), (148, .iinc 3 (-1), 3), (151, .aload_n 0, 1), (152, .getfield 27, 3), (155, .iload_n 3, 1), (156, .iconst 1, 1), (157, .isub, 1), (158, .iload 5, 2), (160, .aload_n 0, 1), (161, .getfield 27, 3), (164, .iload_n 3, 1), (165, .iconst 1, 1), (166, .isub, 1), (167, .iaload, 1), (168, .aload_n 0, 1), (169, .getfield 27, 3), (172, .iload_n 3, 1), (173, .iaload, 1), (174, .invokestatic 57, 3), (177, .iastore, 1), (178, .iinc 4 1, 3), (181, .goto (-172), 3), (184, .iload_n 3, 1), (185, .ifCond .le 12, 3), (188, .aload_n 0, 1), (189, .getfield 27, 3), (192, .iconst 0, 1), (193, .iaload, 1), (194, .goto 4, 3), (197, .iconst 0, 1), (198, .ireturn, 1)]
set_option maxRecDepth 100000 in
theorem D_X3_run : zdecs cX3_run L_X3_run = true := by decide +kernel
noncomputable def j_X3_run_113_9 (i : Nat) (w3_11 : Int32) (w4_12 : Int32) (w5_13 : Int32) (w6_14 : Int32) (s15 : zG) : Option ((Int32 × Int32 × zG) ⊕ (Int32 × zG)) :=
  if 0 < w3_11 then zg (zin (w3_11 - (1 : Int32)) 40) ((f_X3_changed w5_13 (s15.1 28 i (w3_11 - (1 : Int32)).toNatClampNeg) w6_14).bind (fun q16 => zg (zin (w3_11 - (1 : Int32)) 40) (zb (zwI s15 28 i (w3_11 - (1 : Int32)).toNatClampNeg q16) (fun s17 => some (Sum.inl (w3_11, (w4_12 + 1), s17)))))) else some (Sum.inl (w3_11, (w4_12 + 1), s15))
noncomputable def j_X3_run_60_9 (i : Nat) (w3_4 : Int32) (w4_5 : Int32) (w5_6 : Int32) (w6_7 : Int32) (s8 : zG) : Option ((Int32 × Int32 × zG) ⊕ (Int32 × zG)) :=
  if w3_4 < (40 : Int32) then if w5_6 = (2 : Int32) then zg (zin w3_4 40) (zb (zwI s8 28 i w3_4.toNatClampNeg w6_7) (fun s10 => some (Sum.inl ((w3_4 + 1), (w4_5 + 1), s10)))) else zg (zin (zrem w6_7 (8 : Int32)) 8) (zg (zin w3_4 40) (zb (zwI s8 28 i w3_4.toNatClampNeg (s8.1 27 i (zrem w6_7 (8 : Int32)).toNatClampNeg)) (fun s9 => some (Sum.inl ((w3_4 + 1), (w4_5 + 1), s9))))) else some (Sum.inl (w3_4, (w4_5 + 1), s8))
noncomputable def b_X3_run_9 (p2 : Int32) (i : Nat) (v3_1 : Int32) (v4_2 : Int32) (s3 : zG) : Option ((Int32 × Int32 × zG) ⊕ (Int32 × zG)) :=
  if v4_2 < p2 then if v4_2 < (400 : Int32) then zg (zin v4_2 400) (zg (zin v4_2 400) (if (zushr (s3.1 23 i v4_2.toNatClampNeg) (16 : Int32)) = (2 : Int32) then j_X3_run_60_9 i v3_1 v4_2 (zushr (s3.1 23 i v4_2.toNatClampNeg) (16 : Int32)) ((s3.1 23 i v4_2.toNatClampNeg) &&& (65535 : Int32)) s3 else if (zushr (s3.1 23 i v4_2.toNatClampNeg) (16 : Int32)) = (114 : Int32) then j_X3_run_60_9 i v3_1 v4_2 (zushr (s3.1 23 i v4_2.toNatClampNeg) (16 : Int32)) ((s3.1 23 i v4_2.toNatClampNeg) &&& (65535 : Int32)) s3 else if (zushr (s3.1 23 i v4_2.toNatClampNeg) (16 : Int32)) = (47 : Int32) then j_X3_run_113_9 i v3_1 v4_2 (zushr (s3.1 23 i v4_2.toNatClampNeg) (16 : Int32)) ((s3.1 23 i v4_2.toNatClampNeg) &&& (65535 : Int32)) s3 else if (zushr (s3.1 23 i v4_2.toNatClampNeg) (16 : Int32)) = (113 : Int32) then j_X3_run_113_9 i v3_1 v4_2 (zushr (s3.1 23 i v4_2.toNatClampNeg) (16 : Int32)) ((s3.1 23 i v4_2.toNatClampNeg) &&& (65535 : Int32)) s3 else if (1 : Int32) < v3_1 then zg (zin ((v3_1 + (-1)) - (1 : Int32)) 40) (zg (zin (v3_1 + (-1)) 40) (zg (zin ((v3_1 + (-1)) - (1 : Int32)) 40) (zb (zwI s3 28 i ((v3_1 + (-1)) - (1 : Int32)).toNatClampNeg (f_X3_joined (zushr (s3.1 23 i v4_2.toNatClampNeg) (16 : Int32)) (s3.1 28 i ((v3_1 + (-1)) - (1 : Int32)).toNatClampNeg) (s3.1 28 i (v3_1 + (-1)).toNatClampNeg))) (fun s18 => some (Sum.inl ((v3_1 + (-1)), (v4_2 + 1), s18)))))) else some (Sum.inl (v3_1, (v4_2 + 1), s3)))) else some (Sum.inr (v3_1, s3)) else some (Sum.inr (v3_1, s3))
noncomputable def j_X3_run_184 (i : Nat) (w3_20 : Int32) (s21 : zG) : Option (Int32 × zG) :=
  if 0 < w3_20 then some ((s21.1 28 i 0), s21) else some ((0 : Int32), s21)
noncomputable def f_X3_run (i : Nat) (p1 : Int32) (p2 : Int32) (σ : zG) : Option (Int32 × zG) :=
  (zlp (fun q : Int32 × Int32 × zG => b_X3_run_9 p2 i q.1 q.2.1 q.2.2) ((0 : Int32), (zmax p1 (0 : Int32)), σ)).bind (fun e19 : Int32 × zG => j_X3_run_184 i e19.1 e19.2)
set_option maxRecDepth 100000 in
set_option maxHeartbeats 4000000 in
theorem c_X3_run (l : Launch) (i : Nat) (p1 : Int32) (p2 : Int32) (σ : zG) (q : Int32 × zG) (hq : f_X3_run i p1 p2 σ = some q) : zMet l zsyC m_X3_run yX3_run [zR 10 i, zI p1, zI p2] σ (some (zI q.1)) q.2 := by
  refine zEnter [(0, zR 10 i), (1, zI p1), (2, zI p2)] (by decide) rfl (fun _ => Nat.le_of_ble_eq_true rfl) (fun _ => rfl) (fun w h => ?_) (fun K hv hs => ?_)
  · exact zokm rfl h
  · have hP : ∀ x s, f_X3_run i p1 p2 σ = some (x, s) → zKv K = some (zI x) ∧ zKs K = s := fun x s h => by rw [hq] at h; cases h; exact ⟨hv, hs⟩
    have hn : f_X3_run i p1 p2 σ ≠ none := fun z => by rw [hq] at z; cases z
    have hf := f_X3_run.eq_1 i p1 p2 σ
    have t_184 : ∀ (w3_20 : Int32) (s21 : zG), f_X3_run i p1 p2 σ = j_X3_run_184 i w3_20 s21 → zX zsyC m_X3_run K 184 [(0, zR 10 i), (3, zI w3_20)] [] s21 := by
      intro w3_20 s21 hf
      replace hf := hf.trans (j_X3_run_184.eq_1 i w3_20 s21)
      refine z_iload_n (pc := 184) 1 (zdg D_X3_run 100 (184, .iload_n 3, 1) rfl) rfl rfl ?_
      refine z_if_le (pc := 185) 197 (zdg D_X3_run 101 (185, .ifCond .le 12, 3) rfl) rfl hf (fun hf => ?_) (fun hf => ?_)
      · refine z_iconst (pc := 197) (v := 0) (zdg D_X3_run 107 (197, .iconst 0, 1) rfl) rfl ?_
        exact z_iret (pc := 198) rfl rfl (zdg D_X3_run 108 (198, .ireturn, 1) rfl) (hP _ _ hf)
      · refine z_aload_n (pc := 188) 0 (zdg D_X3_run 102 (188, .aload_n 0, 1) rfl) rfl rfl ?_
        refine z_getR (pc := 189) (g := 28) (j := i) lf_X3_27 rfl rfl rfl (zdg D_X3_run 103 (189, .getfield 27, 3) rfl) ?_
        refine z_iconst (pc := 192) (v := 0) (zdg D_X3_run 104 (192, .iconst 0, 1) rfl) rfl ?_
        refine z_ialdC (pc := 193) (j := 0) rfl (fun _ => rfl) (zdg D_X3_run 105 (193, .iaload, 1) rfl) rfl rfl ?_
        refine z_goto (pc := 194) 198 (zdg D_X3_run 106 (194, .goto 4, 3) rfl) rfl ?_
        exact z_iret (pc := 198) rfl rfl (zdg D_X3_run 108 (198, .ireturn, 1) rfl) (hP _ _ hf)
    refine z_iconst (pc := 0) (v := 0) (zdg D_X3_run 0 (0, .iconst 0, 1) rfl) rfl ?_
    refine z_istore_n (pc := 1) (al' := [(3, zI (0 : Int32)), (0, zR 10 i), (1, zI p1), (2, zI p2)]) (zdg D_X3_run 1 (1, .istore_n 3, 1) rfl) rfl (by decide) rfl ?_
    refine z_iload_n (pc := 2) 2 (zdg D_X3_run 2 (2, .iload_n 1, 1) rfl) rfl rfl ?_
    refine z_iconst (pc := 3) (v := 0) (zdg D_X3_run 3 (3, .iconst 0, 1) rfl) rfl ?_
    refine z_mmax (pc := 4) lm_X3_48 (Nat.le_of_ble_eq_true rfl) (Nat.le_of_ble_eq_true rfl) (zdg D_X3_run 4 (4, .invokestatic 48, 3) rfl) ?_
    refine z_istore (pc := 7) (al' := [(4, zI (zmax p1 (0 : Int32))), (3, zI (0 : Int32)), (0, zR 10 i), (1, zI p1), (2, zI p2)]) (zdg D_X3_run 5 (7, .istore 4, 2) rfl) (by decide) rfl ?_
    refine z_sub (al' := [(0, zR 10 i), (2, zI p2), (3, zI (0 : Int32)), (4, zI (zmax p1 (0 : Int32)))]) [2, 4, 1, 0] rfl ?_
    refine z_loop (f := (fun q : Int32 × Int32 × zG => b_X3_run_9 p2 i q.1 q.2.1 q.2.2)) (a := ((0 : Int32), (zmax p1 (0 : Int32)), σ)) (fun q : Int32 × Int32 × zG => zX zsyC m_X3_run K 9 [(0, zR 10 i), (2, zI p2), (3, zI q.1), (4, zI q.2.1)] [] q.2.2) (fun e19 : Int32 × zG => zX zsyC m_X3_run K 184 [(0, zR 10 i), (3, zI e19.1)] [] e19.2) hn hf ?_ ?_
    · intro e19 hf
      exact t_184 e19.1 e19.2 hf
    · rintro ⟨v3_1, v4_2, s3⟩ hn hi hx
      have hf := b_X3_run_9.eq_1 p2 i v3_1 v4_2 s3
      have t_113 : ∀ (w3_11 : Int32) (w4_12 : Int32) (w5_13 : Int32) (w6_14 : Int32) (s15 : zG), b_X3_run_9 p2 i v3_1 v4_2 s3 = j_X3_run_113_9 i w3_11 w4_12 w5_13 w6_14 s15 → zX zsyC m_X3_run K 113 [(0, zR 10 i), (2, zI p2), (3, zI w3_11), (4, zI w4_12), (5, zI w5_13), (6, zI w6_14)] [] s15 := by
        intro w3_11 w4_12 w5_13 w6_14 s15 hf
        replace hf := hf.trans (j_X3_run_113_9.eq_1 i w3_11 w4_12 w5_13 w6_14 s15)
        refine z_iload_n (pc := 113) 2 (zdg D_X3_run 58 (113, .iload_n 3, 1) rfl) rfl rfl ?_
        refine z_if_le (pc := 114) 178 (zdg D_X3_run 59 (114, .ifCond .le 64, 3) rfl) rfl hf (fun hf => ?_) (fun hf => ?_)
        · refine z_iinc (pc := 178) (v0 := (w4_12 + 1)) (al' := [(4, zI (w4_12 + 1)), (0, zR 10 i), (2, zI p2), (3, zI w3_11), (5, zI w5_13), (6, zI w6_14)]) 3 (zdg D_X3_run 98 (178, .iinc 4 1, 3) rfl) rfl rfl (by decide) rfl ?_
          refine z_goto (pc := 181) 9 (zdg D_X3_run 99 (181, .goto (-172), 3) rfl) rfl ?_
          refine z_sub (al' := [(0, zR 10 i), (2, zI p2), (3, zI w3_11), (4, zI (w4_12 + 1))]) [1, 2, 3, 0] rfl ?_
          exact hi (w3_11, (w4_12 + 1), s15) hf
        · refine z_aload_n (pc := 117) 0 (zdg D_X3_run 60 (117, .aload_n 0, 1) rfl) rfl rfl ?_
          refine z_getR (pc := 118) (g := 28) (j := i) lf_X3_27 rfl rfl rfl (zdg D_X3_run 61 (118, .getfield 27, 3) rfl) ?_
          refine z_iload_n (pc := 121) 2 (zdg D_X3_run 62 (121, .iload_n 3, 1) rfl) rfl rfl ?_
          refine z_iconst (pc := 122) (v := 1) (zdg D_X3_run 63 (122, .iconst 1, 1) rfl) rfl ?_
          refine z_isub (pc := 123) (zdg D_X3_run 64 (123, .isub, 1) rfl) ?_
          refine z_iload (pc := 124) 4 (zdg D_X3_run 65 (124, .iload 5, 2) rfl) rfl ?_
          refine z_aload_n (pc := 126) 0 (zdg D_X3_run 66 (126, .aload_n 0, 1) rfl) rfl rfl ?_
          refine z_getR (pc := 127) (g := 28) (j := i) lf_X3_27 rfl rfl rfl (zdg D_X3_run 67 (127, .getfield 27, 3) rfl) ?_
          refine z_iload_n (pc := 130) 2 (zdg D_X3_run 68 (130, .iload_n 3, 1) rfl) rfl rfl ?_
          refine z_iconst (pc := 131) (v := 1) (zdg D_X3_run 69 (131, .iconst 1, 1) rfl) rfl ?_
          refine z_isub (pc := 132) (zdg D_X3_run 70 (132, .isub, 1) rfl) ?_
          refine z_iald (pc := 133) rfl (fun _ => rfl) (zdg D_X3_run 71 (133, .iaload, 1) rfl) hn hf (fun hf => ?_)
          refine z_iload (pc := 134) 5 (zdg D_X3_run 72 (134, .iload 6, 2) rfl) rfl ?_
          refine z_bind hn hf (fun q16 hq hf => ?_)
          refine z_callS (pc := 136) (rest := [zI (w3_11 - (1 : Int32)), zR 28 i]) (st2 := [zI q16, zI (w3_11 - (1 : Int32)), zR 28 i]) (fun l => c_X3_changed l w5_13 (s15.1 28 i (w3_11 - (1 : Int32)).toNatClampNeg) w6_14 s15 q16 hq) zs_X3_changed lm_X3_53 rfl rfl rfl (Nat.le_of_ble_eq_true rfl) ⟨Nat.le_of_ble_eq_true rfl, Nat.le_of_ble_eq_true rfl⟩ (zdg D_X3_run 73 (136, .invokestatic 53, 3) rfl) ?_
          refine z_iast (pc := 139) rfl (fun _ => rfl) (zdg D_X3_run 74 (139, .iastore, 1) rfl) hn hf (fun hf => ?_)
          refine z_nmS hf (fun s17 hf => ?_)
          refine z_goto (pc := 140) 178 (zdg D_X3_run 75 (140, .goto 38, 3) rfl) rfl ?_
          refine z_iinc (pc := 178) (v0 := (w4_12 + 1)) (al' := [(4, zI (w4_12 + 1)), (0, zR 10 i), (2, zI p2), (3, zI w3_11), (5, zI w5_13), (6, zI w6_14)]) 3 (zdg D_X3_run 98 (178, .iinc 4 1, 3) rfl) rfl rfl (by decide) rfl ?_
          refine z_goto (pc := 181) 9 (zdg D_X3_run 99 (181, .goto (-172), 3) rfl) rfl ?_
          refine z_sub (al' := [(0, zR 10 i), (2, zI p2), (3, zI w3_11), (4, zI (w4_12 + 1))]) [1, 2, 3, 0] rfl ?_
          exact hi (w3_11, (w4_12 + 1), s17) hf
      have t_60 : ∀ (w3_4 : Int32) (w4_5 : Int32) (w5_6 : Int32) (w6_7 : Int32) (s8 : zG), b_X3_run_9 p2 i v3_1 v4_2 s3 = j_X3_run_60_9 i w3_4 w4_5 w5_6 w6_7 s8 → zX zsyC m_X3_run K 60 [(0, zR 10 i), (2, zI p2), (3, zI w3_4), (4, zI w4_5), (5, zI w5_6), (6, zI w6_7)] [] s8 := by
        intro w3_4 w4_5 w5_6 w6_7 s8 hf
        replace hf := hf.trans (j_X3_run_60_9.eq_1 i w3_4 w4_5 w5_6 w6_7 s8)
        refine z_iload_n (pc := 60) 2 (zdg D_X3_run 32 (60, .iload_n 3, 1) rfl) rfl rfl ?_
        refine z_bipush (pc := 61) (v := 40) (zdg D_X3_run 33 (61, .bipush 40, 2) rfl) rfl ?_
        refine z_icmp_ge (pc := 63) 178 (zdg D_X3_run 34 (63, .if_icmp .ge 115, 3) rfl) rfl hf (fun hf => ?_) (fun hf => ?_)
        · refine z_iinc (pc := 178) (v0 := (w4_5 + 1)) (al' := [(4, zI (w4_5 + 1)), (0, zR 10 i), (2, zI p2), (3, zI w3_4), (5, zI w5_6), (6, zI w6_7)]) 3 (zdg D_X3_run 98 (178, .iinc 4 1, 3) rfl) rfl rfl (by decide) rfl ?_
          refine z_goto (pc := 181) 9 (zdg D_X3_run 99 (181, .goto (-172), 3) rfl) rfl ?_
          refine z_sub (al' := [(0, zR 10 i), (2, zI p2), (3, zI w3_4), (4, zI (w4_5 + 1))]) [1, 2, 3, 0] rfl ?_
          exact hi (w3_4, (w4_5 + 1), s8) hf
        · refine z_aload_n (pc := 66) 0 (zdg D_X3_run 35 (66, .aload_n 0, 1) rfl) rfl rfl ?_
          refine z_getR (pc := 67) (g := 28) (j := i) lf_X3_27 rfl rfl rfl (zdg D_X3_run 36 (67, .getfield 27, 3) rfl) ?_
          refine z_iload_n (pc := 70) 2 (zdg D_X3_run 37 (70, .iload_n 3, 1) rfl) rfl rfl ?_
          refine z_iload (pc := 71) 4 (zdg D_X3_run 38 (71, .iload 5, 2) rfl) rfl ?_
          refine z_iconst (pc := 73) (v := 2) (zdg D_X3_run 39 (73, .iconst 2, 1) rfl) rfl ?_
          refine z_icmp_ne (pc := 74) 82 (zdg D_X3_run 40 (74, .if_icmp .ne 8, 3) rfl) rfl hf (fun hf => ?_) (fun hf => ?_)
          · refine z_aload_n (pc := 82) 0 (zdg D_X3_run 43 (82, .aload_n 0, 1) rfl) rfl rfl ?_
            refine z_getR (pc := 83) (g := 27) (j := i) lf_X3_24 rfl rfl rfl (zdg D_X3_run 44 (83, .getfield 24, 3) rfl) ?_
            refine z_iload (pc := 86) 5 (zdg D_X3_run 45 (86, .iload 6, 2) rfl) rfl ?_
            refine z_bipush (pc := 88) (v := 8) (zdg D_X3_run 46 (88, .bipush 8, 2) rfl) rfl ?_
            refine z_iremK (pc := 90) (zdg D_X3_run 47 (90, .irem, 1) rfl) rfl ?_
            refine z_iald (pc := 91) rfl (fun _ => rfl) (zdg D_X3_run 48 (91, .iaload, 1) rfl) hn hf (fun hf => ?_)
            refine z_iast (pc := 92) rfl (fun _ => rfl) (zdg D_X3_run 49 (92, .iastore, 1) rfl) hn hf (fun hf => ?_)
            refine z_nmS hf (fun s9 hf => ?_)
            refine z_iinc (pc := 93) (v0 := (w3_4 + 1)) (al' := [(3, zI (w3_4 + 1)), (0, zR 10 i), (2, zI p2), (4, zI w4_5), (5, zI w5_6), (6, zI w6_7)]) 2 (zdg D_X3_run 50 (93, .iinc 3 1, 3) rfl) rfl rfl (by decide) rfl ?_
            refine z_goto (pc := 96) 178 (zdg D_X3_run 51 (96, .goto 82, 3) rfl) rfl ?_
            refine z_iinc (pc := 178) (v0 := (w4_5 + 1)) (al' := [(4, zI (w4_5 + 1)), (3, zI (w3_4 + 1)), (0, zR 10 i), (2, zI p2), (5, zI w5_6), (6, zI w6_7)]) 3 (zdg D_X3_run 98 (178, .iinc 4 1, 3) rfl) rfl rfl (by decide) rfl ?_
            refine z_goto (pc := 181) 9 (zdg D_X3_run 99 (181, .goto (-172), 3) rfl) rfl ?_
            refine z_sub (al' := [(0, zR 10 i), (2, zI p2), (3, zI (w3_4 + 1)), (4, zI (w4_5 + 1))]) [2, 3, 1, 0] rfl ?_
            exact hi ((w3_4 + 1), (w4_5 + 1), s9) hf
          · refine z_iload (pc := 77) 5 (zdg D_X3_run 41 (77, .iload 6, 2) rfl) rfl ?_
            refine z_goto (pc := 79) 92 (zdg D_X3_run 42 (79, .goto 13, 3) rfl) rfl ?_
            refine z_iast (pc := 92) rfl (fun _ => rfl) (zdg D_X3_run 49 (92, .iastore, 1) rfl) hn hf (fun hf => ?_)
            refine z_nmS hf (fun s10 hf => ?_)
            refine z_iinc (pc := 93) (v0 := (w3_4 + 1)) (al' := [(3, zI (w3_4 + 1)), (0, zR 10 i), (2, zI p2), (4, zI w4_5), (5, zI w5_6), (6, zI w6_7)]) 2 (zdg D_X3_run 50 (93, .iinc 3 1, 3) rfl) rfl rfl (by decide) rfl ?_
            refine z_goto (pc := 96) 178 (zdg D_X3_run 51 (96, .goto 82, 3) rfl) rfl ?_
            refine z_iinc (pc := 178) (v0 := (w4_5 + 1)) (al' := [(4, zI (w4_5 + 1)), (3, zI (w3_4 + 1)), (0, zR 10 i), (2, zI p2), (5, zI w5_6), (6, zI w6_7)]) 3 (zdg D_X3_run 98 (178, .iinc 4 1, 3) rfl) rfl rfl (by decide) rfl ?_
            refine z_goto (pc := 181) 9 (zdg D_X3_run 99 (181, .goto (-172), 3) rfl) rfl ?_
            refine z_sub (al' := [(0, zR 10 i), (2, zI p2), (3, zI (w3_4 + 1)), (4, zI (w4_5 + 1))]) [2, 3, 1, 0] rfl ?_
            exact hi ((w3_4 + 1), (w4_5 + 1), s10) hf
      refine z_iload (pc := 9) 3 (zdg D_X3_run 6 (9, .iload 4, 2) rfl) rfl ?_
      refine z_iload_n (pc := 11) 1 (zdg D_X3_run 7 (11, .iload_n 2, 1) rfl) rfl rfl ?_
      refine z_icmp_ge (pc := 12) 184 (zdg D_X3_run 8 (12, .if_icmp .ge 172, 3) rfl) rfl hf (fun hf => ?_) (fun hf => ?_)
      · refine z_sub (al' := [(0, zR 10 i), (3, zI v3_1)]) [0, 2] rfl ?_
        exact hx (v3_1, s3) hf
      · refine z_iload (pc := 15) 3 (zdg D_X3_run 9 (15, .iload 4, 2) rfl) rfl ?_
        refine z_sipush (pc := 17) (v := 400) (zdg D_X3_run 10 (17, .sipush 400, 3) rfl) rfl ?_
        refine z_icmp_ge (pc := 20) 184 (zdg D_X3_run 11 (20, .if_icmp .ge 164, 3) rfl) rfl hf (fun hf => ?_) (fun hf => ?_)
        · refine z_sub (al' := [(0, zR 10 i), (3, zI v3_1)]) [0, 2] rfl ?_
          exact hx (v3_1, s3) hf
        · refine z_aload_n (pc := 23) 0 (zdg D_X3_run 12 (23, .aload_n 0, 1) rfl) rfl rfl ?_
          refine z_getR (pc := 24) (g := 23) (j := i) lf_X3_9 rfl rfl rfl (zdg D_X3_run 13 (24, .getfield 9, 3) rfl) ?_
          refine z_iload (pc := 27) 3 (zdg D_X3_run 14 (27, .iload 4, 2) rfl) rfl ?_
          refine z_iald (pc := 29) rfl (fun _ => rfl) (zdg D_X3_run 15 (29, .iaload, 1) rfl) hn hf (fun hf => ?_)
          refine z_bipush (pc := 30) (v := 16) (zdg D_X3_run 16 (30, .bipush 16, 2) rfl) rfl ?_
          refine z_iushr (pc := 32) (zdg D_X3_run 17 (32, .iushr, 1) rfl) ?_
          refine z_istore (pc := 33) (al' := [(5, zI (zushr (s3.1 23 i v4_2.toNatClampNeg) (16 : Int32))), (0, zR 10 i), (2, zI p2), (3, zI v3_1), (4, zI v4_2)]) (zdg D_X3_run 18 (33, .istore 5, 2) rfl) (by decide) rfl ?_
          refine z_aload_n (pc := 35) 1 (zdg D_X3_run 19 (35, .aload_n 0, 1) rfl) rfl rfl ?_
          refine z_getR (pc := 36) (g := 23) (j := i) lf_X3_9 rfl rfl rfl (zdg D_X3_run 20 (36, .getfield 9, 3) rfl) ?_
          refine z_iload (pc := 39) 4 (zdg D_X3_run 21 (39, .iload 4, 2) rfl) rfl ?_
          refine z_iald (pc := 41) rfl (fun _ => rfl) (zdg D_X3_run 22 (41, .iaload, 1) rfl) hn hf (fun hf => ?_)
          refine z_ldc (pc := 42) lc_X3_37 (zdg D_X3_run 23 (42, .ldc 37, 2) rfl) ?_
          refine z_iand (pc := 44) (zdg D_X3_run 24 (44, .iand, 1) rfl) ?_
          refine z_istore (pc := 45) (al' := [(6, zI ((s3.1 23 i v4_2.toNatClampNeg) &&& (65535 : Int32))), (5, zI (zushr (s3.1 23 i v4_2.toNatClampNeg) (16 : Int32))), (0, zR 10 i), (2, zI p2), (3, zI v3_1), (4, zI v4_2)]) (zdg D_X3_run 25 (45, .istore 6, 2) rfl) (by decide) rfl ?_
          refine z_iload (pc := 47) 1 (zdg D_X3_run 26 (47, .iload 5, 2) rfl) rfl ?_
          refine z_iconst (pc := 49) (v := 2) (zdg D_X3_run 27 (49, .iconst 2, 1) rfl) rfl ?_
          refine z_icmp_eq (pc := 50) 60 (zdg D_X3_run 28 (50, .if_icmp .eq 10, 3) rfl) rfl hf (fun hf => ?_) (fun hf => ?_)
          · refine z_sub (al' := [(0, zR 10 i), (2, zI p2), (3, zI v3_1), (4, zI v4_2), (5, zI (zushr (s3.1 23 i v4_2.toNatClampNeg) (16 : Int32))), (6, zI ((s3.1 23 i v4_2.toNatClampNeg) &&& (65535 : Int32)))]) [2, 3, 4, 5, 1, 0] rfl ?_
            exact t_60 v3_1 v4_2 (zushr (s3.1 23 i v4_2.toNatClampNeg) (16 : Int32)) ((s3.1 23 i v4_2.toNatClampNeg) &&& (65535 : Int32)) s3 hf
          · refine z_iload (pc := 53) 1 (zdg D_X3_run 29 (53, .iload 5, 2) rfl) rfl ?_
            refine z_bipush (pc := 55) (v := 114) (zdg D_X3_run 30 (55, .bipush 114, 2) rfl) rfl ?_
            refine z_icmp_ne (pc := 57) 99 (zdg D_X3_run 31 (57, .if_icmp .ne 42, 3) rfl) rfl hf (fun hf => ?_) (fun hf => ?_)
            · refine z_iload (pc := 99) 1 (zdg D_X3_run 52 (99, .iload 5, 2) rfl) rfl ?_
              refine z_bipush (pc := 101) (v := 47) (zdg D_X3_run 53 (101, .bipush 47, 2) rfl) rfl ?_
              refine z_icmp_eq (pc := 103) 113 (zdg D_X3_run 54 (103, .if_icmp .eq 10, 3) rfl) rfl hf (fun hf => ?_) (fun hf => ?_)
              · refine z_sub (al' := [(0, zR 10 i), (2, zI p2), (3, zI v3_1), (4, zI v4_2), (5, zI (zushr (s3.1 23 i v4_2.toNatClampNeg) (16 : Int32))), (6, zI ((s3.1 23 i v4_2.toNatClampNeg) &&& (65535 : Int32)))]) [2, 3, 4, 5, 1, 0] rfl ?_
                exact t_113 v3_1 v4_2 (zushr (s3.1 23 i v4_2.toNatClampNeg) (16 : Int32)) ((s3.1 23 i v4_2.toNatClampNeg) &&& (65535 : Int32)) s3 hf
              · refine z_iload (pc := 106) 1 (zdg D_X3_run 55 (106, .iload 5, 2) rfl) rfl ?_
                refine z_bipush (pc := 108) (v := 113) (zdg D_X3_run 56 (108, .bipush 113, 2) rfl) rfl ?_
                refine z_icmp_ne (pc := 110) 143 (zdg D_X3_run 57 (110, .if_icmp .ne 33, 3) rfl) rfl hf (fun hf => ?_) (fun hf => ?_)
                · refine z_iload_n (pc := 143) 4 (zdg D_X3_run 76 (143, .iload_n 3, 1) rfl) rfl rfl ?_
                  refine z_iconst (pc := 144) (v := 1) (zdg D_X3_run 77 (144, .iconst 1, 1) rfl) rfl ?_
                  refine z_icmp_le (pc := 145) 178 (zdg D_X3_run 78 (145, .if_icmp .le 33, 3) rfl) rfl hf (fun hf => ?_) (fun hf => ?_)
                  · refine z_iinc (pc := 178) (v0 := (v4_2 + 1)) (al' := [(4, zI (v4_2 + 1)), (6, zI ((s3.1 23 i v4_2.toNatClampNeg) &&& (65535 : Int32))), (5, zI (zushr (s3.1 23 i v4_2.toNatClampNeg) (16 : Int32))), (0, zR 10 i), (2, zI p2), (3, zI v3_1)]) 5 (zdg D_X3_run 98 (178, .iinc 4 1, 3) rfl) rfl rfl (by decide) rfl ?_
                    refine z_goto (pc := 181) 9 (zdg D_X3_run 99 (181, .goto (-172), 3) rfl) rfl ?_
                    refine z_sub (al' := [(0, zR 10 i), (2, zI p2), (3, zI v3_1), (4, zI (v4_2 + 1))]) [3, 4, 5, 0] rfl ?_
                    exact hi (v3_1, (v4_2 + 1), s3) hf
                  · refine z_iinc (pc := 148) (v0 := (v3_1 + (-1))) (al' := [(3, zI (v3_1 + (-1))), (6, zI ((s3.1 23 i v4_2.toNatClampNeg) &&& (65535 : Int32))), (5, zI (zushr (s3.1 23 i v4_2.toNatClampNeg) (16 : Int32))), (0, zR 10 i), (2, zI p2), (4, zI v4_2)]) 4 (zdg D_X3_run 79 (148, .iinc 3 (-1), 3) rfl) rfl rfl (by decide) rfl ?_
                    refine z_aload_n (pc := 151) 3 (zdg D_X3_run 80 (151, .aload_n 0, 1) rfl) rfl rfl ?_
                    refine z_getR (pc := 152) (g := 28) (j := i) lf_X3_27 rfl rfl rfl (zdg D_X3_run 81 (152, .getfield 27, 3) rfl) ?_
                    refine z_iload_n (pc := 155) 0 (zdg D_X3_run 82 (155, .iload_n 3, 1) rfl) rfl rfl ?_
                    refine z_iconst (pc := 156) (v := 1) (zdg D_X3_run 83 (156, .iconst 1, 1) rfl) rfl ?_
                    refine z_isub (pc := 157) (zdg D_X3_run 84 (157, .isub, 1) rfl) ?_
                    refine z_iload (pc := 158) 2 (zdg D_X3_run 85 (158, .iload 5, 2) rfl) rfl ?_
                    refine z_aload_n (pc := 160) 3 (zdg D_X3_run 86 (160, .aload_n 0, 1) rfl) rfl rfl ?_
                    refine z_getR (pc := 161) (g := 28) (j := i) lf_X3_27 rfl rfl rfl (zdg D_X3_run 87 (161, .getfield 27, 3) rfl) ?_
                    refine z_iload_n (pc := 164) 0 (zdg D_X3_run 88 (164, .iload_n 3, 1) rfl) rfl rfl ?_
                    refine z_iconst (pc := 165) (v := 1) (zdg D_X3_run 89 (165, .iconst 1, 1) rfl) rfl ?_
                    refine z_isub (pc := 166) (zdg D_X3_run 90 (166, .isub, 1) rfl) ?_
                    refine z_iald (pc := 167) rfl (fun _ => rfl) (zdg D_X3_run 91 (167, .iaload, 1) rfl) hn hf (fun hf => ?_)
                    refine z_aload_n (pc := 168) 3 (zdg D_X3_run 92 (168, .aload_n 0, 1) rfl) rfl rfl ?_
                    refine z_getR (pc := 169) (g := 28) (j := i) lf_X3_27 rfl rfl rfl (zdg D_X3_run 93 (169, .getfield 27, 3) rfl) ?_
                    refine z_iload_n (pc := 172) 0 (zdg D_X3_run 94 (172, .iload_n 3, 1) rfl) rfl rfl ?_
                    refine z_iald (pc := 173) rfl (fun _ => rfl) (zdg D_X3_run 95 (173, .iaload, 1) rfl) hn hf (fun hf => ?_)
                    refine z_callS (pc := 174) (rest := [zI ((v3_1 + (-1)) - (1 : Int32)), zR 28 i]) (st2 := [zI (f_X3_joined (zushr (s3.1 23 i v4_2.toNatClampNeg) (16 : Int32)) (s3.1 28 i ((v3_1 + (-1)) - (1 : Int32)).toNatClampNeg) (s3.1 28 i (v3_1 + (-1)).toNatClampNeg)), zI ((v3_1 + (-1)) - (1 : Int32)), zR 28 i]) (fun l => c_X3_joined l (zushr (s3.1 23 i v4_2.toNatClampNeg) (16 : Int32)) (s3.1 28 i ((v3_1 + (-1)) - (1 : Int32)).toNatClampNeg) (s3.1 28 i (v3_1 + (-1)).toNatClampNeg) s3) zs_X3_joined lm_X3_57 rfl rfl rfl (Nat.le_of_ble_eq_true rfl) ⟨Nat.le_of_ble_eq_true rfl, Nat.le_of_ble_eq_true rfl⟩ (zdg D_X3_run 96 (174, .invokestatic 57, 3) rfl) ?_
                    refine z_iast (pc := 177) rfl (fun _ => rfl) (zdg D_X3_run 97 (177, .iastore, 1) rfl) hn hf (fun hf => ?_)
                    refine z_nmS hf (fun s18 hf => ?_)
                    refine z_iinc (pc := 178) (v0 := (v4_2 + 1)) (al' := [(4, zI (v4_2 + 1)), (3, zI (v3_1 + (-1))), (6, zI ((s3.1 23 i v4_2.toNatClampNeg) &&& (65535 : Int32))), (5, zI (zushr (s3.1 23 i v4_2.toNatClampNeg) (16 : Int32))), (0, zR 10 i), (2, zI p2)]) 5 (zdg D_X3_run 98 (178, .iinc 4 1, 3) rfl) rfl rfl (by decide) rfl ?_
                    refine z_goto (pc := 181) 9 (zdg D_X3_run 99 (181, .goto (-172), 3) rfl) rfl ?_
                    refine z_sub (al' := [(0, zR 10 i), (2, zI p2), (3, zI (v3_1 + (-1))), (4, zI (v4_2 + 1))]) [4, 5, 1, 0] rfl ?_
                    exact hi ((v3_1 + (-1)), (v4_2 + 1), s18) hf
                · refine z_sub (al' := [(0, zR 10 i), (2, zI p2), (3, zI v3_1), (4, zI v4_2), (5, zI (zushr (s3.1 23 i v4_2.toNatClampNeg) (16 : Int32))), (6, zI ((s3.1 23 i v4_2.toNatClampNeg) &&& (65535 : Int32)))]) [2, 3, 4, 5, 1, 0] rfl ?_
                  exact t_113 v3_1 v4_2 (zushr (s3.1 23 i v4_2.toNatClampNeg) (16 : Int32)) ((s3.1 23 i v4_2.toNatClampNeg) &&& (65535 : Int32)) s3 hf
            · refine z_sub (al' := [(0, zR 10 i), (2, zI p2), (3, zI v3_1), (4, zI v4_2), (5, zI (zushr (s3.1 23 i v4_2.toNatClampNeg) (16 : Int32))), (6, zI ((s3.1 23 i v4_2.toNatClampNeg) &&& (65535 : Int32)))]) [2, 3, 4, 5, 1, 0] rfl ?_
              exact t_60 v3_1 v4_2 (zushr (s3.1 23 i v4_2.toNatClampNeg) (16 : Int32)) ((s3.1 23 i v4_2.toNatClampNeg) &&& (65535 : Int32)) s3 hf

def L_X3_valueOr : List (Nat × Instr × Nat) := [(0, .iconst 0, 1), (1, .istore_n 2, 1), (2, .iload_n 2, 1), (3, .aload_n 0, 1), (4, .getfield 30, 3), (7, .if_icmp .ge 66, 3), (10, .iload_n 2, 1), (11, .bipush 16, 2), (13, .if_icmp .ge 60, 3), (16, .aload_n 0, 1), (17, .getfield 18, 3), (20, .iload_n 2, 1), (21, .iaload, 1), (22, .aload_n 0, 1), (23, .getfield 21, 3), (26, .iload_n 2, 1), (27, .iaload, 1), (28, .if_icmp .eq 22, 3), (31, .aload_n 0, 1), (32, .aload_n 0, 1), (33, .getfield 18, 3), (36, .iload_n 2, 1), (37, .iaload, 1), (38, .aload_n 0, 1), (39, .getfield 21, 3), (42, .iload_n 2, 1), (43, .iaload, 1), (44, .invokevirtual 44, 3), (47, .ifCond .eq 20, 3), (50, .aload_n 0, 1), (51, .aload_n 0, 1), (52, .getfield 15, 3), (55, .iload_n 2, 1), (56, .iaload, 1), (57, .aload_n 0, 1), (58, .getfield 18, 3), (61, .iload_n 2, 1), (62, .iaload, 1), (63, .invokevirtual 44, 3), (66, .ireturn, 1), (67, .iinc 2 1, 3), (70, .goto (-68), 3), (73, .iload_n 1, 1), (74, .ireturn, 1)]
set_option maxRecDepth 100000 in
theorem D_X3_valueOr : zdecs cX3_valueOr L_X3_valueOr = true := by decide +kernel
noncomputable def b_X3_valueOr_2 (i : Nat) (v2_1 : Int32) (s2 : zG) : Option ((Int32 × zG) ⊕ ((Int32 × zG) ⊕ (zG))) :=
  if v2_1 < (s2.1 10 i 0) then if v2_1 < (16 : Int32) then zg (zin v2_1 16) (zg (zin v2_1 16) (if (s2.1 25 i v2_1.toNatClampNeg) = (s2.1 26 i v2_1.toNatClampNeg) then some (Sum.inr (Sum.inl (v2_1, s2))) else zg (zin v2_1 16) (zg (zin v2_1 16) ((f_X3_run i (s2.1 25 i v2_1.toNatClampNeg) (s2.1 26 i v2_1.toNatClampNeg) s2).bind (fun q3 => if q3.1 = 0 then some (Sum.inl ((v2_1 + 1), q3.2)) else some (Sum.inr (Sum.inl (v2_1, q3.2)))))))) else some (Sum.inr (Sum.inr s2)) else some (Sum.inr (Sum.inr s2))
noncomputable def j_X3_valueOr_50 (i : Nat) (w2_5 : Int32) (s6 : zG) : Option (Int32 × zG) :=
  zg (zin w2_5 16) (zg (zin w2_5 16) ((f_X3_run i (s6.1 24 i w2_5.toNatClampNeg) (s6.1 25 i w2_5.toNatClampNeg) s6).bind (fun q7 => some (q7.1, q7.2))))
noncomputable def f_X3_valueOr (i : Nat) (p1 : Int32) (σ : zG) : Option (Int32 × zG) :=
  (zlp (fun q : Int32 × zG => b_X3_valueOr_2 i q.1 q.2) ((0 : Int32), σ)).bind (Sum.elim (fun e4 : Int32 × zG => j_X3_valueOr_50 i e4.1 e4.2) (fun e8 : zG => some (p1, e8)))
set_option maxRecDepth 100000 in
set_option maxHeartbeats 4000000 in
theorem c_X3_valueOr (l : Launch) (i : Nat) (p1 : Int32) (σ : zG) (q : Int32 × zG) (hq : f_X3_valueOr i p1 σ = some q) : zMet l zsyC m_X3_valueOr yX3_valueOr [zR 10 i, zI p1] σ (some (zI q.1)) q.2 := by
  refine zEnter [(0, zR 10 i), (1, zI p1)] (by decide) rfl (fun _ => Nat.le_of_ble_eq_true rfl) (fun _ => rfl) (fun w h => ?_) (fun K hv hs => ?_)
  · exact zokm rfl h
  · have hP : ∀ x s, f_X3_valueOr i p1 σ = some (x, s) → zKv K = some (zI x) ∧ zKs K = s := fun x s h => by rw [hq] at h; cases h; exact ⟨hv, hs⟩
    have hn : f_X3_valueOr i p1 σ ≠ none := fun z => by rw [hq] at z; cases z
    have hf := f_X3_valueOr.eq_1 i p1 σ
    have t_50 : ∀ (w2_5 : Int32) (s6 : zG), f_X3_valueOr i p1 σ = j_X3_valueOr_50 i w2_5 s6 → zX zsyC m_X3_valueOr K 50 [(0, zR 10 i), (2, zI w2_5)] [] s6 := by
      intro w2_5 s6 hf
      replace hf := hf.trans (j_X3_valueOr_50.eq_1 i w2_5 s6)
      refine z_aload_n (pc := 50) 0 (zdg D_X3_valueOr 29 (50, .aload_n 0, 1) rfl) rfl rfl ?_
      refine z_aload_n (pc := 51) 0 (zdg D_X3_valueOr 30 (51, .aload_n 0, 1) rfl) rfl rfl ?_
      refine z_getR (pc := 52) (g := 24) (j := i) lf_X3_15 rfl rfl rfl (zdg D_X3_valueOr 31 (52, .getfield 15, 3) rfl) ?_
      refine z_iload_n (pc := 55) 1 (zdg D_X3_valueOr 32 (55, .iload_n 2, 1) rfl) rfl rfl ?_
      refine z_iald (pc := 56) rfl (fun _ => rfl) (zdg D_X3_valueOr 33 (56, .iaload, 1) rfl) hn hf (fun hf => ?_)
      refine z_aload_n (pc := 57) 0 (zdg D_X3_valueOr 34 (57, .aload_n 0, 1) rfl) rfl rfl ?_
      refine z_getR (pc := 58) (g := 25) (j := i) lf_X3_18 rfl rfl rfl (zdg D_X3_valueOr 35 (58, .getfield 18, 3) rfl) ?_
      refine z_iload_n (pc := 61) 1 (zdg D_X3_valueOr 36 (61, .iload_n 2, 1) rfl) rfl rfl ?_
      refine z_iald (pc := 62) rfl (fun _ => rfl) (zdg D_X3_valueOr 37 (62, .iaload, 1) rfl) hn hf (fun hf => ?_)
      refine z_bind hn hf (fun q7 hq hf => ?_)
      refine z_callV (pc := 63) (rest := []) (st2 := [zI q7.1]) (fun l => c_X3_run l i (s6.1 24 i w2_5.toNatClampNeg) (s6.1 25 i w2_5.toNatClampNeg) s6 q7 hq) zv_X3_run lm_X3_44 rfl rfl rfl rfl rfl rfl (Nat.le_of_ble_eq_true rfl) ⟨Nat.le_of_ble_eq_true rfl, Nat.le_of_ble_eq_true rfl⟩ (zdg D_X3_valueOr 38 (63, .invokevirtual 44, 3) rfl) ?_
      exact z_iret (pc := 66) rfl rfl (zdg D_X3_valueOr 39 (66, .ireturn, 1) rfl) (hP _ _ hf)
    refine z_iconst (pc := 0) (v := 0) (zdg D_X3_valueOr 0 (0, .iconst 0, 1) rfl) rfl ?_
    refine z_istore_n (pc := 1) (al' := [(2, zI (0 : Int32)), (0, zR 10 i), (1, zI p1)]) (zdg D_X3_valueOr 1 (1, .istore_n 2, 1) rfl) rfl (by decide) rfl ?_
    refine z_sub (al' := [(0, zR 10 i), (1, zI p1), (2, zI (0 : Int32))]) [1, 2, 0] rfl ?_
    refine z_loop (f := (fun q : Int32 × zG => b_X3_valueOr_2 i q.1 q.2)) (a := ((0 : Int32), σ)) (fun q : Int32 × zG => zX zsyC m_X3_valueOr K 2 [(0, zR 10 i), (1, zI p1), (2, zI q.1)] [] q.2) (Sum.elim (fun e4 : Int32 × zG => zX zsyC m_X3_valueOr K 50 [(0, zR 10 i), (2, zI e4.1)] [] e4.2) (fun e8 : zG => zX zsyC m_X3_valueOr K 73 [(1, zI p1)] [] e8)) hn hf ?_ ?_
    · intro b hf
      cases b with
      | inl e4 =>
        exact t_50 e4.1 e4.2 hf
      | inr b =>
        revert hf
        revert b
        intro e8 hf
        refine z_iload_n (pc := 73) 0 (zdg D_X3_valueOr 42 (73, .iload_n 1, 1) rfl) rfl rfl ?_
        exact z_iret (pc := 74) rfl rfl (zdg D_X3_valueOr 43 (74, .ireturn, 1) rfl) (hP _ _ hf)
    · rintro ⟨v2_1, s2⟩ hn hi hx
      have hf := b_X3_valueOr_2.eq_1 i v2_1 s2
      refine z_iload_n (pc := 2) 2 (zdg D_X3_valueOr 2 (2, .iload_n 2, 1) rfl) rfl rfl ?_
      refine z_aload_n (pc := 3) 0 (zdg D_X3_valueOr 3 (3, .aload_n 0, 1) rfl) rfl rfl ?_
      refine z_getI (pc := 4) lf_X3_30 rfl rfl (zdg D_X3_valueOr 4 (4, .getfield 30, 3) rfl) ?_
      refine z_icmp_ge (pc := 7) 73 (zdg D_X3_valueOr 5 (7, .if_icmp .ge 66, 3) rfl) rfl hf (fun hf => ?_) (fun hf => ?_)
      · refine z_sub (al' := [(1, zI p1)]) [1] rfl ?_
        exact hx (Sum.inr s2) hf
      · refine z_iload_n (pc := 10) 2 (zdg D_X3_valueOr 6 (10, .iload_n 2, 1) rfl) rfl rfl ?_
        refine z_bipush (pc := 11) (v := 16) (zdg D_X3_valueOr 7 (11, .bipush 16, 2) rfl) rfl ?_
        refine z_icmp_ge (pc := 13) 73 (zdg D_X3_valueOr 8 (13, .if_icmp .ge 60, 3) rfl) rfl hf (fun hf => ?_) (fun hf => ?_)
        · refine z_sub (al' := [(1, zI p1)]) [1] rfl ?_
          exact hx (Sum.inr s2) hf
        · refine z_aload_n (pc := 16) 0 (zdg D_X3_valueOr 9 (16, .aload_n 0, 1) rfl) rfl rfl ?_
          refine z_getR (pc := 17) (g := 25) (j := i) lf_X3_18 rfl rfl rfl (zdg D_X3_valueOr 10 (17, .getfield 18, 3) rfl) ?_
          refine z_iload_n (pc := 20) 2 (zdg D_X3_valueOr 11 (20, .iload_n 2, 1) rfl) rfl rfl ?_
          refine z_iald (pc := 21) rfl (fun _ => rfl) (zdg D_X3_valueOr 12 (21, .iaload, 1) rfl) hn hf (fun hf => ?_)
          refine z_aload_n (pc := 22) 0 (zdg D_X3_valueOr 13 (22, .aload_n 0, 1) rfl) rfl rfl ?_
          refine z_getR (pc := 23) (g := 26) (j := i) lf_X3_21 rfl rfl rfl (zdg D_X3_valueOr 14 (23, .getfield 21, 3) rfl) ?_
          refine z_iload_n (pc := 26) 2 (zdg D_X3_valueOr 15 (26, .iload_n 2, 1) rfl) rfl rfl ?_
          refine z_iald (pc := 27) rfl (fun _ => rfl) (zdg D_X3_valueOr 16 (27, .iaload, 1) rfl) hn hf (fun hf => ?_)
          refine z_icmp_eq (pc := 28) 50 (zdg D_X3_valueOr 17 (28, .if_icmp .eq 22, 3) rfl) rfl hf (fun hf => ?_) (fun hf => ?_)
          · refine z_sub (al' := [(0, zR 10 i), (2, zI v2_1)]) [0, 2] rfl ?_
            exact hx (Sum.inl (v2_1, s2)) hf
          · refine z_aload_n (pc := 31) 0 (zdg D_X3_valueOr 18 (31, .aload_n 0, 1) rfl) rfl rfl ?_
            refine z_aload_n (pc := 32) 0 (zdg D_X3_valueOr 19 (32, .aload_n 0, 1) rfl) rfl rfl ?_
            refine z_getR (pc := 33) (g := 25) (j := i) lf_X3_18 rfl rfl rfl (zdg D_X3_valueOr 20 (33, .getfield 18, 3) rfl) ?_
            refine z_iload_n (pc := 36) 2 (zdg D_X3_valueOr 21 (36, .iload_n 2, 1) rfl) rfl rfl ?_
            refine z_iald (pc := 37) rfl (fun _ => rfl) (zdg D_X3_valueOr 22 (37, .iaload, 1) rfl) hn hf (fun hf => ?_)
            refine z_aload_n (pc := 38) 0 (zdg D_X3_valueOr 23 (38, .aload_n 0, 1) rfl) rfl rfl ?_
            refine z_getR (pc := 39) (g := 26) (j := i) lf_X3_21 rfl rfl rfl (zdg D_X3_valueOr 24 (39, .getfield 21, 3) rfl) ?_
            refine z_iload_n (pc := 42) 2 (zdg D_X3_valueOr 25 (42, .iload_n 2, 1) rfl) rfl rfl ?_
            refine z_iald (pc := 43) rfl (fun _ => rfl) (zdg D_X3_valueOr 26 (43, .iaload, 1) rfl) hn hf (fun hf => ?_)
            refine z_bind hn hf (fun q3 hq hf => ?_)
            refine z_callV (pc := 44) (rest := []) (st2 := [zI q3.1]) (fun l => c_X3_run l i (s2.1 25 i v2_1.toNatClampNeg) (s2.1 26 i v2_1.toNatClampNeg) s2 q3 hq) zv_X3_run lm_X3_44 rfl rfl rfl rfl rfl rfl (Nat.le_of_ble_eq_true rfl) ⟨Nat.le_of_ble_eq_true rfl, Nat.le_of_ble_eq_true rfl⟩ (zdg D_X3_valueOr 27 (44, .invokevirtual 44, 3) rfl) ?_
            refine z_if_eq (pc := 47) 67 (zdg D_X3_valueOr 28 (47, .ifCond .eq 20, 3) rfl) rfl hf (fun hf => ?_) (fun hf => ?_)
            · refine z_iinc (pc := 67) (v0 := (v2_1 + 1)) (al' := [(2, zI (v2_1 + 1)), (0, zR 10 i), (1, zI p1)]) 2 (zdg D_X3_valueOr 40 (67, .iinc 2 1, 3) rfl) rfl rfl (by decide) rfl ?_
              refine z_goto (pc := 70) 2 (zdg D_X3_valueOr 41 (70, .goto (-68), 3) rfl) rfl ?_
              refine z_sub (al' := [(0, zR 10 i), (1, zI p1), (2, zI (v2_1 + 1))]) [1, 2, 0] rfl ?_
              exact hi ((v2_1 + 1), q3.2) hf
            · refine z_sub (al' := [(0, zR 10 i), (2, zI v2_1)]) [0, 2] rfl ?_
              exact hx (Sum.inl (v2_1, q3.2)) hf

def L_X11_held : List (Nat × Instr × Nat) := [(0, .iload_n 1, 1), (1, .iload_n 2, 1), (2, .iload_n 0, 1), (3, .invokestatic 380, 3), (6, .invokestatic 385, 3), (9, .ireturn, 1)]
set_option maxRecDepth 100000 in
theorem D_X11_held : zdecs cX11_held L_X11_held = true := by decide +kernel
noncomputable def f_X11_held (p1 : Int32) (p2 : Int32) (p3 : Int32) : Int32 :=
  (zmax p2 (zmin p3 p1))
set_option maxRecDepth 100000 in
set_option maxHeartbeats 4000000 in
theorem c_X11_held (l : Launch) (p1 : Int32) (p2 : Int32) (p3 : Int32) (σ : zG) : zMet l zsyC m_X11_held yX11_held [zI p1, zI p2, zI p3] σ (some (zI (f_X11_held p1 p2 p3))) σ := by
  refine zEnter [(0, zI p1), (1, zI p2), (2, zI p3)] (by decide) rfl (fun _ => Nat.le_of_ble_eq_true rfl) (fun _ => rfl) (fun w h => ?_) (fun K hv hs => ?_)
  · exact zokm rfl h
  · have hP : ∀ x, f_X11_held p1 p2 p3 = x → zKv K = some (zI x) ∧ zKs K = σ := fun x h => by rw [h] at hv; exact ⟨hv, hs⟩
    have hf := f_X11_held.eq_1 p1 p2 p3
    refine z_iload_n (pc := 0) 1 (zdg D_X11_held 0 (0, .iload_n 1, 1) rfl) rfl rfl ?_
    refine z_iload_n (pc := 1) 2 (zdg D_X11_held 1 (1, .iload_n 2, 1) rfl) rfl rfl ?_
    refine z_iload_n (pc := 2) 0 (zdg D_X11_held 2 (2, .iload_n 0, 1) rfl) rfl rfl ?_
    refine z_mmin (pc := 3) lm_X11_380 (Nat.le_of_ble_eq_true rfl) (Nat.le_of_ble_eq_true rfl) (zdg D_X11_held 3 (3, .invokestatic 380, 3) rfl) ?_
    refine z_mmax (pc := 6) lm_X11_385 (Nat.le_of_ble_eq_true rfl) (Nat.le_of_ble_eq_true rfl) (zdg D_X11_held 4 (6, .invokestatic 385, 3) rfl) ?_
    exact z_iret (pc := 9) rfl rfl (zdg D_X11_held 5 (9, .ireturn, 1) rfl) (hP _ hf)

def L_X1_shadeOf : List (Nat × Instr × Nat) := [(0, .iload_n 1, 1), (1, .bipush 8, 2), (3, .irem, 1), (4, .istore_n 3, 1), (5, .iload_n 1, 1), (6, .bipush 8, 2), (8, .idiv, 1), (9, .istore 4, 2), (11, .aload_n 0, 1), (12, .getfield 35, 3), (15, .getfield 203, 3), (18, .iconst 0, 1), (19, .iload_n 3, 1), (20, .iastore, 1), (21, .aload_n 0, 1), (22, .getfield 35, 3), (25, .getfield 203, 3), (28, .iconst 1, 1), (29, .iload 4, 2), (31, .iastore, 1), (32, .aload_n 0, 1), (33, .getfield 35, 3), (36, .getfield 203, 3), (39, .iconst 3, 1), (40, .iload_n 2, 1), (41, .iastore, 1), (42, .aload_n 0, 1), (43, .getfield 35, 3), (46, .getfield 203, 3), (49, .iconst 2, 1), (50, .iload_n 3, 1), (51, .ifCond .eq 29, 3), (54, .iload_n 3, 1), (55, .aload_n 0, 1), (56, .getfield 57, 3), (59, .iconst 1, 1), (60, .isub, 1), (61, .if_icmp .eq 19, 3), (64, .iload 4, 2), (66, .ifCond .eq 14, 3), (69, .iload 4, 2), (71, .aload_n 0, 1), (72, .getfield 61, 3), (75, .iconst 1, 1), (76, .isub, 1), (77, .if_icmp .ne 7, 3), (80, .iconst 1, 1), (81, .goto 4, 3), (84, .iconst 0, 1), (85, .iastore, 1), (86, .aload_n 0, 1), (87, .getfield 35, 3), (90, .bipush 50, 2), (92, .invokevirtual 206, 3), (95, .iconst 0, 1), (96, .bipush 99, 2), (98, .invokestatic 209, 3), (101, .ireturn, 1)]
set_option maxRecDepth 100000 in
theorem D_X1_shadeOf : zdecs cX1_shadeOf L_X1_shadeOf = true := by decide +kernel
noncomputable def j_X1_shadeOf_85 (i : Nat) (t7 : Int32) (t8 : Int32) (t9 : Nat) (s10 : zG) : Option (Int32 × zG) :=
  zg (zin t8 8) (zb (zwI s10 27 t9 t8.toNatClampNeg t7) (fun s11 => (f_X3_valueOr (3 * i) (50 : Int32) s11).bind (fun q12 => some ((f_X11_held q12.1 (0 : Int32) (99 : Int32)), q12.2))))
noncomputable def j_X1_shadeOf_80 (i : Nat) (t4 : Int32) (t5 : Nat) (s6 : zG) : Option (Int32 × zG) :=
  j_X1_shadeOf_85 i (1 : Int32) t4 t5 s6
noncomputable def f_X1_shadeOf (i : Nat) (p1 : Int32) (p2 : Int32) (σ : zG) : Option (Int32 × zG) :=
  zb (zwI σ 27 (3 * i) 0 (zrem p1 (8 : Int32))) (fun s1 => zb (zwI s1 27 (3 * i) 1 (p1 / (8 : Int32))) (fun s2 => zb (zwI s2 27 (3 * i) 3 p2) (fun s3 => if (zrem p1 (8 : Int32)) = 0 then j_X1_shadeOf_80 i (2 : Int32) (3 * i) s3 else if (zrem p1 (8 : Int32)) = ((s3.1 1 i 0) - (1 : Int32)) then j_X1_shadeOf_80 i (2 : Int32) (3 * i) s3 else if (p1 / (8 : Int32)) = 0 then j_X1_shadeOf_80 i (2 : Int32) (3 * i) s3 else if (p1 / (8 : Int32)) = ((s3.1 1 i 1) - (1 : Int32)) then j_X1_shadeOf_80 i (2 : Int32) (3 * i) s3 else j_X1_shadeOf_85 i (0 : Int32) (2 : Int32) (3 * i) s3)))
set_option maxRecDepth 100000 in
set_option maxHeartbeats 4000000 in
theorem c_X1_shadeOf (l : Launch) (i : Nat) (p1 : Int32) (p2 : Int32) (σ : zG) (q : Int32 × zG) (hq : f_X1_shadeOf i p1 p2 σ = some q) : zMet l zsyC m_X1_shadeOf yX1_shadeOf [zR 1 i, zI p1, zI p2] σ (some (zI q.1)) q.2 := by
  refine zEnter [(0, zR 1 i), (1, zI p1), (2, zI p2)] (by decide) rfl (fun _ => Nat.le_of_ble_eq_true rfl) (fun _ => rfl) (fun w h => ?_) (fun K hv hs => ?_)
  · exact zokm rfl h
  · have hP : ∀ x s, f_X1_shadeOf i p1 p2 σ = some (x, s) → zKv K = some (zI x) ∧ zKs K = s := fun x s h => by rw [hq] at h; cases h; exact ⟨hv, hs⟩
    have hn : f_X1_shadeOf i p1 p2 σ ≠ none := fun z => by rw [hq] at z; cases z
    have hf := f_X1_shadeOf.eq_1 i p1 p2 σ
    have t_85 : ∀ (t7 : Int32) (t8 : Int32) (t9 : Nat) (s10 : zG), f_X1_shadeOf i p1 p2 σ = j_X1_shadeOf_85 i t7 t8 t9 s10 → zX zsyC m_X1_shadeOf K 85 [(0, zR 1 i)] [zI t7, zI t8, zR 27 t9] s10 := by
      intro t7 t8 t9 s10 hf
      replace hf := hf.trans (j_X1_shadeOf_85.eq_1 i t7 t8 t9 s10)
      refine z_iast (pc := 85) rfl (fun _ => rfl) (zdg D_X1_shadeOf 49 (85, .iastore, 1) rfl) hn hf (fun hf => ?_)
      refine z_nmS hf (fun s11 hf => ?_)
      refine z_aload_n (pc := 86) 0 (zdg D_X1_shadeOf 50 (86, .aload_n 0, 1) rfl) rfl rfl ?_
      refine z_getR (pc := 87) (g := 10) (j := 3 * i) lf_X1_35 rfl rfl rfl (zdg D_X1_shadeOf 51 (87, .getfield 35, 3) rfl) ?_
      refine z_bipush (pc := 90) (v := 50) (zdg D_X1_shadeOf 52 (90, .bipush 50, 2) rfl) rfl ?_
      refine z_bind hn hf (fun q12 hq hf => ?_)
      refine z_callV (pc := 92) (rest := []) (st2 := [zI q12.1]) (fun l => c_X3_valueOr l (3 * i) (50 : Int32) s11 q12 hq) zv_X3_valueOr lm_X1_206 rfl rfl rfl rfl rfl rfl (Nat.le_of_ble_eq_true rfl) ⟨Nat.le_of_ble_eq_true rfl, Nat.le_of_ble_eq_true rfl⟩ (zdg D_X1_shadeOf 53 (92, .invokevirtual 206, 3) rfl) ?_
      refine z_iconst (pc := 95) (v := 0) (zdg D_X1_shadeOf 54 (95, .iconst 0, 1) rfl) rfl ?_
      refine z_bipush (pc := 96) (v := 99) (zdg D_X1_shadeOf 55 (96, .bipush 99, 2) rfl) rfl ?_
      refine z_callSN (pc := 98) (rest := []) (st2 := [zI (f_X11_held q12.1 (0 : Int32) (99 : Int32))]) (host := "NobodyThere") (fun l => c_X11_held l q12.1 (0 : Int32) (99 : Int32) q12.2) zs_X11_held (by decide +kernel) rfl rfl rfl (Nat.le_of_ble_eq_true rfl) ⟨Nat.le_of_ble_eq_true rfl, Nat.le_of_ble_eq_true rfl⟩ (zdg D_X1_shadeOf 56 (98, .invokestatic 209, 3) rfl) ?_
      exact z_iret (pc := 101) rfl rfl (zdg D_X1_shadeOf 57 (101, .ireturn, 1) rfl) (hP _ _ hf)
    have t_80 : ∀ (t4 : Int32) (t5 : Nat) (s6 : zG), f_X1_shadeOf i p1 p2 σ = j_X1_shadeOf_80 i t4 t5 s6 → zX zsyC m_X1_shadeOf K 80 [(0, zR 1 i)] [zI t4, zR 27 t5] s6 := by
      intro t4 t5 s6 hf
      replace hf := hf.trans (j_X1_shadeOf_80.eq_1 i t4 t5 s6)
      refine z_iconst (pc := 80) (v := 1) (zdg D_X1_shadeOf 46 (80, .iconst 1, 1) rfl) rfl ?_
      refine z_goto (pc := 81) 85 (zdg D_X1_shadeOf 47 (81, .goto 4, 3) rfl) rfl ?_
      exact t_85 (1 : Int32) t4 t5 s6 hf
    refine z_iload_n (pc := 0) 1 (zdg D_X1_shadeOf 0 (0, .iload_n 1, 1) rfl) rfl rfl ?_
    refine z_bipush (pc := 1) (v := 8) (zdg D_X1_shadeOf 1 (1, .bipush 8, 2) rfl) rfl ?_
    refine z_iremK (pc := 3) (zdg D_X1_shadeOf 2 (3, .irem, 1) rfl) rfl ?_
    refine z_istore_n (pc := 4) (al' := [(3, zI (zrem p1 (8 : Int32))), (0, zR 1 i), (1, zI p1), (2, zI p2)]) (zdg D_X1_shadeOf 3 (4, .istore_n 3, 1) rfl) rfl (by decide) rfl ?_
    refine z_iload_n (pc := 5) 2 (zdg D_X1_shadeOf 4 (5, .iload_n 1, 1) rfl) rfl rfl ?_
    refine z_bipush (pc := 6) (v := 8) (zdg D_X1_shadeOf 5 (6, .bipush 8, 2) rfl) rfl ?_
    refine z_idivK (pc := 8) (zdg D_X1_shadeOf 6 (8, .idiv, 1) rfl) rfl ?_
    refine z_istore (pc := 9) (al' := [(4, zI (p1 / (8 : Int32))), (3, zI (zrem p1 (8 : Int32))), (0, zR 1 i), (1, zI p1), (2, zI p2)]) (zdg D_X1_shadeOf 7 (9, .istore 4, 2) rfl) (by decide) rfl ?_
    refine z_aload_n (pc := 11) 2 (zdg D_X1_shadeOf 8 (11, .aload_n 0, 1) rfl) rfl rfl ?_
    refine z_getR (pc := 12) (g := 10) (j := 3 * i) lf_X1_35 rfl rfl rfl (zdg D_X1_shadeOf 9 (12, .getfield 35, 3) rfl) ?_
    refine z_getR (pc := 15) (g := 27) (j := (3 * i)) lf_X1_203 rfl rfl rfl (zdg D_X1_shadeOf 10 (15, .getfield 203, 3) rfl) ?_
    refine z_iconst (pc := 18) (v := 0) (zdg D_X1_shadeOf 11 (18, .iconst 0, 1) rfl) rfl ?_
    refine z_iload_n (pc := 19) 1 (zdg D_X1_shadeOf 12 (19, .iload_n 3, 1) rfl) rfl rfl ?_
    refine z_iastC (pc := 20) (j := 0) rfl (fun _ => rfl) (zdg D_X1_shadeOf 13 (20, .iastore, 1) rfl) rfl rfl ?_
    refine z_nmS hf (fun s1 hf => ?_)
    refine z_aload_n (pc := 21) 2 (zdg D_X1_shadeOf 14 (21, .aload_n 0, 1) rfl) rfl rfl ?_
    refine z_getR (pc := 22) (g := 10) (j := 3 * i) lf_X1_35 rfl rfl rfl (zdg D_X1_shadeOf 15 (22, .getfield 35, 3) rfl) ?_
    refine z_getR (pc := 25) (g := 27) (j := (3 * i)) lf_X1_203 rfl rfl rfl (zdg D_X1_shadeOf 16 (25, .getfield 203, 3) rfl) ?_
    refine z_iconst (pc := 28) (v := 1) (zdg D_X1_shadeOf 17 (28, .iconst 1, 1) rfl) rfl ?_
    refine z_iload (pc := 29) 0 (zdg D_X1_shadeOf 18 (29, .iload 4, 2) rfl) rfl ?_
    refine z_iastC (pc := 31) (j := 1) rfl (fun _ => rfl) (zdg D_X1_shadeOf 19 (31, .iastore, 1) rfl) rfl rfl ?_
    refine z_nmS hf (fun s2 hf => ?_)
    refine z_aload_n (pc := 32) 2 (zdg D_X1_shadeOf 20 (32, .aload_n 0, 1) rfl) rfl rfl ?_
    refine z_getR (pc := 33) (g := 10) (j := 3 * i) lf_X1_35 rfl rfl rfl (zdg D_X1_shadeOf 21 (33, .getfield 35, 3) rfl) ?_
    refine z_getR (pc := 36) (g := 27) (j := (3 * i)) lf_X1_203 rfl rfl rfl (zdg D_X1_shadeOf 22 (36, .getfield 203, 3) rfl) ?_
    refine z_iconst (pc := 39) (v := 3) (zdg D_X1_shadeOf 23 (39, .iconst 3, 1) rfl) rfl ?_
    refine z_iload_n (pc := 40) 4 (zdg D_X1_shadeOf 24 (40, .iload_n 2, 1) rfl) rfl rfl ?_
    refine z_iastC (pc := 41) (j := 3) rfl (fun _ => rfl) (zdg D_X1_shadeOf 25 (41, .iastore, 1) rfl) rfl rfl ?_
    refine z_nmS hf (fun s3 hf => ?_)
    refine z_aload_n (pc := 42) 2 (zdg D_X1_shadeOf 26 (42, .aload_n 0, 1) rfl) rfl rfl ?_
    refine z_getR (pc := 43) (g := 10) (j := 3 * i) lf_X1_35 rfl rfl rfl (zdg D_X1_shadeOf 27 (43, .getfield 35, 3) rfl) ?_
    refine z_getR (pc := 46) (g := 27) (j := (3 * i)) lf_X1_203 rfl rfl rfl (zdg D_X1_shadeOf 28 (46, .getfield 203, 3) rfl) ?_
    refine z_iconst (pc := 49) (v := 2) (zdg D_X1_shadeOf 29 (49, .iconst 2, 1) rfl) rfl ?_
    refine z_iload_n (pc := 50) 1 (zdg D_X1_shadeOf 30 (50, .iload_n 3, 1) rfl) rfl rfl ?_
    refine z_if_eq (pc := 51) 80 (zdg D_X1_shadeOf 31 (51, .ifCond .eq 29, 3) rfl) rfl hf (fun hf => ?_) (fun hf => ?_)
    · refine z_sub (al' := [(0, zR 1 i)]) [2] rfl ?_
      exact t_80 (2 : Int32) (3 * i) s3 hf
    · refine z_iload_n (pc := 54) 1 (zdg D_X1_shadeOf 32 (54, .iload_n 3, 1) rfl) rfl rfl ?_
      refine z_aload_n (pc := 55) 2 (zdg D_X1_shadeOf 33 (55, .aload_n 0, 1) rfl) rfl rfl ?_
      refine z_getI (pc := 56) lf_X1_57 rfl rfl (zdg D_X1_shadeOf 34 (56, .getfield 57, 3) rfl) ?_
      refine z_iconst (pc := 59) (v := 1) (zdg D_X1_shadeOf 35 (59, .iconst 1, 1) rfl) rfl ?_
      refine z_isub (pc := 60) (zdg D_X1_shadeOf 36 (60, .isub, 1) rfl) ?_
      refine z_icmp_eq (pc := 61) 80 (zdg D_X1_shadeOf 37 (61, .if_icmp .eq 19, 3) rfl) rfl hf (fun hf => ?_) (fun hf => ?_)
      · refine z_sub (al' := [(0, zR 1 i)]) [2] rfl ?_
        exact t_80 (2 : Int32) (3 * i) s3 hf
      · refine z_iload (pc := 64) 0 (zdg D_X1_shadeOf 38 (64, .iload 4, 2) rfl) rfl ?_
        refine z_if_eq (pc := 66) 80 (zdg D_X1_shadeOf 39 (66, .ifCond .eq 14, 3) rfl) rfl hf (fun hf => ?_) (fun hf => ?_)
        · refine z_sub (al' := [(0, zR 1 i)]) [2] rfl ?_
          exact t_80 (2 : Int32) (3 * i) s3 hf
        · refine z_iload (pc := 69) 0 (zdg D_X1_shadeOf 40 (69, .iload 4, 2) rfl) rfl ?_
          refine z_aload_n (pc := 71) 2 (zdg D_X1_shadeOf 41 (71, .aload_n 0, 1) rfl) rfl rfl ?_
          refine z_getI (pc := 72) lf_X1_61 rfl rfl (zdg D_X1_shadeOf 42 (72, .getfield 61, 3) rfl) ?_
          refine z_iconst (pc := 75) (v := 1) (zdg D_X1_shadeOf 43 (75, .iconst 1, 1) rfl) rfl ?_
          refine z_isub (pc := 76) (zdg D_X1_shadeOf 44 (76, .isub, 1) rfl) ?_
          refine z_icmp_ne (pc := 77) 84 (zdg D_X1_shadeOf 45 (77, .if_icmp .ne 7, 3) rfl) rfl hf (fun hf => ?_) (fun hf => ?_)
          · refine z_iconst (pc := 84) (v := 0) (zdg D_X1_shadeOf 48 (84, .iconst 0, 1) rfl) rfl ?_
            refine z_sub (al' := [(0, zR 1 i)]) [2] rfl ?_
            exact t_85 (0 : Int32) (2 : Int32) (3 * i) s3 hf
          · refine z_sub (al' := [(0, zR 1 i)]) [2] rfl ?_
            exact t_80 (2 : Int32) (3 * i) s3 hf

def L_X1_toneOf : List (Nat × Instr × Nat) := [(0, .aload_n 0, 1), (1, .iload_n 1, 1), (2, .iload_n 2, 1), (3, .invokevirtual 175, 3), (6, .istore_n 3, 1), (7, .iload_n 3, 1), (8, .iconst (-1), 1), (9, .if_icmp .ne 10, 3), (12, .aload_n 0, 1), (13, .iload_n 1, 1), (14, .iload_n 2, 1), (15, .invokevirtual 195, 3), (18, .ireturn, 1), (19, .aload_n 0, 1), (20, .iload_n 3, 1), (21, .invokevirtual 198, 3), (24, .ifCond .eq 15, 3), (27, .aload_n 0, 1), (28, .getfield 21, 3), (31, .getfield 201, 3), (34, .iload_n 3, 1), (35, .iaload, 1), (36, .goto 7, 3), (39, .aload_n 0, 1), (40, .getfield 79, 3), (43, .ireturn, 1)]
set_option maxRecDepth 100000 in
theorem D_X1_toneOf : zdecs cX1_toneOf L_X1_toneOf = true := by decide +kernel
noncomputable def f_X1_toneOf (i : Nat) (p1 : Int32) (p2 : Int32) (σ : zG) : Option (Int32 × zG) :=
  (f_X1_whoCovers i p1 p2 σ).bind (fun q1 => if q1 = (-1 : Int32) then (f_X1_shadeOf i p1 p2 σ).bind (fun q2 => some (q2.1, q2.2)) else if (f_X1_isWalker i q1 σ) = 0 then some ((σ.1 1 i 8), σ) else zg (zin q1 12) (some ((σ.1 15 (2 * i) q1.toNatClampNeg), σ)))
set_option maxRecDepth 100000 in
set_option maxHeartbeats 4000000 in
theorem c_X1_toneOf (l : Launch) (i : Nat) (p1 : Int32) (p2 : Int32) (σ : zG) (q : Int32 × zG) (hq : f_X1_toneOf i p1 p2 σ = some q) : zMet l zsyC m_X1_toneOf yX1_toneOf [zR 1 i, zI p1, zI p2] σ (some (zI q.1)) q.2 := by
  refine zEnter [(0, zR 1 i), (1, zI p1), (2, zI p2)] (by decide) rfl (fun _ => Nat.le_of_ble_eq_true rfl) (fun _ => rfl) (fun w h => ?_) (fun K hv hs => ?_)
  · exact zokm rfl h
  · have hP : ∀ x s, f_X1_toneOf i p1 p2 σ = some (x, s) → zKv K = some (zI x) ∧ zKs K = s := fun x s h => by rw [hq] at h; cases h; exact ⟨hv, hs⟩
    have hn : f_X1_toneOf i p1 p2 σ ≠ none := fun z => by rw [hq] at z; cases z
    have hf := f_X1_toneOf.eq_1 i p1 p2 σ
    refine z_aload_n (pc := 0) 0 (zdg D_X1_toneOf 0 (0, .aload_n 0, 1) rfl) rfl rfl ?_
    refine z_iload_n (pc := 1) 1 (zdg D_X1_toneOf 1 (1, .iload_n 1, 1) rfl) rfl rfl ?_
    refine z_iload_n (pc := 2) 2 (zdg D_X1_toneOf 2 (2, .iload_n 2, 1) rfl) rfl rfl ?_
    refine z_bind hn hf (fun q1 hq hf => ?_)
    refine z_callV (pc := 3) (rest := []) (st2 := [zI q1]) (fun l => c_X1_whoCovers l i p1 p2 σ q1 hq) zv_X1_whoCovers lm_X1_175 rfl rfl rfl rfl rfl rfl (Nat.le_of_ble_eq_true rfl) ⟨Nat.le_of_ble_eq_true rfl, Nat.le_of_ble_eq_true rfl⟩ (zdg D_X1_toneOf 3 (3, .invokevirtual 175, 3) rfl) ?_
    refine z_istore_n (pc := 6) (al' := [(3, zI q1), (0, zR 1 i), (1, zI p1), (2, zI p2)]) (zdg D_X1_toneOf 4 (6, .istore_n 3, 1) rfl) rfl (by decide) rfl ?_
    refine z_iload_n (pc := 7) 0 (zdg D_X1_toneOf 5 (7, .iload_n 3, 1) rfl) rfl rfl ?_
    refine z_iconst (pc := 8) (v := -1) (zdg D_X1_toneOf 6 (8, .iconst (-1), 1) rfl) rfl ?_
    refine z_icmp_ne (pc := 9) 19 (zdg D_X1_toneOf 7 (9, .if_icmp .ne 10, 3) rfl) rfl hf (fun hf => ?_) (fun hf => ?_)
    · refine z_aload_n (pc := 19) 1 (zdg D_X1_toneOf 13 (19, .aload_n 0, 1) rfl) rfl rfl ?_
      refine z_iload_n (pc := 20) 0 (zdg D_X1_toneOf 14 (20, .iload_n 3, 1) rfl) rfl rfl ?_
      refine z_callV (pc := 21) (rest := []) (st2 := [zI (f_X1_isWalker i q1 σ)]) (fun l => c_X1_isWalker l i q1 σ) zv_X1_isWalker lm_X1_198 rfl rfl rfl rfl rfl rfl (Nat.le_of_ble_eq_true rfl) ⟨Nat.le_of_ble_eq_true rfl, Nat.le_of_ble_eq_true rfl⟩ (zdg D_X1_toneOf 15 (21, .invokevirtual 198, 3) rfl) ?_
      refine z_if_eq (pc := 24) 39 (zdg D_X1_toneOf 16 (24, .ifCond .eq 15, 3) rfl) rfl hf (fun hf => ?_) (fun hf => ?_)
      · refine z_aload_n (pc := 39) 1 (zdg D_X1_toneOf 23 (39, .aload_n 0, 1) rfl) rfl rfl ?_
        refine z_getI (pc := 40) lf_X1_79 rfl rfl (zdg D_X1_toneOf 24 (40, .getfield 79, 3) rfl) ?_
        exact z_iret (pc := 43) rfl rfl (zdg D_X1_toneOf 25 (43, .ireturn, 1) rfl) (hP _ _ hf)
      · refine z_aload_n (pc := 27) 1 (zdg D_X1_toneOf 17 (27, .aload_n 0, 1) rfl) rfl rfl ?_
        refine z_getR (pc := 28) (g := 8) (j := 2 * i) lf_X1_21 rfl rfl rfl (zdg D_X1_toneOf 18 (28, .getfield 21, 3) rfl) ?_
        refine z_getR (pc := 31) (g := 15) (j := (2 * i)) lf_X1_201 rfl rfl rfl (zdg D_X1_toneOf 19 (31, .getfield 201, 3) rfl) ?_
        refine z_iload_n (pc := 34) 0 (zdg D_X1_toneOf 20 (34, .iload_n 3, 1) rfl) rfl rfl ?_
        refine z_iald (pc := 35) rfl (fun _ => rfl) (zdg D_X1_toneOf 21 (35, .iaload, 1) rfl) hn hf (fun hf => ?_)
        refine z_goto (pc := 36) 43 (zdg D_X1_toneOf 22 (36, .goto 7, 3) rfl) rfl ?_
        exact z_iret (pc := 43) rfl rfl (zdg D_X1_toneOf 25 (43, .ireturn, 1) rfl) (hP _ _ hf)
    · refine z_aload_n (pc := 12) 1 (zdg D_X1_toneOf 8 (12, .aload_n 0, 1) rfl) rfl rfl ?_
      refine z_iload_n (pc := 13) 2 (zdg D_X1_toneOf 9 (13, .iload_n 1, 1) rfl) rfl rfl ?_
      refine z_iload_n (pc := 14) 3 (zdg D_X1_toneOf 10 (14, .iload_n 2, 1) rfl) rfl rfl ?_
      refine z_bind hn hf (fun q2 hq hf => ?_)
      refine z_callV (pc := 15) (rest := []) (st2 := [zI q2.1]) (fun l => c_X1_shadeOf l i p1 p2 σ q2 hq) zv_X1_shadeOf lm_X1_195 rfl rfl rfl rfl rfl rfl (Nat.le_of_ble_eq_true rfl) ⟨Nat.le_of_ble_eq_true rfl, Nat.le_of_ble_eq_true rfl⟩ (zdg D_X1_toneOf 11 (15, .invokevirtual 195, 3) rfl) ?_
      exact z_iret (pc := 18) rfl rfl (zdg D_X1_toneOf 12 (18, .ireturn, 1) rfl) (hP _ _ hf)

def L_X1_take : List (Nat × Instr × Nat) := [(0, .aload_n 1, 1), (1, .aload_n 0, 1), (2, .getfield 64, 3), (5, .putfield 142, 3), (8, .aload_n 1, 1), (9, .aload_n 0, 1), (10, .getfield 70, 3), (13, .putfield 143, 3), (16, .aload_n 1, 1), (17, .aload_n 0, 1), (18, .getfield 67, 3), (21, .putfield 144, 3), (24, .aload_n 1, 1), (25, .aload_n 0, 1), (26, .invokevirtual 145, 3), (29, .putfield 149, 3), (32, .aload_n 1, 1), (33, .aload_n 0, 1), (34, .aload_n 0, 1), (35, .getfield 64, 3), (38, .invokevirtual 153, 3), (41, .aload_n 1, 1), (42, .getfield 149, 3), (45, .land, 1), (46, .putfield 157, 3), (49, .iconst 0, 1), (50, .istore_n 2, 1), (51, .iload_n 2, 1), (52, .bipush 56, 2), (54, .if_icmp .ge 52, 3), (57, .aload_n 1, 1), (58, .getfield 149, 3), (61, .iload_n 2, 1), (62, .invokestatic 160, 3), (65, .ifCond .eq 35, 3), (68, .aload_n 1, 1), (69, .getfield 164, 3), (72, .iload_n 2, 1), (73, .aload_n 0, 1), (74, .iload_n 2, 1), (75, .aload_n 0, 1), (76, .getfield 64, 3), (79, .invokevirtual 168, 3), (82, .i2b, 1), (83, .bastore, 1), (84, .aload_n 1, 1), (85, .getfield 172, 3), (88, .iload_n 2, 1), (89, .aload_n 0, 1), (90, .iload_n 2, 1), (91, .aload_n 0, 1), (92, .getfield 64, 3), (95, .invokevirtual 175, 3), (98, .i2b, 1), (99, .bastore, 1), (100, .iinc 2 1, 3), (103, .goto (-52), 3), (106, .aload_n 0, 1), (107, .dup, 1), (108, .getfield 82, 3), (111, .iconst 1, 1), (112, .iadd, 1), (113, .putfield 82, 3), (116, .aload_n 0, 1), (117, .getfield 82, 3), (120, .iconst 1, 1), (121, .isub, 1), (122, .ireturn, 1)]
set_option maxRecDepth 100000 in
theorem D_X1_take : zdecs cX1_take L_X1_take = true := by decide +kernel
noncomputable def b_X1_take_51 (p1 : Nat) (i : Nat) (v2_8 : Int32) (s9 : zG) : Option ((Int32 × zG) ⊕ (zG)) :=
  if v2_8 < (56 : Int32) then if (f_X11_holds (s9.2 11 p1 3) v2_8) = 0 then some (Sum.inl ((v2_8 + 1), s9)) else (f_X1_toneOf i v2_8 (s9.1 1 i 3) s9).bind (fun q10 => zg (zin v2_8 56) (zb (zwI q10.2 29 p1 v2_8.toNatClampNeg (zi2b (zi2b q10.1))) (fun s11 => (f_X1_whoCovers i v2_8 (s11.1 1 i 3) s11).bind (fun q12 => zg (zin v2_8 56) (zb (zwI s11 30 p1 v2_8.toNatClampNeg (zi2b (zi2b q12))) (fun s13 => some (Sum.inl ((v2_8 + 1), s13)))))))) else some (Sum.inr s9)
noncomputable def f_X1_take (i : Nat) (p1 : Nat) (σ : zG) : Option (Int32 × zG) :=
  zb (zwI σ 11 p1 0 (σ.1 1 i 3)) (fun s1 => zb (zwI s1 11 p1 1 (s1.1 1 i 5)) (fun s2 => zb (zwI s2 11 p1 2 (s2.1 1 i 4)) (fun s3 => (f_X1_viewNow i s3).bind (fun q4 => zb (zwL s3 11 p1 3 q4) (fun s5 => (f_X1_coverIn i (s5.1 1 i 3) s5).bind (fun q6 => zb (zwL s5 11 p1 4 (q6 &&& (s5.2 11 p1 3))) (fun s7 => (zlp (fun q : Int32 × zG => b_X1_take_51 p1 i q.1 q.2) ((0 : Int32), s7)).bind (fun e14 : zG => zb (zwI e14 1 i 9 ((e14.1 1 i 9) + (1 : Int32))) (fun s15 => some (((s15.1 1 i 9) - (1 : Int32)), s15))))))))))
set_option maxRecDepth 100000 in
set_option maxHeartbeats 4000000 in
theorem c_X1_take (l : Launch) (i : Nat) (p1 : Nat) (σ : zG) (q : Int32 × zG) (hq : f_X1_take i p1 σ = some q) : zMet l zsyC m_X1_take yX1_take [zR 1 i, zR 11 p1] σ (some (zI q.1)) q.2 := by
  refine zEnter [(0, zR 1 i), (1, zR 11 p1)] (by decide) rfl (fun _ => Nat.le_of_ble_eq_true rfl) (fun _ => rfl) (fun w h => ?_) (fun K hv hs => ?_)
  · exact zokm rfl h
  · have hP : ∀ x s, f_X1_take i p1 σ = some (x, s) → zKv K = some (zI x) ∧ zKs K = s := fun x s h => by rw [hq] at h; cases h; exact ⟨hv, hs⟩
    have hn : f_X1_take i p1 σ ≠ none := fun z => by rw [hq] at z; cases z
    have hf := f_X1_take.eq_1 i p1 σ
    refine z_aload_n (pc := 0) 1 (zdg D_X1_take 0 (0, .aload_n 1, 1) rfl) rfl rfl ?_
    refine z_aload_n (pc := 1) 0 (zdg D_X1_take 1 (1, .aload_n 0, 1) rfl) rfl rfl ?_
    refine z_getI (pc := 2) lf_X1_64 rfl rfl (zdg D_X1_take 2 (2, .getfield 64, 3) rfl) ?_
    refine z_putI (pc := 5) lw_X1_142 rfl rfl rfl rfl (zdg D_X1_take 3 (5, .putfield 142, 3) rfl) ?_
    refine z_nmS hf (fun s1 hf => ?_)
    refine z_aload_n (pc := 8) 1 (zdg D_X1_take 4 (8, .aload_n 1, 1) rfl) rfl rfl ?_
    refine z_aload_n (pc := 9) 0 (zdg D_X1_take 5 (9, .aload_n 0, 1) rfl) rfl rfl ?_
    refine z_getI (pc := 10) lf_X1_70 rfl rfl (zdg D_X1_take 6 (10, .getfield 70, 3) rfl) ?_
    refine z_putI (pc := 13) lw_X1_143 rfl rfl rfl rfl (zdg D_X1_take 7 (13, .putfield 143, 3) rfl) ?_
    refine z_nmS hf (fun s2 hf => ?_)
    refine z_aload_n (pc := 16) 1 (zdg D_X1_take 8 (16, .aload_n 1, 1) rfl) rfl rfl ?_
    refine z_aload_n (pc := 17) 0 (zdg D_X1_take 9 (17, .aload_n 0, 1) rfl) rfl rfl ?_
    refine z_getI (pc := 18) lf_X1_67 rfl rfl (zdg D_X1_take 10 (18, .getfield 67, 3) rfl) ?_
    refine z_putI (pc := 21) lw_X1_144 rfl rfl rfl rfl (zdg D_X1_take 11 (21, .putfield 144, 3) rfl) ?_
    refine z_nmS hf (fun s3 hf => ?_)
    refine z_aload_n (pc := 24) 1 (zdg D_X1_take 12 (24, .aload_n 1, 1) rfl) rfl rfl ?_
    refine z_aload_n (pc := 25) 0 (zdg D_X1_take 13 (25, .aload_n 0, 1) rfl) rfl rfl ?_
    refine z_bind hn hf (fun q4 hq hf => ?_)
    refine z_callV (pc := 26) (rest := [zR 11 p1]) (st2 := [zL q4, zR 11 p1]) (fun l => c_X1_viewNow l i s3 q4 hq) zv_X1_viewNow lm_X1_145 rfl rfl rfl rfl rfl rfl (Nat.le_of_ble_eq_true rfl) ⟨Nat.le_of_ble_eq_true rfl, Nat.le_of_ble_eq_true rfl⟩ (zdg D_X1_take 14 (26, .invokevirtual 145, 3) rfl) ?_
    refine z_putL (pc := 29) lw_X1_149 rfl rfl (zdg D_X1_take 15 (29, .putfield 149, 3) rfl) ?_
    refine z_nmS hf (fun s5 hf => ?_)
    refine z_aload_n (pc := 32) 1 (zdg D_X1_take 16 (32, .aload_n 1, 1) rfl) rfl rfl ?_
    refine z_aload_n (pc := 33) 0 (zdg D_X1_take 17 (33, .aload_n 0, 1) rfl) rfl rfl ?_
    refine z_aload_n (pc := 34) 0 (zdg D_X1_take 18 (34, .aload_n 0, 1) rfl) rfl rfl ?_
    refine z_getI (pc := 35) lf_X1_64 rfl rfl (zdg D_X1_take 19 (35, .getfield 64, 3) rfl) ?_
    refine z_bind hn hf (fun q6 hq hf => ?_)
    refine z_callV (pc := 38) (rest := [zR 11 p1]) (st2 := [zL q6, zR 11 p1]) (fun l => c_X1_coverIn l i (s5.1 1 i 3) s5 q6 hq) zv_X1_coverIn lm_X1_153 rfl rfl rfl rfl rfl rfl (Nat.le_of_ble_eq_true rfl) ⟨Nat.le_of_ble_eq_true rfl, Nat.le_of_ble_eq_true rfl⟩ (zdg D_X1_take 20 (38, .invokevirtual 153, 3) rfl) ?_
    refine z_aload_n (pc := 41) 1 (zdg D_X1_take 21 (41, .aload_n 1, 1) rfl) rfl rfl ?_
    refine z_getL (pc := 42) lf_X1_149 rfl rfl (zdg D_X1_take 22 (42, .getfield 149, 3) rfl) ?_
    refine z_land (pc := 45) (zdg D_X1_take 23 (45, .land, 1) rfl) ?_
    refine z_putL (pc := 46) lw_X1_157 rfl rfl (zdg D_X1_take 24 (46, .putfield 157, 3) rfl) ?_
    refine z_nmS hf (fun s7 hf => ?_)
    refine z_iconst (pc := 49) (v := 0) (zdg D_X1_take 25 (49, .iconst 0, 1) rfl) rfl ?_
    refine z_istore_n (pc := 50) (al' := [(2, zI (0 : Int32)), (0, zR 1 i), (1, zR 11 p1)]) (zdg D_X1_take 26 (50, .istore_n 2, 1) rfl) rfl (by decide) rfl ?_
    refine z_sub (al' := [(0, zR 1 i), (1, zR 11 p1), (2, zI (0 : Int32))]) [1, 2, 0] rfl ?_
    refine z_loop (f := (fun q : Int32 × zG => b_X1_take_51 p1 i q.1 q.2)) (a := ((0 : Int32), s7)) (fun q : Int32 × zG => zX zsyC m_X1_take K 51 [(0, zR 1 i), (1, zR 11 p1), (2, zI q.1)] [] q.2) (fun e14 : zG => zX zsyC m_X1_take K 106 [(0, zR 1 i)] [] e14) hn hf ?_ ?_
    · intro e14 hf
      refine z_aload_n (pc := 106) 0 (zdg D_X1_take 57 (106, .aload_n 0, 1) rfl) rfl rfl ?_
      refine z_dup (pc := 107) rfl (zdg D_X1_take 58 (107, .dup, 1) rfl) ?_
      refine z_getI (pc := 108) lf_X1_82 rfl rfl (zdg D_X1_take 59 (108, .getfield 82, 3) rfl) ?_
      refine z_iconst (pc := 111) (v := 1) (zdg D_X1_take 60 (111, .iconst 1, 1) rfl) rfl ?_
      refine z_iadd (pc := 112) (zdg D_X1_take 61 (112, .iadd, 1) rfl) ?_
      refine z_putI (pc := 113) lw_X1_82 rfl rfl rfl rfl (zdg D_X1_take 62 (113, .putfield 82, 3) rfl) ?_
      refine z_nmS hf (fun s15 hf => ?_)
      refine z_aload_n (pc := 116) 0 (zdg D_X1_take 63 (116, .aload_n 0, 1) rfl) rfl rfl ?_
      refine z_getI (pc := 117) lf_X1_82 rfl rfl (zdg D_X1_take 64 (117, .getfield 82, 3) rfl) ?_
      refine z_iconst (pc := 120) (v := 1) (zdg D_X1_take 65 (120, .iconst 1, 1) rfl) rfl ?_
      refine z_isub (pc := 121) (zdg D_X1_take 66 (121, .isub, 1) rfl) ?_
      exact z_iret (pc := 122) rfl rfl (zdg D_X1_take 67 (122, .ireturn, 1) rfl) (hP _ _ hf)
    · rintro ⟨v2_8, s9⟩ hn hi hx
      have hf := b_X1_take_51.eq_1 p1 i v2_8 s9
      refine z_iload_n (pc := 51) 2 (zdg D_X1_take 27 (51, .iload_n 2, 1) rfl) rfl rfl ?_
      refine z_bipush (pc := 52) (v := 56) (zdg D_X1_take 28 (52, .bipush 56, 2) rfl) rfl ?_
      refine z_icmp_ge (pc := 54) 106 (zdg D_X1_take 29 (54, .if_icmp .ge 52, 3) rfl) rfl hf (fun hf => ?_) (fun hf => ?_)
      · refine z_sub (al' := [(0, zR 1 i)]) [0] rfl ?_
        exact hx s9 hf
      · refine z_aload_n (pc := 57) 1 (zdg D_X1_take 30 (57, .aload_n 1, 1) rfl) rfl rfl ?_
        refine z_getL (pc := 58) lf_X1_149 rfl rfl (zdg D_X1_take 31 (58, .getfield 149, 3) rfl) ?_
        refine z_iload_n (pc := 61) 2 (zdg D_X1_take 32 (61, .iload_n 2, 1) rfl) rfl rfl ?_
        refine z_callSN (pc := 62) (rest := []) (st2 := [zI (f_X11_holds (s9.2 11 p1 3) v2_8)]) (host := "NobodyThere") (fun l => c_X11_holds l (s9.2 11 p1 3) v2_8 s9) zs_X11_holds (by decide +kernel) rfl rfl rfl (Nat.le_of_ble_eq_true rfl) ⟨Nat.le_of_ble_eq_true rfl, Nat.le_of_ble_eq_true rfl⟩ (zdg D_X1_take 33 (62, .invokestatic 160, 3) rfl) ?_
        refine z_if_eq (pc := 65) 100 (zdg D_X1_take 34 (65, .ifCond .eq 35, 3) rfl) rfl hf (fun hf => ?_) (fun hf => ?_)
        · refine z_iinc (pc := 100) (v0 := (v2_8 + 1)) (al' := [(2, zI (v2_8 + 1)), (0, zR 1 i), (1, zR 11 p1)]) 2 (zdg D_X1_take 55 (100, .iinc 2 1, 3) rfl) rfl rfl (by decide) rfl ?_
          refine z_goto (pc := 103) 51 (zdg D_X1_take 56 (103, .goto (-52), 3) rfl) rfl ?_
          refine z_sub (al' := [(0, zR 1 i), (1, zR 11 p1), (2, zI (v2_8 + 1))]) [1, 2, 0] rfl ?_
          exact hi ((v2_8 + 1), s9) hf
        · refine z_aload_n (pc := 68) 1 (zdg D_X1_take 35 (68, .aload_n 1, 1) rfl) rfl rfl ?_
          refine z_getR (pc := 69) (g := 29) (j := p1) lf_X1_164 rfl rfl rfl (zdg D_X1_take 36 (69, .getfield 164, 3) rfl) ?_
          refine z_iload_n (pc := 72) 2 (zdg D_X1_take 37 (72, .iload_n 2, 1) rfl) rfl rfl ?_
          refine z_aload_n (pc := 73) 0 (zdg D_X1_take 38 (73, .aload_n 0, 1) rfl) rfl rfl ?_
          refine z_iload_n (pc := 74) 2 (zdg D_X1_take 39 (74, .iload_n 2, 1) rfl) rfl rfl ?_
          refine z_aload_n (pc := 75) 0 (zdg D_X1_take 40 (75, .aload_n 0, 1) rfl) rfl rfl ?_
          refine z_getI (pc := 76) lf_X1_64 rfl rfl (zdg D_X1_take 41 (76, .getfield 64, 3) rfl) ?_
          refine z_bind hn hf (fun q10 hq hf => ?_)
          refine z_callV (pc := 79) (rest := [zI v2_8, zR 29 p1]) (st2 := [zI q10.1, zI v2_8, zR 29 p1]) (fun l => c_X1_toneOf l i v2_8 (s9.1 1 i 3) s9 q10 hq) zv_X1_toneOf lm_X1_168 rfl rfl rfl rfl rfl rfl (Nat.le_of_ble_eq_true rfl) ⟨Nat.le_of_ble_eq_true rfl, Nat.le_of_ble_eq_true rfl⟩ (zdg D_X1_take 42 (79, .invokevirtual 168, 3) rfl) ?_
          refine z_i2b (pc := 82) (zdg D_X1_take 43 (82, .i2b, 1) rfl) ?_
          refine z_bast (pc := 83) rfl (fun _ => rfl) (zdg D_X1_take 44 (83, .bastore, 1) rfl) hn hf (fun hf => ?_)
          refine z_nmS hf (fun s11 hf => ?_)
          refine z_aload_n (pc := 84) 1 (zdg D_X1_take 45 (84, .aload_n 1, 1) rfl) rfl rfl ?_
          refine z_getR (pc := 85) (g := 30) (j := p1) lf_X1_172 rfl rfl rfl (zdg D_X1_take 46 (85, .getfield 172, 3) rfl) ?_
          refine z_iload_n (pc := 88) 2 (zdg D_X1_take 47 (88, .iload_n 2, 1) rfl) rfl rfl ?_
          refine z_aload_n (pc := 89) 0 (zdg D_X1_take 48 (89, .aload_n 0, 1) rfl) rfl rfl ?_
          refine z_iload_n (pc := 90) 2 (zdg D_X1_take 49 (90, .iload_n 2, 1) rfl) rfl rfl ?_
          refine z_aload_n (pc := 91) 0 (zdg D_X1_take 50 (91, .aload_n 0, 1) rfl) rfl rfl ?_
          refine z_getI (pc := 92) lf_X1_64 rfl rfl (zdg D_X1_take 51 (92, .getfield 64, 3) rfl) ?_
          refine z_bind hn hf (fun q12 hq hf => ?_)
          refine z_callV (pc := 95) (rest := [zI v2_8, zR 30 p1]) (st2 := [zI q12, zI v2_8, zR 30 p1]) (fun l => c_X1_whoCovers l i v2_8 (s11.1 1 i 3) s11 q12 hq) zv_X1_whoCovers lm_X1_175 rfl rfl rfl rfl rfl rfl (Nat.le_of_ble_eq_true rfl) ⟨Nat.le_of_ble_eq_true rfl, Nat.le_of_ble_eq_true rfl⟩ (zdg D_X1_take 52 (95, .invokevirtual 175, 3) rfl) ?_
          refine z_i2b (pc := 98) (zdg D_X1_take 53 (98, .i2b, 1) rfl) ?_
          refine z_bast (pc := 99) rfl (fun _ => rfl) (zdg D_X1_take 54 (99, .bastore, 1) rfl) hn hf (fun hf => ?_)
          refine z_nmS hf (fun s13 hf => ?_)
          refine z_iinc (pc := 100) (v0 := (v2_8 + 1)) (al' := [(2, zI (v2_8 + 1)), (0, zR 1 i), (1, zR 11 p1)]) 2 (zdg D_X1_take 55 (100, .iinc 2 1, 3) rfl) rfl rfl (by decide) rfl ?_
          refine z_goto (pc := 103) 51 (zdg D_X1_take 56 (103, .goto (-52), 3) rfl) rfl ?_
          refine z_sub (al' := [(0, zR 1 i), (1, zR 11 p1), (2, zI (v2_8 + 1))]) [1, 2, 0] rfl ?_
          exact hi ((v2_8 + 1), s13) hf

def L_X1_isFree : List (Nat × Instr × Nat) := [(0, .aload_n 0, 1), (1, .iload_n 3, 1), (2, .invokevirtual 153, 3), (5, .lload_n 1, 1), (6, .land, 1), (7, .lconst 0, 1), (8, .lcmp, 1), (9, .ifCond .ne 7, 3), (12, .iconst 1, 1), (13, .goto 4, 3), (16, .iconst 0, 1), (17, .ireturn, 1)]
set_option maxRecDepth 100000 in
theorem D_X1_isFree : zdecs cX1_isFree L_X1_isFree = true := by decide +kernel
noncomputable def f_X1_isFree (i : Nat) (p1 : Int64) (p2 : Int32) (σ : zG) : Option (Int32) :=
  (f_X1_coverIn i p2 σ).bind (fun q1 => if (lg_cmp (q1 &&& p1) (0 : Int64)) = 0 then some (1 : Int32) else some (0 : Int32))
set_option maxRecDepth 100000 in
set_option maxHeartbeats 4000000 in
theorem c_X1_isFree (l : Launch) (i : Nat) (p1 : Int64) (p2 : Int32) (σ : zG) (q : Int32) (hq : f_X1_isFree i p1 p2 σ = some q) : zMet l zsyC m_X1_isFree yX1_isFree [zR 1 i, zL p1, zI p2] σ (some (zI q)) σ := by
  refine zEnter [(0, zR 1 i), (1, zL p1), (3, zI p2)] (by decide) rfl (fun _ => Nat.le_of_ble_eq_true rfl) (fun _ => rfl) (fun w h => ?_) (fun K hv hs => ?_)
  · exact zokm rfl h
  · have hP : ∀ x, f_X1_isFree i p1 p2 σ = some x → zKv K = some (zI x) ∧ zKs K = σ := fun x h => by rw [hq] at h; cases h; exact ⟨hv, hs⟩
    have hn : f_X1_isFree i p1 p2 σ ≠ none := fun z => by rw [hq] at z; cases z
    have hf := f_X1_isFree.eq_1 i p1 p2 σ
    refine z_aload_n (pc := 0) 0 (zdg D_X1_isFree 0 (0, .aload_n 0, 1) rfl) rfl rfl ?_
    refine z_iload_n (pc := 1) 2 (zdg D_X1_isFree 1 (1, .iload_n 3, 1) rfl) rfl rfl ?_
    refine z_bind hn hf (fun q1 hq hf => ?_)
    refine z_callV (pc := 2) (rest := []) (st2 := [zL q1]) (fun l => c_X1_coverIn l i p2 σ q1 hq) zv_X1_coverIn lm_X1_153 rfl rfl rfl rfl rfl rfl (Nat.le_of_ble_eq_true rfl) ⟨Nat.le_of_ble_eq_true rfl, Nat.le_of_ble_eq_true rfl⟩ (zdg D_X1_isFree 2 (2, .invokevirtual 153, 3) rfl) ?_
    refine z_lload_n (pc := 5) 1 (zdg D_X1_isFree 3 (5, .lload_n 1, 1) rfl) rfl rfl ?_
    refine z_land (pc := 6) (zdg D_X1_isFree 4 (6, .land, 1) rfl) ?_
    refine z_lconst (pc := 7) (v := 0) (zdg D_X1_isFree 5 (7, .lconst 0, 1) rfl) rfl ?_
    refine z_lcmp (pc := 8) (zdg D_X1_isFree 6 (8, .lcmp, 1) rfl) ?_
    refine z_if_ne (pc := 9) 16 (zdg D_X1_isFree 7 (9, .ifCond .ne 7, 3) rfl) rfl hf (fun hf => ?_) (fun hf => ?_)
    · refine z_iconst (pc := 16) (v := 0) (zdg D_X1_isFree 10 (16, .iconst 0, 1) rfl) rfl ?_
      exact z_iret (pc := 17) rfl rfl (zdg D_X1_isFree 11 (17, .ireturn, 1) rfl) (hP _ hf)
    · refine z_iconst (pc := 12) (v := 1) (zdg D_X1_isFree 8 (12, .iconst 1, 1) rfl) rfl ?_
      refine z_goto (pc := 13) 17 (zdg D_X1_isFree 9 (13, .goto 4, 3) rfl) rfl ?_
      exact z_iret (pc := 17) rfl rfl (zdg D_X1_isFree 11 (17, .ireturn, 1) rfl) (hP _ hf)

def L_X7_countOn : List (Nat × Instr × Nat) := [(0, .iconst 0, 1), (1, .istore 4, 2), (3, .iconst 0, 1), (4, .istore 5, 2), (6, .iload 5, 2), (8, .aload_n 0, 1), (9, .getfield 21, 3), (12, .if_icmp .ge 43, 3), (15, .iload 5, 2), (17, .bipush 8, 2), (19, .if_icmp .ge 36, 3), (22, .aload_n 0, 1), (23, .iload 5, 2), (25, .iload_n 3, 1), (26, .invokevirtual 25, 3), (29, .ifCond .eq 20, 3), (32, .lload_n 1, 1), (33, .aload_n 0, 1), (34, .getfield 9, 3), (37, .iload 5, 2), (39, .iaload, 1), (40, .invokestatic 29, 3), (43, .ifCond .eq 6, 3), (46, .iinc 4 1, 3), (49, .iinc 5 1, 3), (52, .goto (-46), 3), (55, .iload 4, 2), (57, .ireturn, 1)]
set_option maxRecDepth 100000 in
theorem D_X7_countOn : zdecs cX7_countOn L_X7_countOn = true := by decide +kernel
noncomputable def b_X7_countOn_6 (σ : zG) (i : Nat) (p2 : Int32) (p1 : Int64) (v4_1 : Int32) (v5_2 : Int32) : Option ((Int32 × Int32) ⊕ (Int32)) :=
  if v5_2 < (σ.1 7 i 0) then if v5_2 < (8 : Int32) then (f_X7_isThere i v5_2 p2 σ).bind (fun q3 => if q3 = 0 then some (Sum.inl (v4_1, (v5_2 + 1))) else zg (zin v5_2 8) (if (f_X11_holds p1 (σ.1 12 i v5_2.toNatClampNeg)) = 0 then some (Sum.inl (v4_1, (v5_2 + 1))) else some (Sum.inl ((v4_1 + 1), (v5_2 + 1))))) else some (Sum.inr v4_1) else some (Sum.inr v4_1)
noncomputable def f_X7_countOn (i : Nat) (p1 : Int64) (p2 : Int32) (σ : zG) : Option (Int32) :=
  (zlp (fun q : Int32 × Int32 => b_X7_countOn_6 σ i p2 p1 q.1 q.2) ((0 : Int32), (0 : Int32))).bind (fun e4 : Int32 => some e4)
set_option maxRecDepth 100000 in
set_option maxHeartbeats 4000000 in
theorem c_X7_countOn (l : Launch) (i : Nat) (p1 : Int64) (p2 : Int32) (σ : zG) (q : Int32) (hq : f_X7_countOn i p1 p2 σ = some q) : zMet l zsyC m_X7_countOn yX7_countOn [zR 7 i, zL p1, zI p2] σ (some (zI q)) σ := by
  refine zEnter [(0, zR 7 i), (1, zL p1), (3, zI p2)] (by decide) rfl (fun _ => Nat.le_of_ble_eq_true rfl) (fun _ => rfl) (fun w h => ?_) (fun K hv hs => ?_)
  · exact zokm rfl h
  · have hP : ∀ x, f_X7_countOn i p1 p2 σ = some x → zKv K = some (zI x) ∧ zKs K = σ := fun x h => by rw [hq] at h; cases h; exact ⟨hv, hs⟩
    have hn : f_X7_countOn i p1 p2 σ ≠ none := fun z => by rw [hq] at z; cases z
    have hf := f_X7_countOn.eq_1 i p1 p2 σ
    refine z_iconst (pc := 0) (v := 0) (zdg D_X7_countOn 0 (0, .iconst 0, 1) rfl) rfl ?_
    refine z_istore (pc := 1) (al' := [(4, zI (0 : Int32)), (0, zR 7 i), (1, zL p1), (3, zI p2)]) (zdg D_X7_countOn 1 (1, .istore 4, 2) rfl) (by decide) rfl ?_
    refine z_iconst (pc := 3) (v := 0) (zdg D_X7_countOn 2 (3, .iconst 0, 1) rfl) rfl ?_
    refine z_istore (pc := 4) (al' := [(5, zI (0 : Int32)), (4, zI (0 : Int32)), (0, zR 7 i), (1, zL p1), (3, zI p2)]) (zdg D_X7_countOn 3 (4, .istore 5, 2) rfl) (by decide) rfl ?_
    refine z_sub (al' := [(0, zR 7 i), (1, zL p1), (3, zI p2), (4, zI (0 : Int32)), (5, zI (0 : Int32))]) [2, 3, 4, 1, 0] rfl ?_
    refine z_loop (f := (fun q : Int32 × Int32 => b_X7_countOn_6 σ i p2 p1 q.1 q.2)) (a := ((0 : Int32), (0 : Int32))) (fun q : Int32 × Int32 => zX zsyC m_X7_countOn K 6 [(0, zR 7 i), (1, zL p1), (3, zI p2), (4, zI q.1), (5, zI q.2)] [] σ) (fun e4 : Int32 => zX zsyC m_X7_countOn K 55 [(4, zI e4)] [] σ) hn hf ?_ ?_
    · intro e4 hf
      refine z_iload (pc := 55) 0 (zdg D_X7_countOn 26 (55, .iload 4, 2) rfl) rfl ?_
      exact z_iret (pc := 57) rfl rfl (zdg D_X7_countOn 27 (57, .ireturn, 1) rfl) (hP _ hf)
    · rintro ⟨v4_1, v5_2⟩ hn hi hx
      have hf := b_X7_countOn_6.eq_1 σ i p2 p1 v4_1 v5_2
      refine z_iload (pc := 6) 4 (zdg D_X7_countOn 4 (6, .iload 5, 2) rfl) rfl ?_
      refine z_aload_n (pc := 8) 0 (zdg D_X7_countOn 5 (8, .aload_n 0, 1) rfl) rfl rfl ?_
      refine z_getI (pc := 9) lf_X7_21 rfl rfl (zdg D_X7_countOn 6 (9, .getfield 21, 3) rfl) ?_
      refine z_icmp_ge (pc := 12) 55 (zdg D_X7_countOn 7 (12, .if_icmp .ge 43, 3) rfl) rfl hf (fun hf => ?_) (fun hf => ?_)
      · refine z_sub (al' := [(4, zI v4_1)]) [3] rfl ?_
        exact hx v4_1 hf
      · refine z_iload (pc := 15) 4 (zdg D_X7_countOn 8 (15, .iload 5, 2) rfl) rfl ?_
        refine z_bipush (pc := 17) (v := 8) (zdg D_X7_countOn 9 (17, .bipush 8, 2) rfl) rfl ?_
        refine z_icmp_ge (pc := 19) 55 (zdg D_X7_countOn 10 (19, .if_icmp .ge 36, 3) rfl) rfl hf (fun hf => ?_) (fun hf => ?_)
        · refine z_sub (al' := [(4, zI v4_1)]) [3] rfl ?_
          exact hx v4_1 hf
        · refine z_aload_n (pc := 22) 0 (zdg D_X7_countOn 11 (22, .aload_n 0, 1) rfl) rfl rfl ?_
          refine z_iload (pc := 23) 4 (zdg D_X7_countOn 12 (23, .iload 5, 2) rfl) rfl ?_
          refine z_iload_n (pc := 25) 2 (zdg D_X7_countOn 13 (25, .iload_n 3, 1) rfl) rfl rfl ?_
          refine z_bind hn hf (fun q3 hq hf => ?_)
          refine z_callV (pc := 26) (rest := []) (st2 := [zI q3]) (fun l => c_X7_isThere l i v5_2 p2 σ q3 hq) zv_X7_isThere lm_X7_25 rfl rfl rfl rfl rfl rfl (Nat.le_of_ble_eq_true rfl) ⟨Nat.le_of_ble_eq_true rfl, Nat.le_of_ble_eq_true rfl⟩ (zdg D_X7_countOn 14 (26, .invokevirtual 25, 3) rfl) ?_
          refine z_if_eq (pc := 29) 49 (zdg D_X7_countOn 15 (29, .ifCond .eq 20, 3) rfl) rfl hf (fun hf => ?_) (fun hf => ?_)
          · refine z_iinc (pc := 49) (v0 := (v5_2 + 1)) (al' := [(5, zI (v5_2 + 1)), (0, zR 7 i), (1, zL p1), (3, zI p2), (4, zI v4_1)]) 4 (zdg D_X7_countOn 24 (49, .iinc 5 1, 3) rfl) rfl rfl (by decide) rfl ?_
            refine z_goto (pc := 52) 6 (zdg D_X7_countOn 25 (52, .goto (-46), 3) rfl) rfl ?_
            refine z_sub (al' := [(0, zR 7 i), (1, zL p1), (3, zI p2), (4, zI v4_1), (5, zI (v5_2 + 1))]) [1, 2, 3, 4, 0] rfl ?_
            exact hi (v4_1, (v5_2 + 1)) hf
          · refine z_lload_n (pc := 32) 1 (zdg D_X7_countOn 16 (32, .lload_n 1, 1) rfl) rfl rfl ?_
            refine z_aload_n (pc := 33) 0 (zdg D_X7_countOn 17 (33, .aload_n 0, 1) rfl) rfl rfl ?_
            refine z_getR (pc := 34) (g := 12) (j := i) lf_X7_9 rfl rfl rfl (zdg D_X7_countOn 18 (34, .getfield 9, 3) rfl) ?_
            refine z_iload (pc := 37) 4 (zdg D_X7_countOn 19 (37, .iload 5, 2) rfl) rfl ?_
            refine z_iald (pc := 39) rfl (fun _ => rfl) (zdg D_X7_countOn 20 (39, .iaload, 1) rfl) hn hf (fun hf => ?_)
            refine z_callSN (pc := 40) (rest := []) (st2 := [zI (f_X11_holds p1 (σ.1 12 i v5_2.toNatClampNeg))]) (host := "NobodyThere") (fun l => c_X11_holds l p1 (σ.1 12 i v5_2.toNatClampNeg) σ) zs_X11_holds (by decide +kernel) rfl rfl rfl (Nat.le_of_ble_eq_true rfl) ⟨Nat.le_of_ble_eq_true rfl, Nat.le_of_ble_eq_true rfl⟩ (zdg D_X7_countOn 21 (40, .invokestatic 29, 3) rfl) ?_
            refine z_if_eq (pc := 43) 49 (zdg D_X7_countOn 22 (43, .ifCond .eq 6, 3) rfl) rfl hf (fun hf => ?_) (fun hf => ?_)
            · refine z_iinc (pc := 49) (v0 := (v5_2 + 1)) (al' := [(5, zI (v5_2 + 1)), (0, zR 7 i), (1, zL p1), (3, zI p2), (4, zI v4_1)]) 4 (zdg D_X7_countOn 24 (49, .iinc 5 1, 3) rfl) rfl rfl (by decide) rfl ?_
              refine z_goto (pc := 52) 6 (zdg D_X7_countOn 25 (52, .goto (-46), 3) rfl) rfl ?_
              refine z_sub (al' := [(0, zR 7 i), (1, zL p1), (3, zI p2), (4, zI v4_1), (5, zI (v5_2 + 1))]) [1, 2, 3, 4, 0] rfl ?_
              exact hi (v4_1, (v5_2 + 1)) hf
            · refine z_iinc (pc := 46) (v0 := (v4_1 + 1)) (al' := [(4, zI (v4_1 + 1)), (0, zR 7 i), (1, zL p1), (3, zI p2), (5, zI v5_2)]) 3 (zdg D_X7_countOn 23 (46, .iinc 4 1, 3) rfl) rfl rfl (by decide) rfl ?_
              refine z_iinc (pc := 49) (v0 := (v5_2 + 1)) (al' := [(5, zI (v5_2 + 1)), (4, zI (v4_1 + 1)), (0, zR 7 i), (1, zL p1), (3, zI p2)]) 4 (zdg D_X7_countOn 24 (49, .iinc 5 1, 3) rfl) rfl rfl (by decide) rfl ?_
              refine z_goto (pc := 52) 6 (zdg D_X7_countOn 25 (52, .goto (-46), 3) rfl) rfl ?_
              refine z_sub (al' := [(0, zR 7 i), (1, zL p1), (3, zI p2), (4, zI (v4_1 + 1)), (5, zI (v5_2 + 1))]) [2, 3, 4, 1, 0] rfl ?_
              exact hi ((v4_1 + 1), (v5_2 + 1)) hf

def L_X1_walksOn : List (Nat × Instr × Nat) := [(0, .aload_n 0, 1), (1, .getfield 28, 3), (4, .iload_n 3, 1), (5, .iload 4, 2), (7, .invokevirtual 189, 3), (10, .istore 5, 2), (12, .iload 5, 2), (14, .iconst (-1), 1), (15, .if_icmp .eq 16, 3), (18, .lload_n 1, 1), (19, .iload 5, 2), (21, .invokestatic 160, 3), (24, .ifCond .eq 7, 3), (27, .iconst 1, 1), (28, .goto 4, 3), (31, .iconst 0, 1), (32, .ireturn, 1)]
set_option maxRecDepth 100000 in
theorem D_X1_walksOn : zdecs cX1_walksOn L_X1_walksOn = true := by decide +kernel
noncomputable def f_X1_walksOn (i : Nat) (p1 : Int64) (p2 : Int32) (p3 : Int32) (σ : zG) : Option (Int32) :=
  (f_X5_spotIn i p2 p3 σ).bind (fun q1 => if q1 = (-1 : Int32) then some (0 : Int32) else if (f_X11_holds p1 q1) = 0 then some (0 : Int32) else some (1 : Int32))
set_option maxRecDepth 100000 in
set_option maxHeartbeats 4000000 in
theorem c_X1_walksOn (l : Launch) (i : Nat) (p1 : Int64) (p2 : Int32) (p3 : Int32) (σ : zG) (q : Int32) (hq : f_X1_walksOn i p1 p2 p3 σ = some q) : zMet l zsyC m_X1_walksOn yX1_walksOn [zR 1 i, zL p1, zI p2, zI p3] σ (some (zI q)) σ := by
  refine zEnter [(0, zR 1 i), (1, zL p1), (3, zI p2), (4, zI p3)] (by decide) rfl (fun _ => Nat.le_of_ble_eq_true rfl) (fun _ => rfl) (fun w h => ?_) (fun K hv hs => ?_)
  · exact zokm rfl h
  · have hP : ∀ x, f_X1_walksOn i p1 p2 p3 σ = some x → zKv K = some (zI x) ∧ zKs K = σ := fun x h => by rw [hq] at h; cases h; exact ⟨hv, hs⟩
    have hn : f_X1_walksOn i p1 p2 p3 σ ≠ none := fun z => by rw [hq] at z; cases z
    have hf := f_X1_walksOn.eq_1 i p1 p2 p3 σ
    refine z_aload_n (pc := 0) 0 (zdg D_X1_walksOn 0 (0, .aload_n 0, 1) rfl) rfl rfl ?_
    refine z_getR (pc := 1) (g := 9) (j := i) lf_X1_28 rfl rfl rfl (zdg D_X1_walksOn 1 (1, .getfield 28, 3) rfl) ?_
    refine z_iload_n (pc := 4) 2 (zdg D_X1_walksOn 2 (4, .iload_n 3, 1) rfl) rfl rfl ?_
    refine z_iload (pc := 5) 3 (zdg D_X1_walksOn 3 (5, .iload 4, 2) rfl) rfl ?_
    refine z_bind hn hf (fun q1 hq hf => ?_)
    refine z_callV (pc := 7) (rest := []) (st2 := [zI q1]) (fun l => c_X5_spotIn l i p2 p3 σ q1 hq) zv_X5_spotIn lm_X1_189 rfl rfl rfl rfl rfl rfl (Nat.le_of_ble_eq_true rfl) ⟨Nat.le_of_ble_eq_true rfl, Nat.le_of_ble_eq_true rfl⟩ (zdg D_X1_walksOn 4 (7, .invokevirtual 189, 3) rfl) ?_
    refine z_istore (pc := 10) (al' := [(5, zI q1), (0, zR 1 i), (1, zL p1), (3, zI p2), (4, zI p3)]) (zdg D_X1_walksOn 5 (10, .istore 5, 2) rfl) (by decide) rfl ?_
    refine z_iload (pc := 12) 0 (zdg D_X1_walksOn 6 (12, .iload 5, 2) rfl) rfl ?_
    refine z_iconst (pc := 14) (v := -1) (zdg D_X1_walksOn 7 (14, .iconst (-1), 1) rfl) rfl ?_
    refine z_icmp_eq (pc := 15) 31 (zdg D_X1_walksOn 8 (15, .if_icmp .eq 16, 3) rfl) rfl hf (fun hf => ?_) (fun hf => ?_)
    · refine z_iconst (pc := 31) (v := 0) (zdg D_X1_walksOn 15 (31, .iconst 0, 1) rfl) rfl ?_
      exact z_iret (pc := 32) rfl rfl (zdg D_X1_walksOn 16 (32, .ireturn, 1) rfl) (hP _ hf)
    · refine z_lload_n (pc := 18) 2 (zdg D_X1_walksOn 9 (18, .lload_n 1, 1) rfl) rfl rfl ?_
      refine z_iload (pc := 19) 0 (zdg D_X1_walksOn 10 (19, .iload 5, 2) rfl) rfl ?_
      refine z_callSN (pc := 21) (rest := []) (st2 := [zI (f_X11_holds p1 q1)]) (host := "NobodyThere") (fun l => c_X11_holds l p1 q1 σ) zs_X11_holds (by decide +kernel) rfl rfl rfl (Nat.le_of_ble_eq_true rfl) ⟨Nat.le_of_ble_eq_true rfl, Nat.le_of_ble_eq_true rfl⟩ (zdg D_X1_walksOn 11 (21, .invokestatic 160, 3) rfl) ?_
      refine z_if_eq (pc := 24) 31 (zdg D_X1_walksOn 12 (24, .ifCond .eq 7, 3) rfl) rfl hf (fun hf => ?_) (fun hf => ?_)
      · refine z_iconst (pc := 31) (v := 0) (zdg D_X1_walksOn 15 (31, .iconst 0, 1) rfl) rfl ?_
        exact z_iret (pc := 32) rfl rfl (zdg D_X1_walksOn 16 (32, .ireturn, 1) rfl) (hP _ hf)
      · refine z_iconst (pc := 27) (v := 1) (zdg D_X1_walksOn 13 (27, .iconst 1, 1) rfl) rfl ?_
        refine z_goto (pc := 28) 32 (zdg D_X1_walksOn 14 (28, .goto 4, 3) rfl) rfl ?_
        exact z_iret (pc := 32) rfl rfl (zdg D_X1_walksOn 16 (32, .ireturn, 1) rfl) (hP _ hf)

def L_X1_peopleOn : List (Nat × Instr × Nat) := [(0, .aload_n 0, 1), (1, .getfield 12, 3), (4, .lload_n 1, 1), (5, .iload_n 3, 1), (6, .invokevirtual 223, 3), (9, .istore 4, 2), (11, .iconst 0, 1), (12, .istore 5, 2), (14, .iload 5, 2), (16, .aload_n 0, 1), (17, .getfield 21, 3), (20, .getfield 88, 3), (23, .if_icmp .ge 23, 3), (26, .aload_n 0, 1), (27, .lload_n 1, 1), (28, .iload 5, 2), (30, .iload_n 3, 1), (31, .invokevirtual 226, 3), (34, .ifCond .eq 6, 3), (37, .iinc 4 1, 3), (40, .iinc 5 1, 3), (43, .goto (-29), 3), (46, .iload 4, 2), (48, .ireturn, 1)]
set_option maxRecDepth 100000 in
theorem D_X1_peopleOn : zdecs cX1_peopleOn L_X1_peopleOn = true := by decide +kernel
noncomputable def b_X1_peopleOn_14 (σ : zG) (i : Nat) (p1 : Int64) (p2 : Int32) (v4_2 : Int32) (v5_3 : Int32) : Option ((Int32 × Int32) ⊕ (Int32)) :=
  if v5_3 < (σ.1 8 (2 * i) 0) then (f_X1_walksOn i p1 v5_3 p2 σ).bind (fun q4 => if q4 = 0 then some (Sum.inl (v4_2, (v5_3 + 1))) else some (Sum.inl ((v4_2 + 1), (v5_3 + 1)))) else some (Sum.inr v4_2)
noncomputable def f_X1_peopleOn (i : Nat) (p1 : Int64) (p2 : Int32) (σ : zG) : Option (Int32) :=
  (f_X7_countOn (7 * i) p1 p2 σ).bind (fun q1 => (zlp (fun q : Int32 × Int32 => b_X1_peopleOn_14 σ i p1 p2 q.1 q.2) (q1, (0 : Int32))).bind (fun e5 : Int32 => some e5))
set_option maxRecDepth 100000 in
set_option maxHeartbeats 4000000 in
theorem c_X1_peopleOn (l : Launch) (i : Nat) (p1 : Int64) (p2 : Int32) (σ : zG) (q : Int32) (hq : f_X1_peopleOn i p1 p2 σ = some q) : zMet l zsyC m_X1_peopleOn yX1_peopleOn [zR 1 i, zL p1, zI p2] σ (some (zI q)) σ := by
  refine zEnter [(0, zR 1 i), (1, zL p1), (3, zI p2)] (by decide) rfl (fun _ => Nat.le_of_ble_eq_true rfl) (fun _ => rfl) (fun w h => ?_) (fun K hv hs => ?_)
  · exact zokm rfl h
  · have hP : ∀ x, f_X1_peopleOn i p1 p2 σ = some x → zKv K = some (zI x) ∧ zKs K = σ := fun x h => by rw [hq] at h; cases h; exact ⟨hv, hs⟩
    have hn : f_X1_peopleOn i p1 p2 σ ≠ none := fun z => by rw [hq] at z; cases z
    have hf := f_X1_peopleOn.eq_1 i p1 p2 σ
    refine z_aload_n (pc := 0) 0 (zdg D_X1_peopleOn 0 (0, .aload_n 0, 1) rfl) rfl rfl ?_
    refine z_getR (pc := 1) (g := 7) (j := 7 * i) lf_X1_12 rfl rfl rfl (zdg D_X1_peopleOn 1 (1, .getfield 12, 3) rfl) ?_
    refine z_lload_n (pc := 4) 1 (zdg D_X1_peopleOn 2 (4, .lload_n 1, 1) rfl) rfl rfl ?_
    refine z_iload_n (pc := 5) 2 (zdg D_X1_peopleOn 3 (5, .iload_n 3, 1) rfl) rfl rfl ?_
    refine z_bind hn hf (fun q1 hq hf => ?_)
    refine z_callV (pc := 6) (rest := []) (st2 := [zI q1]) (fun l => c_X7_countOn l (7 * i) p1 p2 σ q1 hq) zv_X7_countOn lm_X1_223 rfl rfl rfl rfl rfl rfl (Nat.le_of_ble_eq_true rfl) ⟨Nat.le_of_ble_eq_true rfl, Nat.le_of_ble_eq_true rfl⟩ (zdg D_X1_peopleOn 4 (6, .invokevirtual 223, 3) rfl) ?_
    refine z_istore (pc := 9) (al' := [(4, zI q1), (0, zR 1 i), (1, zL p1), (3, zI p2)]) (zdg D_X1_peopleOn 5 (9, .istore 4, 2) rfl) (by decide) rfl ?_
    refine z_iconst (pc := 11) (v := 0) (zdg D_X1_peopleOn 6 (11, .iconst 0, 1) rfl) rfl ?_
    refine z_istore (pc := 12) (al' := [(5, zI (0 : Int32)), (4, zI q1), (0, zR 1 i), (1, zL p1), (3, zI p2)]) (zdg D_X1_peopleOn 7 (12, .istore 5, 2) rfl) (by decide) rfl ?_
    refine z_sub (al' := [(0, zR 1 i), (1, zL p1), (3, zI p2), (4, zI q1), (5, zI (0 : Int32))]) [2, 3, 4, 1, 0] rfl ?_
    refine z_loop (f := (fun q : Int32 × Int32 => b_X1_peopleOn_14 σ i p1 p2 q.1 q.2)) (a := (q1, (0 : Int32))) (fun q : Int32 × Int32 => zX zsyC m_X1_peopleOn K 14 [(0, zR 1 i), (1, zL p1), (3, zI p2), (4, zI q.1), (5, zI q.2)] [] σ) (fun e5 : Int32 => zX zsyC m_X1_peopleOn K 46 [(4, zI e5)] [] σ) hn hf ?_ ?_
    · intro e5 hf
      refine z_iload (pc := 46) 0 (zdg D_X1_peopleOn 22 (46, .iload 4, 2) rfl) rfl ?_
      exact z_iret (pc := 48) rfl rfl (zdg D_X1_peopleOn 23 (48, .ireturn, 1) rfl) (hP _ hf)
    · rintro ⟨v4_2, v5_3⟩ hn hi hx
      have hf := b_X1_peopleOn_14.eq_1 σ i p1 p2 v4_2 v5_3
      refine z_iload (pc := 14) 4 (zdg D_X1_peopleOn 8 (14, .iload 5, 2) rfl) rfl ?_
      refine z_aload_n (pc := 16) 0 (zdg D_X1_peopleOn 9 (16, .aload_n 0, 1) rfl) rfl rfl ?_
      refine z_getR (pc := 17) (g := 8) (j := 2 * i) lf_X1_21 rfl rfl rfl (zdg D_X1_peopleOn 10 (17, .getfield 21, 3) rfl) ?_
      refine z_getI (pc := 20) lf_X1_88 rfl rfl (zdg D_X1_peopleOn 11 (20, .getfield 88, 3) rfl) ?_
      refine z_icmp_ge (pc := 23) 46 (zdg D_X1_peopleOn 12 (23, .if_icmp .ge 23, 3) rfl) rfl hf (fun hf => ?_) (fun hf => ?_)
      · refine z_sub (al' := [(4, zI v4_2)]) [3] rfl ?_
        exact hx v4_2 hf
      · refine z_aload_n (pc := 26) 0 (zdg D_X1_peopleOn 13 (26, .aload_n 0, 1) rfl) rfl rfl ?_
        refine z_lload_n (pc := 27) 1 (zdg D_X1_peopleOn 14 (27, .lload_n 1, 1) rfl) rfl rfl ?_
        refine z_iload (pc := 28) 4 (zdg D_X1_peopleOn 15 (28, .iload 5, 2) rfl) rfl ?_
        refine z_iload_n (pc := 30) 2 (zdg D_X1_peopleOn 16 (30, .iload_n 3, 1) rfl) rfl rfl ?_
        refine z_bind hn hf (fun q4 hq hf => ?_)
        refine z_callV (pc := 31) (rest := []) (st2 := [zI q4]) (fun l => c_X1_walksOn l i p1 v5_3 p2 σ q4 hq) zv_X1_walksOn lm_X1_226 rfl rfl rfl rfl rfl rfl (Nat.le_of_ble_eq_true rfl) ⟨Nat.le_of_ble_eq_true rfl, Nat.le_of_ble_eq_true rfl⟩ (zdg D_X1_peopleOn 17 (31, .invokevirtual 226, 3) rfl) ?_
        refine z_if_eq (pc := 34) 40 (zdg D_X1_peopleOn 18 (34, .ifCond .eq 6, 3) rfl) rfl hf (fun hf => ?_) (fun hf => ?_)
        · refine z_iinc (pc := 40) (v0 := (v5_3 + 1)) (al' := [(5, zI (v5_3 + 1)), (0, zR 1 i), (1, zL p1), (3, zI p2), (4, zI v4_2)]) 4 (zdg D_X1_peopleOn 20 (40, .iinc 5 1, 3) rfl) rfl rfl (by decide) rfl ?_
          refine z_goto (pc := 43) 14 (zdg D_X1_peopleOn 21 (43, .goto (-29), 3) rfl) rfl ?_
          refine z_sub (al' := [(0, zR 1 i), (1, zL p1), (3, zI p2), (4, zI v4_2), (5, zI (v5_3 + 1))]) [1, 2, 3, 4, 0] rfl ?_
          exact hi (v4_2, (v5_3 + 1)) hf
        · refine z_iinc (pc := 37) (v0 := (v4_2 + 1)) (al' := [(4, zI (v4_2 + 1)), (0, zR 1 i), (1, zL p1), (3, zI p2), (5, zI v5_3)]) 3 (zdg D_X1_peopleOn 19 (37, .iinc 4 1, 3) rfl) rfl rfl (by decide) rfl ?_
          refine z_iinc (pc := 40) (v0 := (v5_3 + 1)) (al' := [(5, zI (v5_3 + 1)), (4, zI (v4_2 + 1)), (0, zR 1 i), (1, zL p1), (3, zI p2)]) 4 (zdg D_X1_peopleOn 20 (40, .iinc 5 1, 3) rfl) rfl rfl (by decide) rfl ?_
          refine z_goto (pc := 43) 14 (zdg D_X1_peopleOn 21 (43, .goto (-29), 3) rfl) rfl ?_
          refine z_sub (al' := [(0, zR 1 i), (1, zL p1), (3, zI p2), (4, zI (v4_2 + 1)), (5, zI (v5_3 + 1))]) [2, 3, 4, 1, 0] rfl ?_
          exact hi ((v4_2 + 1), (v5_3 + 1)) hf
