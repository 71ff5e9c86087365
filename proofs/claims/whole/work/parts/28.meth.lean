/-! METHODS, by program: functions and contracts -/
def L_X12_comesOne : List (Nat × Instr × Nat) := [(0, .aload_n 0, 1), (1, .getfield 7, 3), (4, .bipush 33, 2), (6, .iaload, 1), (7, .ifCond .eq 31, 3), (10, .aload_n 0, 1), (11, .getfield 7, 3), (14, .iconst 3, 1), (15, .iaload, 1), (16, .bipush 8, 2), (18, .if_icmp .eq 20, 3), (21, .aload_n 0, 1), (22, .sipush 1000, 3), (25, .invokevirtual 332, 3), (28, .aload_n 0, 1), (29, .getfield 7, 3), (32, .bipush 33, 2), (34, .iaload, 1), (35, .if_icmp .lt 5, 3), (38, .iconst 0, 1), (39, .ireturn, 1), (40, .aload_n 0, 1), (41, .aload_n 0, 1), (42, .getfield 7, 3), (45, .bipush 30, 2), (47, .iaload, 1), (48, .aload_n 0, 1), (49, .getfield 7, 3), (52, .bipush 31, 2), (54, .iaload, 1), (55, .imul, 1), (56, .invokevirtual 332, 3), (59, .istore_n 1, 1), (60, .iconst 5, 1), (61, .iconst 3, 1), (62, .aload_n 0, 1), (63, .getfield 7, 3), (66, .iconst 3, 1), (67, .iaload, 1), (68, .imul, 1), (69, .iadd, 1), (70, .istore_n 2, 1), (71, .aload_n 0, 1), (72, .getfield 7, 3), (75, .iload_n 2, 1), (76, .iconst 0, 1), (77, .iadd, 1), (78, .bipush 8, 2), (80, .iload_n 1, 1), (81, .aload_n 0, 1), (82, .getfield 7, 3), (85, .bipush 30, 2), (87, .iaload, 1), (88, .idiv, 1), (89, .imul, 1), (90, .iload_n 1, 1), (91, .aload_n 0, 1), (92, .getfield 7, 3), (95, .bipush 30, 2), (97, .iaload, 1), (98, .irem, 1), (99, .iadd, 1), (100, .iastore, 1), (101, .aload_n 0, 1), (102, .getfield 7, 3), (105, .iload_n 2, 1), (106, .iconst 1, 1), (107, .iadd, 1), (108, .aload_n 0, 1), (109, .getfield 7, 3), (112, .iconst 0, 1), (113, .iaload, 1), (114, .aload_n 0, 1), (115, .getfield 7, 3), (118, .bipush 34, 2), (120, .iaload, 1), (121, .iadd, 1), (122, .iconst 1, 1), (123, .isub, 1), (124, .iastore, 1), (125, .aload_n 0, 1), (126, .getfield 7, 3), (129, .iload_n 2, 1), (130, .iconst 2, 1), (131, .iadd, 1), (132, .aload_n 0, 1), (133, .getfield 7, 3), (136, .iconst 0, 1), (137, .iaload, 1), (138, .iastore, 1), (139, .aload_n 0, 1), (140, .getfield 7, 3), (143, .iconst 3, 1), (144, .dup2, 1), (145, .iaload, 1), (146, .iconst 1, 1), (147, .iadd, 1), (148, .iastore, 1), (149, .iconst 1, 1), (150, .ireturn, 1)]
set_option maxRecDepth 100000 in
theorem D_X12_comesOne : zdecs cX12_comesOne L_X12_comesOne = true := by decide +kernel
noncomputable def f_X12_comesOne (σ : zG) : Option (Int32 × zG) :=
  if (σ.1 1 0 33) = 0 then some ((0 : Int32), σ) else if (σ.1 1 0 3) = (8 : Int32) then some ((0 : Int32), σ) else (f_X12_draw (1000 : Int32) σ).bind (fun q1 => if (q1.2.1 1 0 33) ≤ q1.1 then some ((0 : Int32), q1.2) else (f_X12_draw ((q1.2.1 1 0 30) * (q1.2.1 1 0 31)) q1.2).bind (fun q2 => zg ((q2.2.1 1 0 30) != 0) (zg ((q2.2.1 1 0 30) != 0) (zg (zin (((5 : Int32) + ((3 : Int32) * (q2.2.1 1 0 3))) + (0 : Int32)) 9248) (zb (zwI q2.2 1 0 (((5 : Int32) + ((3 : Int32) * (q2.2.1 1 0 3))) + (0 : Int32)).toNatClampNeg (((8 : Int32) * (q2.1 / (q2.2.1 1 0 30))) + (zrem q2.1 (q2.2.1 1 0 30)))) (fun s3 => zg (zin (((5 : Int32) + ((3 : Int32) * (q2.2.1 1 0 3))) + (1 : Int32)) 9248) (zb (zwI s3 1 0 (((5 : Int32) + ((3 : Int32) * (q2.2.1 1 0 3))) + (1 : Int32)).toNatClampNeg (((s3.1 1 0 0) + (s3.1 1 0 34)) - (1 : Int32))) (fun s4 => zg (zin (((5 : Int32) + ((3 : Int32) * (q2.2.1 1 0 3))) + (2 : Int32)) 9248) (zb (zwI s4 1 0 (((5 : Int32) + ((3 : Int32) * (q2.2.1 1 0 3))) + (2 : Int32)).toNatClampNeg (s4.1 1 0 0)) (fun s5 => zb (zwI s5 1 0 3 ((s5.1 1 0 3) + (1 : Int32))) (fun s6 => some ((1 : Int32), s6))))))))))))
set_option maxRecDepth 100000 in
set_option maxHeartbeats 4000000 in
theorem c_X12_comesOne (l : Launch)  (σ : zG) (q : Int32 × zG) (hq : f_X12_comesOne σ = some q) : zMet l zsyM m_X12_comesOne yX12_comesOne [zR 0 0] σ (some (zI q.1)) q.2 := by
  refine zEnter [(0, zR 0 0)] (by decide) rfl (fun _ => Nat.le_of_ble_eq_true rfl) (fun _ => rfl) (fun w h => ?_) (fun K hv hs => ?_)
  · exact zokm rfl h
  · have hP : ∀ x s, f_X12_comesOne σ = some (x, s) → zKv K = some (zI x) ∧ zKs K = s := fun x s h => by rw [hq] at h; cases h; exact ⟨hv, hs⟩
    have hn : f_X12_comesOne σ ≠ none := fun z => by rw [hq] at z; cases z
    have hf := f_X12_comesOne.eq_1 σ
    refine z_aload_n (pc := 0) 0 (zdg D_X12_comesOne 0 (0, .aload_n 0, 1) rfl) rfl rfl ?_
    refine z_getR (pc := 1) (g := 1) (j := 0) lf_X12_7 rfl rfl rfl (zdg D_X12_comesOne 1 (1, .getfield 7, 3) rfl) ?_
    refine z_bipush (pc := 4) (v := 33) (zdg D_X12_comesOne 2 (4, .bipush 33, 2) rfl) rfl ?_
    refine z_ialdC (pc := 6) (j := 33) rfl (fun _ => rfl) (zdg D_X12_comesOne 3 (6, .iaload, 1) rfl) rfl rfl ?_
    refine z_if_eq (pc := 7) 38 (zdg D_X12_comesOne 4 (7, .ifCond .eq 31, 3) rfl) rfl hf (fun hf => ?_) (fun hf => ?_)
    · refine z_iconst (pc := 38) (v := 0) (zdg D_X12_comesOne 19 (38, .iconst 0, 1) rfl) rfl ?_
      exact z_iret (pc := 39) rfl rfl (zdg D_X12_comesOne 20 (39, .ireturn, 1) rfl) (hP _ _ hf)
    · refine z_aload_n (pc := 10) 0 (zdg D_X12_comesOne 5 (10, .aload_n 0, 1) rfl) rfl rfl ?_
      refine z_getR (pc := 11) (g := 1) (j := 0) lf_X12_7 rfl rfl rfl (zdg D_X12_comesOne 6 (11, .getfield 7, 3) rfl) ?_
      refine z_iconst (pc := 14) (v := 3) (zdg D_X12_comesOne 7 (14, .iconst 3, 1) rfl) rfl ?_
      refine z_ialdC (pc := 15) (j := 3) rfl (fun _ => rfl) (zdg D_X12_comesOne 8 (15, .iaload, 1) rfl) rfl rfl ?_
      refine z_bipush (pc := 16) (v := 8) (zdg D_X12_comesOne 9 (16, .bipush 8, 2) rfl) rfl ?_
      refine z_icmp_eq (pc := 18) 38 (zdg D_X12_comesOne 10 (18, .if_icmp .eq 20, 3) rfl) rfl hf (fun hf => ?_) (fun hf => ?_)
      · refine z_iconst (pc := 38) (v := 0) (zdg D_X12_comesOne 19 (38, .iconst 0, 1) rfl) rfl ?_
        exact z_iret (pc := 39) rfl rfl (zdg D_X12_comesOne 20 (39, .ireturn, 1) rfl) (hP _ _ hf)
      · refine z_aload_n (pc := 21) 0 (zdg D_X12_comesOne 11 (21, .aload_n 0, 1) rfl) rfl rfl ?_
        refine z_sipush (pc := 22) (v := 1000) (zdg D_X12_comesOne 12 (22, .sipush 1000, 3) rfl) rfl ?_
        refine z_bind hn hf (fun q1 hq hf => ?_)
        refine z_callV (pc := 25) (rest := []) (st2 := [zI q1.1]) (fun l => c_X12_draw l (1000 : Int32) σ q1 hq) zv_X12_draw lm_X12_332 rfl rfl rfl rfl rfl rfl (Nat.le_of_ble_eq_true rfl) ⟨Nat.le_of_ble_eq_true rfl, Nat.le_of_ble_eq_true rfl⟩ (zdg D_X12_comesOne 13 (25, .invokevirtual 332, 3) rfl) ?_
        refine z_aload_n (pc := 28) 0 (zdg D_X12_comesOne 14 (28, .aload_n 0, 1) rfl) rfl rfl ?_
        refine z_getR (pc := 29) (g := 1) (j := 0) lf_X12_7 rfl rfl rfl (zdg D_X12_comesOne 15 (29, .getfield 7, 3) rfl) ?_
        refine z_bipush (pc := 32) (v := 33) (zdg D_X12_comesOne 16 (32, .bipush 33, 2) rfl) rfl ?_
        refine z_ialdC (pc := 34) (j := 33) rfl (fun _ => rfl) (zdg D_X12_comesOne 17 (34, .iaload, 1) rfl) rfl rfl ?_
        refine z_icmp_lt (pc := 35) 40 (zdg D_X12_comesOne 18 (35, .if_icmp .lt 5, 3) rfl) rfl hf (fun hf => ?_) (fun hf => ?_)
        · refine z_aload_n (pc := 40) 0 (zdg D_X12_comesOne 21 (40, .aload_n 0, 1) rfl) rfl rfl ?_
          refine z_aload_n (pc := 41) 0 (zdg D_X12_comesOne 22 (41, .aload_n 0, 1) rfl) rfl rfl ?_
          refine z_getR (pc := 42) (g := 1) (j := 0) lf_X12_7 rfl rfl rfl (zdg D_X12_comesOne 23 (42, .getfield 7, 3) rfl) ?_
          refine z_bipush (pc := 45) (v := 30) (zdg D_X12_comesOne 24 (45, .bipush 30, 2) rfl) rfl ?_
          refine z_ialdC (pc := 47) (j := 30) rfl (fun _ => rfl) (zdg D_X12_comesOne 25 (47, .iaload, 1) rfl) rfl rfl ?_
          refine z_aload_n (pc := 48) 0 (zdg D_X12_comesOne 26 (48, .aload_n 0, 1) rfl) rfl rfl ?_
          refine z_getR (pc := 49) (g := 1) (j := 0) lf_X12_7 rfl rfl rfl (zdg D_X12_comesOne 27 (49, .getfield 7, 3) rfl) ?_
          refine z_bipush (pc := 52) (v := 31) (zdg D_X12_comesOne 28 (52, .bipush 31, 2) rfl) rfl ?_
          refine z_ialdC (pc := 54) (j := 31) rfl (fun _ => rfl) (zdg D_X12_comesOne 29 (54, .iaload, 1) rfl) rfl rfl ?_
          refine z_imul (pc := 55) (zdg D_X12_comesOne 30 (55, .imul, 1) rfl) ?_
          refine z_bind hn hf (fun q2 hq hf => ?_)
          refine z_callV (pc := 56) (rest := []) (st2 := [zI q2.1]) (fun l => c_X12_draw l ((q1.2.1 1 0 30) * (q1.2.1 1 0 31)) q1.2 q2 hq) zv_X12_draw lm_X12_332 rfl rfl rfl rfl rfl rfl (Nat.le_of_ble_eq_true rfl) ⟨Nat.le_of_ble_eq_true rfl, Nat.le_of_ble_eq_true rfl⟩ (zdg D_X12_comesOne 31 (56, .invokevirtual 332, 3) rfl) ?_
          refine z_istore_n (pc := 59) (al' := [(1, zI q2.1), (0, zR 0 0)]) (zdg D_X12_comesOne 32 (59, .istore_n 1, 1) rfl) rfl (by decide) rfl ?_
          refine z_iconst (pc := 60) (v := 5) (zdg D_X12_comesOne 33 (60, .iconst 5, 1) rfl) rfl ?_
          refine z_iconst (pc := 61) (v := 3) (zdg D_X12_comesOne 34 (61, .iconst 3, 1) rfl) rfl ?_
          refine z_aload_n (pc := 62) 1 (zdg D_X12_comesOne 35 (62, .aload_n 0, 1) rfl) rfl rfl ?_
          refine z_getR (pc := 63) (g := 1) (j := 0) lf_X12_7 rfl rfl rfl (zdg D_X12_comesOne 36 (63, .getfield 7, 3) rfl) ?_
          refine z_iconst (pc := 66) (v := 3) (zdg D_X12_comesOne 37 (66, .iconst 3, 1) rfl) rfl ?_
          refine z_ialdC (pc := 67) (j := 3) rfl (fun _ => rfl) (zdg D_X12_comesOne 38 (67, .iaload, 1) rfl) rfl rfl ?_
          refine z_imul (pc := 68) (zdg D_X12_comesOne 39 (68, .imul, 1) rfl) ?_
          refine z_iadd (pc := 69) (zdg D_X12_comesOne 40 (69, .iadd, 1) rfl) ?_
          refine z_istore_n (pc := 70) (al' := [(2, zI ((5 : Int32) + ((3 : Int32) * (q2.2.1 1 0 3)))), (1, zI q2.1), (0, zR 0 0)]) (zdg D_X12_comesOne 41 (70, .istore_n 2, 1) rfl) rfl (by decide) rfl ?_
          refine z_aload_n (pc := 71) 2 (zdg D_X12_comesOne 42 (71, .aload_n 0, 1) rfl) rfl rfl ?_
          refine z_getR (pc := 72) (g := 1) (j := 0) lf_X12_7 rfl rfl rfl (zdg D_X12_comesOne 43 (72, .getfield 7, 3) rfl) ?_
          refine z_iload_n (pc := 75) 0 (zdg D_X12_comesOne 44 (75, .iload_n 2, 1) rfl) rfl rfl ?_
          refine z_iconst (pc := 76) (v := 0) (zdg D_X12_comesOne 45 (76, .iconst 0, 1) rfl) rfl ?_
          refine z_iadd (pc := 77) (zdg D_X12_comesOne 46 (77, .iadd, 1) rfl) ?_
          refine z_bipush (pc := 78) (v := 8) (zdg D_X12_comesOne 47 (78, .bipush 8, 2) rfl) rfl ?_
          refine z_iload_n (pc := 80) 1 (zdg D_X12_comesOne 48 (80, .iload_n 1, 1) rfl) rfl rfl ?_
          refine z_aload_n (pc := 81) 2 (zdg D_X12_comesOne 49 (81, .aload_n 0, 1) rfl) rfl rfl ?_
          refine z_getR (pc := 82) (g := 1) (j := 0) lf_X12_7 rfl rfl rfl (zdg D_X12_comesOne 50 (82, .getfield 7, 3) rfl) ?_
          refine z_bipush (pc := 85) (v := 30) (zdg D_X12_comesOne 51 (85, .bipush 30, 2) rfl) rfl ?_
          refine z_ialdC (pc := 87) (j := 30) rfl (fun _ => rfl) (zdg D_X12_comesOne 52 (87, .iaload, 1) rfl) rfl rfl ?_
          refine z_idiv (pc := 88) (zdg D_X12_comesOne 53 (88, .idiv, 1) rfl) hn hf (fun hf => ?_)
          refine z_imul (pc := 89) (zdg D_X12_comesOne 54 (89, .imul, 1) rfl) ?_
          refine z_iload_n (pc := 90) 1 (zdg D_X12_comesOne 55 (90, .iload_n 1, 1) rfl) rfl rfl ?_
          refine z_aload_n (pc := 91) 2 (zdg D_X12_comesOne 56 (91, .aload_n 0, 1) rfl) rfl rfl ?_
          refine z_getR (pc := 92) (g := 1) (j := 0) lf_X12_7 rfl rfl rfl (zdg D_X12_comesOne 57 (92, .getfield 7, 3) rfl) ?_
          refine z_bipush (pc := 95) (v := 30) (zdg D_X12_comesOne 58 (95, .bipush 30, 2) rfl) rfl ?_
          refine z_ialdC (pc := 97) (j := 30) rfl (fun _ => rfl) (zdg D_X12_comesOne 59 (97, .iaload, 1) rfl) rfl rfl ?_
          refine z_irem (pc := 98) (zdg D_X12_comesOne 60 (98, .irem, 1) rfl) hn hf (fun hf => ?_)
          refine z_iadd (pc := 99) (zdg D_X12_comesOne 61 (99, .iadd, 1) rfl) ?_
          refine z_iast (pc := 100) rfl (fun _ => rfl) (zdg D_X12_comesOne 62 (100, .iastore, 1) rfl) hn hf (fun hf => ?_)
          refine z_nmS hf (fun s3 hf => ?_)
          refine z_aload_n (pc := 101) 2 (zdg D_X12_comesOne 63 (101, .aload_n 0, 1) rfl) rfl rfl ?_
          refine z_getR (pc := 102) (g := 1) (j := 0) lf_X12_7 rfl rfl rfl (zdg D_X12_comesOne 64 (102, .getfield 7, 3) rfl) ?_
          refine z_iload_n (pc := 105) 0 (zdg D_X12_comesOne 65 (105, .iload_n 2, 1) rfl) rfl rfl ?_
          refine z_iconst (pc := 106) (v := 1) (zdg D_X12_comesOne 66 (106, .iconst 1, 1) rfl) rfl ?_
          refine z_iadd (pc := 107) (zdg D_X12_comesOne 67 (107, .iadd, 1) rfl) ?_
          refine z_aload_n (pc := 108) 2 (zdg D_X12_comesOne 68 (108, .aload_n 0, 1) rfl) rfl rfl ?_
          refine z_getR (pc := 109) (g := 1) (j := 0) lf_X12_7 rfl rfl rfl (zdg D_X12_comesOne 69 (109, .getfield 7, 3) rfl) ?_
          refine z_iconst (pc := 112) (v := 0) (zdg D_X12_comesOne 70 (112, .iconst 0, 1) rfl) rfl ?_
          refine z_ialdC (pc := 113) (j := 0) rfl (fun _ => rfl) (zdg D_X12_comesOne 71 (113, .iaload, 1) rfl) rfl rfl ?_
          refine z_aload_n (pc := 114) 2 (zdg D_X12_comesOne 72 (114, .aload_n 0, 1) rfl) rfl rfl ?_
          refine z_getR (pc := 115) (g := 1) (j := 0) lf_X12_7 rfl rfl rfl (zdg D_X12_comesOne 73 (115, .getfield 7, 3) rfl) ?_
          refine z_bipush (pc := 118) (v := 34) (zdg D_X12_comesOne 74 (118, .bipush 34, 2) rfl) rfl ?_
          refine z_ialdC (pc := 120) (j := 34) rfl (fun _ => rfl) (zdg D_X12_comesOne 75 (120, .iaload, 1) rfl) rfl rfl ?_
          refine z_iadd (pc := 121) (zdg D_X12_comesOne 76 (121, .iadd, 1) rfl) ?_
          refine z_iconst (pc := 122) (v := 1) (zdg D_X12_comesOne 77 (122, .iconst 1, 1) rfl) rfl ?_
          refine z_isub (pc := 123) (zdg D_X12_comesOne 78 (123, .isub, 1) rfl) ?_
          refine z_iast (pc := 124) rfl (fun _ => rfl) (zdg D_X12_comesOne 79 (124, .iastore, 1) rfl) hn hf (fun hf => ?_)
          refine z_nmS hf (fun s4 hf => ?_)
          refine z_aload_n (pc := 125) 2 (zdg D_X12_comesOne 80 (125, .aload_n 0, 1) rfl) rfl rfl ?_
          refine z_getR (pc := 126) (g := 1) (j := 0) lf_X12_7 rfl rfl rfl (zdg D_X12_comesOne 81 (126, .getfield 7, 3) rfl) ?_
          refine z_iload_n (pc := 129) 0 (zdg D_X12_comesOne 82 (129, .iload_n 2, 1) rfl) rfl rfl ?_
          refine z_iconst (pc := 130) (v := 2) (zdg D_X12_comesOne 83 (130, .iconst 2, 1) rfl) rfl ?_
          refine z_iadd (pc := 131) (zdg D_X12_comesOne 84 (131, .iadd, 1) rfl) ?_
          refine z_aload_n (pc := 132) 2 (zdg D_X12_comesOne 85 (132, .aload_n 0, 1) rfl) rfl rfl ?_
          refine z_getR (pc := 133) (g := 1) (j := 0) lf_X12_7 rfl rfl rfl (zdg D_X12_comesOne 86 (133, .getfield 7, 3) rfl) ?_
          refine z_iconst (pc := 136) (v := 0) (zdg D_X12_comesOne 87 (136, .iconst 0, 1) rfl) rfl ?_
          refine z_ialdC (pc := 137) (j := 0) rfl (fun _ => rfl) (zdg D_X12_comesOne 88 (137, .iaload, 1) rfl) rfl rfl ?_
          refine z_iast (pc := 138) rfl (fun _ => rfl) (zdg D_X12_comesOne 89 (138, .iastore, 1) rfl) hn hf (fun hf => ?_)
          refine z_nmS hf (fun s5 hf => ?_)
          refine z_aload_n (pc := 139) 2 (zdg D_X12_comesOne 90 (139, .aload_n 0, 1) rfl) rfl rfl ?_
          refine z_getR (pc := 140) (g := 1) (j := 0) lf_X12_7 rfl rfl rfl (zdg D_X12_comesOne 91 (140, .getfield 7, 3) rfl) ?_
          refine z_iconst (pc := 143) (v := 3) (zdg D_X12_comesOne 92 (143, .iconst 3, 1) rfl) rfl ?_
          refine z_dup2 (pc := 144) rfl rfl (zdg D_X12_comesOne 93 (144, .dup2, 1) rfl) ?_
          refine z_ialdC (pc := 145) (j := 3) rfl (fun _ => rfl) (zdg D_X12_comesOne 94 (145, .iaload, 1) rfl) rfl rfl ?_
          refine z_iconst (pc := 146) (v := 1) (zdg D_X12_comesOne 95 (146, .iconst 1, 1) rfl) rfl ?_
          refine z_iadd (pc := 147) (zdg D_X12_comesOne 96 (147, .iadd, 1) rfl) ?_
          refine z_iastC (pc := 148) (j := 3) rfl (fun _ => rfl) (zdg D_X12_comesOne 97 (148, .iastore, 1) rfl) rfl rfl ?_
          refine z_nmS hf (fun s6 hf => ?_)
          refine z_iconst (pc := 149) (v := 1) (zdg D_X12_comesOne 98 (149, .iconst 1, 1) rfl) rfl ?_
          exact z_iret (pc := 150) rfl rfl (zdg D_X12_comesOne 99 (150, .ireturn, 1) rfl) (hP _ _ hf)
        · refine z_iconst (pc := 38) (v := 0) (zdg D_X12_comesOne 19 (38, .iconst 0, 1) rfl) rfl ?_
          exact z_iret (pc := 39) rfl rfl (zdg D_X12_comesOne 20 (39, .ireturn, 1) rfl) (hP _ _ hf)

def L_X12_leaveAll : List (Nat × Instr × Nat) := [(0, .iconst 0, 1), (1, .istore_n 1, 1), (2, .iconst 0, 1), (3, .istore_n 2, 1), (4, .iload_n 2, 1), (5, .aload_n 0, 1), (6, .getfield 7, 3), (9, .iconst 3, 1), (10, .iaload, 1), (11, .if_icmp .ge 61, 3), (14, .aload_n 0, 1), (15, .iload_n 2, 1), (16, .iconst 1, 1), (17, .invokevirtual 300, 3), (20, .aload_n 0, 1), (21, .getfield 7, 3), (24, .iconst 0, 1), (25, .iaload, 1), (26, .if_icmp .ge 6, 3), (29, .goto 37, 3), (32, .iconst 0, 1), (33, .istore_n 3, 1), (34, .iload_n 3, 1), (35, .iconst 3, 1), (36, .if_icmp .ge 27, 3), (39, .aload_n 0, 1), (40, .getfield 7, 3), (43, .iconst 5, 1), (44, .iconst 3, 1), (45, .iload_n 1, 1), (46, .imul, 1), (47, .iadd, 1), (48, .iload_n 3, 1), (49, .iadd, 1), (50, .aload_n 0, 1), (51, .iload_n 2, 1), (52, .iload_n 3, 1), (53, .invokevirtual 300, 3), (56, .iastore, 1), (57, .iinc 3 1, 3), (60, .goto (-26), 3), (63, .iinc 1 1, 3), (66, .iinc 2 1, 3), (69, .goto (-65), 3), (72, .aload_n 0, 1), (73, .getfield 7, 3), (76, .iconst 3, 1), (77, .iload_n 1, 1), (78, .iastore, 1), (79, .return_, 1)]
set_option maxRecDepth 100000 in
theorem D_X12_leaveAll : zdecs cX12_leaveAll L_X12_leaveAll = true := by decide +kernel
noncomputable def b_X12_leaveAll_34 (v2_2 : Int32) (v1_1 : Int32) (v3_5 : Int32) (s6 : zG) : Option ((Int32 × zG) ⊕ (zG)) :=
  if v3_5 < (3 : Int32) then (f_X12_ofStranger v2_2 v3_5 s6).bind (fun q7 => zg (zin (((5 : Int32) + ((3 : Int32) * v1_1)) + v3_5) 9248) (zb (zwI s6 1 0 (((5 : Int32) + ((3 : Int32) * v1_1)) + v3_5).toNatClampNeg q7) (fun s8 => some (Sum.inl ((v3_5 + 1), s8))))) else some (Sum.inr s6)
noncomputable def b_X12_leaveAll_4  (v1_1 : Int32) (v2_2 : Int32) (s3 : zG) : Option ((Int32 × Int32 × zG) ⊕ (Int32 × zG)) :=
  if v2_2 < (s3.1 1 0 3) then (f_X12_ofStranger v2_2 (1 : Int32) s3).bind (fun q4 => if q4 < (s3.1 1 0 0) then some (Sum.inl (v1_1, (v2_2 + 1), s3)) else (zlp (fun q : Int32 × zG => b_X12_leaveAll_34 v2_2 v1_1 q.1 q.2) ((0 : Int32), s3)).bind (fun e9 : zG => some (Sum.inl ((v1_1 + 1), (v2_2 + 1), e9)))) else some (Sum.inr (v1_1, s3))
noncomputable def f_X12_leaveAll (σ : zG) : Option (zG) :=
  (zlp (fun q : Int32 × Int32 × zG => b_X12_leaveAll_4 q.1 q.2.1 q.2.2) ((0 : Int32), (0 : Int32), σ)).bind (fun e10 : Int32 × zG => zb (zwI e10.2 1 0 3 e10.1) (fun s11 => some s11))
set_option maxRecDepth 100000 in
set_option maxHeartbeats 4000000 in
theorem c_X12_leaveAll (l : Launch)  (σ : zG) (q : zG) (hq : f_X12_leaveAll σ = some q) : zMet l zsyM m_X12_leaveAll yX12_leaveAll [zR 0 0] σ none q := by
  refine zEnter [(0, zR 0 0)] (by decide) rfl (fun _ => Nat.le_of_ble_eq_true rfl) (fun _ => rfl) (fun w h => ?_) (fun K hv hs => ?_)
  · exact zokm rfl h
  · have hP : ∀ s, f_X12_leaveAll σ = some s → zKv K = none ∧ zKs K = s := fun s h => by rw [hq] at h; cases h; exact ⟨hv, hs⟩
    have hn : f_X12_leaveAll σ ≠ none := fun z => by rw [hq] at z; cases z
    have hf := f_X12_leaveAll.eq_1 σ
    refine z_iconst (pc := 0) (v := 0) (zdg D_X12_leaveAll 0 (0, .iconst 0, 1) rfl) rfl ?_
    refine z_istore_n (pc := 1) (al' := [(1, zI (0 : Int32)), (0, zR 0 0)]) (zdg D_X12_leaveAll 1 (1, .istore_n 1, 1) rfl) rfl (by decide) rfl ?_
    refine z_iconst (pc := 2) (v := 0) (zdg D_X12_leaveAll 2 (2, .iconst 0, 1) rfl) rfl ?_
    refine z_istore_n (pc := 3) (al' := [(2, zI (0 : Int32)), (1, zI (0 : Int32)), (0, zR 0 0)]) (zdg D_X12_leaveAll 3 (3, .istore_n 2, 1) rfl) rfl (by decide) rfl ?_
    refine z_sub (al' := [(0, zR 0 0), (1, zI (0 : Int32)), (2, zI (0 : Int32))]) [2, 1, 0] rfl ?_
    refine z_loop (f := (fun q : Int32 × Int32 × zG => b_X12_leaveAll_4 q.1 q.2.1 q.2.2)) (a := ((0 : Int32), (0 : Int32), σ)) (fun q : Int32 × Int32 × zG => zX zsyM m_X12_leaveAll K 4 [(0, zR 0 0), (1, zI q.1), (2, zI q.2.1)] [] q.2.2) (fun e10 : Int32 × zG => zX zsyM m_X12_leaveAll K 72 [(0, zR 0 0), (1, zI e10.1)] [] e10.2) hn hf ?_ ?_
    · intro e10 hf
      refine z_aload_n (pc := 72) 0 (zdg D_X12_leaveAll 44 (72, .aload_n 0, 1) rfl) rfl rfl ?_
      refine z_getR (pc := 73) (g := 1) (j := 0) lf_X12_7 rfl rfl rfl (zdg D_X12_leaveAll 45 (73, .getfield 7, 3) rfl) ?_
      refine z_iconst (pc := 76) (v := 3) (zdg D_X12_leaveAll 46 (76, .iconst 3, 1) rfl) rfl ?_
      refine z_iload_n (pc := 77) 1 (zdg D_X12_leaveAll 47 (77, .iload_n 1, 1) rfl) rfl rfl ?_
      refine z_iastC (pc := 78) (j := 3) rfl (fun _ => rfl) (zdg D_X12_leaveAll 48 (78, .iastore, 1) rfl) rfl rfl ?_
      refine z_nmS hf (fun s11 hf => ?_)
      exact z_vret (pc := 79) rfl (zdg D_X12_leaveAll 49 (79, .return_, 1) rfl) (hP _ hf)
    · rintro ⟨v1_1, v2_2, s3⟩ hn hi hx
      have hf := b_X12_leaveAll_4.eq_1  v1_1 v2_2 s3
      refine z_iload_n (pc := 4) 2 (zdg D_X12_leaveAll 4 (4, .iload_n 2, 1) rfl) rfl rfl ?_
      refine z_aload_n (pc := 5) 0 (zdg D_X12_leaveAll 5 (5, .aload_n 0, 1) rfl) rfl rfl ?_
      refine z_getR (pc := 6) (g := 1) (j := 0) lf_X12_7 rfl rfl rfl (zdg D_X12_leaveAll 6 (6, .getfield 7, 3) rfl) ?_
      refine z_iconst (pc := 9) (v := 3) (zdg D_X12_leaveAll 7 (9, .iconst 3, 1) rfl) rfl ?_
      refine z_ialdC (pc := 10) (j := 3) rfl (fun _ => rfl) (zdg D_X12_leaveAll 8 (10, .iaload, 1) rfl) rfl rfl ?_
      refine z_icmp_ge (pc := 11) 72 (zdg D_X12_leaveAll 9 (11, .if_icmp .ge 61, 3) rfl) rfl hf (fun hf => ?_) (fun hf => ?_)
      · refine z_sub (al' := [(0, zR 0 0), (1, zI v1_1)]) [0, 1] rfl ?_
        exact hx (v1_1, s3) hf
      · refine z_aload_n (pc := 14) 0 (zdg D_X12_leaveAll 10 (14, .aload_n 0, 1) rfl) rfl rfl ?_
        refine z_iload_n (pc := 15) 2 (zdg D_X12_leaveAll 11 (15, .iload_n 2, 1) rfl) rfl rfl ?_
        refine z_iconst (pc := 16) (v := 1) (zdg D_X12_leaveAll 12 (16, .iconst 1, 1) rfl) rfl ?_
        refine z_bind hn hf (fun q4 hq hf => ?_)
        refine z_callV (pc := 17) (rest := []) (st2 := [zI q4]) (fun l => c_X12_ofStranger l v2_2 (1 : Int32) s3 q4 hq) zv_X12_ofStranger lm_X12_300 rfl rfl rfl rfl rfl rfl (Nat.le_of_ble_eq_true rfl) ⟨Nat.le_of_ble_eq_true rfl, Nat.le_of_ble_eq_true rfl⟩ (zdg D_X12_leaveAll 13 (17, .invokevirtual 300, 3) rfl) ?_
        refine z_aload_n (pc := 20) 0 (zdg D_X12_leaveAll 14 (20, .aload_n 0, 1) rfl) rfl rfl ?_
        refine z_getR (pc := 21) (g := 1) (j := 0) lf_X12_7 rfl rfl rfl (zdg D_X12_leaveAll 15 (21, .getfield 7, 3) rfl) ?_
        refine z_iconst (pc := 24) (v := 0) (zdg D_X12_leaveAll 16 (24, .iconst 0, 1) rfl) rfl ?_
        refine z_ialdC (pc := 25) (j := 0) rfl (fun _ => rfl) (zdg D_X12_leaveAll 17 (25, .iaload, 1) rfl) rfl rfl ?_
        refine z_icmp_ge (pc := 26) 32 (zdg D_X12_leaveAll 18 (26, .if_icmp .ge 6, 3) rfl) rfl hf (fun hf => ?_) (fun hf => ?_)
        · refine z_iconst (pc := 32) (v := 0) (zdg D_X12_leaveAll 20 (32, .iconst 0, 1) rfl) rfl ?_
          refine z_istore_n (pc := 33) (al' := [(3, zI (0 : Int32)), (0, zR 0 0), (1, zI v1_1), (2, zI v2_2)]) (zdg D_X12_leaveAll 21 (33, .istore_n 3, 1) rfl) rfl (by decide) rfl ?_
          refine z_sub (al' := [(0, zR 0 0), (1, zI v1_1), (2, zI v2_2), (3, zI (0 : Int32))]) [1, 2, 3, 0] rfl ?_
          refine z_loop (f := (fun q : Int32 × zG => b_X12_leaveAll_34 v2_2 v1_1 q.1 q.2)) (a := ((0 : Int32), s3)) (fun q : Int32 × zG => zX zsyM m_X12_leaveAll K 34 [(0, zR 0 0), (1, zI v1_1), (2, zI v2_2), (3, zI q.1)] [] q.2) (fun e9 : zG => zX zsyM m_X12_leaveAll K 63 [(0, zR 0 0), (1, zI v1_1), (2, zI v2_2)] [] e9) hn hf ?_ ?_
          · intro e9 hf
            refine z_iinc (pc := 63) (v0 := (v1_1 + 1)) (al' := [(1, zI (v1_1 + 1)), (0, zR 0 0), (2, zI v2_2)]) 1 (zdg D_X12_leaveAll 41 (63, .iinc 1 1, 3) rfl) rfl rfl (by decide) rfl ?_
            refine z_iinc (pc := 66) (v0 := (v2_2 + 1)) (al' := [(2, zI (v2_2 + 1)), (1, zI (v1_1 + 1)), (0, zR 0 0)]) 2 (zdg D_X12_leaveAll 42 (66, .iinc 2 1, 3) rfl) rfl rfl (by decide) rfl ?_
            refine z_goto (pc := 69) 4 (zdg D_X12_leaveAll 43 (69, .goto (-65), 3) rfl) rfl ?_
            refine z_sub (al' := [(0, zR 0 0), (1, zI (v1_1 + 1)), (2, zI (v2_2 + 1))]) [2, 1, 0] rfl ?_
            exact hi ((v1_1 + 1), (v2_2 + 1), e9) hf
          · rintro ⟨v3_5, s6⟩ hn hi hx
            have hf := b_X12_leaveAll_34.eq_1 v2_2 v1_1 v3_5 s6
            refine z_iload_n (pc := 34) 3 (zdg D_X12_leaveAll 22 (34, .iload_n 3, 1) rfl) rfl rfl ?_
            refine z_iconst (pc := 35) (v := 3) (zdg D_X12_leaveAll 23 (35, .iconst 3, 1) rfl) rfl ?_
            refine z_icmp_ge (pc := 36) 63 (zdg D_X12_leaveAll 24 (36, .if_icmp .ge 27, 3) rfl) rfl hf (fun hf => ?_) (fun hf => ?_)
            · refine z_sub (al' := [(0, zR 0 0), (1, zI v1_1), (2, zI v2_2)]) [0, 1, 2] rfl ?_
              exact hx s6 hf
            · refine z_aload_n (pc := 39) 0 (zdg D_X12_leaveAll 25 (39, .aload_n 0, 1) rfl) rfl rfl ?_
              refine z_getR (pc := 40) (g := 1) (j := 0) lf_X12_7 rfl rfl rfl (zdg D_X12_leaveAll 26 (40, .getfield 7, 3) rfl) ?_
              refine z_iconst (pc := 43) (v := 5) (zdg D_X12_leaveAll 27 (43, .iconst 5, 1) rfl) rfl ?_
              refine z_iconst (pc := 44) (v := 3) (zdg D_X12_leaveAll 28 (44, .iconst 3, 1) rfl) rfl ?_
              refine z_iload_n (pc := 45) 1 (zdg D_X12_leaveAll 29 (45, .iload_n 1, 1) rfl) rfl rfl ?_
              refine z_imul (pc := 46) (zdg D_X12_leaveAll 30 (46, .imul, 1) rfl) ?_
              refine z_iadd (pc := 47) (zdg D_X12_leaveAll 31 (47, .iadd, 1) rfl) ?_
              refine z_iload_n (pc := 48) 3 (zdg D_X12_leaveAll 32 (48, .iload_n 3, 1) rfl) rfl rfl ?_
              refine z_iadd (pc := 49) (zdg D_X12_leaveAll 33 (49, .iadd, 1) rfl) ?_
              refine z_aload_n (pc := 50) 0 (zdg D_X12_leaveAll 34 (50, .aload_n 0, 1) rfl) rfl rfl ?_
              refine z_iload_n (pc := 51) 2 (zdg D_X12_leaveAll 35 (51, .iload_n 2, 1) rfl) rfl rfl ?_
              refine z_iload_n (pc := 52) 3 (zdg D_X12_leaveAll 36 (52, .iload_n 3, 1) rfl) rfl rfl ?_
              refine z_bind hn hf (fun q7 hq hf => ?_)
              refine z_callV (pc := 53) (rest := [zI (((5 : Int32) + ((3 : Int32) * v1_1)) + v3_5), zR 1 0]) (st2 := [zI q7, zI (((5 : Int32) + ((3 : Int32) * v1_1)) + v3_5), zR 1 0]) (fun l => c_X12_ofStranger l v2_2 v3_5 s6 q7 hq) zv_X12_ofStranger lm_X12_300 rfl rfl rfl rfl rfl rfl (Nat.le_of_ble_eq_true rfl) ⟨Nat.le_of_ble_eq_true rfl, Nat.le_of_ble_eq_true rfl⟩ (zdg D_X12_leaveAll 37 (53, .invokevirtual 300, 3) rfl) ?_
              refine z_iast (pc := 56) rfl (fun _ => rfl) (zdg D_X12_leaveAll 38 (56, .iastore, 1) rfl) hn hf (fun hf => ?_)
              refine z_nmS hf (fun s8 hf => ?_)
              refine z_iinc (pc := 57) (v0 := (v3_5 + 1)) (al' := [(3, zI (v3_5 + 1)), (0, zR 0 0), (1, zI v1_1), (2, zI v2_2)]) 3 (zdg D_X12_leaveAll 39 (57, .iinc 3 1, 3) rfl) rfl rfl (by decide) rfl ?_
              refine z_goto (pc := 60) 34 (zdg D_X12_leaveAll 40 (60, .goto (-26), 3) rfl) rfl ?_
              refine z_sub (al' := [(0, zR 0 0), (1, zI v1_1), (2, zI v2_2), (3, zI (v3_5 + 1))]) [1, 2, 3, 0] rfl ?_
              exact hi ((v3_5 + 1), s8) hf
        · refine z_goto (pc := 29) 66 (zdg D_X12_leaveAll 19 (29, .goto 37, 3) rfl) rfl ?_
          refine z_iinc (pc := 66) (v0 := (v2_2 + 1)) (al' := [(2, zI (v2_2 + 1)), (0, zR 0 0), (1, zI v1_1)]) 2 (zdg D_X12_leaveAll 42 (66, .iinc 2 1, 3) rfl) rfl rfl (by decide) rfl ?_
          refine z_goto (pc := 69) 4 (zdg D_X12_leaveAll 43 (69, .goto (-65), 3) rfl) rfl ?_
          refine z_sub (al' := [(0, zR 0 0), (1, zI v1_1), (2, zI (v2_2 + 1))]) [1, 2, 0] rfl ?_
          exact hi (v1_1, (v2_2 + 1), s3) hf

def L_X12_minutes : List (Nat × Instr × Nat) := [(0, .iload_n 1, 1), (1, .iconst 1, 1), (2, .bipush 100, 2), (4, .invokestatic 64, 3), (7, .ifCond .eq 17, 3), (10, .aload_n 0, 1), (11, .getfield 7, 3), (14, .iconst 0, 1), (15, .iaload, 1), (16, .iload_n 1, 1), (17, .iadd, 1), (18, .sipush 500, 3), (21, .if_icmp .le 5, 3), (24, .iconst (-1), 1), (25, .ireturn, 1), (26, .iconst 0, 1), (27, .istore_n 2, 1), (28, .iconst 0, 1), (29, .istore_n 3, 1), (30, .iload_n 3, 1), (31, .iload_n 1, 1), (32, .if_icmp .ge 42, 3), (35, .aload_n 0, 1), (36, .invokevirtual 329, 3), (39, .iload_n 2, 1), (40, .aload_n 0, 1), (41, .invokevirtual 335, 3), (44, .ifCond .eq 7, 3), (47, .iconst 1, 1), (48, .goto 4, 3), (51, .iconst 0, 1), (52, .iadd, 1), (53, .istore_n 2, 1), (54, .aload_n 0, 1), (55, .getfield 7, 3), (58, .iconst 0, 1), (59, .dup2, 1), (60, .iaload, 1), (61, .iconst 1, 1), (62, .iadd, 1), (63, .iastore, 1), (64, .aload_n 0, 1), (65, .invokevirtual 338, 3), (68, .iinc 3 1, 3), (71, .goto (-41), 3), (74, .iload_n 2, 1), (75, .ireturn, 1)]
set_option maxRecDepth 100000 in
theorem D_X12_minutes : zdecs cX12_minutes L_X12_minutes = true := by decide +kernel
noncomputable def j_X12_minutes_52_30 (w3_6 : Int32) (t7 : Int32) (t8 : Int32) (s9 : zG) : Option ((Int32 × Int32 × zG) ⊕ (Int32 × zG)) :=
  zb (zwI s9 1 0 0 ((s9.1 1 0 0) + (1 : Int32))) (fun s10 => (f_X12_leaveAll s10).bind (fun q11 => some (Sum.inl ((t8 + t7), (w3_6 + 1), q11))))
noncomputable def b_X12_minutes_30 (p1 : Int32) (v2_1 : Int32) (v3_2 : Int32) (s3 : zG) : Option ((Int32 × Int32 × zG) ⊕ (Int32 × zG)) :=
  if v3_2 < p1 then (f_X12_keeps s3).bind (fun q4 => (f_X12_comesOne q4).bind (fun q5 => if q5.1 = 0 then j_X12_minutes_52_30 v3_2 (0 : Int32) v2_1 q5.2 else j_X12_minutes_52_30 v3_2 (1 : Int32) v2_1 q5.2)) else some (Sum.inr (v2_1, s3))
noncomputable def f_X12_minutes (p1 : Int32) (σ : zG) : Option (Int32 × zG) :=
  if (f_X12_isIn p1 (1 : Int32) (100 : Int32)) = 0 then some ((-1 : Int32), σ) else if (500 : Int32) < ((σ.1 1 0 0) + p1) then some ((-1 : Int32), σ) else (zlp (fun q : Int32 × Int32 × zG => b_X12_minutes_30 p1 q.1 q.2.1 q.2.2) ((0 : Int32), (0 : Int32), σ)).bind (fun e12 : Int32 × zG => some (e12.1, e12.2))
set_option maxRecDepth 100000 in
set_option maxHeartbeats 4000000 in
theorem c_X12_minutes (l : Launch) (p1 : Int32) (σ : zG) (q : Int32 × zG) (hq : f_X12_minutes p1 σ = some q) : zMet l zsyM m_X12_minutes yX12_minutes [zR 0 0, zI p1] σ (some (zI q.1)) q.2 := by
  refine zEnter [(0, zR 0 0), (1, zI p1)] (by decide) rfl (fun _ => Nat.le_of_ble_eq_true rfl) (fun _ => rfl) (fun w h => ?_) (fun K hv hs => ?_)
  · exact zokm rfl h
  · have hP : ∀ x s, f_X12_minutes p1 σ = some (x, s) → zKv K = some (zI x) ∧ zKs K = s := fun x s h => by rw [hq] at h; cases h; exact ⟨hv, hs⟩
    have hn : f_X12_minutes p1 σ ≠ none := fun z => by rw [hq] at z; cases z
    have hf := f_X12_minutes.eq_1 p1 σ
    refine z_iload_n (pc := 0) 1 (zdg D_X12_minutes 0 (0, .iload_n 1, 1) rfl) rfl rfl ?_
    refine z_iconst (pc := 1) (v := 1) (zdg D_X12_minutes 1 (1, .iconst 1, 1) rfl) rfl ?_
    refine z_bipush (pc := 2) (v := 100) (zdg D_X12_minutes 2 (2, .bipush 100, 2) rfl) rfl ?_
    refine z_callS (pc := 4) (rest := []) (st2 := [zI (f_X12_isIn p1 (1 : Int32) (100 : Int32))]) (fun l => c_X12_isIn l p1 (1 : Int32) (100 : Int32) σ) zs_X12_isIn lm_X12_64 rfl rfl rfl (Nat.le_of_ble_eq_true rfl) ⟨Nat.le_of_ble_eq_true rfl, Nat.le_of_ble_eq_true rfl⟩ (zdg D_X12_minutes 3 (4, .invokestatic 64, 3) rfl) ?_
    refine z_if_eq (pc := 7) 24 (zdg D_X12_minutes 4 (7, .ifCond .eq 17, 3) rfl) rfl hf (fun hf => ?_) (fun hf => ?_)
    · refine z_iconst (pc := 24) (v := -1) (zdg D_X12_minutes 13 (24, .iconst (-1), 1) rfl) rfl ?_
      exact z_iret (pc := 25) rfl rfl (zdg D_X12_minutes 14 (25, .ireturn, 1) rfl) (hP _ _ hf)
    · refine z_aload_n (pc := 10) 0 (zdg D_X12_minutes 5 (10, .aload_n 0, 1) rfl) rfl rfl ?_
      refine z_getR (pc := 11) (g := 1) (j := 0) lf_X12_7 rfl rfl rfl (zdg D_X12_minutes 6 (11, .getfield 7, 3) rfl) ?_
      refine z_iconst (pc := 14) (v := 0) (zdg D_X12_minutes 7 (14, .iconst 0, 1) rfl) rfl ?_
      refine z_ialdC (pc := 15) (j := 0) rfl (fun _ => rfl) (zdg D_X12_minutes 8 (15, .iaload, 1) rfl) rfl rfl ?_
      refine z_iload_n (pc := 16) 1 (zdg D_X12_minutes 9 (16, .iload_n 1, 1) rfl) rfl rfl ?_
      refine z_iadd (pc := 17) (zdg D_X12_minutes 10 (17, .iadd, 1) rfl) ?_
      refine z_sipush (pc := 18) (v := 500) (zdg D_X12_minutes 11 (18, .sipush 500, 3) rfl) rfl ?_
      refine z_icmp_le (pc := 21) 26 (zdg D_X12_minutes 12 (21, .if_icmp .le 5, 3) rfl) rfl hf (fun hf => ?_) (fun hf => ?_)
      · refine z_iconst (pc := 26) (v := 0) (zdg D_X12_minutes 15 (26, .iconst 0, 1) rfl) rfl ?_
        refine z_istore_n (pc := 27) (al' := [(2, zI (0 : Int32)), (0, zR 0 0), (1, zI p1)]) (zdg D_X12_minutes 16 (27, .istore_n 2, 1) rfl) rfl (by decide) rfl ?_
        refine z_iconst (pc := 28) (v := 0) (zdg D_X12_minutes 17 (28, .iconst 0, 1) rfl) rfl ?_
        refine z_istore_n (pc := 29) (al' := [(3, zI (0 : Int32)), (2, zI (0 : Int32)), (0, zR 0 0), (1, zI p1)]) (zdg D_X12_minutes 18 (29, .istore_n 3, 1) rfl) rfl (by decide) rfl ?_
        refine z_sub (al' := [(0, zR 0 0), (1, zI p1), (2, zI (0 : Int32)), (3, zI (0 : Int32))]) [2, 3, 1, 0] rfl ?_
        refine z_loop (f := (fun q : Int32 × Int32 × zG => b_X12_minutes_30 p1 q.1 q.2.1 q.2.2)) (a := ((0 : Int32), (0 : Int32), σ)) (fun q : Int32 × Int32 × zG => zX zsyM m_X12_minutes K 30 [(0, zR 0 0), (1, zI p1), (2, zI q.1), (3, zI q.2.1)] [] q.2.2) (fun e12 : Int32 × zG => zX zsyM m_X12_minutes K 74 [(2, zI e12.1)] [] e12.2) hn hf ?_ ?_
        · intro e12 hf
          refine z_iload_n (pc := 74) 0 (zdg D_X12_minutes 45 (74, .iload_n 2, 1) rfl) rfl rfl ?_
          exact z_iret (pc := 75) rfl rfl (zdg D_X12_minutes 46 (75, .ireturn, 1) rfl) (hP _ _ hf)
        · rintro ⟨v2_1, v3_2, s3⟩ hn hi hx
          have hf := b_X12_minutes_30.eq_1 p1 v2_1 v3_2 s3
          have t_52 : ∀ (w3_6 : Int32) (t7 : Int32) (t8 : Int32) (s9 : zG), b_X12_minutes_30 p1 v2_1 v3_2 s3 = j_X12_minutes_52_30 w3_6 t7 t8 s9 → zX zsyM m_X12_minutes K 52 [(0, zR 0 0), (1, zI p1), (3, zI w3_6)] [zI t7, zI t8] s9 := by
            intro w3_6 t7 t8 s9 hf
            replace hf := hf.trans (j_X12_minutes_52_30.eq_1 w3_6 t7 t8 s9)
            refine z_iadd (pc := 52) (zdg D_X12_minutes 31 (52, .iadd, 1) rfl) ?_
            refine z_istore_n (pc := 53) (al' := [(2, zI (t8 + t7)), (0, zR 0 0), (1, zI p1), (3, zI w3_6)]) (zdg D_X12_minutes 32 (53, .istore_n 2, 1) rfl) rfl (by decide) rfl ?_
            refine z_aload_n (pc := 54) 1 (zdg D_X12_minutes 33 (54, .aload_n 0, 1) rfl) rfl rfl ?_
            refine z_getR (pc := 55) (g := 1) (j := 0) lf_X12_7 rfl rfl rfl (zdg D_X12_minutes 34 (55, .getfield 7, 3) rfl) ?_
            refine z_iconst (pc := 58) (v := 0) (zdg D_X12_minutes 35 (58, .iconst 0, 1) rfl) rfl ?_
            refine z_dup2 (pc := 59) rfl rfl (zdg D_X12_minutes 36 (59, .dup2, 1) rfl) ?_
            refine z_ialdC (pc := 60) (j := 0) rfl (fun _ => rfl) (zdg D_X12_minutes 37 (60, .iaload, 1) rfl) rfl rfl ?_
            refine z_iconst (pc := 61) (v := 1) (zdg D_X12_minutes 38 (61, .iconst 1, 1) rfl) rfl ?_
            refine z_iadd (pc := 62) (zdg D_X12_minutes 39 (62, .iadd, 1) rfl) ?_
            refine z_iastC (pc := 63) (j := 0) rfl (fun _ => rfl) (zdg D_X12_minutes 40 (63, .iastore, 1) rfl) rfl rfl ?_
            refine z_nmS hf (fun s10 hf => ?_)
            refine z_aload_n (pc := 64) 1 (zdg D_X12_minutes 41 (64, .aload_n 0, 1) rfl) rfl rfl ?_
            refine z_bind hn hf (fun q11 hq hf => ?_)
            refine z_callV (pc := 65) (rest := []) (st2 := []) (fun l => c_X12_leaveAll l s10 q11 hq) zv_X12_leaveAll lm_X12_338 rfl rfl rfl rfl rfl rfl (Nat.le_of_ble_eq_true rfl) ⟨Nat.le_of_ble_eq_true rfl, Nat.le_of_ble_eq_true rfl⟩ (zdg D_X12_minutes 42 (65, .invokevirtual 338, 3) rfl) ?_
            refine z_iinc (pc := 68) (v0 := (w3_6 + 1)) (al' := [(3, zI (w3_6 + 1)), (2, zI (t8 + t7)), (0, zR 0 0), (1, zI p1)]) 3 (zdg D_X12_minutes 43 (68, .iinc 3 1, 3) rfl) rfl rfl (by decide) rfl ?_
            refine z_goto (pc := 71) 30 (zdg D_X12_minutes 44 (71, .goto (-41), 3) rfl) rfl ?_
            refine z_sub (al' := [(0, zR 0 0), (1, zI p1), (2, zI (t8 + t7)), (3, zI (w3_6 + 1))]) [2, 3, 1, 0] rfl ?_
            exact hi ((t8 + t7), (w3_6 + 1), q11) hf
          refine z_iload_n (pc := 30) 3 (zdg D_X12_minutes 19 (30, .iload_n 3, 1) rfl) rfl rfl ?_
          refine z_iload_n (pc := 31) 1 (zdg D_X12_minutes 20 (31, .iload_n 1, 1) rfl) rfl rfl ?_
          refine z_icmp_ge (pc := 32) 74 (zdg D_X12_minutes 21 (32, .if_icmp .ge 42, 3) rfl) rfl hf (fun hf => ?_) (fun hf => ?_)
          · refine z_sub (al' := [(2, zI v2_1)]) [2] rfl ?_
            exact hx (v2_1, s3) hf
          · refine z_aload_n (pc := 35) 0 (zdg D_X12_minutes 22 (35, .aload_n 0, 1) rfl) rfl rfl ?_
            refine z_bind hn hf (fun q4 hq hf => ?_)
            refine z_callV (pc := 36) (rest := []) (st2 := []) (fun l => c_X12_keeps l s3 q4 hq) zv_X12_keeps lm_X12_329 rfl rfl rfl rfl rfl rfl (Nat.le_of_ble_eq_true rfl) ⟨Nat.le_of_ble_eq_true rfl, Nat.le_of_ble_eq_true rfl⟩ (zdg D_X12_minutes 23 (36, .invokevirtual 329, 3) rfl) ?_
            refine z_iload_n (pc := 39) 2 (zdg D_X12_minutes 24 (39, .iload_n 2, 1) rfl) rfl rfl ?_
            refine z_aload_n (pc := 40) 0 (zdg D_X12_minutes 25 (40, .aload_n 0, 1) rfl) rfl rfl ?_
            refine z_bind hn hf (fun q5 hq hf => ?_)
            refine z_callV (pc := 41) (rest := [zI v2_1]) (st2 := [zI q5.1, zI v2_1]) (fun l => c_X12_comesOne l q4 q5 hq) zv_X12_comesOne lm_X12_335 rfl rfl rfl rfl rfl rfl (Nat.le_of_ble_eq_true rfl) ⟨Nat.le_of_ble_eq_true rfl, Nat.le_of_ble_eq_true rfl⟩ (zdg D_X12_minutes 26 (41, .invokevirtual 335, 3) rfl) ?_
            refine z_if_eq (pc := 44) 51 (zdg D_X12_minutes 27 (44, .ifCond .eq 7, 3) rfl) rfl hf (fun hf => ?_) (fun hf => ?_)
            · refine z_iconst (pc := 51) (v := 0) (zdg D_X12_minutes 30 (51, .iconst 0, 1) rfl) rfl ?_
              refine z_sub (al' := [(0, zR 0 0), (1, zI p1), (3, zI v3_2)]) [0, 1, 3] rfl ?_
              exact t_52 v3_2 (0 : Int32) v2_1 q5.2 hf
            · refine z_iconst (pc := 47) (v := 1) (zdg D_X12_minutes 28 (47, .iconst 1, 1) rfl) rfl ?_
              refine z_goto (pc := 48) 52 (zdg D_X12_minutes 29 (48, .goto 4, 3) rfl) rfl ?_
              refine z_sub (al' := [(0, zR 0 0), (1, zI p1), (3, zI v3_2)]) [0, 1, 3] rfl ?_
              exact t_52 v3_2 (1 : Int32) v2_1 q5.2 hf
      · refine z_iconst (pc := 24) (v := -1) (zdg D_X12_minutes 13 (24, .iconst (-1), 1) rfl) rfl ?_
        exact z_iret (pc := 25) rfl rfl (zdg D_X12_minutes 14 (25, .ireturn, 1) rfl) (hP _ _ hf)

def L_X12_shoot : List (Nat × Instr × Nat) := [(0, .aload_n 0, 1), (1, .getfield 7, 3), (4, .iconst 4, 1), (5, .iaload, 1), (6, .bipush 10, 2), (8, .if_icmp .ne 5, 3), (11, .iconst (-1), 1), (12, .ireturn, 1), (13, .aload_n 0, 1), (14, .invokevirtual 329, 3), (17, .sipush 152, 3), (20, .sipush 134, 3), (23, .aload_n 0, 1), (24, .getfield 7, 3), (27, .iconst 4, 1), (28, .iaload, 1), (29, .imul, 1), (30, .iadd, 1), (31, .istore_n 1, 1), (32, .aload_n 0, 1), (33, .getfield 7, 3), (36, .iload_n 1, 1), (37, .iconst 0, 1), (38, .iadd, 1), (39, .aload_n 0, 1), (40, .getfield 7, 3), (43, .iconst 0, 1), (44, .iaload, 1), (45, .iastore, 1), (46, .aload_n 0, 1), (47, .getfield 7, 3), (50, .iload_n 1, 1), (51, .iconst 1, 1), (52, .iadd, 1), (53, .aload_n 0, 1), (54, .getfield 7, 3), (57, .iconst 1, 1), (58, .iaload, 1), (59, .iastore, 1), (60, .aload_n 0, 1), (61, .getfield 7, 3), (64, .iload_n 1, 1), (65, .iconst 2, 1), (66, .iadd, 1), (67, .aload_n 0, 1), (68, .getfield 7, 3), (71, .bipush 32, 2), (73, .iaload, 1), (74, .iastore, 1), (75, .iconst 0, 1), (76, .istore_n 2, 1), (77, .iload_n 2, 1), (78, .bipush 64, 2), (80, .if_icmp .ge 77, 3), (83, .aload_n 0, 1), (84, .getfield 7, 3), (87, .iload_n 1, 1), (88, .iconst 4, 1), (89, .iadd, 1), (90, .iload_n 2, 1), (91, .iadd, 1), (92, .aload_n 0, 1), (93, .iload_n 2, 1), (94, .invokevirtual 320, 3), (97, .ifCond .eq 17, 3), (100, .aload_n 0, 1), (101, .iload_n 2, 1), (102, .aload_n 0, 1), (103, .getfield 7, 3), (106, .iconst 0, 1), (107, .iaload, 1), (108, .invokevirtual 309, 3), (111, .goto 5, 3), (114, .bipush (-2), 2), (116, .iastore, 1), (117, .aload_n 0, 1), (118, .getfield 7, 3), (121, .iload_n 1, 1), (122, .bipush 68, 2), (124, .iadd, 1), (125, .iload_n 2, 1), (126, .iadd, 1), (127, .aload_n 0, 1), (128, .iload_n 2, 1), (129, .invokevirtual 320, 3), (132, .ifCond .eq 17, 3), (135, .aload_n 0, 1), (136, .iload_n 2, 1), (137, .aload_n 0, 1), (138, .getfield 7, 3), (141, .iconst 0, 1), (142, .iaload, 1), (143, .invokevirtual 341, 3), (146, .goto 4, 3), (149, .iconst 0, 1), (150, .iastore, 1), (151, .iinc 2 1, 3), (154, .goto (-77), 3), (157, .aload_n 0, 1), (158, .getfield 7, 3), (161, .iconst 4, 1), (162, .dup2, 1), (163, .iaload, 1), (164, .iconst 1, 1), (165, .iadd, 1), (166, .iastore, 1), (167, .aload_n 0, 1), (168, .getfield 7, 3), (171, .iconst 4, 1), (172, .iaload, 1), (173, .iconst 1, 1), (174, .isub, 1), (175, .ireturn, 1)]
set_option maxRecDepth 100000 in
theorem D_X12_shoot : zdecs cX12_shoot L_X12_shoot = true := by decide +kernel
noncomputable def j_X12_shoot_116_77 (q1 : zG) (w2_8 : Int32) (t9 : Int32) (t10 : Int32) (t11 : Nat) (s12 : zG) : Option ((Int32 × zG) ⊕ (zG)) :=
  zg (zin t10 9248) (zb (zwI s12 1 t11 t10.toNatClampNeg t9) (fun s13 => (f_X12_isInView w2_8 s13).bind (fun q14 => if q14 = 0 then zg (zin ((((152 : Int32) + ((134 : Int32) * (q1.1 1 0 4))) + (68 : Int32)) + w2_8) 9248) (zb (zwI s13 1 0 ((((152 : Int32) + ((134 : Int32) * (q1.1 1 0 4))) + (68 : Int32)) + w2_8).toNatClampNeg (0 : Int32)) (fun s15 => some (Sum.inl ((w2_8 + 1), s15)))) else (f_X12_toneOf w2_8 (s13.1 1 0 0) s13).bind (fun q16 => zg (zin ((((152 : Int32) + ((134 : Int32) * (q1.1 1 0 4))) + (68 : Int32)) + w2_8) 9248) (zb (zwI q16.2 1 0 ((((152 : Int32) + ((134 : Int32) * (q1.1 1 0 4))) + (68 : Int32)) + w2_8).toNatClampNeg q16.1) (fun s17 => some (Sum.inl ((w2_8 + 1), s17))))))))
noncomputable def b_X12_shoot_77 (q1 : zG) (v2_5 : Int32) (s6 : zG) : Option ((Int32 × zG) ⊕ (zG)) :=
  if v2_5 < (64 : Int32) then (f_X12_isInView v2_5 s6).bind (fun q7 => if q7 = 0 then j_X12_shoot_116_77 q1 v2_5 (-2 : Int32) ((((152 : Int32) + ((134 : Int32) * (q1.1 1 0 4))) + (4 : Int32)) + v2_5) 0 s6 else (f_X12_whoIs v2_5 (s6.1 1 0 0) s6).bind (fun q18 => j_X12_shoot_116_77 q1 v2_5 q18 ((((152 : Int32) + ((134 : Int32) * (q1.1 1 0 4))) + (4 : Int32)) + v2_5) 0 s6)) else some (Sum.inr s6)
noncomputable def f_X12_shoot (σ : zG) : Option (Int32 × zG) :=
  if (σ.1 1 0 4) = (10 : Int32) then some ((-1 : Int32), σ) else (f_X12_keeps σ).bind (fun q1 => zg (zin (((152 : Int32) + ((134 : Int32) * (q1.1 1 0 4))) + (0 : Int32)) 9248) (zb (zwI q1 1 0 (((152 : Int32) + ((134 : Int32) * (q1.1 1 0 4))) + (0 : Int32)).toNatClampNeg (q1.1 1 0 0)) (fun s2 => zg (zin (((152 : Int32) + ((134 : Int32) * (q1.1 1 0 4))) + (1 : Int32)) 9248) (zb (zwI s2 1 0 (((152 : Int32) + ((134 : Int32) * (q1.1 1 0 4))) + (1 : Int32)).toNatClampNeg (s2.1 1 0 1)) (fun s3 => zg (zin (((152 : Int32) + ((134 : Int32) * (q1.1 1 0 4))) + (2 : Int32)) 9248) (zb (zwI s3 1 0 (((152 : Int32) + ((134 : Int32) * (q1.1 1 0 4))) + (2 : Int32)).toNatClampNeg (s3.1 1 0 32)) (fun s4 => (zlp (fun q : Int32 × zG => b_X12_shoot_77 q1 q.1 q.2) ((0 : Int32), s4)).bind (fun e19 : zG => zb (zwI e19 1 0 4 ((e19.1 1 0 4) + (1 : Int32))) (fun s20 => some (((s20.1 1 0 4) - (1 : Int32)), s20))))))))))
set_option maxRecDepth 100000 in
set_option maxHeartbeats 4000000 in
theorem c_X12_shoot (l : Launch)  (σ : zG) (q : Int32 × zG) (hq : f_X12_shoot σ = some q) : zMet l zsyM m_X12_shoot yX12_shoot [zR 0 0] σ (some (zI q.1)) q.2 := by
  refine zEnter [(0, zR 0 0)] (by decide) rfl (fun _ => Nat.le_of_ble_eq_true rfl) (fun _ => rfl) (fun w h => ?_) (fun K hv hs => ?_)
  · exact zokm rfl h
  · have hP : ∀ x s, f_X12_shoot σ = some (x, s) → zKv K = some (zI x) ∧ zKs K = s := fun x s h => by rw [hq] at h; cases h; exact ⟨hv, hs⟩
    have hn : f_X12_shoot σ ≠ none := fun z => by rw [hq] at z; cases z
    have hf := f_X12_shoot.eq_1 σ
    refine z_aload_n (pc := 0) 0 (zdg D_X12_shoot 0 (0, .aload_n 0, 1) rfl) rfl rfl ?_
    refine z_getR (pc := 1) (g := 1) (j := 0) lf_X12_7 rfl rfl rfl (zdg D_X12_shoot 1 (1, .getfield 7, 3) rfl) ?_
    refine z_iconst (pc := 4) (v := 4) (zdg D_X12_shoot 2 (4, .iconst 4, 1) rfl) rfl ?_
    refine z_ialdC (pc := 5) (j := 4) rfl (fun _ => rfl) (zdg D_X12_shoot 3 (5, .iaload, 1) rfl) rfl rfl ?_
    refine z_bipush (pc := 6) (v := 10) (zdg D_X12_shoot 4 (6, .bipush 10, 2) rfl) rfl ?_
    refine z_icmp_ne (pc := 8) 13 (zdg D_X12_shoot 5 (8, .if_icmp .ne 5, 3) rfl) rfl hf (fun hf => ?_) (fun hf => ?_)
    · refine z_aload_n (pc := 13) 0 (zdg D_X12_shoot 8 (13, .aload_n 0, 1) rfl) rfl rfl ?_
      refine z_bind hn hf (fun q1 hq hf => ?_)
      refine z_callV (pc := 14) (rest := []) (st2 := []) (fun l => c_X12_keeps l σ q1 hq) zv_X12_keeps lm_X12_329 rfl rfl rfl rfl rfl rfl (Nat.le_of_ble_eq_true rfl) ⟨Nat.le_of_ble_eq_true rfl, Nat.le_of_ble_eq_true rfl⟩ (zdg D_X12_shoot 9 (14, .invokevirtual 329, 3) rfl) ?_
      refine z_sipush (pc := 17) (v := 152) (zdg D_X12_shoot 10 (17, .sipush 152, 3) rfl) rfl ?_
      refine z_sipush (pc := 20) (v := 134) (zdg D_X12_shoot 11 (20, .sipush 134, 3) rfl) rfl ?_
      refine z_aload_n (pc := 23) 0 (zdg D_X12_shoot 12 (23, .aload_n 0, 1) rfl) rfl rfl ?_
      refine z_getR (pc := 24) (g := 1) (j := 0) lf_X12_7 rfl rfl rfl (zdg D_X12_shoot 13 (24, .getfield 7, 3) rfl) ?_
      refine z_iconst (pc := 27) (v := 4) (zdg D_X12_shoot 14 (27, .iconst 4, 1) rfl) rfl ?_
      refine z_ialdC (pc := 28) (j := 4) rfl (fun _ => rfl) (zdg D_X12_shoot 15 (28, .iaload, 1) rfl) rfl rfl ?_
      refine z_imul (pc := 29) (zdg D_X12_shoot 16 (29, .imul, 1) rfl) ?_
      refine z_iadd (pc := 30) (zdg D_X12_shoot 17 (30, .iadd, 1) rfl) ?_
      refine z_istore_n (pc := 31) (al' := [(1, zI ((152 : Int32) + ((134 : Int32) * (q1.1 1 0 4)))), (0, zR 0 0)]) (zdg D_X12_shoot 18 (31, .istore_n 1, 1) rfl) rfl (by decide) rfl ?_
      refine z_aload_n (pc := 32) 1 (zdg D_X12_shoot 19 (32, .aload_n 0, 1) rfl) rfl rfl ?_
      refine z_getR (pc := 33) (g := 1) (j := 0) lf_X12_7 rfl rfl rfl (zdg D_X12_shoot 20 (33, .getfield 7, 3) rfl) ?_
      refine z_iload_n (pc := 36) 0 (zdg D_X12_shoot 21 (36, .iload_n 1, 1) rfl) rfl rfl ?_
      refine z_iconst (pc := 37) (v := 0) (zdg D_X12_shoot 22 (37, .iconst 0, 1) rfl) rfl ?_
      refine z_iadd (pc := 38) (zdg D_X12_shoot 23 (38, .iadd, 1) rfl) ?_
      refine z_aload_n (pc := 39) 1 (zdg D_X12_shoot 24 (39, .aload_n 0, 1) rfl) rfl rfl ?_
      refine z_getR (pc := 40) (g := 1) (j := 0) lf_X12_7 rfl rfl rfl (zdg D_X12_shoot 25 (40, .getfield 7, 3) rfl) ?_
      refine z_iconst (pc := 43) (v := 0) (zdg D_X12_shoot 26 (43, .iconst 0, 1) rfl) rfl ?_
      refine z_ialdC (pc := 44) (j := 0) rfl (fun _ => rfl) (zdg D_X12_shoot 27 (44, .iaload, 1) rfl) rfl rfl ?_
      refine z_iast (pc := 45) rfl (fun _ => rfl) (zdg D_X12_shoot 28 (45, .iastore, 1) rfl) hn hf (fun hf => ?_)
      refine z_nmS hf (fun s2 hf => ?_)
      refine z_aload_n (pc := 46) 1 (zdg D_X12_shoot 29 (46, .aload_n 0, 1) rfl) rfl rfl ?_
      refine z_getR (pc := 47) (g := 1) (j := 0) lf_X12_7 rfl rfl rfl (zdg D_X12_shoot 30 (47, .getfield 7, 3) rfl) ?_
      refine z_iload_n (pc := 50) 0 (zdg D_X12_shoot 31 (50, .iload_n 1, 1) rfl) rfl rfl ?_
      refine z_iconst (pc := 51) (v := 1) (zdg D_X12_shoot 32 (51, .iconst 1, 1) rfl) rfl ?_
      refine z_iadd (pc := 52) (zdg D_X12_shoot 33 (52, .iadd, 1) rfl) ?_
      refine z_aload_n (pc := 53) 1 (zdg D_X12_shoot 34 (53, .aload_n 0, 1) rfl) rfl rfl ?_
      refine z_getR (pc := 54) (g := 1) (j := 0) lf_X12_7 rfl rfl rfl (zdg D_X12_shoot 35 (54, .getfield 7, 3) rfl) ?_
      refine z_iconst (pc := 57) (v := 1) (zdg D_X12_shoot 36 (57, .iconst 1, 1) rfl) rfl ?_
      refine z_ialdC (pc := 58) (j := 1) rfl (fun _ => rfl) (zdg D_X12_shoot 37 (58, .iaload, 1) rfl) rfl rfl ?_
      refine z_iast (pc := 59) rfl (fun _ => rfl) (zdg D_X12_shoot 38 (59, .iastore, 1) rfl) hn hf (fun hf => ?_)
      refine z_nmS hf (fun s3 hf => ?_)
      refine z_aload_n (pc := 60) 1 (zdg D_X12_shoot 39 (60, .aload_n 0, 1) rfl) rfl rfl ?_
      refine z_getR (pc := 61) (g := 1) (j := 0) lf_X12_7 rfl rfl rfl (zdg D_X12_shoot 40 (61, .getfield 7, 3) rfl) ?_
      refine z_iload_n (pc := 64) 0 (zdg D_X12_shoot 41 (64, .iload_n 1, 1) rfl) rfl rfl ?_
      refine z_iconst (pc := 65) (v := 2) (zdg D_X12_shoot 42 (65, .iconst 2, 1) rfl) rfl ?_
      refine z_iadd (pc := 66) (zdg D_X12_shoot 43 (66, .iadd, 1) rfl) ?_
      refine z_aload_n (pc := 67) 1 (zdg D_X12_shoot 44 (67, .aload_n 0, 1) rfl) rfl rfl ?_
      refine z_getR (pc := 68) (g := 1) (j := 0) lf_X12_7 rfl rfl rfl (zdg D_X12_shoot 45 (68, .getfield 7, 3) rfl) ?_
      refine z_bipush (pc := 71) (v := 32) (zdg D_X12_shoot 46 (71, .bipush 32, 2) rfl) rfl ?_
      refine z_ialdC (pc := 73) (j := 32) rfl (fun _ => rfl) (zdg D_X12_shoot 47 (73, .iaload, 1) rfl) rfl rfl ?_
      refine z_iast (pc := 74) rfl (fun _ => rfl) (zdg D_X12_shoot 48 (74, .iastore, 1) rfl) hn hf (fun hf => ?_)
      refine z_nmS hf (fun s4 hf => ?_)
      refine z_iconst (pc := 75) (v := 0) (zdg D_X12_shoot 49 (75, .iconst 0, 1) rfl) rfl ?_
      refine z_istore_n (pc := 76) (al' := [(2, zI (0 : Int32)), (1, zI ((152 : Int32) + ((134 : Int32) * (q1.1 1 0 4)))), (0, zR 0 0)]) (zdg D_X12_shoot 50 (76, .istore_n 2, 1) rfl) rfl (by decide) rfl ?_
      refine z_sub (al' := [(0, zR 0 0), (1, zI ((152 : Int32) + ((134 : Int32) * (q1.1 1 0 4)))), (2, zI (0 : Int32))]) [2, 1, 0] rfl ?_
      refine z_loop (f := (fun q : Int32 × zG => b_X12_shoot_77 q1 q.1 q.2)) (a := ((0 : Int32), s4)) (fun q : Int32 × zG => zX zsyM m_X12_shoot K 77 [(0, zR 0 0), (1, zI ((152 : Int32) + ((134 : Int32) * (q1.1 1 0 4)))), (2, zI q.1)] [] q.2) (fun e19 : zG => zX zsyM m_X12_shoot K 157 [(0, zR 0 0)] [] e19) hn hf ?_ ?_
      · intro e19 hf
        refine z_aload_n (pc := 157) 0 (zdg D_X12_shoot 98 (157, .aload_n 0, 1) rfl) rfl rfl ?_
        refine z_getR (pc := 158) (g := 1) (j := 0) lf_X12_7 rfl rfl rfl (zdg D_X12_shoot 99 (158, .getfield 7, 3) rfl) ?_
        refine z_iconst (pc := 161) (v := 4) (zdg D_X12_shoot 100 (161, .iconst 4, 1) rfl) rfl ?_
        refine z_dup2 (pc := 162) rfl rfl (zdg D_X12_shoot 101 (162, .dup2, 1) rfl) ?_
        refine z_ialdC (pc := 163) (j := 4) rfl (fun _ => rfl) (zdg D_X12_shoot 102 (163, .iaload, 1) rfl) rfl rfl ?_
        refine z_iconst (pc := 164) (v := 1) (zdg D_X12_shoot 103 (164, .iconst 1, 1) rfl) rfl ?_
        refine z_iadd (pc := 165) (zdg D_X12_shoot 104 (165, .iadd, 1) rfl) ?_
        refine z_iastC (pc := 166) (j := 4) rfl (fun _ => rfl) (zdg D_X12_shoot 105 (166, .iastore, 1) rfl) rfl rfl ?_
        refine z_nmS hf (fun s20 hf => ?_)
        refine z_aload_n (pc := 167) 0 (zdg D_X12_shoot 106 (167, .aload_n 0, 1) rfl) rfl rfl ?_
        refine z_getR (pc := 168) (g := 1) (j := 0) lf_X12_7 rfl rfl rfl (zdg D_X12_shoot 107 (168, .getfield 7, 3) rfl) ?_
        refine z_iconst (pc := 171) (v := 4) (zdg D_X12_shoot 108 (171, .iconst 4, 1) rfl) rfl ?_
        refine z_ialdC (pc := 172) (j := 4) rfl (fun _ => rfl) (zdg D_X12_shoot 109 (172, .iaload, 1) rfl) rfl rfl ?_
        refine z_iconst (pc := 173) (v := 1) (zdg D_X12_shoot 110 (173, .iconst 1, 1) rfl) rfl ?_
        refine z_isub (pc := 174) (zdg D_X12_shoot 111 (174, .isub, 1) rfl) ?_
        exact z_iret (pc := 175) rfl rfl (zdg D_X12_shoot 112 (175, .ireturn, 1) rfl) (hP _ _ hf)
      · rintro ⟨v2_5, s6⟩ hn hi hx
        have hf := b_X12_shoot_77.eq_1 q1 v2_5 s6
        have t_116 : ∀ (w2_8 : Int32) (t9 : Int32) (t10 : Int32) (t11 : Nat) (s12 : zG), b_X12_shoot_77 q1 v2_5 s6 = j_X12_shoot_116_77 q1 w2_8 t9 t10 t11 s12 → zX zsyM m_X12_shoot K 116 [(0, zR 0 0), (1, zI ((152 : Int32) + ((134 : Int32) * (q1.1 1 0 4)))), (2, zI w2_8)] [zI t9, zI t10, zR 1 t11] s12 := by
          intro w2_8 t9 t10 t11 s12 hf
          replace hf := hf.trans (j_X12_shoot_116_77.eq_1 q1 w2_8 t9 t10 t11 s12)
          refine z_iast (pc := 116) rfl (fun _ => rfl) (zdg D_X12_shoot 74 (116, .iastore, 1) rfl) hn hf (fun hf => ?_)
          refine z_nmS hf (fun s13 hf => ?_)
          refine z_aload_n (pc := 117) 0 (zdg D_X12_shoot 75 (117, .aload_n 0, 1) rfl) rfl rfl ?_
          refine z_getR (pc := 118) (g := 1) (j := 0) lf_X12_7 rfl rfl rfl (zdg D_X12_shoot 76 (118, .getfield 7, 3) rfl) ?_
          refine z_iload_n (pc := 121) 1 (zdg D_X12_shoot 77 (121, .iload_n 1, 1) rfl) rfl rfl ?_
          refine z_bipush (pc := 122) (v := 68) (zdg D_X12_shoot 78 (122, .bipush 68, 2) rfl) rfl ?_
          refine z_iadd (pc := 124) (zdg D_X12_shoot 79 (124, .iadd, 1) rfl) ?_
          refine z_iload_n (pc := 125) 2 (zdg D_X12_shoot 80 (125, .iload_n 2, 1) rfl) rfl rfl ?_
          refine z_iadd (pc := 126) (zdg D_X12_shoot 81 (126, .iadd, 1) rfl) ?_
          refine z_aload_n (pc := 127) 0 (zdg D_X12_shoot 82 (127, .aload_n 0, 1) rfl) rfl rfl ?_
          refine z_iload_n (pc := 128) 2 (zdg D_X12_shoot 83 (128, .iload_n 2, 1) rfl) rfl rfl ?_
          refine z_bind hn hf (fun q14 hq hf => ?_)
          refine z_callV (pc := 129) (rest := [zI ((((152 : Int32) + ((134 : Int32) * (q1.1 1 0 4))) + (68 : Int32)) + w2_8), zR 1 0]) (st2 := [zI q14, zI ((((152 : Int32) + ((134 : Int32) * (q1.1 1 0 4))) + (68 : Int32)) + w2_8), zR 1 0]) (fun l => c_X12_isInView l w2_8 s13 q14 hq) zv_X12_isInView lm_X12_320 rfl rfl rfl rfl rfl rfl (Nat.le_of_ble_eq_true rfl) ⟨Nat.le_of_ble_eq_true rfl, Nat.le_of_ble_eq_true rfl⟩ (zdg D_X12_shoot 84 (129, .invokevirtual 320, 3) rfl) ?_
          refine z_if_eq (pc := 132) 149 (zdg D_X12_shoot 85 (132, .ifCond .eq 17, 3) rfl) rfl hf (fun hf => ?_) (fun hf => ?_)
          · refine z_iconst (pc := 149) (v := 0) (zdg D_X12_shoot 94 (149, .iconst 0, 1) rfl) rfl ?_
            refine z_iast (pc := 150) rfl (fun _ => rfl) (zdg D_X12_shoot 95 (150, .iastore, 1) rfl) hn hf (fun hf => ?_)
            refine z_nmS hf (fun s15 hf => ?_)
            refine z_iinc (pc := 151) (v0 := (w2_8 + 1)) (al' := [(2, zI (w2_8 + 1)), (0, zR 0 0), (1, zI ((152 : Int32) + ((134 : Int32) * (q1.1 1 0 4))))]) 2 (zdg D_X12_shoot 96 (151, .iinc 2 1, 3) rfl) rfl rfl (by decide) rfl ?_
            refine z_goto (pc := 154) 77 (zdg D_X12_shoot 97 (154, .goto (-77), 3) rfl) rfl ?_
            refine z_sub (al' := [(0, zR 0 0), (1, zI ((152 : Int32) + ((134 : Int32) * (q1.1 1 0 4)))), (2, zI (w2_8 + 1))]) [1, 2, 0] rfl ?_
            exact hi ((w2_8 + 1), s15) hf
          · refine z_aload_n (pc := 135) 0 (zdg D_X12_shoot 86 (135, .aload_n 0, 1) rfl) rfl rfl ?_
            refine z_iload_n (pc := 136) 2 (zdg D_X12_shoot 87 (136, .iload_n 2, 1) rfl) rfl rfl ?_
            refine z_aload_n (pc := 137) 0 (zdg D_X12_shoot 88 (137, .aload_n 0, 1) rfl) rfl rfl ?_
            refine z_getR (pc := 138) (g := 1) (j := 0) lf_X12_7 rfl rfl rfl (zdg D_X12_shoot 89 (138, .getfield 7, 3) rfl) ?_
            refine z_iconst (pc := 141) (v := 0) (zdg D_X12_shoot 90 (141, .iconst 0, 1) rfl) rfl ?_
            refine z_ialdC (pc := 142) (j := 0) rfl (fun _ => rfl) (zdg D_X12_shoot 91 (142, .iaload, 1) rfl) rfl rfl ?_
            refine z_bind hn hf (fun q16 hq hf => ?_)
            refine z_callV (pc := 143) (rest := [zI ((((152 : Int32) + ((134 : Int32) * (q1.1 1 0 4))) + (68 : Int32)) + w2_8), zR 1 0]) (st2 := [zI q16.1, zI ((((152 : Int32) + ((134 : Int32) * (q1.1 1 0 4))) + (68 : Int32)) + w2_8), zR 1 0]) (fun l => c_X12_toneOf l w2_8 (s13.1 1 0 0) s13 q16 hq) zv_X12_toneOf lm_X12_341 rfl rfl rfl rfl rfl rfl (Nat.le_of_ble_eq_true rfl) ⟨Nat.le_of_ble_eq_true rfl, Nat.le_of_ble_eq_true rfl⟩ (zdg D_X12_shoot 92 (143, .invokevirtual 341, 3) rfl) ?_
            refine z_goto (pc := 146) 150 (zdg D_X12_shoot 93 (146, .goto 4, 3) rfl) rfl ?_
            refine z_iast (pc := 150) rfl (fun _ => rfl) (zdg D_X12_shoot 95 (150, .iastore, 1) rfl) hn hf (fun hf => ?_)
            refine z_nmS hf (fun s17 hf => ?_)
            refine z_iinc (pc := 151) (v0 := (w2_8 + 1)) (al' := [(2, zI (w2_8 + 1)), (0, zR 0 0), (1, zI ((152 : Int32) + ((134 : Int32) * (q1.1 1 0 4))))]) 2 (zdg D_X12_shoot 96 (151, .iinc 2 1, 3) rfl) rfl rfl (by decide) rfl ?_
            refine z_goto (pc := 154) 77 (zdg D_X12_shoot 97 (154, .goto (-77), 3) rfl) rfl ?_
            refine z_sub (al' := [(0, zR 0 0), (1, zI ((152 : Int32) + ((134 : Int32) * (q1.1 1 0 4)))), (2, zI (w2_8 + 1))]) [1, 2, 0] rfl ?_
            exact hi ((w2_8 + 1), s17) hf
        refine z_iload_n (pc := 77) 2 (zdg D_X12_shoot 51 (77, .iload_n 2, 1) rfl) rfl rfl ?_
        refine z_bipush (pc := 78) (v := 64) (zdg D_X12_shoot 52 (78, .bipush 64, 2) rfl) rfl ?_
        refine z_icmp_ge (pc := 80) 157 (zdg D_X12_shoot 53 (80, .if_icmp .ge 77, 3) rfl) rfl hf (fun hf => ?_) (fun hf => ?_)
        · refine z_sub (al' := [(0, zR 0 0)]) [0] rfl ?_
          exact hx s6 hf
        · refine z_aload_n (pc := 83) 0 (zdg D_X12_shoot 54 (83, .aload_n 0, 1) rfl) rfl rfl ?_
          refine z_getR (pc := 84) (g := 1) (j := 0) lf_X12_7 rfl rfl rfl (zdg D_X12_shoot 55 (84, .getfield 7, 3) rfl) ?_
          refine z_iload_n (pc := 87) 1 (zdg D_X12_shoot 56 (87, .iload_n 1, 1) rfl) rfl rfl ?_
          refine z_iconst (pc := 88) (v := 4) (zdg D_X12_shoot 57 (88, .iconst 4, 1) rfl) rfl ?_
          refine z_iadd (pc := 89) (zdg D_X12_shoot 58 (89, .iadd, 1) rfl) ?_
          refine z_iload_n (pc := 90) 2 (zdg D_X12_shoot 59 (90, .iload_n 2, 1) rfl) rfl rfl ?_
          refine z_iadd (pc := 91) (zdg D_X12_shoot 60 (91, .iadd, 1) rfl) ?_
          refine z_aload_n (pc := 92) 0 (zdg D_X12_shoot 61 (92, .aload_n 0, 1) rfl) rfl rfl ?_
          refine z_iload_n (pc := 93) 2 (zdg D_X12_shoot 62 (93, .iload_n 2, 1) rfl) rfl rfl ?_
          refine z_bind hn hf (fun q7 hq hf => ?_)
          refine z_callV (pc := 94) (rest := [zI ((((152 : Int32) + ((134 : Int32) * (q1.1 1 0 4))) + (4 : Int32)) + v2_5), zR 1 0]) (st2 := [zI q7, zI ((((152 : Int32) + ((134 : Int32) * (q1.1 1 0 4))) + (4 : Int32)) + v2_5), zR 1 0]) (fun l => c_X12_isInView l v2_5 s6 q7 hq) zv_X12_isInView lm_X12_320 rfl rfl rfl rfl rfl rfl (Nat.le_of_ble_eq_true rfl) ⟨Nat.le_of_ble_eq_true rfl, Nat.le_of_ble_eq_true rfl⟩ (zdg D_X12_shoot 63 (94, .invokevirtual 320, 3) rfl) ?_
          refine z_if_eq (pc := 97) 114 (zdg D_X12_shoot 64 (97, .ifCond .eq 17, 3) rfl) rfl hf (fun hf => ?_) (fun hf => ?_)
          · refine z_bipush (pc := 114) (v := -2) (zdg D_X12_shoot 73 (114, .bipush (-2), 2) rfl) rfl ?_
            exact t_116 v2_5 (-2 : Int32) ((((152 : Int32) + ((134 : Int32) * (q1.1 1 0 4))) + (4 : Int32)) + v2_5) 0 s6 hf
          · refine z_aload_n (pc := 100) 0 (zdg D_X12_shoot 65 (100, .aload_n 0, 1) rfl) rfl rfl ?_
            refine z_iload_n (pc := 101) 2 (zdg D_X12_shoot 66 (101, .iload_n 2, 1) rfl) rfl rfl ?_
            refine z_aload_n (pc := 102) 0 (zdg D_X12_shoot 67 (102, .aload_n 0, 1) rfl) rfl rfl ?_
            refine z_getR (pc := 103) (g := 1) (j := 0) lf_X12_7 rfl rfl rfl (zdg D_X12_shoot 68 (103, .getfield 7, 3) rfl) ?_
            refine z_iconst (pc := 106) (v := 0) (zdg D_X12_shoot 69 (106, .iconst 0, 1) rfl) rfl ?_
            refine z_ialdC (pc := 107) (j := 0) rfl (fun _ => rfl) (zdg D_X12_shoot 70 (107, .iaload, 1) rfl) rfl rfl ?_
            refine z_bind hn hf (fun q18 hq hf => ?_)
            refine z_callV (pc := 108) (rest := [zI ((((152 : Int32) + ((134 : Int32) * (q1.1 1 0 4))) + (4 : Int32)) + v2_5), zR 1 0]) (st2 := [zI q18, zI ((((152 : Int32) + ((134 : Int32) * (q1.1 1 0 4))) + (4 : Int32)) + v2_5), zR 1 0]) (fun l => c_X12_whoIs l v2_5 (s6.1 1 0 0) s6 q18 hq) zv_X12_whoIs lm_X12_309 rfl rfl rfl rfl rfl rfl (Nat.le_of_ble_eq_true rfl) ⟨Nat.le_of_ble_eq_true rfl, Nat.le_of_ble_eq_true rfl⟩ (zdg D_X12_shoot 71 (108, .invokevirtual 309, 3) rfl) ?_
            refine z_goto (pc := 111) 116 (zdg D_X12_shoot 72 (111, .goto 5, 3) rfl) rfl ?_
            exact t_116 v2_5 q18 ((((152 : Int32) + ((134 : Int32) * (q1.1 1 0 4))) + (4 : Int32)) + v2_5) 0 s6 hf
    · refine z_iconst (pc := 11) (v := -1) (zdg D_X12_shoot 6 (11, .iconst (-1), 1) rfl) rfl ?_
      exact z_iret (pc := 12) rfl rfl (zdg D_X12_shoot 7 (12, .ireturn, 1) rfl) (hP _ _ hf)

def L_X12_thereMany : List (Nat × Instr × Nat) := [(0, .iconst 0, 1), (1, .istore_n 2, 1), (2, .iconst 0, 1), (3, .istore_n 3, 1), (4, .iload_n 3, 1), (5, .sipush 501, 3), (8, .if_icmp .ge 27, 3), (11, .iload_n 2, 1), (12, .aload_n 0, 1), (13, .iload_n 1, 1), (14, .iload_n 3, 1), (15, .invokevirtual 303, 3), (18, .iconst (-1), 1), (19, .if_icmp .ne 7, 3), (22, .iconst 0, 1), (23, .goto 4, 3), (26, .iconst 1, 1), (27, .iadd, 1), (28, .istore_n 2, 1), (29, .iinc 3 1, 3), (32, .goto (-28), 3), (35, .iload_n 2, 1), (36, .ireturn, 1)]
set_option maxRecDepth 100000 in
theorem D_X12_thereMany : zdecs cX12_thereMany L_X12_thereMany = true := by decide +kernel
noncomputable def b_X12_thereMany_4 (p1 : Int32) (σ : zG) (v2_1 : Int32) (v3_2 : Int32) : Option ((Int32 × Int32) ⊕ (Int32)) :=
  if v3_2 < (501 : Int32) then (f_X12_placeOf p1 v3_2 σ).bind (fun q3 => if q3 = (-1 : Int32) then some (Sum.inl ((v2_1 + (0 : Int32)), (v3_2 + 1))) else some (Sum.inl ((v2_1 + (1 : Int32)), (v3_2 + 1)))) else some (Sum.inr v2_1)
noncomputable def f_X12_thereMany (p1 : Int32) (σ : zG) : Option (Int32) :=
  (zlp (fun q : Int32 × Int32 => b_X12_thereMany_4 p1 σ q.1 q.2) ((0 : Int32), (0 : Int32))).bind (fun e4 : Int32 => some e4)
set_option maxRecDepth 100000 in
set_option maxHeartbeats 4000000 in
theorem c_X12_thereMany (l : Launch) (p1 : Int32) (σ : zG) (q : Int32) (hq : f_X12_thereMany p1 σ = some q) : zMet l zsyM m_X12_thereMany yX12_thereMany [zR 0 0, zI p1] σ (some (zI q)) σ := by
  refine zEnter [(0, zR 0 0), (1, zI p1)] (by decide) rfl (fun _ => Nat.le_of_ble_eq_true rfl) (fun _ => rfl) (fun w h => ?_) (fun K hv hs => ?_)
  · exact zokm rfl h
  · have hP : ∀ x, f_X12_thereMany p1 σ = some x → zKv K = some (zI x) ∧ zKs K = σ := fun x h => by rw [hq] at h; cases h; exact ⟨hv, hs⟩
    have hn : f_X12_thereMany p1 σ ≠ none := fun z => by rw [hq] at z; cases z
    have hf := f_X12_thereMany.eq_1 p1 σ
    refine z_iconst (pc := 0) (v := 0) (zdg D_X12_thereMany 0 (0, .iconst 0, 1) rfl) rfl ?_
    refine z_istore_n (pc := 1) (al' := [(2, zI (0 : Int32)), (0, zR 0 0), (1, zI p1)]) (zdg D_X12_thereMany 1 (1, .istore_n 2, 1) rfl) rfl (by decide) rfl ?_
    refine z_iconst (pc := 2) (v := 0) (zdg D_X12_thereMany 2 (2, .iconst 0, 1) rfl) rfl ?_
    refine z_istore_n (pc := 3) (al' := [(3, zI (0 : Int32)), (2, zI (0 : Int32)), (0, zR 0 0), (1, zI p1)]) (zdg D_X12_thereMany 3 (3, .istore_n 3, 1) rfl) rfl (by decide) rfl ?_
    refine z_sub (al' := [(0, zR 0 0), (1, zI p1), (2, zI (0 : Int32)), (3, zI (0 : Int32))]) [2, 3, 1, 0] rfl ?_
    refine z_loop (f := (fun q : Int32 × Int32 => b_X12_thereMany_4 p1 σ q.1 q.2)) (a := ((0 : Int32), (0 : Int32))) (fun q : Int32 × Int32 => zX zsyM m_X12_thereMany K 4 [(0, zR 0 0), (1, zI p1), (2, zI q.1), (3, zI q.2)] [] σ) (fun e4 : Int32 => zX zsyM m_X12_thereMany K 35 [(2, zI e4)] [] σ) hn hf ?_ ?_
    · intro e4 hf
      refine z_iload_n (pc := 35) 0 (zdg D_X12_thereMany 21 (35, .iload_n 2, 1) rfl) rfl rfl ?_
      exact z_iret (pc := 36) rfl rfl (zdg D_X12_thereMany 22 (36, .ireturn, 1) rfl) (hP _ hf)
    · rintro ⟨v2_1, v3_2⟩ hn hi hx
      have hf := b_X12_thereMany_4.eq_1 p1 σ v2_1 v3_2
      refine z_iload_n (pc := 4) 3 (zdg D_X12_thereMany 4 (4, .iload_n 3, 1) rfl) rfl rfl ?_
      refine z_sipush (pc := 5) (v := 501) (zdg D_X12_thereMany 5 (5, .sipush 501, 3) rfl) rfl ?_
      refine z_icmp_ge (pc := 8) 35 (zdg D_X12_thereMany 6 (8, .if_icmp .ge 27, 3) rfl) rfl hf (fun hf => ?_) (fun hf => ?_)
      · refine z_sub (al' := [(2, zI v2_1)]) [2] rfl ?_
        exact hx v2_1 hf
      · refine z_iload_n (pc := 11) 2 (zdg D_X12_thereMany 7 (11, .iload_n 2, 1) rfl) rfl rfl ?_
        refine z_aload_n (pc := 12) 0 (zdg D_X12_thereMany 8 (12, .aload_n 0, 1) rfl) rfl rfl ?_
        refine z_iload_n (pc := 13) 1 (zdg D_X12_thereMany 9 (13, .iload_n 1, 1) rfl) rfl rfl ?_
        refine z_iload_n (pc := 14) 3 (zdg D_X12_thereMany 10 (14, .iload_n 3, 1) rfl) rfl rfl ?_
        refine z_bind hn hf (fun q3 hq hf => ?_)
        refine z_callV (pc := 15) (rest := [zI v2_1]) (st2 := [zI q3, zI v2_1]) (fun l => c_X12_placeOf l p1 v3_2 σ q3 hq) zv_X12_placeOf lm_X12_303 rfl rfl rfl rfl rfl rfl (Nat.le_of_ble_eq_true rfl) ⟨Nat.le_of_ble_eq_true rfl, Nat.le_of_ble_eq_true rfl⟩ (zdg D_X12_thereMany 11 (15, .invokevirtual 303, 3) rfl) ?_
        refine z_iconst (pc := 18) (v := -1) (zdg D_X12_thereMany 12 (18, .iconst (-1), 1) rfl) rfl ?_
        refine z_icmp_ne (pc := 19) 26 (zdg D_X12_thereMany 13 (19, .if_icmp .ne 7, 3) rfl) rfl hf (fun hf => ?_) (fun hf => ?_)
        · refine z_iconst (pc := 26) (v := 1) (zdg D_X12_thereMany 16 (26, .iconst 1, 1) rfl) rfl ?_
          refine z_iadd (pc := 27) (zdg D_X12_thereMany 17 (27, .iadd, 1) rfl) ?_
          refine z_istore_n (pc := 28) (al' := [(2, zI (v2_1 + (1 : Int32))), (0, zR 0 0), (1, zI p1), (3, zI v3_2)]) (zdg D_X12_thereMany 18 (28, .istore_n 2, 1) rfl) rfl (by decide) rfl ?_
          refine z_iinc (pc := 29) (v0 := (v3_2 + 1)) (al' := [(3, zI (v3_2 + 1)), (2, zI (v2_1 + (1 : Int32))), (0, zR 0 0), (1, zI p1)]) 3 (zdg D_X12_thereMany 19 (29, .iinc 3 1, 3) rfl) rfl rfl (by decide) rfl ?_
          refine z_goto (pc := 32) 4 (zdg D_X12_thereMany 20 (32, .goto (-28), 3) rfl) rfl ?_
          refine z_sub (al' := [(0, zR 0 0), (1, zI p1), (2, zI (v2_1 + (1 : Int32))), (3, zI (v3_2 + 1))]) [2, 3, 1, 0] rfl ?_
          exact hi ((v2_1 + (1 : Int32)), (v3_2 + 1)) hf
        · refine z_iconst (pc := 22) (v := 0) (zdg D_X12_thereMany 14 (22, .iconst 0, 1) rfl) rfl ?_
          refine z_goto (pc := 23) 27 (zdg D_X12_thereMany 15 (23, .goto 4, 3) rfl) rfl ?_
          refine z_iadd (pc := 27) (zdg D_X12_thereMany 17 (27, .iadd, 1) rfl) ?_
          refine z_istore_n (pc := 28) (al' := [(2, zI (v2_1 + (0 : Int32))), (0, zR 0 0), (1, zI p1), (3, zI v3_2)]) (zdg D_X12_thereMany 18 (28, .istore_n 2, 1) rfl) rfl (by decide) rfl ?_
          refine z_iinc (pc := 29) (v0 := (v3_2 + 1)) (al' := [(3, zI (v3_2 + 1)), (2, zI (v2_1 + (0 : Int32))), (0, zR 0 0), (1, zI p1)]) 3 (zdg D_X12_thereMany 19 (29, .iinc 3 1, 3) rfl) rfl rfl (by decide) rfl ?_
          refine z_goto (pc := 32) 4 (zdg D_X12_thereMany 20 (32, .goto (-28), 3) rfl) rfl ?_
          refine z_sub (al' := [(0, zR 0 0), (1, zI p1), (2, zI (v2_1 + (0 : Int32))), (3, zI (v3_2 + 1))]) [2, 3, 1, 0] rfl ?_
          exact hi ((v2_1 + (0 : Int32)), (v3_2 + 1)) hf

def L_X12_of : List (Nat × Instr × Nat) := [(0, .aload_n 0, 1), (1, .iload_n 1, 1), (2, .invokevirtual 344, 3), (5, .ifCond .ne 6, 3), (8, .bipush (-2), 2), (10, .ireturn, 1), (11, .iload_n 2, 1), (12, .iconst 0, 1), (13, .iconst 2, 1), (14, .invokestatic 64, 3), (17, .ifCond .eq 10, 3), (20, .aload_n 0, 1), (21, .iload_n 1, 1), (22, .iload_n 2, 1), (23, .invokevirtual 314, 3), (26, .ireturn, 1), (27, .iload_n 2, 1), (28, .iconst 3, 1), (29, .if_icmp .ne 11, 3), (32, .aload_n 0, 1), (33, .iload_n 1, 1), (34, .invokevirtual 347, 3), (37, .goto 24, 3), (40, .iload_n 2, 1), (41, .iconst 4, 1), (42, .if_icmp .ne 17, 3), (45, .aload_n 0, 1), (46, .iload_n 1, 1), (47, .aload_n 0, 1), (48, .getfield 7, 3), (51, .iconst 0, 1), (52, .iaload, 1), (53, .invokevirtual 303, 3), (56, .goto 5, 3), (59, .bipush (-2), 2), (61, .ireturn, 1)]
set_option maxRecDepth 100000 in
theorem D_X12_of : zdecs cX12_of L_X12_of = true := by decide +kernel
noncomputable def f_X12_of (p1 : Int32) (p2 : Int32) (σ : zG) : Option (Int32) :=
  (f_X12_isWalker p1 σ).bind (fun q1 => if q1 = 0 then some (-2 : Int32) else if (f_X12_isIn p2 (0 : Int32) (2 : Int32)) = 0 then if p2 = (3 : Int32) then (f_X12_thereMany p1 σ).bind (fun q3 => some q3) else if p2 = (4 : Int32) then (f_X12_placeOf p1 (σ.1 1 0 0) σ).bind (fun q2 => some q2) else some (-2 : Int32) else (f_X12_ofWalker p1 p2 σ).bind (fun q4 => some q4))
set_option maxRecDepth 100000 in
set_option maxHeartbeats 4000000 in
theorem c_X12_of (l : Launch) (p1 : Int32) (p2 : Int32) (σ : zG) (q : Int32) (hq : f_X12_of p1 p2 σ = some q) : zMet l zsyM m_X12_of yX12_of [zR 0 0, zI p1, zI p2] σ (some (zI q)) σ := by
  refine zEnter [(0, zR 0 0), (1, zI p1), (2, zI p2)] (by decide) rfl (fun _ => Nat.le_of_ble_eq_true rfl) (fun _ => rfl) (fun w h => ?_) (fun K hv hs => ?_)
  · exact zokm rfl h
  · have hP : ∀ x, f_X12_of p1 p2 σ = some x → zKv K = some (zI x) ∧ zKs K = σ := fun x h => by rw [hq] at h; cases h; exact ⟨hv, hs⟩
    have hn : f_X12_of p1 p2 σ ≠ none := fun z => by rw [hq] at z; cases z
    have hf := f_X12_of.eq_1 p1 p2 σ
    refine z_aload_n (pc := 0) 0 (zdg D_X12_of 0 (0, .aload_n 0, 1) rfl) rfl rfl ?_
    refine z_iload_n (pc := 1) 1 (zdg D_X12_of 1 (1, .iload_n 1, 1) rfl) rfl rfl ?_
    refine z_bind hn hf (fun q1 hq hf => ?_)
    refine z_callV (pc := 2) (rest := []) (st2 := [zI q1]) (fun l => c_X12_isWalker l p1 σ q1 hq) zv_X12_isWalker lm_X12_344 rfl rfl rfl rfl rfl rfl (Nat.le_of_ble_eq_true rfl) ⟨Nat.le_of_ble_eq_true rfl, Nat.le_of_ble_eq_true rfl⟩ (zdg D_X12_of 2 (2, .invokevirtual 344, 3) rfl) ?_
    refine z_if_ne (pc := 5) 11 (zdg D_X12_of 3 (5, .ifCond .ne 6, 3) rfl) rfl hf (fun hf => ?_) (fun hf => ?_)
    · refine z_iload_n (pc := 11) 2 (zdg D_X12_of 6 (11, .iload_n 2, 1) rfl) rfl rfl ?_
      refine z_iconst (pc := 12) (v := 0) (zdg D_X12_of 7 (12, .iconst 0, 1) rfl) rfl ?_
      refine z_iconst (pc := 13) (v := 2) (zdg D_X12_of 8 (13, .iconst 2, 1) rfl) rfl ?_
      refine z_callS (pc := 14) (rest := []) (st2 := [zI (f_X12_isIn p2 (0 : Int32) (2 : Int32))]) (fun l => c_X12_isIn l p2 (0 : Int32) (2 : Int32) σ) zs_X12_isIn lm_X12_64 rfl rfl rfl (Nat.le_of_ble_eq_true rfl) ⟨Nat.le_of_ble_eq_true rfl, Nat.le_of_ble_eq_true rfl⟩ (zdg D_X12_of 9 (14, .invokestatic 64, 3) rfl) ?_
      refine z_if_eq (pc := 17) 27 (zdg D_X12_of 10 (17, .ifCond .eq 10, 3) rfl) rfl hf (fun hf => ?_) (fun hf => ?_)
      · refine z_iload_n (pc := 27) 2 (zdg D_X12_of 16 (27, .iload_n 2, 1) rfl) rfl rfl ?_
        refine z_iconst (pc := 28) (v := 3) (zdg D_X12_of 17 (28, .iconst 3, 1) rfl) rfl ?_
        refine z_icmp_ne (pc := 29) 40 (zdg D_X12_of 18 (29, .if_icmp .ne 11, 3) rfl) rfl hf (fun hf => ?_) (fun hf => ?_)
        · refine z_iload_n (pc := 40) 2 (zdg D_X12_of 23 (40, .iload_n 2, 1) rfl) rfl rfl ?_
          refine z_iconst (pc := 41) (v := 4) (zdg D_X12_of 24 (41, .iconst 4, 1) rfl) rfl ?_
          refine z_icmp_ne (pc := 42) 59 (zdg D_X12_of 25 (42, .if_icmp .ne 17, 3) rfl) rfl hf (fun hf => ?_) (fun hf => ?_)
          · refine z_bipush (pc := 59) (v := -2) (zdg D_X12_of 34 (59, .bipush (-2), 2) rfl) rfl ?_
            exact z_iret (pc := 61) rfl rfl (zdg D_X12_of 35 (61, .ireturn, 1) rfl) (hP _ hf)
          · refine z_aload_n (pc := 45) 0 (zdg D_X12_of 26 (45, .aload_n 0, 1) rfl) rfl rfl ?_
            refine z_iload_n (pc := 46) 1 (zdg D_X12_of 27 (46, .iload_n 1, 1) rfl) rfl rfl ?_
            refine z_aload_n (pc := 47) 0 (zdg D_X12_of 28 (47, .aload_n 0, 1) rfl) rfl rfl ?_
            refine z_getR (pc := 48) (g := 1) (j := 0) lf_X12_7 rfl rfl rfl (zdg D_X12_of 29 (48, .getfield 7, 3) rfl) ?_
            refine z_iconst (pc := 51) (v := 0) (zdg D_X12_of 30 (51, .iconst 0, 1) rfl) rfl ?_
            refine z_ialdC (pc := 52) (j := 0) rfl (fun _ => rfl) (zdg D_X12_of 31 (52, .iaload, 1) rfl) rfl rfl ?_
            refine z_bind hn hf (fun q2 hq hf => ?_)
            refine z_callV (pc := 53) (rest := []) (st2 := [zI q2]) (fun l => c_X12_placeOf l p1 (σ.1 1 0 0) σ q2 hq) zv_X12_placeOf lm_X12_303 rfl rfl rfl rfl rfl rfl (Nat.le_of_ble_eq_true rfl) ⟨Nat.le_of_ble_eq_true rfl, Nat.le_of_ble_eq_true rfl⟩ (zdg D_X12_of 32 (53, .invokevirtual 303, 3) rfl) ?_
            refine z_goto (pc := 56) 61 (zdg D_X12_of 33 (56, .goto 5, 3) rfl) rfl ?_
            exact z_iret (pc := 61) rfl rfl (zdg D_X12_of 35 (61, .ireturn, 1) rfl) (hP _ hf)
        · refine z_aload_n (pc := 32) 0 (zdg D_X12_of 19 (32, .aload_n 0, 1) rfl) rfl rfl ?_
          refine z_iload_n (pc := 33) 1 (zdg D_X12_of 20 (33, .iload_n 1, 1) rfl) rfl rfl ?_
          refine z_bind hn hf (fun q3 hq hf => ?_)
          refine z_callV (pc := 34) (rest := []) (st2 := [zI q3]) (fun l => c_X12_thereMany l p1 σ q3 hq) zv_X12_thereMany lm_X12_347 rfl rfl rfl rfl rfl rfl (Nat.le_of_ble_eq_true rfl) ⟨Nat.le_of_ble_eq_true rfl, Nat.le_of_ble_eq_true rfl⟩ (zdg D_X12_of 21 (34, .invokevirtual 347, 3) rfl) ?_
          refine z_goto (pc := 37) 61 (zdg D_X12_of 22 (37, .goto 24, 3) rfl) rfl ?_
          exact z_iret (pc := 61) rfl rfl (zdg D_X12_of 35 (61, .ireturn, 1) rfl) (hP _ hf)
      · refine z_aload_n (pc := 20) 0 (zdg D_X12_of 11 (20, .aload_n 0, 1) rfl) rfl rfl ?_
        refine z_iload_n (pc := 21) 1 (zdg D_X12_of 12 (21, .iload_n 1, 1) rfl) rfl rfl ?_
        refine z_iload_n (pc := 22) 2 (zdg D_X12_of 13 (22, .iload_n 2, 1) rfl) rfl rfl ?_
        refine z_bind hn hf (fun q4 hq hf => ?_)
        refine z_callV (pc := 23) (rest := []) (st2 := [zI q4]) (fun l => c_X12_ofWalker l p1 p2 σ q4 hq) zv_X12_ofWalker lm_X12_314 rfl rfl rfl rfl rfl rfl (Nat.le_of_ble_eq_true rfl) ⟨Nat.le_of_ble_eq_true rfl, Nat.le_of_ble_eq_true rfl⟩ (zdg D_X12_of 14 (23, .invokevirtual 314, 3) rfl) ?_
        exact z_iret (pc := 26) rfl rfl (zdg D_X12_of 15 (26, .ireturn, 1) rfl) (hP _ hf)
    · refine z_bipush (pc := 8) (v := -2) (zdg D_X12_of 4 (8, .bipush (-2), 2) rfl) rfl ?_
      exact z_iret (pc := 10) rfl rfl (zdg D_X12_of 5 (10, .ireturn, 1) rfl) (hP _ hf)

def L_X12_where : List (Nat × Instr × Nat) := [(0, .aload_n 0, 1), (1, .iload_n 1, 1), (2, .invokevirtual 344, 3), (5, .ifCond .eq 19, 3), (8, .iload_n 2, 1), (9, .invokestatic 350, 3), (12, .ifCond .eq 12, 3), (15, .aload_n 0, 1), (16, .iload_n 1, 1), (17, .iload_n 2, 1), (18, .invokevirtual 303, 3), (21, .goto 4, 3), (24, .iconst (-1), 1), (25, .ireturn, 1)]
set_option maxRecDepth 100000 in
theorem D_X12_where : zdecs cX12_where L_X12_where = true := by decide +kernel
noncomputable def f_X12_where (p1 : Int32) (p2 : Int32) (σ : zG) : Option (Int32) :=
  (f_X12_isWalker p1 σ).bind (fun q1 => if q1 = 0 then some (-1 : Int32) else (f_X12_isMinute p2).bind (fun q2 => if q2 = 0 then some (-1 : Int32) else (f_X12_placeOf p1 p2 σ).bind (fun q3 => some q3)))
set_option maxRecDepth 100000 in
set_option maxHeartbeats 4000000 in
theorem c_X12_where (l : Launch) (p1 : Int32) (p2 : Int32) (σ : zG) (q : Int32) (hq : f_X12_where p1 p2 σ = some q) : zMet l zsyM m_X12_where yX12_where [zR 0 0, zI p1, zI p2] σ (some (zI q)) σ := by
  refine zEnter [(0, zR 0 0), (1, zI p1), (2, zI p2)] (by decide) rfl (fun _ => Nat.le_of_ble_eq_true rfl) (fun _ => rfl) (fun w h => ?_) (fun K hv hs => ?_)
  · exact zokm rfl h
  · have hP : ∀ x, f_X12_where p1 p2 σ = some x → zKv K = some (zI x) ∧ zKs K = σ := fun x h => by rw [hq] at h; cases h; exact ⟨hv, hs⟩
    have hn : f_X12_where p1 p2 σ ≠ none := fun z => by rw [hq] at z; cases z
    have hf := f_X12_where.eq_1 p1 p2 σ
    refine z_aload_n (pc := 0) 0 (zdg D_X12_where 0 (0, .aload_n 0, 1) rfl) rfl rfl ?_
    refine z_iload_n (pc := 1) 1 (zdg D_X12_where 1 (1, .iload_n 1, 1) rfl) rfl rfl ?_
    refine z_bind hn hf (fun q1 hq hf => ?_)
    refine z_callV (pc := 2) (rest := []) (st2 := [zI q1]) (fun l => c_X12_isWalker l p1 σ q1 hq) zv_X12_isWalker lm_X12_344 rfl rfl rfl rfl rfl rfl (Nat.le_of_ble_eq_true rfl) ⟨Nat.le_of_ble_eq_true rfl, Nat.le_of_ble_eq_true rfl⟩ (zdg D_X12_where 2 (2, .invokevirtual 344, 3) rfl) ?_
    refine z_if_eq (pc := 5) 24 (zdg D_X12_where 3 (5, .ifCond .eq 19, 3) rfl) rfl hf (fun hf => ?_) (fun hf => ?_)
    · refine z_iconst (pc := 24) (v := -1) (zdg D_X12_where 12 (24, .iconst (-1), 1) rfl) rfl ?_
      exact z_iret (pc := 25) rfl rfl (zdg D_X12_where 13 (25, .ireturn, 1) rfl) (hP _ hf)
    · refine z_iload_n (pc := 8) 2 (zdg D_X12_where 4 (8, .iload_n 2, 1) rfl) rfl rfl ?_
      refine z_bind hn hf (fun q2 hq hf => ?_)
      refine z_callS (pc := 9) (rest := []) (st2 := [zI q2]) (fun l => c_X12_isMinute l p2 σ q2 hq) zs_X12_isMinute lm_X12_350 rfl rfl rfl (Nat.le_of_ble_eq_true rfl) ⟨Nat.le_of_ble_eq_true rfl, Nat.le_of_ble_eq_true rfl⟩ (zdg D_X12_where 5 (9, .invokestatic 350, 3) rfl) ?_
      refine z_if_eq (pc := 12) 24 (zdg D_X12_where 6 (12, .ifCond .eq 12, 3) rfl) rfl hf (fun hf => ?_) (fun hf => ?_)
      · refine z_iconst (pc := 24) (v := -1) (zdg D_X12_where 12 (24, .iconst (-1), 1) rfl) rfl ?_
        exact z_iret (pc := 25) rfl rfl (zdg D_X12_where 13 (25, .ireturn, 1) rfl) (hP _ hf)
      · refine z_aload_n (pc := 15) 0 (zdg D_X12_where 7 (15, .aload_n 0, 1) rfl) rfl rfl ?_
        refine z_iload_n (pc := 16) 1 (zdg D_X12_where 8 (16, .iload_n 1, 1) rfl) rfl rfl ?_
        refine z_iload_n (pc := 17) 2 (zdg D_X12_where 9 (17, .iload_n 2, 1) rfl) rfl rfl ?_
        refine z_bind hn hf (fun q3 hq hf => ?_)
        refine z_callV (pc := 18) (rest := []) (st2 := [zI q3]) (fun l => c_X12_placeOf l p1 p2 σ q3 hq) zv_X12_placeOf lm_X12_303 rfl rfl rfl rfl rfl rfl (Nat.le_of_ble_eq_true rfl) ⟨Nat.le_of_ble_eq_true rfl, Nat.le_of_ble_eq_true rfl⟩ (zdg D_X12_where 10 (18, .invokevirtual 303, 3) rfl) ?_
        refine z_goto (pc := 21) 25 (zdg D_X12_where 11 (21, .goto 4, 3) rfl) rfl ?_
        exact z_iret (pc := 25) rfl rfl (zdg D_X12_where 13 (25, .ireturn, 1) rfl) (hP _ hf)

def L_X12_stranger : List (Nat × Instr × Nat) := [(0, .iload_n 1, 1), (1, .iconst 0, 1), (2, .aload_n 0, 1), (3, .getfield 7, 3), (6, .iconst 3, 1), (7, .iaload, 1), (8, .iconst 1, 1), (9, .isub, 1), (10, .invokestatic 64, 3), (13, .ifCond .eq 21, 3), (16, .iload_n 2, 1), (17, .iconst 0, 1), (18, .iconst 2, 1), (19, .invokestatic 64, 3), (22, .ifCond .eq 12, 3), (25, .aload_n 0, 1), (26, .iload_n 1, 1), (27, .iload_n 2, 1), (28, .invokevirtual 300, 3), (31, .goto 4, 3), (34, .iconst (-1), 1), (35, .ireturn, 1)]
set_option maxRecDepth 100000 in
theorem D_X12_stranger : zdecs cX12_stranger L_X12_stranger = true := by decide +kernel
noncomputable def f_X12_stranger (p1 : Int32) (p2 : Int32) (σ : zG) : Option (Int32) :=
  if (f_X12_isIn p1 (0 : Int32) ((σ.1 1 0 3) - (1 : Int32))) = 0 then some (-1 : Int32) else if (f_X12_isIn p2 (0 : Int32) (2 : Int32)) = 0 then some (-1 : Int32) else (f_X12_ofStranger p1 p2 σ).bind (fun q1 => some q1)
set_option maxRecDepth 100000 in
set_option maxHeartbeats 4000000 in
theorem c_X12_stranger (l : Launch) (p1 : Int32) (p2 : Int32) (σ : zG) (q : Int32) (hq : f_X12_stranger p1 p2 σ = some q) : zMet l zsyM m_X12_stranger yX12_stranger [zR 0 0, zI p1, zI p2] σ (some (zI q)) σ := by
  refine zEnter [(0, zR 0 0), (1, zI p1), (2, zI p2)] (by decide) rfl (fun _ => Nat.le_of_ble_eq_true rfl) (fun _ => rfl) (fun w h => ?_) (fun K hv hs => ?_)
  · exact zokm rfl h
  · have hP : ∀ x, f_X12_stranger p1 p2 σ = some x → zKv K = some (zI x) ∧ zKs K = σ := fun x h => by rw [hq] at h; cases h; exact ⟨hv, hs⟩
    have hn : f_X12_stranger p1 p2 σ ≠ none := fun z => by rw [hq] at z; cases z
    have hf := f_X12_stranger.eq_1 p1 p2 σ
    refine z_iload_n (pc := 0) 1 (zdg D_X12_stranger 0 (0, .iload_n 1, 1) rfl) rfl rfl ?_
    refine z_iconst (pc := 1) (v := 0) (zdg D_X12_stranger 1 (1, .iconst 0, 1) rfl) rfl ?_
    refine z_aload_n (pc := 2) 0 (zdg D_X12_stranger 2 (2, .aload_n 0, 1) rfl) rfl rfl ?_
    refine z_getR (pc := 3) (g := 1) (j := 0) lf_X12_7 rfl rfl rfl (zdg D_X12_stranger 3 (3, .getfield 7, 3) rfl) ?_
    refine z_iconst (pc := 6) (v := 3) (zdg D_X12_stranger 4 (6, .iconst 3, 1) rfl) rfl ?_
    refine z_ialdC (pc := 7) (j := 3) rfl (fun _ => rfl) (zdg D_X12_stranger 5 (7, .iaload, 1) rfl) rfl rfl ?_
    refine z_iconst (pc := 8) (v := 1) (zdg D_X12_stranger 6 (8, .iconst 1, 1) rfl) rfl ?_
    refine z_isub (pc := 9) (zdg D_X12_stranger 7 (9, .isub, 1) rfl) ?_
    refine z_callS (pc := 10) (rest := []) (st2 := [zI (f_X12_isIn p1 (0 : Int32) ((σ.1 1 0 3) - (1 : Int32)))]) (fun l => c_X12_isIn l p1 (0 : Int32) ((σ.1 1 0 3) - (1 : Int32)) σ) zs_X12_isIn lm_X12_64 rfl rfl rfl (Nat.le_of_ble_eq_true rfl) ⟨Nat.le_of_ble_eq_true rfl, Nat.le_of_ble_eq_true rfl⟩ (zdg D_X12_stranger 8 (10, .invokestatic 64, 3) rfl) ?_
    refine z_if_eq (pc := 13) 34 (zdg D_X12_stranger 9 (13, .ifCond .eq 21, 3) rfl) rfl hf (fun hf => ?_) (fun hf => ?_)
    · refine z_iconst (pc := 34) (v := -1) (zdg D_X12_stranger 20 (34, .iconst (-1), 1) rfl) rfl ?_
      exact z_iret (pc := 35) rfl rfl (zdg D_X12_stranger 21 (35, .ireturn, 1) rfl) (hP _ hf)
    · refine z_iload_n (pc := 16) 2 (zdg D_X12_stranger 10 (16, .iload_n 2, 1) rfl) rfl rfl ?_
      refine z_iconst (pc := 17) (v := 0) (zdg D_X12_stranger 11 (17, .iconst 0, 1) rfl) rfl ?_
      refine z_iconst (pc := 18) (v := 2) (zdg D_X12_stranger 12 (18, .iconst 2, 1) rfl) rfl ?_
      refine z_callS (pc := 19) (rest := []) (st2 := [zI (f_X12_isIn p2 (0 : Int32) (2 : Int32))]) (fun l => c_X12_isIn l p2 (0 : Int32) (2 : Int32) σ) zs_X12_isIn lm_X12_64 rfl rfl rfl (Nat.le_of_ble_eq_true rfl) ⟨Nat.le_of_ble_eq_true rfl, Nat.le_of_ble_eq_true rfl⟩ (zdg D_X12_stranger 13 (19, .invokestatic 64, 3) rfl) ?_
      refine z_if_eq (pc := 22) 34 (zdg D_X12_stranger 14 (22, .ifCond .eq 12, 3) rfl) rfl hf (fun hf => ?_) (fun hf => ?_)
      · refine z_iconst (pc := 34) (v := -1) (zdg D_X12_stranger 20 (34, .iconst (-1), 1) rfl) rfl ?_
        exact z_iret (pc := 35) rfl rfl (zdg D_X12_stranger 21 (35, .ireturn, 1) rfl) (hP _ hf)
      · refine z_aload_n (pc := 25) 0 (zdg D_X12_stranger 15 (25, .aload_n 0, 1) rfl) rfl rfl ?_
        refine z_iload_n (pc := 26) 1 (zdg D_X12_stranger 16 (26, .iload_n 1, 1) rfl) rfl rfl ?_
        refine z_iload_n (pc := 27) 2 (zdg D_X12_stranger 17 (27, .iload_n 2, 1) rfl) rfl rfl ?_
        refine z_bind hn hf (fun q1 hq hf => ?_)
        refine z_callV (pc := 28) (rest := []) (st2 := [zI q1]) (fun l => c_X12_ofStranger l p1 p2 σ q1 hq) zv_X12_ofStranger lm_X12_300 rfl rfl rfl rfl rfl rfl (Nat.le_of_ble_eq_true rfl) ⟨Nat.le_of_ble_eq_true rfl, Nat.le_of_ble_eq_true rfl⟩ (zdg D_X12_stranger 18 (28, .invokevirtual 300, 3) rfl) ?_
        refine z_goto (pc := 31) 35 (zdg D_X12_stranger 19 (31, .goto 4, 3) rfl) rfl ?_
        exact z_iret (pc := 35) rfl rfl (zdg D_X12_stranger 21 (35, .ireturn, 1) rfl) (hP _ hf)

def L_X12_covered : List (Nat × Instr × Nat) := [(0, .iload_n 1, 1), (1, .invokestatic 350, 3), (4, .ifCond .ne 7, 3), (7, .ldc2_w 353, 3), (10, .lreturn, 1), (11, .lconst 0, 1), (12, .lstore_n 2, 1), (13, .iconst 0, 1), (14, .istore 4, 2), (16, .iload 4, 2), (18, .bipush 64, 2), (20, .if_icmp .ge 35, 3), (23, .aload_n 0, 1), (24, .iload 4, 2), (26, .invokevirtual 236, 3), (29, .ifCond .eq 20, 3), (32, .aload_n 0, 1), (33, .iload 4, 2), (35, .iload_n 1, 1), (36, .invokevirtual 323, 3), (39, .ifCond .eq 10, 3), (42, .lload_n 2, 1), (43, .lconst 1, 1), (44, .iload 4, 2), (46, .lshl, 1), (47, .lor, 1), (48, .lstore_n 2, 1), (49, .iinc 4 1, 3), (52, .goto (-36), 3), (55, .lload_n 2, 1), (56, .lreturn, 1)]
set_option maxRecDepth 100000 in
theorem D_X12_covered : zdecs cX12_covered L_X12_covered = true := by decide +kernel
noncomputable def b_X12_covered_16 (σ : zG) (p1 : Int32) (v2_2 : Int64) (v4_3 : Int32) : Option ((Int64 × Int32) ⊕ (Int64)) :=
  if v4_3 < (64 : Int32) then (f_X12_isSpot v4_3 σ).bind (fun q4 => if q4 = 0 then some (Sum.inl (v2_2, (v4_3 + 1))) else (f_X12_isCovered v4_3 p1 σ).bind (fun q5 => if q5 = 0 then some (Sum.inl (v2_2, (v4_3 + 1))) else some (Sum.inl ((v2_2 ||| (zlshl (1 : Int64) v4_3)), (v4_3 + 1))))) else some (Sum.inr v2_2)
noncomputable def f_X12_covered (p1 : Int32) (σ : zG) : Option (Int64) :=
  (f_X12_isMinute p1).bind (fun q1 => if q1 = 0 then some (-1 : Int64) else (zlp (fun q : Int64 × Int32 => b_X12_covered_16 σ p1 q.1 q.2) ((0 : Int64), (0 : Int32))).bind (fun e6 : Int64 => some e6))
set_option maxRecDepth 100000 in
set_option maxHeartbeats 4000000 in
theorem c_X12_covered (l : Launch) (p1 : Int32) (σ : zG) (q : Int64) (hq : f_X12_covered p1 σ = some q) : zMet l zsyM m_X12_covered yX12_covered [zR 0 0, zI p1] σ (some (zL q)) σ := by
  refine zEnter [(0, zR 0 0), (1, zI p1)] (by decide) rfl (fun _ => Nat.le_of_ble_eq_true rfl) (fun _ => rfl) (fun w h => ?_) (fun K hv hs => ?_)
  · exact zokm rfl h
  · have hP : ∀ x, f_X12_covered p1 σ = some x → zKv K = some (zL x) ∧ zKs K = σ := fun x h => by rw [hq] at h; cases h; exact ⟨hv, hs⟩
    have hn : f_X12_covered p1 σ ≠ none := fun z => by rw [hq] at z; cases z
    have hf := f_X12_covered.eq_1 p1 σ
    refine z_iload_n (pc := 0) 1 (zdg D_X12_covered 0 (0, .iload_n 1, 1) rfl) rfl rfl ?_
    refine z_bind hn hf (fun q1 hq hf => ?_)
    refine z_callS (pc := 1) (rest := []) (st2 := [zI q1]) (fun l => c_X12_isMinute l p1 σ q1 hq) zs_X12_isMinute lm_X12_350 rfl rfl rfl (Nat.le_of_ble_eq_true rfl) ⟨Nat.le_of_ble_eq_true rfl, Nat.le_of_ble_eq_true rfl⟩ (zdg D_X12_covered 1 (1, .invokestatic 350, 3) rfl) ?_
    refine z_if_ne (pc := 4) 11 (zdg D_X12_covered 2 (4, .ifCond .ne 7, 3) rfl) rfl hf (fun hf => ?_) (fun hf => ?_)
    · refine z_lconst (pc := 11) (v := 0) (zdg D_X12_covered 5 (11, .lconst 0, 1) rfl) rfl ?_
      refine z_lstore_n (pc := 12) (al' := [(2, zL (0 : Int64)), (0, zR 0 0), (1, zI p1)]) (zdg D_X12_covered 6 (12, .lstore_n 2, 1) rfl) rfl (by decide) rfl ?_
      refine z_iconst (pc := 13) (v := 0) (zdg D_X12_covered 7 (13, .iconst 0, 1) rfl) rfl ?_
      refine z_istore (pc := 14) (al' := [(4, zI (0 : Int32)), (2, zL (0 : Int64)), (0, zR 0 0), (1, zI p1)]) (zdg D_X12_covered 8 (14, .istore 4, 2) rfl) (by decide) rfl ?_
      refine z_sub (al' := [(0, zR 0 0), (1, zI p1), (2, zL (0 : Int64)), (4, zI (0 : Int32))]) [2, 3, 1, 0] rfl ?_
      refine z_loop (f := (fun q : Int64 × Int32 => b_X12_covered_16 σ p1 q.1 q.2)) (a := ((0 : Int64), (0 : Int32))) (fun q : Int64 × Int32 => zX zsyM m_X12_covered K 16 [(0, zR 0 0), (1, zI p1), (2, zL q.1), (4, zI q.2)] [] σ) (fun e6 : Int64 => zX zsyM m_X12_covered K 55 [(2, zL e6)] [] σ) hn hf ?_ ?_
      · intro e6 hf
        refine z_lload_n (pc := 55) 0 (zdg D_X12_covered 29 (55, .lload_n 2, 1) rfl) rfl rfl ?_
        exact z_lret (pc := 56) rfl (zdg D_X12_covered 30 (56, .lreturn, 1) rfl) (hP _ hf)
      · rintro ⟨v2_2, v4_3⟩ hn hi hx
        have hf := b_X12_covered_16.eq_1 σ p1 v2_2 v4_3
        refine z_iload (pc := 16) 3 (zdg D_X12_covered 9 (16, .iload 4, 2) rfl) rfl ?_
        refine z_bipush (pc := 18) (v := 64) (zdg D_X12_covered 10 (18, .bipush 64, 2) rfl) rfl ?_
        refine z_icmp_ge (pc := 20) 55 (zdg D_X12_covered 11 (20, .if_icmp .ge 35, 3) rfl) rfl hf (fun hf => ?_) (fun hf => ?_)
        · refine z_sub (al' := [(2, zL v2_2)]) [2] rfl ?_
          exact hx v2_2 hf
        · refine z_aload_n (pc := 23) 0 (zdg D_X12_covered 12 (23, .aload_n 0, 1) rfl) rfl rfl ?_
          refine z_iload (pc := 24) 3 (zdg D_X12_covered 13 (24, .iload 4, 2) rfl) rfl ?_
          refine z_bind hn hf (fun q4 hq hf => ?_)
          refine z_callV (pc := 26) (rest := []) (st2 := [zI q4]) (fun l => c_X12_isSpot l v4_3 σ q4 hq) zv_X12_isSpot lm_X12_236 rfl rfl rfl rfl rfl rfl (Nat.le_of_ble_eq_true rfl) ⟨Nat.le_of_ble_eq_true rfl, Nat.le_of_ble_eq_true rfl⟩ (zdg D_X12_covered 14 (26, .invokevirtual 236, 3) rfl) ?_
          refine z_if_eq (pc := 29) 49 (zdg D_X12_covered 15 (29, .ifCond .eq 20, 3) rfl) rfl hf (fun hf => ?_) (fun hf => ?_)
          · refine z_iinc (pc := 49) (v0 := (v4_3 + 1)) (al' := [(4, zI (v4_3 + 1)), (0, zR 0 0), (1, zI p1), (2, zL v2_2)]) 3 (zdg D_X12_covered 27 (49, .iinc 4 1, 3) rfl) rfl rfl (by decide) rfl ?_
            refine z_goto (pc := 52) 16 (zdg D_X12_covered 28 (52, .goto (-36), 3) rfl) rfl ?_
            refine z_sub (al' := [(0, zR 0 0), (1, zI p1), (2, zL v2_2), (4, zI (v4_3 + 1))]) [1, 2, 3, 0] rfl ?_
            exact hi (v2_2, (v4_3 + 1)) hf
          · refine z_aload_n (pc := 32) 0 (zdg D_X12_covered 16 (32, .aload_n 0, 1) rfl) rfl rfl ?_
            refine z_iload (pc := 33) 3 (zdg D_X12_covered 17 (33, .iload 4, 2) rfl) rfl ?_
            refine z_iload_n (pc := 35) 1 (zdg D_X12_covered 18 (35, .iload_n 1, 1) rfl) rfl rfl ?_
            refine z_bind hn hf (fun q5 hq hf => ?_)
            refine z_callV (pc := 36) (rest := []) (st2 := [zI q5]) (fun l => c_X12_isCovered l v4_3 p1 σ q5 hq) zv_X12_isCovered lm_X12_323 rfl rfl rfl rfl rfl rfl (Nat.le_of_ble_eq_true rfl) ⟨Nat.le_of_ble_eq_true rfl, Nat.le_of_ble_eq_true rfl⟩ (zdg D_X12_covered 19 (36, .invokevirtual 323, 3) rfl) ?_
            refine z_if_eq (pc := 39) 49 (zdg D_X12_covered 20 (39, .ifCond .eq 10, 3) rfl) rfl hf (fun hf => ?_) (fun hf => ?_)
            · refine z_iinc (pc := 49) (v0 := (v4_3 + 1)) (al' := [(4, zI (v4_3 + 1)), (0, zR 0 0), (1, zI p1), (2, zL v2_2)]) 3 (zdg D_X12_covered 27 (49, .iinc 4 1, 3) rfl) rfl rfl (by decide) rfl ?_
              refine z_goto (pc := 52) 16 (zdg D_X12_covered 28 (52, .goto (-36), 3) rfl) rfl ?_
              refine z_sub (al' := [(0, zR 0 0), (1, zI p1), (2, zL v2_2), (4, zI (v4_3 + 1))]) [1, 2, 3, 0] rfl ?_
              exact hi (v2_2, (v4_3 + 1)) hf
            · refine z_lload_n (pc := 42) 2 (zdg D_X12_covered 21 (42, .lload_n 2, 1) rfl) rfl rfl ?_
              refine z_lconst (pc := 43) (v := 1) (zdg D_X12_covered 22 (43, .lconst 1, 1) rfl) rfl ?_
              refine z_iload (pc := 44) 3 (zdg D_X12_covered 23 (44, .iload 4, 2) rfl) rfl ?_
              refine z_lshl (pc := 46) (zdg D_X12_covered 24 (46, .lshl, 1) rfl) ?_
              refine z_lor (pc := 47) (zdg D_X12_covered 25 (47, .lor, 1) rfl) ?_
              refine z_lstore_n (pc := 48) (al' := [(2, zL (v2_2 ||| (zlshl (1 : Int64) v4_3))), (0, zR 0 0), (1, zI p1), (4, zI v4_3)]) (zdg D_X12_covered 26 (48, .lstore_n 2, 1) rfl) rfl (by decide) rfl ?_
              refine z_iinc (pc := 49) (v0 := (v4_3 + 1)) (al' := [(4, zI (v4_3 + 1)), (2, zL (v2_2 ||| (zlshl (1 : Int64) v4_3))), (0, zR 0 0), (1, zI p1)]) 3 (zdg D_X12_covered 27 (49, .iinc 4 1, 3) rfl) rfl rfl (by decide) rfl ?_
              refine z_goto (pc := 52) 16 (zdg D_X12_covered 28 (52, .goto (-36), 3) rfl) rfl ?_
              refine z_sub (al' := [(0, zR 0 0), (1, zI p1), (2, zL (v2_2 ||| (zlshl (1 : Int64) v4_3))), (4, zI (v4_3 + 1))]) [2, 3, 1, 0] rfl ?_
              exact hi ((v2_2 ||| (zlshl (1 : Int64) v4_3)), (v4_3 + 1)) hf
    · refine z_ldc2 (pc := 7) lc_X12_353 (zdg D_X12_covered 3 (7, .ldc2_w 353, 3) rfl) ?_
      exact z_lret (pc := 10) rfl (zdg D_X12_covered 4 (10, .lreturn, 1) rfl) (hP _ hf)

def L_X12_at : List (Nat × Instr × Nat) := [(0, .aload_n 0, 1), (1, .iload_n 1, 1), (2, .invokevirtual 236, 3), (5, .ifCond .eq 19, 3), (8, .iload_n 2, 1), (9, .invokestatic 350, 3), (12, .ifCond .eq 12, 3), (15, .iload_n 3, 1), (16, .iconst 0, 1), (17, .iconst 2, 1), (18, .invokestatic 64, 3), (21, .ifCond .ne 5, 3), (24, .iconst (-1), 1), (25, .ireturn, 1), (26, .iload_n 3, 1), (27, .ifCond .ne 20, 3), (30, .aload_n 0, 1), (31, .iload_n 1, 1), (32, .iload_n 2, 1), (33, .invokevirtual 323, 3), (36, .ifCond .eq 7, 3), (39, .iconst 1, 1), (40, .goto 27, 3), (43, .iconst 0, 1), (44, .goto 23, 3), (47, .iload_n 3, 1), (48, .iconst 1, 1), (49, .if_icmp .ne 12, 3), (52, .aload_n 0, 1), (53, .iload_n 1, 1), (54, .iload_n 2, 1), (55, .invokevirtual 312, 3), (58, .goto 9, 3), (61, .aload_n 0, 1), (62, .iload_n 1, 1), (63, .iload_n 2, 1), (64, .invokevirtual 341, 3), (67, .ireturn, 1)]
set_option maxRecDepth 100000 in
theorem D_X12_at : zdecs cX12_at L_X12_at = true := by decide +kernel
noncomputable def f_X12_at (p1 : Int32) (p2 : Int32) (p3 : Int32) (σ : zG) : Option (Int32 × zG) :=
  (f_X12_isSpot p1 σ).bind (fun q1 => if q1 = 0 then some ((-1 : Int32), σ) else (f_X12_isMinute p2).bind (fun q2 => if q2 = 0 then some ((-1 : Int32), σ) else if (f_X12_isIn p3 (0 : Int32) (2 : Int32)) = 0 then some ((-1 : Int32), σ) else if p3 = 0 then (f_X12_isCovered p1 p2 σ).bind (fun q5 => if q5 = 0 then some ((0 : Int32), σ) else some ((1 : Int32), σ)) else if p3 = (1 : Int32) then (f_X12_shade p1 p2 σ).bind (fun q4 => some (q4.1, q4.2)) else (f_X12_toneOf p1 p2 σ).bind (fun q3 => some (q3.1, q3.2))))
set_option maxRecDepth 100000 in
set_option maxHeartbeats 4000000 in
theorem c_X12_at (l : Launch) (p1 : Int32) (p2 : Int32) (p3 : Int32) (σ : zG) (q : Int32 × zG) (hq : f_X12_at p1 p2 p3 σ = some q) : zMet l zsyM m_X12_at yX12_at [zR 0 0, zI p1, zI p2, zI p3] σ (some (zI q.1)) q.2 := by
  refine zEnter [(0, zR 0 0), (1, zI p1), (2, zI p2), (3, zI p3)] (by decide) rfl (fun _ => Nat.le_of_ble_eq_true rfl) (fun _ => rfl) (fun w h => ?_) (fun K hv hs => ?_)
  · exact zokm rfl h
  · have hP : ∀ x s, f_X12_at p1 p2 p3 σ = some (x, s) → zKv K = some (zI x) ∧ zKs K = s := fun x s h => by rw [hq] at h; cases h; exact ⟨hv, hs⟩
    have hn : f_X12_at p1 p2 p3 σ ≠ none := fun z => by rw [hq] at z; cases z
    have hf := f_X12_at.eq_1 p1 p2 p3 σ
    refine z_aload_n (pc := 0) 0 (zdg D_X12_at 0 (0, .aload_n 0, 1) rfl) rfl rfl ?_
    refine z_iload_n (pc := 1) 1 (zdg D_X12_at 1 (1, .iload_n 1, 1) rfl) rfl rfl ?_
    refine z_bind hn hf (fun q1 hq hf => ?_)
    refine z_callV (pc := 2) (rest := []) (st2 := [zI q1]) (fun l => c_X12_isSpot l p1 σ q1 hq) zv_X12_isSpot lm_X12_236 rfl rfl rfl rfl rfl rfl (Nat.le_of_ble_eq_true rfl) ⟨Nat.le_of_ble_eq_true rfl, Nat.le_of_ble_eq_true rfl⟩ (zdg D_X12_at 2 (2, .invokevirtual 236, 3) rfl) ?_
    refine z_if_eq (pc := 5) 24 (zdg D_X12_at 3 (5, .ifCond .eq 19, 3) rfl) rfl hf (fun hf => ?_) (fun hf => ?_)
    · refine z_iconst (pc := 24) (v := -1) (zdg D_X12_at 12 (24, .iconst (-1), 1) rfl) rfl ?_
      exact z_iret (pc := 25) rfl rfl (zdg D_X12_at 13 (25, .ireturn, 1) rfl) (hP _ _ hf)
    · refine z_iload_n (pc := 8) 2 (zdg D_X12_at 4 (8, .iload_n 2, 1) rfl) rfl rfl ?_
      refine z_bind hn hf (fun q2 hq hf => ?_)
      refine z_callS (pc := 9) (rest := []) (st2 := [zI q2]) (fun l => c_X12_isMinute l p2 σ q2 hq) zs_X12_isMinute lm_X12_350 rfl rfl rfl (Nat.le_of_ble_eq_true rfl) ⟨Nat.le_of_ble_eq_true rfl, Nat.le_of_ble_eq_true rfl⟩ (zdg D_X12_at 5 (9, .invokestatic 350, 3) rfl) ?_
      refine z_if_eq (pc := 12) 24 (zdg D_X12_at 6 (12, .ifCond .eq 12, 3) rfl) rfl hf (fun hf => ?_) (fun hf => ?_)
      · refine z_iconst (pc := 24) (v := -1) (zdg D_X12_at 12 (24, .iconst (-1), 1) rfl) rfl ?_
        exact z_iret (pc := 25) rfl rfl (zdg D_X12_at 13 (25, .ireturn, 1) rfl) (hP _ _ hf)
      · refine z_iload_n (pc := 15) 3 (zdg D_X12_at 7 (15, .iload_n 3, 1) rfl) rfl rfl ?_
        refine z_iconst (pc := 16) (v := 0) (zdg D_X12_at 8 (16, .iconst 0, 1) rfl) rfl ?_
        refine z_iconst (pc := 17) (v := 2) (zdg D_X12_at 9 (17, .iconst 2, 1) rfl) rfl ?_
        refine z_callS (pc := 18) (rest := []) (st2 := [zI (f_X12_isIn p3 (0 : Int32) (2 : Int32))]) (fun l => c_X12_isIn l p3 (0 : Int32) (2 : Int32) σ) zs_X12_isIn lm_X12_64 rfl rfl rfl (Nat.le_of_ble_eq_true rfl) ⟨Nat.le_of_ble_eq_true rfl, Nat.le_of_ble_eq_true rfl⟩ (zdg D_X12_at 10 (18, .invokestatic 64, 3) rfl) ?_
        refine z_if_ne (pc := 21) 26 (zdg D_X12_at 11 (21, .ifCond .ne 5, 3) rfl) rfl hf (fun hf => ?_) (fun hf => ?_)
        · refine z_iload_n (pc := 26) 3 (zdg D_X12_at 14 (26, .iload_n 3, 1) rfl) rfl rfl ?_
          refine z_if_ne (pc := 27) 47 (zdg D_X12_at 15 (27, .ifCond .ne 20, 3) rfl) rfl hf (fun hf => ?_) (fun hf => ?_)
          · refine z_iload_n (pc := 47) 3 (zdg D_X12_at 25 (47, .iload_n 3, 1) rfl) rfl rfl ?_
            refine z_iconst (pc := 48) (v := 1) (zdg D_X12_at 26 (48, .iconst 1, 1) rfl) rfl ?_
            refine z_icmp_ne (pc := 49) 61 (zdg D_X12_at 27 (49, .if_icmp .ne 12, 3) rfl) rfl hf (fun hf => ?_) (fun hf => ?_)
            · refine z_aload_n (pc := 61) 0 (zdg D_X12_at 33 (61, .aload_n 0, 1) rfl) rfl rfl ?_
              refine z_iload_n (pc := 62) 1 (zdg D_X12_at 34 (62, .iload_n 1, 1) rfl) rfl rfl ?_
              refine z_iload_n (pc := 63) 2 (zdg D_X12_at 35 (63, .iload_n 2, 1) rfl) rfl rfl ?_
              refine z_bind hn hf (fun q3 hq hf => ?_)
              refine z_callV (pc := 64) (rest := []) (st2 := [zI q3.1]) (fun l => c_X12_toneOf l p1 p2 σ q3 hq) zv_X12_toneOf lm_X12_341 rfl rfl rfl rfl rfl rfl (Nat.le_of_ble_eq_true rfl) ⟨Nat.le_of_ble_eq_true rfl, Nat.le_of_ble_eq_true rfl⟩ (zdg D_X12_at 36 (64, .invokevirtual 341, 3) rfl) ?_
              exact z_iret (pc := 67) rfl rfl (zdg D_X12_at 37 (67, .ireturn, 1) rfl) (hP _ _ hf)
            · refine z_aload_n (pc := 52) 0 (zdg D_X12_at 28 (52, .aload_n 0, 1) rfl) rfl rfl ?_
              refine z_iload_n (pc := 53) 1 (zdg D_X12_at 29 (53, .iload_n 1, 1) rfl) rfl rfl ?_
              refine z_iload_n (pc := 54) 2 (zdg D_X12_at 30 (54, .iload_n 2, 1) rfl) rfl rfl ?_
              refine z_bind hn hf (fun q4 hq hf => ?_)
              refine z_callV (pc := 55) (rest := []) (st2 := [zI q4.1]) (fun l => c_X12_shade l p1 p2 σ q4 hq) zv_X12_shade lm_X12_312 rfl rfl rfl rfl rfl rfl (Nat.le_of_ble_eq_true rfl) ⟨Nat.le_of_ble_eq_true rfl, Nat.le_of_ble_eq_true rfl⟩ (zdg D_X12_at 31 (55, .invokevirtual 312, 3) rfl) ?_
              refine z_goto (pc := 58) 67 (zdg D_X12_at 32 (58, .goto 9, 3) rfl) rfl ?_
              exact z_iret (pc := 67) rfl rfl (zdg D_X12_at 37 (67, .ireturn, 1) rfl) (hP _ _ hf)
          · refine z_aload_n (pc := 30) 0 (zdg D_X12_at 16 (30, .aload_n 0, 1) rfl) rfl rfl ?_
            refine z_iload_n (pc := 31) 1 (zdg D_X12_at 17 (31, .iload_n 1, 1) rfl) rfl rfl ?_
            refine z_iload_n (pc := 32) 2 (zdg D_X12_at 18 (32, .iload_n 2, 1) rfl) rfl rfl ?_
            refine z_bind hn hf (fun q5 hq hf => ?_)
            refine z_callV (pc := 33) (rest := []) (st2 := [zI q5]) (fun l => c_X12_isCovered l p1 p2 σ q5 hq) zv_X12_isCovered lm_X12_323 rfl rfl rfl rfl rfl rfl (Nat.le_of_ble_eq_true rfl) ⟨Nat.le_of_ble_eq_true rfl, Nat.le_of_ble_eq_true rfl⟩ (zdg D_X12_at 19 (33, .invokevirtual 323, 3) rfl) ?_
            refine z_if_eq (pc := 36) 43 (zdg D_X12_at 20 (36, .ifCond .eq 7, 3) rfl) rfl hf (fun hf => ?_) (fun hf => ?_)
            · refine z_iconst (pc := 43) (v := 0) (zdg D_X12_at 23 (43, .iconst 0, 1) rfl) rfl ?_
              refine z_goto (pc := 44) 67 (zdg D_X12_at 24 (44, .goto 23, 3) rfl) rfl ?_
              exact z_iret (pc := 67) rfl rfl (zdg D_X12_at 37 (67, .ireturn, 1) rfl) (hP _ _ hf)
            · refine z_iconst (pc := 39) (v := 1) (zdg D_X12_at 21 (39, .iconst 1, 1) rfl) rfl ?_
              refine z_goto (pc := 40) 67 (zdg D_X12_at 22 (40, .goto 27, 3) rfl) rfl ?_
              exact z_iret (pc := 67) rfl rfl (zdg D_X12_at 37 (67, .ireturn, 1) rfl) (hP _ _ hf)
        · refine z_iconst (pc := 24) (v := -1) (zdg D_X12_at 12 (24, .iconst (-1), 1) rfl) rfl ?_
          exact z_iret (pc := 25) rfl rfl (zdg D_X12_at 13 (25, .ireturn, 1) rfl) (hP _ _ hf)

def L_X12_worth : List (Nat × Instr × Nat) := [(0, .iload_n 1, 1), (1, .invokestatic 350, 3), (4, .ifCond .eq 11, 3), (7, .aload_n 0, 1), (8, .iload_n 1, 1), (9, .invokevirtual 355, 3), (12, .goto 6, 3), (15, .sipush (-1000), 3), (18, .ireturn, 1)]
set_option maxRecDepth 100000 in
theorem D_X12_worth : zdecs cX12_worth L_X12_worth = true := by decide +kernel
noncomputable def f_X12_worth (p1 : Int32) (σ : zG) : Option (Int32 × zG) :=
  (f_X12_isMinute p1).bind (fun q1 => if q1 = 0 then some ((-1000 : Int32), σ) else (f_X12_worthOf p1 σ).bind (fun q2 => some (q2.1, q2.2)))
set_option maxRecDepth 100000 in
set_option maxHeartbeats 4000000 in
theorem c_X12_worth (l : Launch) (p1 : Int32) (σ : zG) (q : Int32 × zG) (hq : f_X12_worth p1 σ = some q) : zMet l zsyM m_X12_worth yX12_worth [zR 0 0, zI p1] σ (some (zI q.1)) q.2 := by
  refine zEnter [(0, zR 0 0), (1, zI p1)] (by decide) rfl (fun _ => Nat.le_of_ble_eq_true rfl) (fun _ => rfl) (fun w h => ?_) (fun K hv hs => ?_)
  · exact zokm rfl h
  · have hP : ∀ x s, f_X12_worth p1 σ = some (x, s) → zKv K = some (zI x) ∧ zKs K = s := fun x s h => by rw [hq] at h; cases h; exact ⟨hv, hs⟩
    have hn : f_X12_worth p1 σ ≠ none := fun z => by rw [hq] at z; cases z
    have hf := f_X12_worth.eq_1 p1 σ
    refine z_iload_n (pc := 0) 1 (zdg D_X12_worth 0 (0, .iload_n 1, 1) rfl) rfl rfl ?_
    refine z_bind hn hf (fun q1 hq hf => ?_)
    refine z_callS (pc := 1) (rest := []) (st2 := [zI q1]) (fun l => c_X12_isMinute l p1 σ q1 hq) zs_X12_isMinute lm_X12_350 rfl rfl rfl (Nat.le_of_ble_eq_true rfl) ⟨Nat.le_of_ble_eq_true rfl, Nat.le_of_ble_eq_true rfl⟩ (zdg D_X12_worth 1 (1, .invokestatic 350, 3) rfl) ?_
    refine z_if_eq (pc := 4) 15 (zdg D_X12_worth 2 (4, .ifCond .eq 11, 3) rfl) rfl hf (fun hf => ?_) (fun hf => ?_)
    · refine z_sipush (pc := 15) (v := -1000) (zdg D_X12_worth 7 (15, .sipush (-1000), 3) rfl) rfl ?_
      exact z_iret (pc := 18) rfl rfl (zdg D_X12_worth 8 (18, .ireturn, 1) rfl) (hP _ _ hf)
    · refine z_aload_n (pc := 7) 0 (zdg D_X12_worth 3 (7, .aload_n 0, 1) rfl) rfl rfl ?_
      refine z_iload_n (pc := 8) 1 (zdg D_X12_worth 4 (8, .iload_n 1, 1) rfl) rfl rfl ?_
      refine z_bind hn hf (fun q2 hq hf => ?_)
      refine z_callV (pc := 9) (rest := []) (st2 := [zI q2.1]) (fun l => c_X12_worthOf l p1 σ q2 hq) zv_X12_worthOf lm_X12_355 rfl rfl rfl rfl rfl rfl (Nat.le_of_ble_eq_true rfl) ⟨Nat.le_of_ble_eq_true rfl, Nat.le_of_ble_eq_true rfl⟩ (zdg D_X12_worth 5 (9, .invokevirtual 355, 3) rfl) ?_
      refine z_goto (pc := 12) 18 (zdg D_X12_worth 6 (12, .goto 6, 3) rfl) rfl ?_
      exact z_iret (pc := 18) rfl rfl (zdg D_X12_worth 8 (18, .ireturn, 1) rfl) (hP _ _ hf)

def L_X12_hasInView : List (Nat × Instr × Nat) := [(0, .aload_n 0, 1), (1, .iload_n 1, 1), (2, .iconst 4, 1), (3, .iload_n 2, 1), (4, .iadd, 1), (5, .invokevirtual 358, 3), (8, .bipush (-2), 2), (10, .if_icmp .eq 7, 3), (13, .iconst 1, 1), (14, .goto 4, 3), (17, .iconst 0, 1), (18, .ireturn, 1)]
set_option maxRecDepth 100000 in
theorem D_X12_hasInView : zdecs cX12_hasInView L_X12_hasInView = true := by decide +kernel
noncomputable def f_X12_hasInView (p1 : Int32) (p2 : Int32) (σ : zG) : Option (Int32) :=
  (f_X12_ofShot p1 ((4 : Int32) + p2) σ).bind (fun q1 => if q1 = (-2 : Int32) then some (0 : Int32) else some (1 : Int32))
set_option maxRecDepth 100000 in
set_option maxHeartbeats 4000000 in
theorem c_X12_hasInView (l : Launch) (p1 : Int32) (p2 : Int32) (σ : zG) (q : Int32) (hq : f_X12_hasInView p1 p2 σ = some q) : zMet l zsyM m_X12_hasInView yX12_hasInView [zR 0 0, zI p1, zI p2] σ (some (zI q)) σ := by
  refine zEnter [(0, zR 0 0), (1, zI p1), (2, zI p2)] (by decide) rfl (fun _ => Nat.le_of_ble_eq_true rfl) (fun _ => rfl) (fun w h => ?_) (fun K hv hs => ?_)
  · exact zokm rfl h
  · have hP : ∀ x, f_X12_hasInView p1 p2 σ = some x → zKv K = some (zI x) ∧ zKs K = σ := fun x h => by rw [hq] at h; cases h; exact ⟨hv, hs⟩
    have hn : f_X12_hasInView p1 p2 σ ≠ none := fun z => by rw [hq] at z; cases z
    have hf := f_X12_hasInView.eq_1 p1 p2 σ
    refine z_aload_n (pc := 0) 0 (zdg D_X12_hasInView 0 (0, .aload_n 0, 1) rfl) rfl rfl ?_
    refine z_iload_n (pc := 1) 1 (zdg D_X12_hasInView 1 (1, .iload_n 1, 1) rfl) rfl rfl ?_
    refine z_iconst (pc := 2) (v := 4) (zdg D_X12_hasInView 2 (2, .iconst 4, 1) rfl) rfl ?_
    refine z_iload_n (pc := 3) 2 (zdg D_X12_hasInView 3 (3, .iload_n 2, 1) rfl) rfl rfl ?_
    refine z_iadd (pc := 4) (zdg D_X12_hasInView 4 (4, .iadd, 1) rfl) ?_
    refine z_bind hn hf (fun q1 hq hf => ?_)
    refine z_callV (pc := 5) (rest := []) (st2 := [zI q1]) (fun l => c_X12_ofShot l p1 ((4 : Int32) + p2) σ q1 hq) zv_X12_ofShot lm_X12_358 rfl rfl rfl rfl rfl rfl (Nat.le_of_ble_eq_true rfl) ⟨Nat.le_of_ble_eq_true rfl, Nat.le_of_ble_eq_true rfl⟩ (zdg D_X12_hasInView 5 (5, .invokevirtual 358, 3) rfl) ?_
    refine z_bipush (pc := 8) (v := -2) (zdg D_X12_hasInView 6 (8, .bipush (-2), 2) rfl) rfl ?_
    refine z_icmp_eq (pc := 10) 17 (zdg D_X12_hasInView 7 (10, .if_icmp .eq 7, 3) rfl) rfl hf (fun hf => ?_) (fun hf => ?_)
    · refine z_iconst (pc := 17) (v := 0) (zdg D_X12_hasInView 10 (17, .iconst 0, 1) rfl) rfl ?_
      exact z_iret (pc := 18) rfl rfl (zdg D_X12_hasInView 11 (18, .ireturn, 1) rfl) (hP _ hf)
    · refine z_iconst (pc := 13) (v := 1) (zdg D_X12_hasInView 8 (13, .iconst 1, 1) rfl) rfl ?_
      refine z_goto (pc := 14) 18 (zdg D_X12_hasInView 9 (14, .goto 4, 3) rfl) rfl ?_
      exact z_iret (pc := 18) rfl rfl (zdg D_X12_hasInView 11 (18, .ireturn, 1) rfl) (hP _ hf)

def L_X12_isClearIn : List (Nat × Instr × Nat) := [(0, .aload_n 0, 1), (1, .iload_n 1, 1), (2, .iconst 4, 1), (3, .iload_n 2, 1), (4, .iadd, 1), (5, .invokevirtual 358, 3), (8, .iconst (-1), 1), (9, .if_icmp .ne 7, 3), (12, .iconst 1, 1), (13, .goto 4, 3), (16, .iconst 0, 1), (17, .ireturn, 1)]
set_option maxRecDepth 100000 in
theorem D_X12_isClearIn : zdecs cX12_isClearIn L_X12_isClearIn = true := by decide +kernel
noncomputable def f_X12_isClearIn (p1 : Int32) (p2 : Int32) (σ : zG) : Option (Int32) :=
  (f_X12_ofShot p1 ((4 : Int32) + p2) σ).bind (fun q1 => if q1 = (-1 : Int32) then some (1 : Int32) else some (0 : Int32))
set_option maxRecDepth 100000 in
set_option maxHeartbeats 4000000 in
theorem c_X12_isClearIn (l : Launch) (p1 : Int32) (p2 : Int32) (σ : zG) (q : Int32) (hq : f_X12_isClearIn p1 p2 σ = some q) : zMet l zsyM m_X12_isClearIn yX12_isClearIn [zR 0 0, zI p1, zI p2] σ (some (zI q)) σ := by
  refine zEnter [(0, zR 0 0), (1, zI p1), (2, zI p2)] (by decide) rfl (fun _ => Nat.le_of_ble_eq_true rfl) (fun _ => rfl) (fun w h => ?_) (fun K hv hs => ?_)
  · exact zokm rfl h
  · have hP : ∀ x, f_X12_isClearIn p1 p2 σ = some x → zKv K = some (zI x) ∧ zKs K = σ := fun x h => by rw [hq] at h; cases h; exact ⟨hv, hs⟩
    have hn : f_X12_isClearIn p1 p2 σ ≠ none := fun z => by rw [hq] at z; cases z
    have hf := f_X12_isClearIn.eq_1 p1 p2 σ
    refine z_aload_n (pc := 0) 0 (zdg D_X12_isClearIn 0 (0, .aload_n 0, 1) rfl) rfl rfl ?_
    refine z_iload_n (pc := 1) 1 (zdg D_X12_isClearIn 1 (1, .iload_n 1, 1) rfl) rfl rfl ?_
    refine z_iconst (pc := 2) (v := 4) (zdg D_X12_isClearIn 2 (2, .iconst 4, 1) rfl) rfl ?_
    refine z_iload_n (pc := 3) 2 (zdg D_X12_isClearIn 3 (3, .iload_n 2, 1) rfl) rfl rfl ?_
    refine z_iadd (pc := 4) (zdg D_X12_isClearIn 4 (4, .iadd, 1) rfl) ?_
    refine z_bind hn hf (fun q1 hq hf => ?_)
    refine z_callV (pc := 5) (rest := []) (st2 := [zI q1]) (fun l => c_X12_ofShot l p1 ((4 : Int32) + p2) σ q1 hq) zv_X12_ofShot lm_X12_358 rfl rfl rfl rfl rfl rfl (Nat.le_of_ble_eq_true rfl) ⟨Nat.le_of_ble_eq_true rfl, Nat.le_of_ble_eq_true rfl⟩ (zdg D_X12_isClearIn 5 (5, .invokevirtual 358, 3) rfl) ?_
    refine z_iconst (pc := 8) (v := -1) (zdg D_X12_isClearIn 6 (8, .iconst (-1), 1) rfl) rfl ?_
    refine z_icmp_ne (pc := 9) 16 (zdg D_X12_isClearIn 7 (9, .if_icmp .ne 7, 3) rfl) rfl hf (fun hf => ?_) (fun hf => ?_)
    · refine z_iconst (pc := 16) (v := 0) (zdg D_X12_isClearIn 10 (16, .iconst 0, 1) rfl) rfl ?_
      exact z_iret (pc := 17) rfl rfl (zdg D_X12_isClearIn 11 (17, .ireturn, 1) rfl) (hP _ hf)
    · refine z_iconst (pc := 12) (v := 1) (zdg D_X12_isClearIn 8 (12, .iconst 1, 1) rfl) rfl ?_
      refine z_goto (pc := 13) 17 (zdg D_X12_isClearIn 9 (13, .goto 4, 3) rfl) rfl ?_
      exact z_iret (pc := 17) rfl rfl (zdg D_X12_isClearIn 11 (17, .ireturn, 1) rfl) (hP _ hf)

def L_X12_coveredIn : List (Nat × Instr × Nat) := [(0, .iconst 0, 1), (1, .istore_n 2, 1), (2, .iconst 0, 1), (3, .istore_n 3, 1), (4, .iload_n 3, 1), (5, .bipush 64, 2), (7, .if_icmp .ge 28, 3), (10, .iload_n 2, 1), (11, .aload_n 0, 1), (12, .iload_n 1, 1), (13, .iconst 4, 1), (14, .iload_n 3, 1), (15, .iadd, 1), (16, .invokevirtual 358, 3), (19, .ifCond .lt 7, 3), (22, .iconst 1, 1), (23, .goto 4, 3), (26, .iconst 0, 1), (27, .iadd, 1), (28, .istore_n 2, 1), (29, .iinc 3 1, 3), (32, .goto (-28), 3), (35, .iload_n 2, 1), (36, .ireturn, 1)]
set_option maxRecDepth 100000 in
theorem D_X12_coveredIn : zdecs cX12_coveredIn L_X12_coveredIn = true := by decide +kernel
noncomputable def b_X12_coveredIn_4 (p1 : Int32) (σ : zG) (v2_1 : Int32) (v3_2 : Int32) : Option ((Int32 × Int32) ⊕ (Int32)) :=
  if v3_2 < (64 : Int32) then (f_X12_ofShot p1 ((4 : Int32) + v3_2) σ).bind (fun q3 => if 0 ≤ q3 then some (Sum.inl ((v2_1 + (1 : Int32)), (v3_2 + 1))) else some (Sum.inl ((v2_1 + (0 : Int32)), (v3_2 + 1)))) else some (Sum.inr v2_1)
noncomputable def f_X12_coveredIn (p1 : Int32) (σ : zG) : Option (Int32) :=
  (zlp (fun q : Int32 × Int32 => b_X12_coveredIn_4 p1 σ q.1 q.2) ((0 : Int32), (0 : Int32))).bind (fun e4 : Int32 => some e4)
set_option maxRecDepth 100000 in
set_option maxHeartbeats 4000000 in
theorem c_X12_coveredIn (l : Launch) (p1 : Int32) (σ : zG) (q : Int32) (hq : f_X12_coveredIn p1 σ = some q) : zMet l zsyM m_X12_coveredIn yX12_coveredIn [zR 0 0, zI p1] σ (some (zI q)) σ := by
  refine zEnter [(0, zR 0 0), (1, zI p1)] (by decide) rfl (fun _ => Nat.le_of_ble_eq_true rfl) (fun _ => rfl) (fun w h => ?_) (fun K hv hs => ?_)
  · exact zokm rfl h
  · have hP : ∀ x, f_X12_coveredIn p1 σ = some x → zKv K = some (zI x) ∧ zKs K = σ := fun x h => by rw [hq] at h; cases h; exact ⟨hv, hs⟩
    have hn : f_X12_coveredIn p1 σ ≠ none := fun z => by rw [hq] at z; cases z
    have hf := f_X12_coveredIn.eq_1 p1 σ
    refine z_iconst (pc := 0) (v := 0) (zdg D_X12_coveredIn 0 (0, .iconst 0, 1) rfl) rfl ?_
    refine z_istore_n (pc := 1) (al' := [(2, zI (0 : Int32)), (0, zR 0 0), (1, zI p1)]) (zdg D_X12_coveredIn 1 (1, .istore_n 2, 1) rfl) rfl (by decide) rfl ?_
    refine z_iconst (pc := 2) (v := 0) (zdg D_X12_coveredIn 2 (2, .iconst 0, 1) rfl) rfl ?_
    refine z_istore_n (pc := 3) (al' := [(3, zI (0 : Int32)), (2, zI (0 : Int32)), (0, zR 0 0), (1, zI p1)]) (zdg D_X12_coveredIn 3 (3, .istore_n 3, 1) rfl) rfl (by decide) rfl ?_
    refine z_sub (al' := [(0, zR 0 0), (1, zI p1), (2, zI (0 : Int32)), (3, zI (0 : Int32))]) [2, 3, 1, 0] rfl ?_
    refine z_loop (f := (fun q : Int32 × Int32 => b_X12_coveredIn_4 p1 σ q.1 q.2)) (a := ((0 : Int32), (0 : Int32))) (fun q : Int32 × Int32 => zX zsyM m_X12_coveredIn K 4 [(0, zR 0 0), (1, zI p1), (2, zI q.1), (3, zI q.2)] [] σ) (fun e4 : Int32 => zX zsyM m_X12_coveredIn K 35 [(2, zI e4)] [] σ) hn hf ?_ ?_
    · intro e4 hf
      refine z_iload_n (pc := 35) 0 (zdg D_X12_coveredIn 22 (35, .iload_n 2, 1) rfl) rfl rfl ?_
      exact z_iret (pc := 36) rfl rfl (zdg D_X12_coveredIn 23 (36, .ireturn, 1) rfl) (hP _ hf)
    · rintro ⟨v2_1, v3_2⟩ hn hi hx
      have hf := b_X12_coveredIn_4.eq_1 p1 σ v2_1 v3_2
      refine z_iload_n (pc := 4) 3 (zdg D_X12_coveredIn 4 (4, .iload_n 3, 1) rfl) rfl rfl ?_
      refine z_bipush (pc := 5) (v := 64) (zdg D_X12_coveredIn 5 (5, .bipush 64, 2) rfl) rfl ?_
      refine z_icmp_ge (pc := 7) 35 (zdg D_X12_coveredIn 6 (7, .if_icmp .ge 28, 3) rfl) rfl hf (fun hf => ?_) (fun hf => ?_)
      · refine z_sub (al' := [(2, zI v2_1)]) [2] rfl ?_
        exact hx v2_1 hf
      · refine z_iload_n (pc := 10) 2 (zdg D_X12_coveredIn 7 (10, .iload_n 2, 1) rfl) rfl rfl ?_
        refine z_aload_n (pc := 11) 0 (zdg D_X12_coveredIn 8 (11, .aload_n 0, 1) rfl) rfl rfl ?_
        refine z_iload_n (pc := 12) 1 (zdg D_X12_coveredIn 9 (12, .iload_n 1, 1) rfl) rfl rfl ?_
        refine z_iconst (pc := 13) (v := 4) (zdg D_X12_coveredIn 10 (13, .iconst 4, 1) rfl) rfl ?_
        refine z_iload_n (pc := 14) 3 (zdg D_X12_coveredIn 11 (14, .iload_n 3, 1) rfl) rfl rfl ?_
        refine z_iadd (pc := 15) (zdg D_X12_coveredIn 12 (15, .iadd, 1) rfl) ?_
        refine z_bind hn hf (fun q3 hq hf => ?_)
        refine z_callV (pc := 16) (rest := [zI v2_1]) (st2 := [zI q3, zI v2_1]) (fun l => c_X12_ofShot l p1 ((4 : Int32) + v3_2) σ q3 hq) zv_X12_ofShot lm_X12_358 rfl rfl rfl rfl rfl rfl (Nat.le_of_ble_eq_true rfl) ⟨Nat.le_of_ble_eq_true rfl, Nat.le_of_ble_eq_true rfl⟩ (zdg D_X12_coveredIn 13 (16, .invokevirtual 358, 3) rfl) ?_
        refine z_if_lt (pc := 19) 26 (zdg D_X12_coveredIn 14 (19, .ifCond .lt 7, 3) rfl) rfl hf (fun hf => ?_) (fun hf => ?_)
        · refine z_iconst (pc := 26) (v := 0) (zdg D_X12_coveredIn 17 (26, .iconst 0, 1) rfl) rfl ?_
          refine z_iadd (pc := 27) (zdg D_X12_coveredIn 18 (27, .iadd, 1) rfl) ?_
          refine z_istore_n (pc := 28) (al' := [(2, zI (v2_1 + (0 : Int32))), (0, zR 0 0), (1, zI p1), (3, zI v3_2)]) (zdg D_X12_coveredIn 19 (28, .istore_n 2, 1) rfl) rfl (by decide) rfl ?_
          refine z_iinc (pc := 29) (v0 := (v3_2 + 1)) (al' := [(3, zI (v3_2 + 1)), (2, zI (v2_1 + (0 : Int32))), (0, zR 0 0), (1, zI p1)]) 3 (zdg D_X12_coveredIn 20 (29, .iinc 3 1, 3) rfl) rfl rfl (by decide) rfl ?_
          refine z_goto (pc := 32) 4 (zdg D_X12_coveredIn 21 (32, .goto (-28), 3) rfl) rfl ?_
          refine z_sub (al' := [(0, zR 0 0), (1, zI p1), (2, zI (v2_1 + (0 : Int32))), (3, zI (v3_2 + 1))]) [2, 3, 1, 0] rfl ?_
          exact hi ((v2_1 + (0 : Int32)), (v3_2 + 1)) hf
        · refine z_iconst (pc := 22) (v := 1) (zdg D_X12_coveredIn 15 (22, .iconst 1, 1) rfl) rfl ?_
          refine z_goto (pc := 23) 27 (zdg D_X12_coveredIn 16 (23, .goto 4, 3) rfl) rfl ?_
          refine z_iadd (pc := 27) (zdg D_X12_coveredIn 18 (27, .iadd, 1) rfl) ?_
          refine z_istore_n (pc := 28) (al' := [(2, zI (v2_1 + (1 : Int32))), (0, zR 0 0), (1, zI p1), (3, zI v3_2)]) (zdg D_X12_coveredIn 19 (28, .istore_n 2, 1) rfl) rfl (by decide) rfl ?_
          refine z_iinc (pc := 29) (v0 := (v3_2 + 1)) (al' := [(3, zI (v3_2 + 1)), (2, zI (v2_1 + (1 : Int32))), (0, zR 0 0), (1, zI p1)]) 3 (zdg D_X12_coveredIn 20 (29, .iinc 3 1, 3) rfl) rfl rfl (by decide) rfl ?_
          refine z_goto (pc := 32) 4 (zdg D_X12_coveredIn 21 (32, .goto (-28), 3) rfl) rfl ?_
          refine z_sub (al' := [(0, zR 0 0), (1, zI p1), (2, zI (v2_1 + (1 : Int32))), (3, zI (v3_2 + 1))]) [2, 3, 1, 0] rfl ?_
          exact hi ((v2_1 + (1 : Int32)), (v3_2 + 1)) hf

def L_X12_shot : List (Nat × Instr × Nat) := [(0, .aload_n 0, 1), (1, .iload_n 1, 1), (2, .invokevirtual 361, 3), (5, .ifCond .eq 12, 3), (8, .iload_n 2, 1), (9, .iconst 0, 1), (10, .iconst 3, 1), (11, .invokestatic 64, 3), (14, .ifCond .ne 5, 3), (17, .iconst (-1), 1), (18, .ireturn, 1), (19, .iload_n 2, 1), (20, .iconst 3, 1), (21, .if_icmp .ne 11, 3), (24, .aload_n 0, 1), (25, .iload_n 1, 1), (26, .invokevirtual 364, 3), (29, .goto 9, 3), (32, .aload_n 0, 1), (33, .iload_n 1, 1), (34, .iload_n 2, 1), (35, .invokevirtual 358, 3), (38, .ireturn, 1)]
set_option maxRecDepth 100000 in
theorem D_X12_shot : zdecs cX12_shot L_X12_shot = true := by decide +kernel
noncomputable def f_X12_shot (p1 : Int32) (p2 : Int32) (σ : zG) : Option (Int32) :=
  (f_X12_isShot p1 σ).bind (fun q1 => if q1 = 0 then some (-1 : Int32) else if (f_X12_isIn p2 (0 : Int32) (3 : Int32)) = 0 then some (-1 : Int32) else if p2 = (3 : Int32) then (f_X12_coveredIn p1 σ).bind (fun q3 => some q3) else (f_X12_ofShot p1 p2 σ).bind (fun q2 => some q2))
set_option maxRecDepth 100000 in
set_option maxHeartbeats 4000000 in
theorem c_X12_shot (l : Launch) (p1 : Int32) (p2 : Int32) (σ : zG) (q : Int32) (hq : f_X12_shot p1 p2 σ = some q) : zMet l zsyM m_X12_shot yX12_shot [zR 0 0, zI p1, zI p2] σ (some (zI q)) σ := by
  refine zEnter [(0, zR 0 0), (1, zI p1), (2, zI p2)] (by decide) rfl (fun _ => Nat.le_of_ble_eq_true rfl) (fun _ => rfl) (fun w h => ?_) (fun K hv hs => ?_)
  · exact zokm rfl h
  · have hP : ∀ x, f_X12_shot p1 p2 σ = some x → zKv K = some (zI x) ∧ zKs K = σ := fun x h => by rw [hq] at h; cases h; exact ⟨hv, hs⟩
    have hn : f_X12_shot p1 p2 σ ≠ none := fun z => by rw [hq] at z; cases z
    have hf := f_X12_shot.eq_1 p1 p2 σ
    refine z_aload_n (pc := 0) 0 (zdg D_X12_shot 0 (0, .aload_n 0, 1) rfl) rfl rfl ?_
    refine z_iload_n (pc := 1) 1 (zdg D_X12_shot 1 (1, .iload_n 1, 1) rfl) rfl rfl ?_
    refine z_bind hn hf (fun q1 hq hf => ?_)
    refine z_callV (pc := 2) (rest := []) (st2 := [zI q1]) (fun l => c_X12_isShot l p1 σ q1 hq) zv_X12_isShot lm_X12_361 rfl rfl rfl rfl rfl rfl (Nat.le_of_ble_eq_true rfl) ⟨Nat.le_of_ble_eq_true rfl, Nat.le_of_ble_eq_true rfl⟩ (zdg D_X12_shot 2 (2, .invokevirtual 361, 3) rfl) ?_
    refine z_if_eq (pc := 5) 17 (zdg D_X12_shot 3 (5, .ifCond .eq 12, 3) rfl) rfl hf (fun hf => ?_) (fun hf => ?_)
    · refine z_iconst (pc := 17) (v := -1) (zdg D_X12_shot 9 (17, .iconst (-1), 1) rfl) rfl ?_
      exact z_iret (pc := 18) rfl rfl (zdg D_X12_shot 10 (18, .ireturn, 1) rfl) (hP _ hf)
    · refine z_iload_n (pc := 8) 2 (zdg D_X12_shot 4 (8, .iload_n 2, 1) rfl) rfl rfl ?_
      refine z_iconst (pc := 9) (v := 0) (zdg D_X12_shot 5 (9, .iconst 0, 1) rfl) rfl ?_
      refine z_iconst (pc := 10) (v := 3) (zdg D_X12_shot 6 (10, .iconst 3, 1) rfl) rfl ?_
      refine z_callS (pc := 11) (rest := []) (st2 := [zI (f_X12_isIn p2 (0 : Int32) (3 : Int32))]) (fun l => c_X12_isIn l p2 (0 : Int32) (3 : Int32) σ) zs_X12_isIn lm_X12_64 rfl rfl rfl (Nat.le_of_ble_eq_true rfl) ⟨Nat.le_of_ble_eq_true rfl, Nat.le_of_ble_eq_true rfl⟩ (zdg D_X12_shot 7 (11, .invokestatic 64, 3) rfl) ?_
      refine z_if_ne (pc := 14) 19 (zdg D_X12_shot 8 (14, .ifCond .ne 5, 3) rfl) rfl hf (fun hf => ?_) (fun hf => ?_)
      · refine z_iload_n (pc := 19) 2 (zdg D_X12_shot 11 (19, .iload_n 2, 1) rfl) rfl rfl ?_
        refine z_iconst (pc := 20) (v := 3) (zdg D_X12_shot 12 (20, .iconst 3, 1) rfl) rfl ?_
        refine z_icmp_ne (pc := 21) 32 (zdg D_X12_shot 13 (21, .if_icmp .ne 11, 3) rfl) rfl hf (fun hf => ?_) (fun hf => ?_)
        · refine z_aload_n (pc := 32) 0 (zdg D_X12_shot 18 (32, .aload_n 0, 1) rfl) rfl rfl ?_
          refine z_iload_n (pc := 33) 1 (zdg D_X12_shot 19 (33, .iload_n 1, 1) rfl) rfl rfl ?_
          refine z_iload_n (pc := 34) 2 (zdg D_X12_shot 20 (34, .iload_n 2, 1) rfl) rfl rfl ?_
          refine z_bind hn hf (fun q2 hq hf => ?_)
          refine z_callV (pc := 35) (rest := []) (st2 := [zI q2]) (fun l => c_X12_ofShot l p1 p2 σ q2 hq) zv_X12_ofShot lm_X12_358 rfl rfl rfl rfl rfl rfl (Nat.le_of_ble_eq_true rfl) ⟨Nat.le_of_ble_eq_true rfl, Nat.le_of_ble_eq_true rfl⟩ (zdg D_X12_shot 21 (35, .invokevirtual 358, 3) rfl) ?_
          exact z_iret (pc := 38) rfl rfl (zdg D_X12_shot 22 (38, .ireturn, 1) rfl) (hP _ hf)
        · refine z_aload_n (pc := 24) 0 (zdg D_X12_shot 14 (24, .aload_n 0, 1) rfl) rfl rfl ?_
          refine z_iload_n (pc := 25) 1 (zdg D_X12_shot 15 (25, .iload_n 1, 1) rfl) rfl rfl ?_
          refine z_bind hn hf (fun q3 hq hf => ?_)
          refine z_callV (pc := 26) (rest := []) (st2 := [zI q3]) (fun l => c_X12_coveredIn l p1 σ q3 hq) zv_X12_coveredIn lm_X12_364 rfl rfl rfl rfl rfl rfl (Nat.le_of_ble_eq_true rfl) ⟨Nat.le_of_ble_eq_true rfl, Nat.le_of_ble_eq_true rfl⟩ (zdg D_X12_shot 16 (26, .invokevirtual 364, 3) rfl) ?_
          refine z_goto (pc := 29) 38 (zdg D_X12_shot 17 (29, .goto 9, 3) rfl) rfl ?_
          exact z_iret (pc := 38) rfl rfl (zdg D_X12_shot 22 (38, .ireturn, 1) rfl) (hP _ hf)
      · refine z_iconst (pc := 17) (v := -1) (zdg D_X12_shot 9 (17, .iconst (-1), 1) rfl) rfl ?_
        exact z_iret (pc := 18) rfl rfl (zdg D_X12_shot 10 (18, .ireturn, 1) rfl) (hP _ hf)

def L_X12_book : List (Nat × Instr × Nat) := [(0, .aload_n 0, 1), (1, .iload_n 1, 1), (2, .invokevirtual 361, 3), (5, .ifCond .eq 29, 3), (8, .aload_n 0, 1), (9, .iload_n 2, 1), (10, .invokevirtual 236, 3), (13, .ifCond .eq 21, 3), (16, .aload_n 0, 1), (17, .iload_n 1, 1), (18, .iload_n 2, 1), (19, .invokevirtual 367, 3), (22, .ifCond .eq 12, 3), (25, .iload_n 3, 1), (26, .iconst 0, 1), (27, .iconst 1, 1), (28, .invokestatic 64, 3), (31, .ifCond .ne 6, 3), (34, .bipush (-2), 2), (36, .ireturn, 1), (37, .aload_n 0, 1), (38, .iload_n 1, 1), (39, .iload_n 3, 1), (40, .ifCond .ne 9, 3), (43, .iconst 4, 1), (44, .iload_n 2, 1), (45, .iadd, 1), (46, .goto 7, 3), (49, .bipush 68, 2), (51, .iload_n 2, 1), (52, .iadd, 1), (53, .invokevirtual 358, 3), (56, .ireturn, 1)]
set_option maxRecDepth 100000 in
theorem D_X12_book : zdecs cX12_book L_X12_book = true := by decide +kernel
noncomputable def f_X12_book (p1 : Int32) (p2 : Int32) (p3 : Int32) (σ : zG) : Option (Int32) :=
  (f_X12_isShot p1 σ).bind (fun q1 => if q1 = 0 then some (-2 : Int32) else (f_X12_isSpot p2 σ).bind (fun q2 => if q2 = 0 then some (-2 : Int32) else (f_X12_hasInView p1 p2 σ).bind (fun q3 => if q3 = 0 then some (-2 : Int32) else if (f_X12_isIn p3 (0 : Int32) (1 : Int32)) = 0 then some (-2 : Int32) else if p3 = 0 then (f_X12_ofShot p1 ((4 : Int32) + p2) σ).bind (fun q5 => some q5) else (f_X12_ofShot p1 ((68 : Int32) + p2) σ).bind (fun q4 => some q4))))
set_option maxRecDepth 100000 in
set_option maxHeartbeats 4000000 in
theorem c_X12_book (l : Launch) (p1 : Int32) (p2 : Int32) (p3 : Int32) (σ : zG) (q : Int32) (hq : f_X12_book p1 p2 p3 σ = some q) : zMet l zsyM m_X12_book yX12_book [zR 0 0, zI p1, zI p2, zI p3] σ (some (zI q)) σ := by
  refine zEnter [(0, zR 0 0), (1, zI p1), (2, zI p2), (3, zI p3)] (by decide) rfl (fun _ => Nat.le_of_ble_eq_true rfl) (fun _ => rfl) (fun w h => ?_) (fun K hv hs => ?_)
  · exact zokm rfl h
  · have hP : ∀ x, f_X12_book p1 p2 p3 σ = some x → zKv K = some (zI x) ∧ zKs K = σ := fun x h => by rw [hq] at h; cases h; exact ⟨hv, hs⟩
    have hn : f_X12_book p1 p2 p3 σ ≠ none := fun z => by rw [hq] at z; cases z
    have hf := f_X12_book.eq_1 p1 p2 p3 σ
    refine z_aload_n (pc := 0) 0 (zdg D_X12_book 0 (0, .aload_n 0, 1) rfl) rfl rfl ?_
    refine z_iload_n (pc := 1) 1 (zdg D_X12_book 1 (1, .iload_n 1, 1) rfl) rfl rfl ?_
    refine z_bind hn hf (fun q1 hq hf => ?_)
    refine z_callV (pc := 2) (rest := []) (st2 := [zI q1]) (fun l => c_X12_isShot l p1 σ q1 hq) zv_X12_isShot lm_X12_361 rfl rfl rfl rfl rfl rfl (Nat.le_of_ble_eq_true rfl) ⟨Nat.le_of_ble_eq_true rfl, Nat.le_of_ble_eq_true rfl⟩ (zdg D_X12_book 2 (2, .invokevirtual 361, 3) rfl) ?_
    refine z_if_eq (pc := 5) 34 (zdg D_X12_book 3 (5, .ifCond .eq 29, 3) rfl) rfl hf (fun hf => ?_) (fun hf => ?_)
    · refine z_bipush (pc := 34) (v := -2) (zdg D_X12_book 18 (34, .bipush (-2), 2) rfl) rfl ?_
      exact z_iret (pc := 36) rfl rfl (zdg D_X12_book 19 (36, .ireturn, 1) rfl) (hP _ hf)
    · refine z_aload_n (pc := 8) 0 (zdg D_X12_book 4 (8, .aload_n 0, 1) rfl) rfl rfl ?_
      refine z_iload_n (pc := 9) 2 (zdg D_X12_book 5 (9, .iload_n 2, 1) rfl) rfl rfl ?_
      refine z_bind hn hf (fun q2 hq hf => ?_)
      refine z_callV (pc := 10) (rest := []) (st2 := [zI q2]) (fun l => c_X12_isSpot l p2 σ q2 hq) zv_X12_isSpot lm_X12_236 rfl rfl rfl rfl rfl rfl (Nat.le_of_ble_eq_true rfl) ⟨Nat.le_of_ble_eq_true rfl, Nat.le_of_ble_eq_true rfl⟩ (zdg D_X12_book 6 (10, .invokevirtual 236, 3) rfl) ?_
      refine z_if_eq (pc := 13) 34 (zdg D_X12_book 7 (13, .ifCond .eq 21, 3) rfl) rfl hf (fun hf => ?_) (fun hf => ?_)
      · refine z_bipush (pc := 34) (v := -2) (zdg D_X12_book 18 (34, .bipush (-2), 2) rfl) rfl ?_
        exact z_iret (pc := 36) rfl rfl (zdg D_X12_book 19 (36, .ireturn, 1) rfl) (hP _ hf)
      · refine z_aload_n (pc := 16) 0 (zdg D_X12_book 8 (16, .aload_n 0, 1) rfl) rfl rfl ?_
        refine z_iload_n (pc := 17) 1 (zdg D_X12_book 9 (17, .iload_n 1, 1) rfl) rfl rfl ?_
        refine z_iload_n (pc := 18) 2 (zdg D_X12_book 10 (18, .iload_n 2, 1) rfl) rfl rfl ?_
        refine z_bind hn hf (fun q3 hq hf => ?_)
        refine z_callV (pc := 19) (rest := []) (st2 := [zI q3]) (fun l => c_X12_hasInView l p1 p2 σ q3 hq) zv_X12_hasInView lm_X12_367 rfl rfl rfl rfl rfl rfl (Nat.le_of_ble_eq_true rfl) ⟨Nat.le_of_ble_eq_true rfl, Nat.le_of_ble_eq_true rfl⟩ (zdg D_X12_book 11 (19, .invokevirtual 367, 3) rfl) ?_
        refine z_if_eq (pc := 22) 34 (zdg D_X12_book 12 (22, .ifCond .eq 12, 3) rfl) rfl hf (fun hf => ?_) (fun hf => ?_)
        · refine z_bipush (pc := 34) (v := -2) (zdg D_X12_book 18 (34, .bipush (-2), 2) rfl) rfl ?_
          exact z_iret (pc := 36) rfl rfl (zdg D_X12_book 19 (36, .ireturn, 1) rfl) (hP _ hf)
        · refine z_iload_n (pc := 25) 3 (zdg D_X12_book 13 (25, .iload_n 3, 1) rfl) rfl rfl ?_
          refine z_iconst (pc := 26) (v := 0) (zdg D_X12_book 14 (26, .iconst 0, 1) rfl) rfl ?_
          refine z_iconst (pc := 27) (v := 1) (zdg D_X12_book 15 (27, .iconst 1, 1) rfl) rfl ?_
          refine z_callS (pc := 28) (rest := []) (st2 := [zI (f_X12_isIn p3 (0 : Int32) (1 : Int32))]) (fun l => c_X12_isIn l p3 (0 : Int32) (1 : Int32) σ) zs_X12_isIn lm_X12_64 rfl rfl rfl (Nat.le_of_ble_eq_true rfl) ⟨Nat.le_of_ble_eq_true rfl, Nat.le_of_ble_eq_true rfl⟩ (zdg D_X12_book 16 (28, .invokestatic 64, 3) rfl) ?_
          refine z_if_ne (pc := 31) 37 (zdg D_X12_book 17 (31, .ifCond .ne 6, 3) rfl) rfl hf (fun hf => ?_) (fun hf => ?_)
          · refine z_aload_n (pc := 37) 0 (zdg D_X12_book 20 (37, .aload_n 0, 1) rfl) rfl rfl ?_
            refine z_iload_n (pc := 38) 1 (zdg D_X12_book 21 (38, .iload_n 1, 1) rfl) rfl rfl ?_
            refine z_iload_n (pc := 39) 3 (zdg D_X12_book 22 (39, .iload_n 3, 1) rfl) rfl rfl ?_
            refine z_if_ne (pc := 40) 49 (zdg D_X12_book 23 (40, .ifCond .ne 9, 3) rfl) rfl hf (fun hf => ?_) (fun hf => ?_)
            · refine z_bipush (pc := 49) (v := 68) (zdg D_X12_book 28 (49, .bipush 68, 2) rfl) rfl ?_
              refine z_iload_n (pc := 51) 2 (zdg D_X12_book 29 (51, .iload_n 2, 1) rfl) rfl rfl ?_
              refine z_iadd (pc := 52) (zdg D_X12_book 30 (52, .iadd, 1) rfl) ?_
              refine z_bind hn hf (fun q4 hq hf => ?_)
              refine z_callV (pc := 53) (rest := []) (st2 := [zI q4]) (fun l => c_X12_ofShot l p1 ((68 : Int32) + p2) σ q4 hq) zv_X12_ofShot lm_X12_358 rfl rfl rfl rfl rfl rfl (Nat.le_of_ble_eq_true rfl) ⟨Nat.le_of_ble_eq_true rfl, Nat.le_of_ble_eq_true rfl⟩ (zdg D_X12_book 31 (53, .invokevirtual 358, 3) rfl) ?_
              exact z_iret (pc := 56) rfl rfl (zdg D_X12_book 32 (56, .ireturn, 1) rfl) (hP _ hf)
            · refine z_iconst (pc := 43) (v := 4) (zdg D_X12_book 24 (43, .iconst 4, 1) rfl) rfl ?_
              refine z_iload_n (pc := 44) 2 (zdg D_X12_book 25 (44, .iload_n 2, 1) rfl) rfl rfl ?_
              refine z_iadd (pc := 45) (zdg D_X12_book 26 (45, .iadd, 1) rfl) ?_
              refine z_goto (pc := 46) 53 (zdg D_X12_book 27 (46, .goto 7, 3) rfl) rfl ?_
              refine z_bind hn hf (fun q5 hq hf => ?_)
              refine z_callV (pc := 53) (rest := []) (st2 := [zI q5]) (fun l => c_X12_ofShot l p1 ((4 : Int32) + p2) σ q5 hq) zv_X12_ofShot lm_X12_358 rfl rfl rfl rfl rfl rfl (Nat.le_of_ble_eq_true rfl) ⟨Nat.le_of_ble_eq_true rfl, Nat.le_of_ble_eq_true rfl⟩ (zdg D_X12_book 31 (53, .invokevirtual 358, 3) rfl) ?_
              exact z_iret (pc := 56) rfl rfl (zdg D_X12_book 32 (56, .ireturn, 1) rfl) (hP _ hf)
          · refine z_bipush (pc := 34) (v := -2) (zdg D_X12_book 18 (34, .bipush (-2), 2) rfl) rfl ?_
            exact z_iret (pc := 36) rfl rfl (zdg D_X12_book 19 (36, .ireturn, 1) rfl) (hP _ hf)

def L_X12_isEmpty : List (Nat × Instr × Nat) := [(0, .aload_n 0, 1), (1, .iload_n 1, 1), (2, .invokevirtual 326, 3), (5, .ifCond .ne 7, 3), (8, .iconst 1, 1), (9, .goto 4, 3), (12, .iconst 0, 1), (13, .ireturn, 1)]
set_option maxRecDepth 100000 in
theorem D_X12_isEmpty : zdecs cX12_isEmpty L_X12_isEmpty = true := by decide +kernel
noncomputable def f_X12_isEmpty (p1 : Int32) (σ : zG) : Option (Int32) :=
  (f_X12_peopleIn p1 σ).bind (fun q1 => if q1 = 0 then some (1 : Int32) else some (0 : Int32))
set_option maxRecDepth 100000 in
set_option maxHeartbeats 4000000 in
theorem c_X12_isEmpty (l : Launch) (p1 : Int32) (σ : zG) (q : Int32) (hq : f_X12_isEmpty p1 σ = some q) : zMet l zsyM m_X12_isEmpty yX12_isEmpty [zR 0 0, zI p1] σ (some (zI q)) σ := by
  refine zEnter [(0, zR 0 0), (1, zI p1)] (by decide) rfl (fun _ => Nat.le_of_ble_eq_true rfl) (fun _ => rfl) (fun w h => ?_) (fun K hv hs => ?_)
  · exact zokm rfl h
  · have hP : ∀ x, f_X12_isEmpty p1 σ = some x → zKv K = some (zI x) ∧ zKs K = σ := fun x h => by rw [hq] at h; cases h; exact ⟨hv, hs⟩
    have hn : f_X12_isEmpty p1 σ ≠ none := fun z => by rw [hq] at z; cases z
    have hf := f_X12_isEmpty.eq_1 p1 σ
    refine z_aload_n (pc := 0) 0 (zdg D_X12_isEmpty 0 (0, .aload_n 0, 1) rfl) rfl rfl ?_
    refine z_iload_n (pc := 1) 1 (zdg D_X12_isEmpty 1 (1, .iload_n 1, 1) rfl) rfl rfl ?_
    refine z_bind hn hf (fun q1 hq hf => ?_)
    refine z_callV (pc := 2) (rest := []) (st2 := [zI q1]) (fun l => c_X12_peopleIn l p1 σ q1 hq) zv_X12_peopleIn lm_X12_326 rfl rfl rfl rfl rfl rfl (Nat.le_of_ble_eq_true rfl) ⟨Nat.le_of_ble_eq_true rfl, Nat.le_of_ble_eq_true rfl⟩ (zdg D_X12_isEmpty 2 (2, .invokevirtual 326, 3) rfl) ?_
    refine z_if_ne (pc := 5) 12 (zdg D_X12_isEmpty 3 (5, .ifCond .ne 7, 3) rfl) rfl hf (fun hf => ?_) (fun hf => ?_)
    · refine z_iconst (pc := 12) (v := 0) (zdg D_X12_isEmpty 6 (12, .iconst 0, 1) rfl) rfl ?_
      exact z_iret (pc := 13) rfl rfl (zdg D_X12_isEmpty 7 (13, .ireturn, 1) rfl) (hP _ hf)
    · refine z_iconst (pc := 8) (v := 1) (zdg D_X12_isEmpty 4 (8, .iconst 1, 1) rfl) rfl ?_
      refine z_goto (pc := 9) 13 (zdg D_X12_isEmpty 5 (9, .goto 4, 3) rfl) rfl ?_
      exact z_iret (pc := 13) rfl rfl (zdg D_X12_isEmpty 7 (13, .ireturn, 1) rfl) (hP _ hf)

def L_X12_waits : List (Nat × Instr × Nat) := [(0, .aload_n 0, 1), (1, .getfield 7, 3), (4, .iconst 0, 1), (5, .iaload, 1), (6, .istore_n 1, 1), (7, .iload_n 1, 1), (8, .sipush 500, 3), (11, .if_icmp .gt 19, 3), (14, .aload_n 0, 1), (15, .iload_n 1, 1), (16, .invokevirtual 370, 3), (19, .ifCond .eq 5, 3), (22, .iload_n 1, 1), (23, .ireturn, 1), (24, .iinc 1 1, 3), (27, .goto (-20), 3), (30, .iconst (-1), 1), (31, .ireturn, 1)]
set_option maxRecDepth 100000 in
theorem D_X12_waits : zdecs cX12_waits L_X12_waits = true := by decide +kernel
noncomputable def b_X12_waits_7 (σ : zG) (v1_1 : Int32) : Option ((Int32) ⊕ ((Int32) ⊕ (Unit))) :=
  if v1_1 ≤ (500 : Int32) then (f_X12_isEmpty v1_1 σ).bind (fun q2 => if q2 = 0 then some (Sum.inl (v1_1 + 1)) else some (Sum.inr (Sum.inl v1_1))) else some (Sum.inr (Sum.inr ()))
noncomputable def f_X12_waits (σ : zG) : Option (Int32) :=
  (zlp (fun q : Int32 => b_X12_waits_7 σ q) (σ.1 1 0 0)).bind (Sum.elim (fun e3 : Int32 => some e3) (fun e4 : Unit => some (-1 : Int32)))
set_option maxRecDepth 100000 in
set_option maxHeartbeats 4000000 in
theorem c_X12_waits (l : Launch)  (σ : zG) (q : Int32) (hq : f_X12_waits σ = some q) : zMet l zsyM m_X12_waits yX12_waits [zR 0 0] σ (some (zI q)) σ := by
  refine zEnter [(0, zR 0 0)] (by decide) rfl (fun _ => Nat.le_of_ble_eq_true rfl) (fun _ => rfl) (fun w h => ?_) (fun K hv hs => ?_)
  · exact zokm rfl h
  · have hP : ∀ x, f_X12_waits σ = some x → zKv K = some (zI x) ∧ zKs K = σ := fun x h => by rw [hq] at h; cases h; exact ⟨hv, hs⟩
    have hn : f_X12_waits σ ≠ none := fun z => by rw [hq] at z; cases z
    have hf := f_X12_waits.eq_1 σ
    refine z_aload_n (pc := 0) 0 (zdg D_X12_waits 0 (0, .aload_n 0, 1) rfl) rfl rfl ?_
    refine z_getR (pc := 1) (g := 1) (j := 0) lf_X12_7 rfl rfl rfl (zdg D_X12_waits 1 (1, .getfield 7, 3) rfl) ?_
    refine z_iconst (pc := 4) (v := 0) (zdg D_X12_waits 2 (4, .iconst 0, 1) rfl) rfl ?_
    refine z_ialdC (pc := 5) (j := 0) rfl (fun _ => rfl) (zdg D_X12_waits 3 (5, .iaload, 1) rfl) rfl rfl ?_
    refine z_istore_n (pc := 6) (al' := [(1, zI (σ.1 1 0 0)), (0, zR 0 0)]) (zdg D_X12_waits 4 (6, .istore_n 1, 1) rfl) rfl (by decide) rfl ?_
    refine z_sub (al' := [(0, zR 0 0), (1, zI (σ.1 1 0 0))]) [1, 0] rfl ?_
    refine z_loop (f := (fun q : Int32 => b_X12_waits_7 σ q)) (a := (σ.1 1 0 0)) (fun q : Int32 => zX zsyM m_X12_waits K 7 [(0, zR 0 0), (1, zI q)] [] σ) (Sum.elim (fun e3 : Int32 => zX zsyM m_X12_waits K 22 [(1, zI e3)] [] σ) (fun e4 : Unit => zX zsyM m_X12_waits K 30 [] [] σ)) hn hf ?_ ?_
    · intro b hf
      cases b with
      | inl e3 =>
        refine z_iload_n (pc := 22) 0 (zdg D_X12_waits 12 (22, .iload_n 1, 1) rfl) rfl rfl ?_
        exact z_iret (pc := 23) rfl rfl (zdg D_X12_waits 13 (23, .ireturn, 1) rfl) (hP _ hf)
      | inr b =>
        revert hf
        revert b
        intro e4 hf
        refine z_iconst (pc := 30) (v := -1) (zdg D_X12_waits 16 (30, .iconst (-1), 1) rfl) rfl ?_
        exact z_iret (pc := 31) rfl rfl (zdg D_X12_waits 17 (31, .ireturn, 1) rfl) (hP _ hf)
    · intro v1_1 hn hi hx
      have hf := b_X12_waits_7.eq_1 σ v1_1
      refine z_iload_n (pc := 7) 1 (zdg D_X12_waits 5 (7, .iload_n 1, 1) rfl) rfl rfl ?_
      refine z_sipush (pc := 8) (v := 500) (zdg D_X12_waits 6 (8, .sipush 500, 3) rfl) rfl ?_
      refine z_icmp_gt (pc := 11) 30 (zdg D_X12_waits 7 (11, .if_icmp .gt 19, 3) rfl) rfl hf (fun hf => ?_) (fun hf => ?_)
      · refine z_sub (al' := []) [] rfl ?_
        exact hx (Sum.inr ()) hf
      · refine z_aload_n (pc := 14) 0 (zdg D_X12_waits 8 (14, .aload_n 0, 1) rfl) rfl rfl ?_
        refine z_iload_n (pc := 15) 1 (zdg D_X12_waits 9 (15, .iload_n 1, 1) rfl) rfl rfl ?_
        refine z_bind hn hf (fun q2 hq hf => ?_)
        refine z_callV (pc := 16) (rest := []) (st2 := [zI q2]) (fun l => c_X12_isEmpty l v1_1 σ q2 hq) zv_X12_isEmpty lm_X12_370 rfl rfl rfl rfl rfl rfl (Nat.le_of_ble_eq_true rfl) ⟨Nat.le_of_ble_eq_true rfl, Nat.le_of_ble_eq_true rfl⟩ (zdg D_X12_waits 10 (16, .invokevirtual 370, 3) rfl) ?_
        refine z_if_eq (pc := 19) 24 (zdg D_X12_waits 11 (19, .ifCond .eq 5, 3) rfl) rfl hf (fun hf => ?_) (fun hf => ?_)
        · refine z_iinc (pc := 24) (v0 := (v1_1 + 1)) (al' := [(1, zI (v1_1 + 1)), (0, zR 0 0)]) 1 (zdg D_X12_waits 14 (24, .iinc 1 1, 3) rfl) rfl rfl (by decide) rfl ?_
          refine z_goto (pc := 27) 7 (zdg D_X12_waits 15 (27, .goto (-20), 3) rfl) rfl ?_
          refine z_sub (al' := [(0, zR 0 0), (1, zI (v1_1 + 1))]) [1, 0] rfl ?_
          exact hi (v1_1 + 1) hf
        · refine z_sub (al' := [(1, zI v1_1)]) [1] rfl ?_
          exact hx (Sum.inl v1_1) hf

def L_X12_row : List (Nat × Instr × Nat) := [(0, .iload_n 1, 1), (1, .iconst 0, 1), (2, .iconst 1, 1), (3, .invokestatic 64, 3), (6, .ifCond .ne 5, 3), (9, .iconst (-1), 1), (10, .ireturn, 1), (11, .iconst 0, 1), (12, .istore_n 2, 1), (13, .iconst (-1), 1), (14, .istore_n 3, 1), (15, .iconst 0, 1), (16, .istore 4, 2), (18, .aload_n 0, 1), (19, .getfield 7, 3), (22, .iconst 0, 1), (23, .iaload, 1), (24, .istore 5, 2), (26, .iload 5, 2), (28, .sipush 500, 3), (31, .if_icmp .gt 48, 3), (34, .aload_n 0, 1), (35, .iload 5, 2), (37, .invokevirtual 370, 3), (40, .ifCond .eq 10, 3), (43, .iload 4, 2), (45, .iconst 1, 1), (46, .iadd, 1), (47, .goto 4, 3), (50, .iconst 0, 1), (51, .istore 4, 2), (53, .iload 4, 2), (55, .iload_n 2, 1), (56, .if_icmp .gt 6, 3), (59, .goto 14, 3), (62, .iload 4, 2), (64, .istore_n 2, 1), (65, .iload 5, 2), (67, .iload 4, 2), (69, .isub, 1), (70, .iconst 1, 1), (71, .iadd, 1), (72, .istore_n 3, 1), (73, .iinc 5 1, 3), (76, .goto (-50), 3), (79, .iload_n 1, 1), (80, .ifCond .ne 7, 3), (83, .iload_n 2, 1), (84, .goto 4, 3), (87, .iload_n 3, 1), (88, .ireturn, 1)]
set_option maxRecDepth 100000 in
theorem D_X12_row : zdecs cX12_row L_X12_row = true := by decide +kernel
noncomputable def j_X12_row_51_26 (w2_6 : Int32) (w3_7 : Int32) (w5_8 : Int32) (t9 : Int32) : Option ((Int32 × Int32 × Int32 × Int32) ⊕ (Int32 × Int32)) :=
  if t9 ≤ w2_6 then some (Sum.inl (w2_6, w3_7, t9, (w5_8 + 1))) else some (Sum.inl (t9, ((w5_8 - t9) + (1 : Int32)), t9, (w5_8 + 1)))
noncomputable def b_X12_row_26 (σ : zG) (v2_1 : Int32) (v3_2 : Int32) (v4_3 : Int32) (v5_4 : Int32) : Option ((Int32 × Int32 × Int32 × Int32) ⊕ (Int32 × Int32)) :=
  if v5_4 ≤ (500 : Int32) then (f_X12_isEmpty v5_4 σ).bind (fun q5 => if q5 = 0 then j_X12_row_51_26 v2_1 v3_2 v5_4 (0 : Int32) else j_X12_row_51_26 v2_1 v3_2 v5_4 (v4_3 + (1 : Int32))) else some (Sum.inr (v2_1, v3_2))
noncomputable def f_X12_row (p1 : Int32) (σ : zG) : Option (Int32) :=
  if (f_X12_isIn p1 (0 : Int32) (1 : Int32)) = 0 then some (-1 : Int32) else (zlp (fun q : Int32 × Int32 × Int32 × Int32 => b_X12_row_26 σ q.1 q.2.1 q.2.2.1 q.2.2.2) ((0 : Int32), (-1 : Int32), (0 : Int32), (σ.1 1 0 0))).bind (fun e10 : Int32 × Int32 => if p1 = 0 then some e10.1 else some e10.2)
set_option maxRecDepth 100000 in
set_option maxHeartbeats 4000000 in
theorem c_X12_row (l : Launch) (p1 : Int32) (σ : zG) (q : Int32) (hq : f_X12_row p1 σ = some q) : zMet l zsyM m_X12_row yX12_row [zR 0 0, zI p1] σ (some (zI q)) σ := by
  refine zEnter [(0, zR 0 0), (1, zI p1)] (by decide) rfl (fun _ => Nat.le_of_ble_eq_true rfl) (fun _ => rfl) (fun w h => ?_) (fun K hv hs => ?_)
  · exact zokm rfl h
  · have hP : ∀ x, f_X12_row p1 σ = some x → zKv K = some (zI x) ∧ zKs K = σ := fun x h => by rw [hq] at h; cases h; exact ⟨hv, hs⟩
    have hn : f_X12_row p1 σ ≠ none := fun z => by rw [hq] at z; cases z
    have hf := f_X12_row.eq_1 p1 σ
    refine z_iload_n (pc := 0) 1 (zdg D_X12_row 0 (0, .iload_n 1, 1) rfl) rfl rfl ?_
    refine z_iconst (pc := 1) (v := 0) (zdg D_X12_row 1 (1, .iconst 0, 1) rfl) rfl ?_
    refine z_iconst (pc := 2) (v := 1) (zdg D_X12_row 2 (2, .iconst 1, 1) rfl) rfl ?_
    refine z_callS (pc := 3) (rest := []) (st2 := [zI (f_X12_isIn p1 (0 : Int32) (1 : Int32))]) (fun l => c_X12_isIn l p1 (0 : Int32) (1 : Int32) σ) zs_X12_isIn lm_X12_64 rfl rfl rfl (Nat.le_of_ble_eq_true rfl) ⟨Nat.le_of_ble_eq_true rfl, Nat.le_of_ble_eq_true rfl⟩ (zdg D_X12_row 3 (3, .invokestatic 64, 3) rfl) ?_
    refine z_if_ne (pc := 6) 11 (zdg D_X12_row 4 (6, .ifCond .ne 5, 3) rfl) rfl hf (fun hf => ?_) (fun hf => ?_)
    · refine z_iconst (pc := 11) (v := 0) (zdg D_X12_row 7 (11, .iconst 0, 1) rfl) rfl ?_
      refine z_istore_n (pc := 12) (al' := [(2, zI (0 : Int32)), (0, zR 0 0), (1, zI p1)]) (zdg D_X12_row 8 (12, .istore_n 2, 1) rfl) rfl (by decide) rfl ?_
      refine z_iconst (pc := 13) (v := -1) (zdg D_X12_row 9 (13, .iconst (-1), 1) rfl) rfl ?_
      refine z_istore_n (pc := 14) (al' := [(3, zI (-1 : Int32)), (2, zI (0 : Int32)), (0, zR 0 0), (1, zI p1)]) (zdg D_X12_row 10 (14, .istore_n 3, 1) rfl) rfl (by decide) rfl ?_
      refine z_iconst (pc := 15) (v := 0) (zdg D_X12_row 11 (15, .iconst 0, 1) rfl) rfl ?_
      refine z_istore (pc := 16) (al' := [(4, zI (0 : Int32)), (3, zI (-1 : Int32)), (2, zI (0 : Int32)), (0, zR 0 0), (1, zI p1)]) (zdg D_X12_row 12 (16, .istore 4, 2) rfl) (by decide) rfl ?_
      refine z_aload_n (pc := 18) 3 (zdg D_X12_row 13 (18, .aload_n 0, 1) rfl) rfl rfl ?_
      refine z_getR (pc := 19) (g := 1) (j := 0) lf_X12_7 rfl rfl rfl (zdg D_X12_row 14 (19, .getfield 7, 3) rfl) ?_
      refine z_iconst (pc := 22) (v := 0) (zdg D_X12_row 15 (22, .iconst 0, 1) rfl) rfl ?_
      refine z_ialdC (pc := 23) (j := 0) rfl (fun _ => rfl) (zdg D_X12_row 16 (23, .iaload, 1) rfl) rfl rfl ?_
      refine z_istore (pc := 24) (al' := [(5, zI (σ.1 1 0 0)), (4, zI (0 : Int32)), (3, zI (-1 : Int32)), (2, zI (0 : Int32)), (0, zR 0 0), (1, zI p1)]) (zdg D_X12_row 17 (24, .istore 5, 2) rfl) (by decide) rfl ?_
      refine z_sub (al' := [(0, zR 0 0), (1, zI p1), (2, zI (0 : Int32)), (3, zI (-1 : Int32)), (4, zI (0 : Int32)), (5, zI (σ.1 1 0 0))]) [4, 5, 3, 2, 1, 0] rfl ?_
      refine z_loop (f := (fun q : Int32 × Int32 × Int32 × Int32 => b_X12_row_26 σ q.1 q.2.1 q.2.2.1 q.2.2.2)) (a := ((0 : Int32), (-1 : Int32), (0 : Int32), (σ.1 1 0 0))) (fun q : Int32 × Int32 × Int32 × Int32 => zX zsyM m_X12_row K 26 [(0, zR 0 0), (1, zI p1), (2, zI q.1), (3, zI q.2.1), (4, zI q.2.2.1), (5, zI q.2.2.2)] [] σ) (fun e10 : Int32 × Int32 => zX zsyM m_X12_row K 79 [(1, zI p1), (2, zI e10.1), (3, zI e10.2)] [] σ) hn hf ?_ ?_
      · intro e10 hf
        refine z_iload_n (pc := 79) 0 (zdg D_X12_row 45 (79, .iload_n 1, 1) rfl) rfl rfl ?_
        refine z_if_ne (pc := 80) 87 (zdg D_X12_row 46 (80, .ifCond .ne 7, 3) rfl) rfl hf (fun hf => ?_) (fun hf => ?_)
        · refine z_iload_n (pc := 87) 2 (zdg D_X12_row 49 (87, .iload_n 3, 1) rfl) rfl rfl ?_
          exact z_iret (pc := 88) rfl rfl (zdg D_X12_row 50 (88, .ireturn, 1) rfl) (hP _ hf)
        · refine z_iload_n (pc := 83) 1 (zdg D_X12_row 47 (83, .iload_n 2, 1) rfl) rfl rfl ?_
          refine z_goto (pc := 84) 88 (zdg D_X12_row 48 (84, .goto 4, 3) rfl) rfl ?_
          exact z_iret (pc := 88) rfl rfl (zdg D_X12_row 50 (88, .ireturn, 1) rfl) (hP _ hf)
      · rintro ⟨v2_1, v3_2, v4_3, v5_4⟩ hn hi hx
        have hf := b_X12_row_26.eq_1 σ v2_1 v3_2 v4_3 v5_4
        have t_51 : ∀ (w2_6 : Int32) (w3_7 : Int32) (w5_8 : Int32) (t9 : Int32), b_X12_row_26 σ v2_1 v3_2 v4_3 v5_4 = j_X12_row_51_26 w2_6 w3_7 w5_8 t9 → zX zsyM m_X12_row K 51 [(0, zR 0 0), (1, zI p1), (2, zI w2_6), (3, zI w3_7), (5, zI w5_8)] [zI t9] σ := by
          intro w2_6 w3_7 w5_8 t9 hf
          replace hf := hf.trans (j_X12_row_51_26.eq_1 w2_6 w3_7 w5_8 t9)
          refine z_istore (pc := 51) (al' := [(4, zI t9), (0, zR 0 0), (1, zI p1), (2, zI w2_6), (3, zI w3_7), (5, zI w5_8)]) (zdg D_X12_row 30 (51, .istore 4, 2) rfl) (by decide) rfl ?_
          refine z_iload (pc := 53) 0 (zdg D_X12_row 31 (53, .iload 4, 2) rfl) rfl ?_
          refine z_iload_n (pc := 55) 3 (zdg D_X12_row 32 (55, .iload_n 2, 1) rfl) rfl rfl ?_
          refine z_icmp_gt (pc := 56) 62 (zdg D_X12_row 33 (56, .if_icmp .gt 6, 3) rfl) rfl hf (fun hf => ?_) (fun hf => ?_)
          · refine z_iload (pc := 62) 0 (zdg D_X12_row 35 (62, .iload 4, 2) rfl) rfl ?_
            refine z_istore_n (pc := 64) (al' := [(2, zI t9), (4, zI t9), (0, zR 0 0), (1, zI p1), (3, zI w3_7), (5, zI w5_8)]) (zdg D_X12_row 36 (64, .istore_n 2, 1) rfl) rfl (by decide) rfl ?_
            refine z_iload (pc := 65) 5 (zdg D_X12_row 37 (65, .iload 5, 2) rfl) rfl ?_
            refine z_iload (pc := 67) 1 (zdg D_X12_row 38 (67, .iload 4, 2) rfl) rfl ?_
            refine z_isub (pc := 69) (zdg D_X12_row 39 (69, .isub, 1) rfl) ?_
            refine z_iconst (pc := 70) (v := 1) (zdg D_X12_row 40 (70, .iconst 1, 1) rfl) rfl ?_
            refine z_iadd (pc := 71) (zdg D_X12_row 41 (71, .iadd, 1) rfl) ?_
            refine z_istore_n (pc := 72) (al' := [(3, zI ((w5_8 - t9) + (1 : Int32))), (2, zI t9), (4, zI t9), (0, zR 0 0), (1, zI p1), (5, zI w5_8)]) (zdg D_X12_row 42 (72, .istore_n 3, 1) rfl) rfl (by decide) rfl ?_
            refine z_iinc (pc := 73) (v0 := (w5_8 + 1)) (al' := [(5, zI (w5_8 + 1)), (3, zI ((w5_8 - t9) + (1 : Int32))), (2, zI t9), (4, zI t9), (0, zR 0 0), (1, zI p1)]) 5 (zdg D_X12_row 43 (73, .iinc 5 1, 3) rfl) rfl rfl (by decide) rfl ?_
            refine z_goto (pc := 76) 26 (zdg D_X12_row 44 (76, .goto (-50), 3) rfl) rfl ?_
            refine z_sub (al' := [(0, zR 0 0), (1, zI p1), (2, zI t9), (3, zI ((w5_8 - t9) + (1 : Int32))), (4, zI t9), (5, zI (w5_8 + 1))]) [4, 5, 2, 1, 3, 0] rfl ?_
            exact hi (t9, ((w5_8 - t9) + (1 : Int32)), t9, (w5_8 + 1)) hf
          · refine z_goto (pc := 59) 73 (zdg D_X12_row 34 (59, .goto 14, 3) rfl) rfl ?_
            refine z_iinc (pc := 73) (v0 := (w5_8 + 1)) (al' := [(5, zI (w5_8 + 1)), (4, zI t9), (0, zR 0 0), (1, zI p1), (2, zI w2_6), (3, zI w3_7)]) 5 (zdg D_X12_row 43 (73, .iinc 5 1, 3) rfl) rfl rfl (by decide) rfl ?_
            refine z_goto (pc := 76) 26 (zdg D_X12_row 44 (76, .goto (-50), 3) rfl) rfl ?_
            refine z_sub (al' := [(0, zR 0 0), (1, zI p1), (2, zI w2_6), (3, zI w3_7), (4, zI t9), (5, zI (w5_8 + 1))]) [2, 3, 4, 5, 1, 0] rfl ?_
            exact hi (w2_6, w3_7, t9, (w5_8 + 1)) hf
        refine z_iload (pc := 26) 5 (zdg D_X12_row 18 (26, .iload 5, 2) rfl) rfl ?_
        refine z_sipush (pc := 28) (v := 500) (zdg D_X12_row 19 (28, .sipush 500, 3) rfl) rfl ?_
        refine z_icmp_gt (pc := 31) 79 (zdg D_X12_row 20 (31, .if_icmp .gt 48, 3) rfl) rfl hf (fun hf => ?_) (fun hf => ?_)
        · refine z_sub (al' := [(1, zI p1), (2, zI v2_1), (3, zI v3_2)]) [1, 2, 3] rfl ?_
          exact hx (v2_1, v3_2) hf
        · refine z_aload_n (pc := 34) 0 (zdg D_X12_row 21 (34, .aload_n 0, 1) rfl) rfl rfl ?_
          refine z_iload (pc := 35) 5 (zdg D_X12_row 22 (35, .iload 5, 2) rfl) rfl ?_
          refine z_bind hn hf (fun q5 hq hf => ?_)
          refine z_callV (pc := 37) (rest := []) (st2 := [zI q5]) (fun l => c_X12_isEmpty l v5_4 σ q5 hq) zv_X12_isEmpty lm_X12_370 rfl rfl rfl rfl rfl rfl (Nat.le_of_ble_eq_true rfl) ⟨Nat.le_of_ble_eq_true rfl, Nat.le_of_ble_eq_true rfl⟩ (zdg D_X12_row 23 (37, .invokevirtual 370, 3) rfl) ?_
          refine z_if_eq (pc := 40) 50 (zdg D_X12_row 24 (40, .ifCond .eq 10, 3) rfl) rfl hf (fun hf => ?_) (fun hf => ?_)
          · refine z_iconst (pc := 50) (v := 0) (zdg D_X12_row 29 (50, .iconst 0, 1) rfl) rfl ?_
            refine z_sub (al' := [(0, zR 0 0), (1, zI p1), (2, zI v2_1), (3, zI v3_2), (5, zI v5_4)]) [0, 1, 2, 3, 5] rfl ?_
            exact t_51 v2_1 v3_2 v5_4 (0 : Int32) hf
          · refine z_iload (pc := 43) 4 (zdg D_X12_row 25 (43, .iload 4, 2) rfl) rfl ?_
            refine z_iconst (pc := 45) (v := 1) (zdg D_X12_row 26 (45, .iconst 1, 1) rfl) rfl ?_
            refine z_iadd (pc := 46) (zdg D_X12_row 27 (46, .iadd, 1) rfl) ?_
            refine z_goto (pc := 47) 51 (zdg D_X12_row 28 (47, .goto 4, 3) rfl) rfl ?_
            refine z_sub (al' := [(0, zR 0 0), (1, zI p1), (2, zI v2_1), (3, zI v3_2), (5, zI v5_4)]) [0, 1, 2, 3, 5] rfl ?_
            exact t_51 v2_1 v3_2 v5_4 (v4_3 + (1 : Int32)) hf
    · refine z_iconst (pc := 9) (v := -1) (zdg D_X12_row 5 (9, .iconst (-1), 1) rfl) rfl ?_
      exact z_iret (pc := 10) rfl rfl (zdg D_X12_row 6 (10, .ireturn, 1) rfl) (hP _ hf)

def L_X12_best : List (Nat × Instr × Nat) := [(0, .iload_n 1, 1), (1, .iconst 0, 1), (2, .iconst 1, 1), (3, .invokestatic 64, 3), (6, .ifCond .ne 7, 3), (9, .sipush (-1000), 3), (12, .ireturn, 1), (13, .aload_n 0, 1), (14, .getfield 7, 3), (17, .iconst 0, 1), (18, .iaload, 1), (19, .istore_n 2, 1), (20, .aload_n 0, 1), (21, .iload_n 2, 1), (22, .invokevirtual 355, 3), (25, .istore_n 3, 1), (26, .aload_n 0, 1), (27, .getfield 7, 3), (30, .iconst 0, 1), (31, .iaload, 1), (32, .iconst 1, 1), (33, .iadd, 1), (34, .istore 4, 2), (36, .iload 4, 2), (38, .sipush 500, 3), (41, .if_icmp .gt 32, 3), (44, .aload_n 0, 1), (45, .iload 4, 2), (47, .invokevirtual 355, 3), (50, .istore 5, 2), (52, .iload 5, 2), (54, .iload_n 3, 1), (55, .if_icmp .gt 6, 3), (58, .goto 9, 3), (61, .iload 5, 2), (63, .istore_n 3, 1), (64, .iload 4, 2), (66, .istore_n 2, 1), (67, .iinc 4 1, 3), (70, .goto (-34), 3), (73, .iload_n 1, 1), (74, .ifCond .ne 7, 3), (77, .iload_n 2, 1), (78, .goto 4, 3), (81, .iload_n 3, 1), (82, .ireturn, 1)]
set_option maxRecDepth 100000 in
theorem D_X12_best : zdecs cX12_best L_X12_best = true := by decide +kernel
noncomputable def b_X12_best_36  (v2_2 : Int32) (v3_3 : Int32) (v4_4 : Int32) (s5 : zG) : Option ((Int32 × Int32 × Int32 × zG) ⊕ (Int32 × Int32 × zG)) :=
  if v4_4 ≤ (500 : Int32) then (f_X12_worthOf v4_4 s5).bind (fun q6 => if q6.1 ≤ v3_3 then some (Sum.inl (v2_2, v3_3, (v4_4 + 1), q6.2)) else some (Sum.inl (v4_4, q6.1, (v4_4 + 1), q6.2))) else some (Sum.inr (v2_2, v3_3, s5))
noncomputable def f_X12_best (p1 : Int32) (σ : zG) : Option (Int32 × zG) :=
  if (f_X12_isIn p1 (0 : Int32) (1 : Int32)) = 0 then some ((-1000 : Int32), σ) else (f_X12_worthOf (σ.1 1 0 0) σ).bind (fun q1 => (zlp (fun q : Int32 × Int32 × Int32 × zG => b_X12_best_36 q.1 q.2.1 q.2.2.1 q.2.2.2) ((σ.1 1 0 0), q1.1, ((q1.2.1 1 0 0) + (1 : Int32)), q1.2)).bind (fun e7 : Int32 × Int32 × zG => if p1 = 0 then some (e7.1, e7.2.2) else some (e7.2.1, e7.2.2)))
set_option maxRecDepth 100000 in
set_option maxHeartbeats 4000000 in
theorem c_X12_best (l : Launch) (p1 : Int32) (σ : zG) (q : Int32 × zG) (hq : f_X12_best p1 σ = some q) : zMet l zsyM m_X12_best yX12_best [zR 0 0, zI p1] σ (some (zI q.1)) q.2 := by
  refine zEnter [(0, zR 0 0), (1, zI p1)] (by decide) rfl (fun _ => Nat.le_of_ble_eq_true rfl) (fun _ => rfl) (fun w h => ?_) (fun K hv hs => ?_)
  · exact zokm rfl h
  · have hP : ∀ x s, f_X12_best p1 σ = some (x, s) → zKv K = some (zI x) ∧ zKs K = s := fun x s h => by rw [hq] at h; cases h; exact ⟨hv, hs⟩
    have hn : f_X12_best p1 σ ≠ none := fun z => by rw [hq] at z; cases z
    have hf := f_X12_best.eq_1 p1 σ
    refine z_iload_n (pc := 0) 1 (zdg D_X12_best 0 (0, .iload_n 1, 1) rfl) rfl rfl ?_
    refine z_iconst (pc := 1) (v := 0) (zdg D_X12_best 1 (1, .iconst 0, 1) rfl) rfl ?_
    refine z_iconst (pc := 2) (v := 1) (zdg D_X12_best 2 (2, .iconst 1, 1) rfl) rfl ?_
    refine z_callS (pc := 3) (rest := []) (st2 := [zI (f_X12_isIn p1 (0 : Int32) (1 : Int32))]) (fun l => c_X12_isIn l p1 (0 : Int32) (1 : Int32) σ) zs_X12_isIn lm_X12_64 rfl rfl rfl (Nat.le_of_ble_eq_true rfl) ⟨Nat.le_of_ble_eq_true rfl, Nat.le_of_ble_eq_true rfl⟩ (zdg D_X12_best 3 (3, .invokestatic 64, 3) rfl) ?_
    refine z_if_ne (pc := 6) 13 (zdg D_X12_best 4 (6, .ifCond .ne 7, 3) rfl) rfl hf (fun hf => ?_) (fun hf => ?_)
    · refine z_aload_n (pc := 13) 0 (zdg D_X12_best 7 (13, .aload_n 0, 1) rfl) rfl rfl ?_
      refine z_getR (pc := 14) (g := 1) (j := 0) lf_X12_7 rfl rfl rfl (zdg D_X12_best 8 (14, .getfield 7, 3) rfl) ?_
      refine z_iconst (pc := 17) (v := 0) (zdg D_X12_best 9 (17, .iconst 0, 1) rfl) rfl ?_
      refine z_ialdC (pc := 18) (j := 0) rfl (fun _ => rfl) (zdg D_X12_best 10 (18, .iaload, 1) rfl) rfl rfl ?_
      refine z_istore_n (pc := 19) (al' := [(2, zI (σ.1 1 0 0)), (0, zR 0 0), (1, zI p1)]) (zdg D_X12_best 11 (19, .istore_n 2, 1) rfl) rfl (by decide) rfl ?_
      refine z_aload_n (pc := 20) 1 (zdg D_X12_best 12 (20, .aload_n 0, 1) rfl) rfl rfl ?_
      refine z_iload_n (pc := 21) 0 (zdg D_X12_best 13 (21, .iload_n 2, 1) rfl) rfl rfl ?_
      refine z_bind hn hf (fun q1 hq hf => ?_)
      refine z_callV (pc := 22) (rest := []) (st2 := [zI q1.1]) (fun l => c_X12_worthOf l (σ.1 1 0 0) σ q1 hq) zv_X12_worthOf lm_X12_355 rfl rfl rfl rfl rfl rfl (Nat.le_of_ble_eq_true rfl) ⟨Nat.le_of_ble_eq_true rfl, Nat.le_of_ble_eq_true rfl⟩ (zdg D_X12_best 14 (22, .invokevirtual 355, 3) rfl) ?_
      refine z_istore_n (pc := 25) (al' := [(3, zI q1.1), (2, zI (σ.1 1 0 0)), (0, zR 0 0), (1, zI p1)]) (zdg D_X12_best 15 (25, .istore_n 3, 1) rfl) rfl (by decide) rfl ?_
      refine z_aload_n (pc := 26) 2 (zdg D_X12_best 16 (26, .aload_n 0, 1) rfl) rfl rfl ?_
      refine z_getR (pc := 27) (g := 1) (j := 0) lf_X12_7 rfl rfl rfl (zdg D_X12_best 17 (27, .getfield 7, 3) rfl) ?_
      refine z_iconst (pc := 30) (v := 0) (zdg D_X12_best 18 (30, .iconst 0, 1) rfl) rfl ?_
      refine z_ialdC (pc := 31) (j := 0) rfl (fun _ => rfl) (zdg D_X12_best 19 (31, .iaload, 1) rfl) rfl rfl ?_
      refine z_iconst (pc := 32) (v := 1) (zdg D_X12_best 20 (32, .iconst 1, 1) rfl) rfl ?_
      refine z_iadd (pc := 33) (zdg D_X12_best 21 (33, .iadd, 1) rfl) ?_
      refine z_istore (pc := 34) (al' := [(4, zI ((q1.2.1 1 0 0) + (1 : Int32))), (3, zI q1.1), (2, zI (σ.1 1 0 0)), (0, zR 0 0), (1, zI p1)]) (zdg D_X12_best 22 (34, .istore 4, 2) rfl) (by decide) rfl ?_
      refine z_sub (al' := [(0, zR 0 0), (1, zI p1), (2, zI (σ.1 1 0 0)), (3, zI q1.1), (4, zI ((q1.2.1 1 0 0) + (1 : Int32)))]) [3, 4, 2, 1, 0] rfl ?_
      refine z_loop (f := (fun q : Int32 × Int32 × Int32 × zG => b_X12_best_36 q.1 q.2.1 q.2.2.1 q.2.2.2)) (a := ((σ.1 1 0 0), q1.1, ((q1.2.1 1 0 0) + (1 : Int32)), q1.2)) (fun q : Int32 × Int32 × Int32 × zG => zX zsyM m_X12_best K 36 [(0, zR 0 0), (1, zI p1), (2, zI q.1), (3, zI q.2.1), (4, zI q.2.2.1)] [] q.2.2.2) (fun e7 : Int32 × Int32 × zG => zX zsyM m_X12_best K 73 [(1, zI p1), (2, zI e7.1), (3, zI e7.2.1)] [] e7.2.2) hn hf ?_ ?_
      · intro e7 hf
        refine z_iload_n (pc := 73) 0 (zdg D_X12_best 40 (73, .iload_n 1, 1) rfl) rfl rfl ?_
        refine z_if_ne (pc := 74) 81 (zdg D_X12_best 41 (74, .ifCond .ne 7, 3) rfl) rfl hf (fun hf => ?_) (fun hf => ?_)
        · refine z_iload_n (pc := 81) 2 (zdg D_X12_best 44 (81, .iload_n 3, 1) rfl) rfl rfl ?_
          exact z_iret (pc := 82) rfl rfl (zdg D_X12_best 45 (82, .ireturn, 1) rfl) (hP _ _ hf)
        · refine z_iload_n (pc := 77) 1 (zdg D_X12_best 42 (77, .iload_n 2, 1) rfl) rfl rfl ?_
          refine z_goto (pc := 78) 82 (zdg D_X12_best 43 (78, .goto 4, 3) rfl) rfl ?_
          exact z_iret (pc := 82) rfl rfl (zdg D_X12_best 45 (82, .ireturn, 1) rfl) (hP _ _ hf)
      · rintro ⟨v2_2, v3_3, v4_4, s5⟩ hn hi hx
        have hf := b_X12_best_36.eq_1  v2_2 v3_3 v4_4 s5
        refine z_iload (pc := 36) 4 (zdg D_X12_best 23 (36, .iload 4, 2) rfl) rfl ?_
        refine z_sipush (pc := 38) (v := 500) (zdg D_X12_best 24 (38, .sipush 500, 3) rfl) rfl ?_
        refine z_icmp_gt (pc := 41) 73 (zdg D_X12_best 25 (41, .if_icmp .gt 32, 3) rfl) rfl hf (fun hf => ?_) (fun hf => ?_)
        · refine z_sub (al' := [(1, zI p1), (2, zI v2_2), (3, zI v3_3)]) [1, 2, 3] rfl ?_
          exact hx (v2_2, v3_3, s5) hf
        · refine z_aload_n (pc := 44) 0 (zdg D_X12_best 26 (44, .aload_n 0, 1) rfl) rfl rfl ?_
          refine z_iload (pc := 45) 4 (zdg D_X12_best 27 (45, .iload 4, 2) rfl) rfl ?_
          refine z_bind hn hf (fun q6 hq hf => ?_)
          refine z_callV (pc := 47) (rest := []) (st2 := [zI q6.1]) (fun l => c_X12_worthOf l v4_4 s5 q6 hq) zv_X12_worthOf lm_X12_355 rfl rfl rfl rfl rfl rfl (Nat.le_of_ble_eq_true rfl) ⟨Nat.le_of_ble_eq_true rfl, Nat.le_of_ble_eq_true rfl⟩ (zdg D_X12_best 28 (47, .invokevirtual 355, 3) rfl) ?_
          refine z_istore (pc := 50) (al' := [(5, zI q6.1), (0, zR 0 0), (1, zI p1), (2, zI v2_2), (3, zI v3_3), (4, zI v4_4)]) (zdg D_X12_best 29 (50, .istore 5, 2) rfl) (by decide) rfl ?_
          refine z_iload (pc := 52) 0 (zdg D_X12_best 30 (52, .iload 5, 2) rfl) rfl ?_
          refine z_iload_n (pc := 54) 4 (zdg D_X12_best 31 (54, .iload_n 3, 1) rfl) rfl rfl ?_
          refine z_icmp_gt (pc := 55) 61 (zdg D_X12_best 32 (55, .if_icmp .gt 6, 3) rfl) rfl hf (fun hf => ?_) (fun hf => ?_)
          · refine z_iload (pc := 61) 0 (zdg D_X12_best 34 (61, .iload 5, 2) rfl) rfl ?_
            refine z_istore_n (pc := 63) (al' := [(3, zI q6.1), (5, zI q6.1), (0, zR 0 0), (1, zI p1), (2, zI v2_2), (4, zI v4_4)]) (zdg D_X12_best 35 (63, .istore_n 3, 1) rfl) rfl (by decide) rfl ?_
            refine z_iload (pc := 64) 5 (zdg D_X12_best 36 (64, .iload 4, 2) rfl) rfl ?_
            refine z_istore_n (pc := 66) (al' := [(2, zI v4_4), (3, zI q6.1), (5, zI q6.1), (0, zR 0 0), (1, zI p1), (4, zI v4_4)]) (zdg D_X12_best 37 (66, .istore_n 2, 1) rfl) rfl (by decide) rfl ?_
            refine z_iinc (pc := 67) (v0 := (v4_4 + 1)) (al' := [(4, zI (v4_4 + 1)), (2, zI v4_4), (3, zI q6.1), (5, zI q6.1), (0, zR 0 0), (1, zI p1)]) 5 (zdg D_X12_best 38 (67, .iinc 4 1, 3) rfl) rfl rfl (by decide) rfl ?_
            refine z_goto (pc := 70) 36 (zdg D_X12_best 39 (70, .goto (-34), 3) rfl) rfl ?_
            refine z_sub (al' := [(0, zR 0 0), (1, zI p1), (2, zI v4_4), (3, zI q6.1), (4, zI (v4_4 + 1))]) [4, 5, 1, 2, 0] rfl ?_
            exact hi (v4_4, q6.1, (v4_4 + 1), q6.2) hf
          · refine z_goto (pc := 58) 67 (zdg D_X12_best 33 (58, .goto 9, 3) rfl) rfl ?_
            refine z_iinc (pc := 67) (v0 := (v4_4 + 1)) (al' := [(4, zI (v4_4 + 1)), (5, zI q6.1), (0, zR 0 0), (1, zI p1), (2, zI v2_2), (3, zI v3_3)]) 5 (zdg D_X12_best 38 (67, .iinc 4 1, 3) rfl) rfl rfl (by decide) rfl ?_
            refine z_goto (pc := 70) 36 (zdg D_X12_best 39 (70, .goto (-34), 3) rfl) rfl ?_
            refine z_sub (al' := [(0, zR 0 0), (1, zI p1), (2, zI v2_2), (3, zI v3_3), (4, zI (v4_4 + 1))]) [2, 3, 4, 5, 0] rfl ?_
            exact hi (v2_2, v3_3, (v4_4 + 1), q6.2) hf
    · refine z_sipush (pc := 9) (v := -1000) (zdg D_X12_best 5 (9, .sipush (-1000), 3) rfl) rfl ?_
      exact z_iret (pc := 12) rfl rfl (zdg D_X12_best 6 (12, .ireturn, 1) rfl) (hP _ _ hf)

def L_X12_areMinutes : List (Nat × Instr × Nat) := [(0, .iload_n 0, 1), (1, .iconst 0, 1), (2, .iload_n 1, 1), (3, .invokestatic 64, 3), (6, .ifCond .eq 14, 3), (9, .iload_n 1, 1), (10, .sipush 500, 3), (13, .if_icmp .gt 7, 3), (16, .iconst 1, 1), (17, .goto 4, 3), (20, .iconst 0, 1), (21, .ireturn, 1)]
set_option maxRecDepth 100000 in
theorem D_X12_areMinutes : zdecs cX12_areMinutes L_X12_areMinutes = true := by decide +kernel
noncomputable def f_X12_areMinutes (p1 : Int32) (p2 : Int32) : Int32 :=
  if (f_X12_isIn p1 (0 : Int32) p2) = 0 then (0 : Int32) else if p2 ≤ (500 : Int32) then (1 : Int32) else (0 : Int32)
set_option maxRecDepth 100000 in
set_option maxHeartbeats 4000000 in
theorem c_X12_areMinutes (l : Launch) (p1 : Int32) (p2 : Int32) (σ : zG) : zMet l zsyM m_X12_areMinutes yX12_areMinutes [zI p1, zI p2] σ (some (zI (f_X12_areMinutes p1 p2))) σ := by
  refine zEnter [(0, zI p1), (1, zI p2)] (by decide) rfl (fun _ => Nat.le_of_ble_eq_true rfl) (fun _ => rfl) (fun w h => ?_) (fun K hv hs => ?_)
  · exact zokm rfl h
  · have hP : ∀ x, f_X12_areMinutes p1 p2 = x → zKv K = some (zI x) ∧ zKs K = σ := fun x h => by rw [h] at hv; exact ⟨hv, hs⟩
    have hf := f_X12_areMinutes.eq_1 p1 p2
    refine z_iload_n (pc := 0) 0 (zdg D_X12_areMinutes 0 (0, .iload_n 0, 1) rfl) rfl rfl ?_
    refine z_iconst (pc := 1) (v := 0) (zdg D_X12_areMinutes 1 (1, .iconst 0, 1) rfl) rfl ?_
    refine z_iload_n (pc := 2) 1 (zdg D_X12_areMinutes 2 (2, .iload_n 1, 1) rfl) rfl rfl ?_
    refine z_callS (pc := 3) (rest := []) (st2 := [zI (f_X12_isIn p1 (0 : Int32) p2)]) (fun l => c_X12_isIn l p1 (0 : Int32) p2 σ) zs_X12_isIn lm_X12_64 rfl rfl rfl (Nat.le_of_ble_eq_true rfl) ⟨Nat.le_of_ble_eq_true rfl, Nat.le_of_ble_eq_true rfl⟩ (zdg D_X12_areMinutes 3 (3, .invokestatic 64, 3) rfl) ?_
    refine z_if_eq (pc := 6) 20 (zdg D_X12_areMinutes 4 (6, .ifCond .eq 14, 3) rfl) rfl hf (fun hf => ?_) (fun hf => ?_)
    · refine z_iconst (pc := 20) (v := 0) (zdg D_X12_areMinutes 10 (20, .iconst 0, 1) rfl) rfl ?_
      exact z_iret (pc := 21) rfl rfl (zdg D_X12_areMinutes 11 (21, .ireturn, 1) rfl) (hP _ hf)
    · refine z_iload_n (pc := 9) 1 (zdg D_X12_areMinutes 5 (9, .iload_n 1, 1) rfl) rfl rfl ?_
      refine z_sipush (pc := 10) (v := 500) (zdg D_X12_areMinutes 6 (10, .sipush 500, 3) rfl) rfl ?_
      refine z_icmp_gt (pc := 13) 20 (zdg D_X12_areMinutes 7 (13, .if_icmp .gt 7, 3) rfl) rfl hf (fun hf => ?_) (fun hf => ?_)
      · refine z_iconst (pc := 20) (v := 0) (zdg D_X12_areMinutes 10 (20, .iconst 0, 1) rfl) rfl ?_
        exact z_iret (pc := 21) rfl rfl (zdg D_X12_areMinutes 11 (21, .ireturn, 1) rfl) (hP _ hf)
      · refine z_iconst (pc := 16) (v := 1) (zdg D_X12_areMinutes 8 (16, .iconst 1, 1) rfl) rfl ?_
        refine z_goto (pc := 17) 21 (zdg D_X12_areMinutes 9 (17, .goto 4, 3) rfl) rfl ?_
        exact z_iret (pc := 21) rfl rfl (zdg D_X12_areMinutes 11 (21, .ireturn, 1) rfl) (hP _ hf)

def L_X12_steps : List (Nat × Instr × Nat) := [(0, .iload_n 1, 1), (1, .iload_n 2, 1), (2, .invokestatic 373, 3), (5, .ifCond .ne 5, 3), (8, .iconst (-1), 1), (9, .ireturn, 1), (10, .aload_n 0, 1), (11, .getfield 7, 3), (14, .iconst 1, 1), (15, .iaload, 1), (16, .istore_n 3, 1), (17, .iconst 0, 1), (18, .istore 4, 2), (20, .iconst (-1), 1), (21, .istore 5, 2), (23, .iconst 0, 1), (24, .istore 6, 2), (26, .iload 6, 2), (28, .aload_n 0, 1), (29, .getfield 7, 3), (32, .bipush 30, 2), (34, .iaload, 1), (35, .aload_n 0, 1), (36, .getfield 7, 3), (39, .bipush 32, 2), (41, .iaload, 1), (42, .isub, 1), (43, .if_icmp .gt 72, 3), (46, .aload_n 0, 1), (47, .getfield 7, 3), (50, .iconst 1, 1), (51, .iload 6, 2), (53, .iastore, 1), (54, .iconst 0, 1), (55, .istore 7, 2), (57, .iload_n 1, 1), (58, .istore 8, 2), (60, .iload 8, 2), (62, .iload_n 2, 1), (63, .if_icmp .gt 28, 3), (66, .iload 7, 2), (68, .aload_n 0, 1), (69, .iload 8, 2), (71, .invokevirtual 370, 3), (74, .ifCond .eq 7, 3), (77, .iconst 1, 1), (78, .goto 4, 3), (81, .iconst 0, 1), (82, .iadd, 1), (83, .istore 7, 2), (85, .iinc 8 1, 3), (88, .goto (-28), 3), (91, .iload 7, 2), (93, .iload 5, 2), (95, .if_icmp .gt 6, 3), (98, .goto 11, 3), (101, .iload 7, 2), (103, .istore 5, 2), (105, .iload 6, 2), (107, .istore 4, 2), (109, .iinc 6 1, 3), (112, .goto (-86), 3), (115, .aload_n 0, 1), (116, .getfield 7, 3), (119, .iconst 1, 1), (120, .iload_n 3, 1), (121, .iastore, 1), (122, .iload 4, 2), (124, .ireturn, 1)]
set_option maxRecDepth 100000 in
theorem D_X12_steps : zdecs cX12_steps L_X12_steps = true := by decide +kernel
noncomputable def b_X12_steps_60 (p2 : Int32) (s5 : zG) (v7_6 : Int32) (v8_7 : Int32) : Option ((Int32 × Int32) ⊕ (Int32)) :=
  if v8_7 ≤ p2 then (f_X12_isEmpty v8_7 s5).bind (fun q8 => if q8 = 0 then some (Sum.inl ((v7_6 + (0 : Int32)), (v8_7 + 1))) else some (Sum.inl ((v7_6 + (1 : Int32)), (v8_7 + 1)))) else some (Sum.inr v7_6)
noncomputable def b_X12_steps_26 (p2 : Int32) (p1 : Int32) (v4_1 : Int32) (v5_2 : Int32) (v6_3 : Int32) (s4 : zG) : Option ((Int32 × Int32 × Int32 × zG) ⊕ (Int32 × zG)) :=
  if v6_3 ≤ ((s4.1 1 0 30) - (s4.1 1 0 32)) then zb (zwI s4 1 0 1 v6_3) (fun s5 => (zlp (fun q : Int32 × Int32 => b_X12_steps_60 p2 s5 q.1 q.2) ((0 : Int32), p1)).bind (fun e9 : Int32 => if e9 ≤ v5_2 then some (Sum.inl (v4_1, v5_2, (v6_3 + 1), s5)) else some (Sum.inl (v6_3, e9, (v6_3 + 1), s5)))) else some (Sum.inr (v4_1, s4))
noncomputable def f_X12_steps (p1 : Int32) (p2 : Int32) (σ : zG) : Option (Int32 × zG) :=
  if (f_X12_areMinutes p1 p2) = 0 then some ((-1 : Int32), σ) else (zlp (fun q : Int32 × Int32 × Int32 × zG => b_X12_steps_26 p2 p1 q.1 q.2.1 q.2.2.1 q.2.2.2) ((0 : Int32), (-1 : Int32), (0 : Int32), σ)).bind (fun e10 : Int32 × zG => zb (zwI e10.2 1 0 1 (σ.1 1 0 1)) (fun s11 => some (e10.1, s11)))
set_option maxRecDepth 100000 in
set_option maxHeartbeats 4000000 in
theorem c_X12_steps (l : Launch) (p1 : Int32) (p2 : Int32) (σ : zG) (q : Int32 × zG) (hq : f_X12_steps p1 p2 σ = some q) : zMet l zsyM m_X12_steps yX12_steps [zR 0 0, zI p1, zI p2] σ (some (zI q.1)) q.2 := by
  refine zEnter [(0, zR 0 0), (1, zI p1), (2, zI p2)] (by decide) rfl (fun _ => Nat.le_of_ble_eq_true rfl) (fun _ => rfl) (fun w h => ?_) (fun K hv hs => ?_)
  · exact zokm rfl h
  · have hP : ∀ x s, f_X12_steps p1 p2 σ = some (x, s) → zKv K = some (zI x) ∧ zKs K = s := fun x s h => by rw [hq] at h; cases h; exact ⟨hv, hs⟩
    have hn : f_X12_steps p1 p2 σ ≠ none := fun z => by rw [hq] at z; cases z
    have hf := f_X12_steps.eq_1 p1 p2 σ
    refine z_iload_n (pc := 0) 1 (zdg D_X12_steps 0 (0, .iload_n 1, 1) rfl) rfl rfl ?_
    refine z_iload_n (pc := 1) 2 (zdg D_X12_steps 1 (1, .iload_n 2, 1) rfl) rfl rfl ?_
    refine z_callS (pc := 2) (rest := []) (st2 := [zI (f_X12_areMinutes p1 p2)]) (fun l => c_X12_areMinutes l p1 p2 σ) zs_X12_areMinutes lm_X12_373 rfl rfl rfl (Nat.le_of_ble_eq_true rfl) ⟨Nat.le_of_ble_eq_true rfl, Nat.le_of_ble_eq_true rfl⟩ (zdg D_X12_steps 2 (2, .invokestatic 373, 3) rfl) ?_
    refine z_if_ne (pc := 5) 10 (zdg D_X12_steps 3 (5, .ifCond .ne 5, 3) rfl) rfl hf (fun hf => ?_) (fun hf => ?_)
    · refine z_aload_n (pc := 10) 0 (zdg D_X12_steps 6 (10, .aload_n 0, 1) rfl) rfl rfl ?_
      refine z_getR (pc := 11) (g := 1) (j := 0) lf_X12_7 rfl rfl rfl (zdg D_X12_steps 7 (11, .getfield 7, 3) rfl) ?_
      refine z_iconst (pc := 14) (v := 1) (zdg D_X12_steps 8 (14, .iconst 1, 1) rfl) rfl ?_
      refine z_ialdC (pc := 15) (j := 1) rfl (fun _ => rfl) (zdg D_X12_steps 9 (15, .iaload, 1) rfl) rfl rfl ?_
      refine z_istore_n (pc := 16) (al' := [(3, zI (σ.1 1 0 1)), (0, zR 0 0), (1, zI p1), (2, zI p2)]) (zdg D_X12_steps 10 (16, .istore_n 3, 1) rfl) rfl (by decide) rfl ?_
      refine z_iconst (pc := 17) (v := 0) (zdg D_X12_steps 11 (17, .iconst 0, 1) rfl) rfl ?_
      refine z_istore (pc := 18) (al' := [(4, zI (0 : Int32)), (3, zI (σ.1 1 0 1)), (0, zR 0 0), (1, zI p1), (2, zI p2)]) (zdg D_X12_steps 12 (18, .istore 4, 2) rfl) (by decide) rfl ?_
      refine z_iconst (pc := 20) (v := -1) (zdg D_X12_steps 13 (20, .iconst (-1), 1) rfl) rfl ?_
      refine z_istore (pc := 21) (al' := [(5, zI (-1 : Int32)), (4, zI (0 : Int32)), (3, zI (σ.1 1 0 1)), (0, zR 0 0), (1, zI p1), (2, zI p2)]) (zdg D_X12_steps 14 (21, .istore 5, 2) rfl) (by decide) rfl ?_
      refine z_iconst (pc := 23) (v := 0) (zdg D_X12_steps 15 (23, .iconst 0, 1) rfl) rfl ?_
      refine z_istore (pc := 24) (al' := [(6, zI (0 : Int32)), (5, zI (-1 : Int32)), (4, zI (0 : Int32)), (3, zI (σ.1 1 0 1)), (0, zR 0 0), (1, zI p1), (2, zI p2)]) (zdg D_X12_steps 16 (24, .istore 6, 2) rfl) (by decide) rfl ?_
      refine z_sub (al' := [(0, zR 0 0), (1, zI p1), (2, zI p2), (3, zI (σ.1 1 0 1)), (4, zI (0 : Int32)), (5, zI (-1 : Int32)), (6, zI (0 : Int32))]) [4, 5, 6, 3, 2, 1, 0] rfl ?_
      refine z_loop (f := (fun q : Int32 × Int32 × Int32 × zG => b_X12_steps_26 p2 p1 q.1 q.2.1 q.2.2.1 q.2.2.2)) (a := ((0 : Int32), (-1 : Int32), (0 : Int32), σ)) (fun q : Int32 × Int32 × Int32 × zG => zX zsyM m_X12_steps K 26 [(0, zR 0 0), (1, zI p1), (2, zI p2), (3, zI (σ.1 1 0 1)), (4, zI q.1), (5, zI q.2.1), (6, zI q.2.2.1)] [] q.2.2.2) (fun e10 : Int32 × zG => zX zsyM m_X12_steps K 115 [(0, zR 0 0), (3, zI (σ.1 1 0 1)), (4, zI e10.1)] [] e10.2) hn hf ?_ ?_
      · intro e10 hf
        refine z_aload_n (pc := 115) 0 (zdg D_X12_steps 62 (115, .aload_n 0, 1) rfl) rfl rfl ?_
        refine z_getR (pc := 116) (g := 1) (j := 0) lf_X12_7 rfl rfl rfl (zdg D_X12_steps 63 (116, .getfield 7, 3) rfl) ?_
        refine z_iconst (pc := 119) (v := 1) (zdg D_X12_steps 64 (119, .iconst 1, 1) rfl) rfl ?_
        refine z_iload_n (pc := 120) 1 (zdg D_X12_steps 65 (120, .iload_n 3, 1) rfl) rfl rfl ?_
        refine z_iastC (pc := 121) (j := 1) rfl (fun _ => rfl) (zdg D_X12_steps 66 (121, .iastore, 1) rfl) rfl rfl ?_
        refine z_nmS hf (fun s11 hf => ?_)
        refine z_iload (pc := 122) 2 (zdg D_X12_steps 67 (122, .iload 4, 2) rfl) rfl ?_
        exact z_iret (pc := 124) rfl rfl (zdg D_X12_steps 68 (124, .ireturn, 1) rfl) (hP _ _ hf)
      · rintro ⟨v4_1, v5_2, v6_3, s4⟩ hn hi hx
        have hf := b_X12_steps_26.eq_1 p2 p1 v4_1 v5_2 v6_3 s4
        refine z_iload (pc := 26) 6 (zdg D_X12_steps 17 (26, .iload 6, 2) rfl) rfl ?_
        refine z_aload_n (pc := 28) 0 (zdg D_X12_steps 18 (28, .aload_n 0, 1) rfl) rfl rfl ?_
        refine z_getR (pc := 29) (g := 1) (j := 0) lf_X12_7 rfl rfl rfl (zdg D_X12_steps 19 (29, .getfield 7, 3) rfl) ?_
        refine z_bipush (pc := 32) (v := 30) (zdg D_X12_steps 20 (32, .bipush 30, 2) rfl) rfl ?_
        refine z_ialdC (pc := 34) (j := 30) rfl (fun _ => rfl) (zdg D_X12_steps 21 (34, .iaload, 1) rfl) rfl rfl ?_
        refine z_aload_n (pc := 35) 0 (zdg D_X12_steps 22 (35, .aload_n 0, 1) rfl) rfl rfl ?_
        refine z_getR (pc := 36) (g := 1) (j := 0) lf_X12_7 rfl rfl rfl (zdg D_X12_steps 23 (36, .getfield 7, 3) rfl) ?_
        refine z_bipush (pc := 39) (v := 32) (zdg D_X12_steps 24 (39, .bipush 32, 2) rfl) rfl ?_
        refine z_ialdC (pc := 41) (j := 32) rfl (fun _ => rfl) (zdg D_X12_steps 25 (41, .iaload, 1) rfl) rfl rfl ?_
        refine z_isub (pc := 42) (zdg D_X12_steps 26 (42, .isub, 1) rfl) ?_
        refine z_icmp_gt (pc := 43) 115 (zdg D_X12_steps 27 (43, .if_icmp .gt 72, 3) rfl) rfl hf (fun hf => ?_) (fun hf => ?_)
        · refine z_sub (al' := [(0, zR 0 0), (3, zI (σ.1 1 0 1)), (4, zI v4_1)]) [0, 3, 4] rfl ?_
          exact hx (v4_1, s4) hf
        · refine z_aload_n (pc := 46) 0 (zdg D_X12_steps 28 (46, .aload_n 0, 1) rfl) rfl rfl ?_
          refine z_getR (pc := 47) (g := 1) (j := 0) lf_X12_7 rfl rfl rfl (zdg D_X12_steps 29 (47, .getfield 7, 3) rfl) ?_
          refine z_iconst (pc := 50) (v := 1) (zdg D_X12_steps 30 (50, .iconst 1, 1) rfl) rfl ?_
          refine z_iload (pc := 51) 6 (zdg D_X12_steps 31 (51, .iload 6, 2) rfl) rfl ?_
          refine z_iastC (pc := 53) (j := 1) rfl (fun _ => rfl) (zdg D_X12_steps 32 (53, .iastore, 1) rfl) rfl rfl ?_
          refine z_nmS hf (fun s5 hf => ?_)
          refine z_iconst (pc := 54) (v := 0) (zdg D_X12_steps 33 (54, .iconst 0, 1) rfl) rfl ?_
          refine z_istore (pc := 55) (al' := [(7, zI (0 : Int32)), (0, zR 0 0), (1, zI p1), (2, zI p2), (3, zI (σ.1 1 0 1)), (4, zI v4_1), (5, zI v5_2), (6, zI v6_3)]) (zdg D_X12_steps 34 (55, .istore 7, 2) rfl) (by decide) rfl ?_
          refine z_iload_n (pc := 57) 2 (zdg D_X12_steps 35 (57, .iload_n 1, 1) rfl) rfl rfl ?_
          refine z_istore (pc := 58) (al' := [(8, zI p1), (7, zI (0 : Int32)), (0, zR 0 0), (1, zI p1), (2, zI p2), (3, zI (σ.1 1 0 1)), (4, zI v4_1), (5, zI v5_2), (6, zI v6_3)]) (zdg D_X12_steps 36 (58, .istore 8, 2) rfl) (by decide) rfl ?_
          refine z_sub (al' := [(0, zR 0 0), (1, zI p1), (2, zI p2), (3, zI (σ.1 1 0 1)), (4, zI v4_1), (5, zI v5_2), (6, zI v6_3), (7, zI (0 : Int32)), (8, zI p1)]) [2, 3, 4, 5, 6, 7, 8, 1, 0] rfl ?_
          refine z_loop (f := (fun q : Int32 × Int32 => b_X12_steps_60 p2 s5 q.1 q.2)) (a := ((0 : Int32), p1)) (fun q : Int32 × Int32 => zX zsyM m_X12_steps K 60 [(0, zR 0 0), (1, zI p1), (2, zI p2), (3, zI (σ.1 1 0 1)), (4, zI v4_1), (5, zI v5_2), (6, zI v6_3), (7, zI q.1), (8, zI q.2)] [] s5) (fun e9 : Int32 => zX zsyM m_X12_steps K 91 [(0, zR 0 0), (1, zI p1), (2, zI p2), (3, zI (σ.1 1 0 1)), (4, zI v4_1), (5, zI v5_2), (6, zI v6_3), (7, zI e9)] [] s5) hn hf ?_ ?_
          · intro e9 hf
            refine z_iload (pc := 91) 7 (zdg D_X12_steps 52 (91, .iload 7, 2) rfl) rfl ?_
            refine z_iload (pc := 93) 5 (zdg D_X12_steps 53 (93, .iload 5, 2) rfl) rfl ?_
            refine z_icmp_gt (pc := 95) 101 (zdg D_X12_steps 54 (95, .if_icmp .gt 6, 3) rfl) rfl hf (fun hf => ?_) (fun hf => ?_)
            · refine z_iload (pc := 101) 7 (zdg D_X12_steps 56 (101, .iload 7, 2) rfl) rfl ?_
              refine z_istore (pc := 103) (al' := [(5, zI e9), (0, zR 0 0), (1, zI p1), (2, zI p2), (3, zI (σ.1 1 0 1)), (4, zI v4_1), (6, zI v6_3), (7, zI e9)]) (zdg D_X12_steps 57 (103, .istore 5, 2) rfl) (by decide) rfl ?_
              refine z_iload (pc := 105) 6 (zdg D_X12_steps 58 (105, .iload 6, 2) rfl) rfl ?_
              refine z_istore (pc := 107) (al' := [(4, zI v6_3), (5, zI e9), (0, zR 0 0), (1, zI p1), (2, zI p2), (3, zI (σ.1 1 0 1)), (6, zI v6_3), (7, zI e9)]) (zdg D_X12_steps 59 (107, .istore 4, 2) rfl) (by decide) rfl ?_
              refine z_iinc (pc := 109) (v0 := (v6_3 + 1)) (al' := [(6, zI (v6_3 + 1)), (4, zI v6_3), (5, zI e9), (0, zR 0 0), (1, zI p1), (2, zI p2), (3, zI (σ.1 1 0 1)), (7, zI e9)]) 6 (zdg D_X12_steps 60 (109, .iinc 6 1, 3) rfl) rfl rfl (by decide) rfl ?_
              refine z_goto (pc := 112) 26 (zdg D_X12_steps 61 (112, .goto (-86), 3) rfl) rfl ?_
              refine z_sub (al' := [(0, zR 0 0), (1, zI p1), (2, zI p2), (3, zI (σ.1 1 0 1)), (4, zI v6_3), (5, zI e9), (6, zI (v6_3 + 1))]) [3, 4, 5, 6, 1, 2, 0] rfl ?_
              exact hi (v6_3, e9, (v6_3 + 1), s5) hf
            · refine z_goto (pc := 98) 109 (zdg D_X12_steps 55 (98, .goto 11, 3) rfl) rfl ?_
              refine z_iinc (pc := 109) (v0 := (v6_3 + 1)) (al' := [(6, zI (v6_3 + 1)), (0, zR 0 0), (1, zI p1), (2, zI p2), (3, zI (σ.1 1 0 1)), (4, zI v4_1), (5, zI v5_2), (7, zI e9)]) 6 (zdg D_X12_steps 60 (109, .iinc 6 1, 3) rfl) rfl rfl (by decide) rfl ?_
              refine z_goto (pc := 112) 26 (zdg D_X12_steps 61 (112, .goto (-86), 3) rfl) rfl ?_
              refine z_sub (al' := [(0, zR 0 0), (1, zI p1), (2, zI p2), (3, zI (σ.1 1 0 1)), (4, zI v4_1), (5, zI v5_2), (6, zI (v6_3 + 1))]) [1, 2, 3, 4, 5, 6, 0] rfl ?_
              exact hi (v4_1, v5_2, (v6_3 + 1), s5) hf
          · rintro ⟨v7_6, v8_7⟩ hn hi hx
            have hf := b_X12_steps_60.eq_1 p2 s5 v7_6 v8_7
            refine z_iload (pc := 60) 8 (zdg D_X12_steps 37 (60, .iload 8, 2) rfl) rfl ?_
            refine z_iload_n (pc := 62) 2 (zdg D_X12_steps 38 (62, .iload_n 2, 1) rfl) rfl rfl ?_
            refine z_icmp_gt (pc := 63) 91 (zdg D_X12_steps 39 (63, .if_icmp .gt 28, 3) rfl) rfl hf (fun hf => ?_) (fun hf => ?_)
            · refine z_sub (al' := [(0, zR 0 0), (1, zI p1), (2, zI p2), (3, zI (σ.1 1 0 1)), (4, zI v4_1), (5, zI v5_2), (6, zI v6_3), (7, zI v7_6)]) [0, 1, 2, 3, 4, 5, 6, 7] rfl ?_
              exact hx v7_6 hf
            · refine z_iload (pc := 66) 7 (zdg D_X12_steps 40 (66, .iload 7, 2) rfl) rfl ?_
              refine z_aload_n (pc := 68) 0 (zdg D_X12_steps 41 (68, .aload_n 0, 1) rfl) rfl rfl ?_
              refine z_iload (pc := 69) 8 (zdg D_X12_steps 42 (69, .iload 8, 2) rfl) rfl ?_
              refine z_bind hn hf (fun q8 hq hf => ?_)
              refine z_callV (pc := 71) (rest := [zI v7_6]) (st2 := [zI q8, zI v7_6]) (fun l => c_X12_isEmpty l v8_7 s5 q8 hq) zv_X12_isEmpty lm_X12_370 rfl rfl rfl rfl rfl rfl (Nat.le_of_ble_eq_true rfl) ⟨Nat.le_of_ble_eq_true rfl, Nat.le_of_ble_eq_true rfl⟩ (zdg D_X12_steps 43 (71, .invokevirtual 370, 3) rfl) ?_
              refine z_if_eq (pc := 74) 81 (zdg D_X12_steps 44 (74, .ifCond .eq 7, 3) rfl) rfl hf (fun hf => ?_) (fun hf => ?_)
              · refine z_iconst (pc := 81) (v := 0) (zdg D_X12_steps 47 (81, .iconst 0, 1) rfl) rfl ?_
                refine z_iadd (pc := 82) (zdg D_X12_steps 48 (82, .iadd, 1) rfl) ?_
                refine z_istore (pc := 83) (al' := [(7, zI (v7_6 + (0 : Int32))), (0, zR 0 0), (1, zI p1), (2, zI p2), (3, zI (σ.1 1 0 1)), (4, zI v4_1), (5, zI v5_2), (6, zI v6_3), (8, zI v8_7)]) (zdg D_X12_steps 49 (83, .istore 7, 2) rfl) (by decide) rfl ?_
                refine z_iinc (pc := 85) (v0 := (v8_7 + 1)) (al' := [(8, zI (v8_7 + 1)), (7, zI (v7_6 + (0 : Int32))), (0, zR 0 0), (1, zI p1), (2, zI p2), (3, zI (σ.1 1 0 1)), (4, zI v4_1), (5, zI v5_2), (6, zI v6_3)]) 8 (zdg D_X12_steps 50 (85, .iinc 8 1, 3) rfl) rfl rfl (by decide) rfl ?_
                refine z_goto (pc := 88) 60 (zdg D_X12_steps 51 (88, .goto (-28), 3) rfl) rfl ?_
                refine z_sub (al' := [(0, zR 0 0), (1, zI p1), (2, zI p2), (3, zI (σ.1 1 0 1)), (4, zI v4_1), (5, zI v5_2), (6, zI v6_3), (7, zI (v7_6 + (0 : Int32))), (8, zI (v8_7 + 1))]) [2, 3, 4, 5, 6, 7, 8, 1, 0] rfl ?_
                exact hi ((v7_6 + (0 : Int32)), (v8_7 + 1)) hf
              · refine z_iconst (pc := 77) (v := 1) (zdg D_X12_steps 45 (77, .iconst 1, 1) rfl) rfl ?_
                refine z_goto (pc := 78) 82 (zdg D_X12_steps 46 (78, .goto 4, 3) rfl) rfl ?_
                refine z_iadd (pc := 82) (zdg D_X12_steps 48 (82, .iadd, 1) rfl) ?_
                refine z_istore (pc := 83) (al' := [(7, zI (v7_6 + (1 : Int32))), (0, zR 0 0), (1, zI p1), (2, zI p2), (3, zI (σ.1 1 0 1)), (4, zI v4_1), (5, zI v5_2), (6, zI v6_3), (8, zI v8_7)]) (zdg D_X12_steps 49 (83, .istore 7, 2) rfl) (by decide) rfl ?_
                refine z_iinc (pc := 85) (v0 := (v8_7 + 1)) (al' := [(8, zI (v8_7 + 1)), (7, zI (v7_6 + (1 : Int32))), (0, zR 0 0), (1, zI p1), (2, zI p2), (3, zI (σ.1 1 0 1)), (4, zI v4_1), (5, zI v5_2), (6, zI v6_3)]) 8 (zdg D_X12_steps 50 (85, .iinc 8 1, 3) rfl) rfl rfl (by decide) rfl ?_
                refine z_goto (pc := 88) 60 (zdg D_X12_steps 51 (88, .goto (-28), 3) rfl) rfl ?_
                refine z_sub (al' := [(0, zR 0 0), (1, zI p1), (2, zI p2), (3, zI (σ.1 1 0 1)), (4, zI v4_1), (5, zI v5_2), (6, zI v6_3), (7, zI (v7_6 + (1 : Int32))), (8, zI (v8_7 + 1))]) [2, 3, 4, 5, 6, 7, 8, 1, 0] rfl ?_
                exact hi ((v7_6 + (1 : Int32)), (v8_7 + 1)) hf
    · refine z_iconst (pc := 8) (v := -1) (zdg D_X12_steps 4 (8, .iconst (-1), 1) rfl) rfl ?_
      exact z_iret (pc := 9) rfl rfl (zdg D_X12_steps 5 (9, .ireturn, 1) rfl) (hP _ _ hf)

def L_X12_areShots : List (Nat × Instr × Nat) := [(0, .iload_n 1, 1), (1, .iconst 0, 1), (2, .iconst 1, 1), (3, .aload_n 0, 1), (4, .getfield 7, 3), (7, .iconst 4, 1), (8, .iaload, 1), (9, .ishl, 1), (10, .iconst 1, 1), (11, .isub, 1), (12, .invokestatic 64, 3), (15, .ireturn, 1)]
set_option maxRecDepth 100000 in
theorem D_X12_areShots : zdecs cX12_areShots L_X12_areShots = true := by decide +kernel
noncomputable def f_X12_areShots (p1 : Int32) (σ : zG) : Option (Int32) :=
  zg (zbl (f_X12_isIn p1 (0 : Int32) ((zshl (1 : Int32) (σ.1 1 0 4)) - (1 : Int32)))) (some (f_X12_isIn p1 (0 : Int32) ((zshl (1 : Int32) (σ.1 1 0 4)) - (1 : Int32))))
set_option maxRecDepth 100000 in
set_option maxHeartbeats 4000000 in
theorem c_X12_areShots (l : Launch) (p1 : Int32) (σ : zG) (q : Int32) (hq : f_X12_areShots p1 σ = some q) : zMet l zsyM m_X12_areShots yX12_areShots [zR 0 0, zI p1] σ (some (zI q)) σ := by
  refine zEnter [(0, zR 0 0), (1, zI p1)] (by decide) rfl (fun _ => Nat.le_of_ble_eq_true rfl) (fun _ => rfl) (fun w h => ?_) (fun K hv hs => ?_)
  · exact zokm rfl h
  · have hP : ∀ x, f_X12_areShots p1 σ = some x → zKv K = some (zI x) ∧ zKs K = σ := fun x h => by rw [hq] at h; cases h; exact ⟨hv, hs⟩
    have hn : f_X12_areShots p1 σ ≠ none := fun z => by rw [hq] at z; cases z
    have hf := f_X12_areShots.eq_1 p1 σ
    refine z_iload_n (pc := 0) 1 (zdg D_X12_areShots 0 (0, .iload_n 1, 1) rfl) rfl rfl ?_
    refine z_iconst (pc := 1) (v := 0) (zdg D_X12_areShots 1 (1, .iconst 0, 1) rfl) rfl ?_
    refine z_iconst (pc := 2) (v := 1) (zdg D_X12_areShots 2 (2, .iconst 1, 1) rfl) rfl ?_
    refine z_aload_n (pc := 3) 0 (zdg D_X12_areShots 3 (3, .aload_n 0, 1) rfl) rfl rfl ?_
    refine z_getR (pc := 4) (g := 1) (j := 0) lf_X12_7 rfl rfl rfl (zdg D_X12_areShots 4 (4, .getfield 7, 3) rfl) ?_
    refine z_iconst (pc := 7) (v := 4) (zdg D_X12_areShots 5 (7, .iconst 4, 1) rfl) rfl ?_
    refine z_ialdC (pc := 8) (j := 4) rfl (fun _ => rfl) (zdg D_X12_areShots 6 (8, .iaload, 1) rfl) rfl rfl ?_
    refine z_ishl (pc := 9) (zdg D_X12_areShots 7 (9, .ishl, 1) rfl) ?_
    refine z_iconst (pc := 10) (v := 1) (zdg D_X12_areShots 8 (10, .iconst 1, 1) rfl) rfl ?_
    refine z_isub (pc := 11) (zdg D_X12_areShots 9 (11, .isub, 1) rfl) ?_
    refine z_callS (pc := 12) (rest := []) (st2 := [zI (f_X12_isIn p1 (0 : Int32) ((zshl (1 : Int32) (σ.1 1 0 4)) - (1 : Int32)))]) (fun l => c_X12_isIn l p1 (0 : Int32) ((zshl (1 : Int32) (σ.1 1 0 4)) - (1 : Int32)) σ) zs_X12_isIn lm_X12_64 rfl rfl rfl (Nat.le_of_ble_eq_true rfl) ⟨Nat.le_of_ble_eq_true rfl, Nat.le_of_ble_eq_true rfl⟩ (zdg D_X12_areShots 10 (12, .invokestatic 64, 3) rfl) ?_
    exact z_zret (pc := 15) rfl (zdg D_X12_areShots 11 (15, .ireturn, 1) rfl) hn hf (fun hf => (hP _ hf))

def L_X12_laidBy : List (Nat × Instr × Nat) := [(0, .lconst 0, 1), (1, .lstore_n 2, 1), (2, .iconst 0, 1), (3, .istore 4, 2), (5, .iload 4, 2), (7, .bipush 64, 2), (9, .if_icmp .ge 66, 3), (12, .iconst 0, 1), (13, .istore 5, 2), (15, .iload 5, 2), (17, .aload_n 0, 1), (18, .getfield 7, 3), (21, .iconst 4, 1), (22, .iaload, 1), (23, .if_icmp .ge 46, 3), (26, .aload_n 0, 1), (27, .iload 4, 2), (29, .invokevirtual 320, 3), (32, .ifCond .eq 31, 3), (35, .iload_n 1, 1), (36, .iload 5, 2), (38, .ishr, 1), (39, .iconst 1, 1), (40, .iand, 1), (41, .iconst 1, 1), (42, .if_icmp .ne 21, 3), (45, .aload_n 0, 1), (46, .iload 5, 2), (48, .iload 4, 2), (50, .invokevirtual 376, 3), (53, .ifCond .eq 10, 3), (56, .lload_n 2, 1), (57, .lconst 1, 1), (58, .iload 4, 2), (60, .lshl, 1), (61, .lor, 1), (62, .lstore_n 2, 1), (63, .iinc 5 1, 3), (66, .goto (-51), 3), (69, .iinc 4 1, 3), (72, .goto (-67), 3), (75, .lload_n 2, 1), (76, .lreturn, 1)]
set_option maxRecDepth 100000 in
theorem D_X12_laidBy : zdecs cX12_laidBy L_X12_laidBy = true := by decide +kernel
noncomputable def b_X12_laidBy_15 (σ : zG) (v4_2 : Int32) (p1 : Int32) (v2_3 : Int64) (v5_4 : Int32) : Option ((Int64 × Int32) ⊕ (Int64)) :=
  if v5_4 < (σ.1 1 0 4) then (f_X12_isInView v4_2 σ).bind (fun q5 => if q5 = 0 then some (Sum.inl (v2_3, (v5_4 + 1))) else if ((zshr p1 v5_4) &&& (1 : Int32)) = (1 : Int32) then (f_X12_isClearIn v5_4 v4_2 σ).bind (fun q6 => if q6 = 0 then some (Sum.inl (v2_3, (v5_4 + 1))) else some (Sum.inl ((v2_3 ||| (zlshl (1 : Int64) v4_2)), (v5_4 + 1)))) else some (Sum.inl (v2_3, (v5_4 + 1)))) else some (Sum.inr v2_3)
noncomputable def b_X12_laidBy_5 (σ : zG) (p1 : Int32) (v2_1 : Int64) (v4_2 : Int32) : Option ((Int64 × Int32) ⊕ (Int64)) :=
  if v4_2 < (64 : Int32) then (zlp (fun q : Int64 × Int32 => b_X12_laidBy_15 σ v4_2 p1 q.1 q.2) (v2_1, (0 : Int32))).bind (fun e7 : Int64 => some (Sum.inl (e7, (v4_2 + 1)))) else some (Sum.inr v2_1)
noncomputable def f_X12_laidBy (p1 : Int32) (σ : zG) : Option (Int64) :=
  (zlp (fun q : Int64 × Int32 => b_X12_laidBy_5 σ p1 q.1 q.2) ((0 : Int64), (0 : Int32))).bind (fun e8 : Int64 => some e8)
set_option maxRecDepth 100000 in
set_option maxHeartbeats 4000000 in
theorem c_X12_laidBy (l : Launch) (p1 : Int32) (σ : zG) (q : Int64) (hq : f_X12_laidBy p1 σ = some q) : zMet l zsyM m_X12_laidBy yX12_laidBy [zR 0 0, zI p1] σ (some (zL q)) σ := by
  refine zEnter [(0, zR 0 0), (1, zI p1)] (by decide) rfl (fun _ => Nat.le_of_ble_eq_true rfl) (fun _ => rfl) (fun w h => ?_) (fun K hv hs => ?_)
  · exact zokm rfl h
  · have hP : ∀ x, f_X12_laidBy p1 σ = some x → zKv K = some (zL x) ∧ zKs K = σ := fun x h => by rw [hq] at h; cases h; exact ⟨hv, hs⟩
    have hn : f_X12_laidBy p1 σ ≠ none := fun z => by rw [hq] at z; cases z
    have hf := f_X12_laidBy.eq_1 p1 σ
    refine z_lconst (pc := 0) (v := 0) (zdg D_X12_laidBy 0 (0, .lconst 0, 1) rfl) rfl ?_
    refine z_lstore_n (pc := 1) (al' := [(2, zL (0 : Int64)), (0, zR 0 0), (1, zI p1)]) (zdg D_X12_laidBy 1 (1, .lstore_n 2, 1) rfl) rfl (by decide) rfl ?_
    refine z_iconst (pc := 2) (v := 0) (zdg D_X12_laidBy 2 (2, .iconst 0, 1) rfl) rfl ?_
    refine z_istore (pc := 3) (al' := [(4, zI (0 : Int32)), (2, zL (0 : Int64)), (0, zR 0 0), (1, zI p1)]) (zdg D_X12_laidBy 3 (3, .istore 4, 2) rfl) (by decide) rfl ?_
    refine z_sub (al' := [(0, zR 0 0), (1, zI p1), (2, zL (0 : Int64)), (4, zI (0 : Int32))]) [2, 3, 1, 0] rfl ?_
    refine z_loop (f := (fun q : Int64 × Int32 => b_X12_laidBy_5 σ p1 q.1 q.2)) (a := ((0 : Int64), (0 : Int32))) (fun q : Int64 × Int32 => zX zsyM m_X12_laidBy K 5 [(0, zR 0 0), (1, zI p1), (2, zL q.1), (4, zI q.2)] [] σ) (fun e8 : Int64 => zX zsyM m_X12_laidBy K 75 [(2, zL e8)] [] σ) hn hf ?_ ?_
    · intro e8 hf
      refine z_lload_n (pc := 75) 0 (zdg D_X12_laidBy 41 (75, .lload_n 2, 1) rfl) rfl rfl ?_
      exact z_lret (pc := 76) rfl (zdg D_X12_laidBy 42 (76, .lreturn, 1) rfl) (hP _ hf)
    · rintro ⟨v2_1, v4_2⟩ hn hi hx
      have hf := b_X12_laidBy_5.eq_1 σ p1 v2_1 v4_2
      refine z_iload (pc := 5) 3 (zdg D_X12_laidBy 4 (5, .iload 4, 2) rfl) rfl ?_
      refine z_bipush (pc := 7) (v := 64) (zdg D_X12_laidBy 5 (7, .bipush 64, 2) rfl) rfl ?_
      refine z_icmp_ge (pc := 9) 75 (zdg D_X12_laidBy 6 (9, .if_icmp .ge 66, 3) rfl) rfl hf (fun hf => ?_) (fun hf => ?_)
      · refine z_sub (al' := [(2, zL v2_1)]) [2] rfl ?_
        exact hx v2_1 hf
      · refine z_iconst (pc := 12) (v := 0) (zdg D_X12_laidBy 7 (12, .iconst 0, 1) rfl) rfl ?_
        refine z_istore (pc := 13) (al' := [(5, zI (0 : Int32)), (0, zR 0 0), (1, zI p1), (2, zL v2_1), (4, zI v4_2)]) (zdg D_X12_laidBy 8 (13, .istore 5, 2) rfl) (by decide) rfl ?_
        refine z_sub (al' := [(0, zR 0 0), (1, zI p1), (2, zL v2_1), (4, zI v4_2), (5, zI (0 : Int32))]) [1, 2, 3, 4, 0] rfl ?_
        refine z_loop (f := (fun q : Int64 × Int32 => b_X12_laidBy_15 σ v4_2 p1 q.1 q.2)) (a := (v2_1, (0 : Int32))) (fun q : Int64 × Int32 => zX zsyM m_X12_laidBy K 15 [(0, zR 0 0), (1, zI p1), (2, zL q.1), (4, zI v4_2), (5, zI q.2)] [] σ) (fun e7 : Int64 => zX zsyM m_X12_laidBy K 69 [(0, zR 0 0), (1, zI p1), (2, zL e7), (4, zI v4_2)] [] σ) hn hf ?_ ?_
        · intro e7 hf
          refine z_iinc (pc := 69) (v0 := (v4_2 + 1)) (al' := [(4, zI (v4_2 + 1)), (0, zR 0 0), (1, zI p1), (2, zL e7)]) 3 (zdg D_X12_laidBy 39 (69, .iinc 4 1, 3) rfl) rfl rfl (by decide) rfl ?_
          refine z_goto (pc := 72) 5 (zdg D_X12_laidBy 40 (72, .goto (-67), 3) rfl) rfl ?_
          refine z_sub (al' := [(0, zR 0 0), (1, zI p1), (2, zL e7), (4, zI (v4_2 + 1))]) [1, 2, 3, 0] rfl ?_
          exact hi (e7, (v4_2 + 1)) hf
        · rintro ⟨v2_3, v5_4⟩ hn hi hx
          have hf := b_X12_laidBy_15.eq_1 σ v4_2 p1 v2_3 v5_4
          refine z_iload (pc := 15) 4 (zdg D_X12_laidBy 9 (15, .iload 5, 2) rfl) rfl ?_
          refine z_aload_n (pc := 17) 0 (zdg D_X12_laidBy 10 (17, .aload_n 0, 1) rfl) rfl rfl ?_
          refine z_getR (pc := 18) (g := 1) (j := 0) lf_X12_7 rfl rfl rfl (zdg D_X12_laidBy 11 (18, .getfield 7, 3) rfl) ?_
          refine z_iconst (pc := 21) (v := 4) (zdg D_X12_laidBy 12 (21, .iconst 4, 1) rfl) rfl ?_
          refine z_ialdC (pc := 22) (j := 4) rfl (fun _ => rfl) (zdg D_X12_laidBy 13 (22, .iaload, 1) rfl) rfl rfl ?_
          refine z_icmp_ge (pc := 23) 69 (zdg D_X12_laidBy 14 (23, .if_icmp .ge 46, 3) rfl) rfl hf (fun hf => ?_) (fun hf => ?_)
          · refine z_sub (al' := [(0, zR 0 0), (1, zI p1), (2, zL v2_3), (4, zI v4_2)]) [0, 1, 2, 3] rfl ?_
            exact hx v2_3 hf
          · refine z_aload_n (pc := 26) 0 (zdg D_X12_laidBy 15 (26, .aload_n 0, 1) rfl) rfl rfl ?_
            refine z_iload (pc := 27) 3 (zdg D_X12_laidBy 16 (27, .iload 4, 2) rfl) rfl ?_
            refine z_bind hn hf (fun q5 hq hf => ?_)
            refine z_callV (pc := 29) (rest := []) (st2 := [zI q5]) (fun l => c_X12_isInView l v4_2 σ q5 hq) zv_X12_isInView lm_X12_320 rfl rfl rfl rfl rfl rfl (Nat.le_of_ble_eq_true rfl) ⟨Nat.le_of_ble_eq_true rfl, Nat.le_of_ble_eq_true rfl⟩ (zdg D_X12_laidBy 17 (29, .invokevirtual 320, 3) rfl) ?_
            refine z_if_eq (pc := 32) 63 (zdg D_X12_laidBy 18 (32, .ifCond .eq 31, 3) rfl) rfl hf (fun hf => ?_) (fun hf => ?_)
            · refine z_iinc (pc := 63) (v0 := (v5_4 + 1)) (al' := [(5, zI (v5_4 + 1)), (0, zR 0 0), (1, zI p1), (2, zL v2_3), (4, zI v4_2)]) 4 (zdg D_X12_laidBy 37 (63, .iinc 5 1, 3) rfl) rfl rfl (by decide) rfl ?_
              refine z_goto (pc := 66) 15 (zdg D_X12_laidBy 38 (66, .goto (-51), 3) rfl) rfl ?_
              refine z_sub (al' := [(0, zR 0 0), (1, zI p1), (2, zL v2_3), (4, zI v4_2), (5, zI (v5_4 + 1))]) [1, 2, 3, 4, 0] rfl ?_
              exact hi (v2_3, (v5_4 + 1)) hf
            · refine z_iload_n (pc := 35) 1 (zdg D_X12_laidBy 19 (35, .iload_n 1, 1) rfl) rfl rfl ?_
              refine z_iload (pc := 36) 4 (zdg D_X12_laidBy 20 (36, .iload 5, 2) rfl) rfl ?_
              refine z_ishr (pc := 38) (zdg D_X12_laidBy 21 (38, .ishr, 1) rfl) ?_
              refine z_iconst (pc := 39) (v := 1) (zdg D_X12_laidBy 22 (39, .iconst 1, 1) rfl) rfl ?_
              refine z_iand (pc := 40) (zdg D_X12_laidBy 23 (40, .iand, 1) rfl) ?_
              refine z_iconst (pc := 41) (v := 1) (zdg D_X12_laidBy 24 (41, .iconst 1, 1) rfl) rfl ?_
              refine z_icmp_ne (pc := 42) 63 (zdg D_X12_laidBy 25 (42, .if_icmp .ne 21, 3) rfl) rfl hf (fun hf => ?_) (fun hf => ?_)
              · refine z_iinc (pc := 63) (v0 := (v5_4 + 1)) (al' := [(5, zI (v5_4 + 1)), (0, zR 0 0), (1, zI p1), (2, zL v2_3), (4, zI v4_2)]) 4 (zdg D_X12_laidBy 37 (63, .iinc 5 1, 3) rfl) rfl rfl (by decide) rfl ?_
                refine z_goto (pc := 66) 15 (zdg D_X12_laidBy 38 (66, .goto (-51), 3) rfl) rfl ?_
                refine z_sub (al' := [(0, zR 0 0), (1, zI p1), (2, zL v2_3), (4, zI v4_2), (5, zI (v5_4 + 1))]) [1, 2, 3, 4, 0] rfl ?_
                exact hi (v2_3, (v5_4 + 1)) hf
              · refine z_aload_n (pc := 45) 0 (zdg D_X12_laidBy 26 (45, .aload_n 0, 1) rfl) rfl rfl ?_
                refine z_iload (pc := 46) 4 (zdg D_X12_laidBy 27 (46, .iload 5, 2) rfl) rfl ?_
                refine z_iload (pc := 48) 3 (zdg D_X12_laidBy 28 (48, .iload 4, 2) rfl) rfl ?_
                refine z_bind hn hf (fun q6 hq hf => ?_)
                refine z_callV (pc := 50) (rest := []) (st2 := [zI q6]) (fun l => c_X12_isClearIn l v5_4 v4_2 σ q6 hq) zv_X12_isClearIn lm_X12_376 rfl rfl rfl rfl rfl rfl (Nat.le_of_ble_eq_true rfl) ⟨Nat.le_of_ble_eq_true rfl, Nat.le_of_ble_eq_true rfl⟩ (zdg D_X12_laidBy 29 (50, .invokevirtual 376, 3) rfl) ?_
                refine z_if_eq (pc := 53) 63 (zdg D_X12_laidBy 30 (53, .ifCond .eq 10, 3) rfl) rfl hf (fun hf => ?_) (fun hf => ?_)
                · refine z_iinc (pc := 63) (v0 := (v5_4 + 1)) (al' := [(5, zI (v5_4 + 1)), (0, zR 0 0), (1, zI p1), (2, zL v2_3), (4, zI v4_2)]) 4 (zdg D_X12_laidBy 37 (63, .iinc 5 1, 3) rfl) rfl rfl (by decide) rfl ?_
                  refine z_goto (pc := 66) 15 (zdg D_X12_laidBy 38 (66, .goto (-51), 3) rfl) rfl ?_
                  refine z_sub (al' := [(0, zR 0 0), (1, zI p1), (2, zL v2_3), (4, zI v4_2), (5, zI (v5_4 + 1))]) [1, 2, 3, 4, 0] rfl ?_
                  exact hi (v2_3, (v5_4 + 1)) hf
                · refine z_lload_n (pc := 56) 2 (zdg D_X12_laidBy 31 (56, .lload_n 2, 1) rfl) rfl rfl ?_
                  refine z_lconst (pc := 57) (v := 1) (zdg D_X12_laidBy 32 (57, .lconst 1, 1) rfl) rfl ?_
                  refine z_iload (pc := 58) 3 (zdg D_X12_laidBy 33 (58, .iload 4, 2) rfl) rfl ?_
                  refine z_lshl (pc := 60) (zdg D_X12_laidBy 34 (60, .lshl, 1) rfl) ?_
                  refine z_lor (pc := 61) (zdg D_X12_laidBy 35 (61, .lor, 1) rfl) ?_
                  refine z_lstore_n (pc := 62) (al' := [(2, zL (v2_3 ||| (zlshl (1 : Int64) v4_2))), (0, zR 0 0), (1, zI p1), (4, zI v4_2), (5, zI v5_4)]) (zdg D_X12_laidBy 36 (62, .lstore_n 2, 1) rfl) rfl (by decide) rfl ?_
                  refine z_iinc (pc := 63) (v0 := (v5_4 + 1)) (al' := [(5, zI (v5_4 + 1)), (2, zL (v2_3 ||| (zlshl (1 : Int64) v4_2))), (0, zR 0 0), (1, zI p1), (4, zI v4_2)]) 4 (zdg D_X12_laidBy 37 (63, .iinc 5 1, 3) rfl) rfl rfl (by decide) rfl ?_
                  refine z_goto (pc := 66) 15 (zdg D_X12_laidBy 38 (66, .goto (-51), 3) rfl) rfl ?_
                  refine z_sub (al' := [(0, zR 0 0), (1, zI p1), (2, zL (v2_3 ||| (zlshl (1 : Int64) v4_2))), (4, zI v4_2), (5, zI (v5_4 + 1))]) [2, 3, 1, 4, 0] rfl ?_
                  exact hi ((v2_3 ||| (zlshl (1 : Int64) v4_2)), (v5_4 + 1)) hf

def L_X12_laid : List (Nat × Instr × Nat) := [(0, .aload_n 0, 1), (1, .iload_n 1, 1), (2, .invokevirtual 379, 3), (5, .ifCond .eq 11, 3), (8, .aload_n 0, 1), (9, .iload_n 1, 1), (10, .invokevirtual 382, 3), (13, .goto 6, 3), (16, .ldc2_w 353, 3), (19, .lreturn, 1)]
set_option maxRecDepth 100000 in
theorem D_X12_laid : zdecs cX12_laid L_X12_laid = true := by decide +kernel
noncomputable def f_X12_laid (p1 : Int32) (σ : zG) : Option (Int64) :=
  (f_X12_areShots p1 σ).bind (fun q1 => if q1 = 0 then some (-1 : Int64) else (f_X12_laidBy p1 σ).bind (fun q2 => some q2))
set_option maxRecDepth 100000 in
set_option maxHeartbeats 4000000 in
theorem c_X12_laid (l : Launch) (p1 : Int32) (σ : zG) (q : Int64) (hq : f_X12_laid p1 σ = some q) : zMet l zsyM m_X12_laid yX12_laid [zR 0 0, zI p1] σ (some (zL q)) σ := by
  refine zEnter [(0, zR 0 0), (1, zI p1)] (by decide) rfl (fun _ => Nat.le_of_ble_eq_true rfl) (fun _ => rfl) (fun w h => ?_) (fun K hv hs => ?_)
  · exact zokm rfl h
  · have hP : ∀ x, f_X12_laid p1 σ = some x → zKv K = some (zL x) ∧ zKs K = σ := fun x h => by rw [hq] at h; cases h; exact ⟨hv, hs⟩
    have hn : f_X12_laid p1 σ ≠ none := fun z => by rw [hq] at z; cases z
    have hf := f_X12_laid.eq_1 p1 σ
    refine z_aload_n (pc := 0) 0 (zdg D_X12_laid 0 (0, .aload_n 0, 1) rfl) rfl rfl ?_
    refine z_iload_n (pc := 1) 1 (zdg D_X12_laid 1 (1, .iload_n 1, 1) rfl) rfl rfl ?_
    refine z_bind hn hf (fun q1 hq hf => ?_)
    refine z_callV (pc := 2) (rest := []) (st2 := [zI q1]) (fun l => c_X12_areShots l p1 σ q1 hq) zv_X12_areShots lm_X12_379 rfl rfl rfl rfl rfl rfl (Nat.le_of_ble_eq_true rfl) ⟨Nat.le_of_ble_eq_true rfl, Nat.le_of_ble_eq_true rfl⟩ (zdg D_X12_laid 2 (2, .invokevirtual 379, 3) rfl) ?_
    refine z_if_eq (pc := 5) 16 (zdg D_X12_laid 3 (5, .ifCond .eq 11, 3) rfl) rfl hf (fun hf => ?_) (fun hf => ?_)
    · refine z_ldc2 (pc := 16) lc_X12_353 (zdg D_X12_laid 8 (16, .ldc2_w 353, 3) rfl) ?_
      exact z_lret (pc := 19) rfl (zdg D_X12_laid 9 (19, .lreturn, 1) rfl) (hP _ hf)
    · refine z_aload_n (pc := 8) 0 (zdg D_X12_laid 4 (8, .aload_n 0, 1) rfl) rfl rfl ?_
      refine z_iload_n (pc := 9) 1 (zdg D_X12_laid 5 (9, .iload_n 1, 1) rfl) rfl rfl ?_
      refine z_bind hn hf (fun q2 hq hf => ?_)
      refine z_callV (pc := 10) (rest := []) (st2 := [zL q2]) (fun l => c_X12_laidBy l p1 σ q2 hq) zv_X12_laidBy lm_X12_382 rfl rfl rfl rfl rfl rfl (Nat.le_of_ble_eq_true rfl) ⟨Nat.le_of_ble_eq_true rfl, Nat.le_of_ble_eq_true rfl⟩ (zdg D_X12_laid 6 (10, .invokevirtual 382, 3) rfl) ?_
      refine z_goto (pc := 13) 19 (zdg D_X12_laid 7 (13, .goto 6, 3) rfl) rfl ?_
      exact z_lret (pc := 19) rfl (zdg D_X12_laid 9 (19, .lreturn, 1) rfl) (hP _ hf)

def L_X12_count : List (Nat × Instr × Nat) := [(0, .iconst 0, 1), (1, .istore_n 2, 1), (2, .iconst 0, 1), (3, .istore_n 3, 1), (4, .iload_n 3, 1), (5, .bipush 64, 2), (7, .if_icmp .ge 18, 3), (10, .iload_n 2, 1), (11, .lload_n 0, 1), (12, .iload_n 3, 1), (13, .lshr, 1), (14, .lconst 1, 1), (15, .land, 1), (16, .l2i, 1), (17, .iadd, 1), (18, .istore_n 2, 1), (19, .iinc 3 1, 3), (22, .goto (-18), 3), (25, .iload_n 2, 1), (26, .ireturn, 1)]
set_option maxRecDepth 100000 in
theorem D_X12_count : zdecs cX12_count L_X12_count = true := by decide +kernel
noncomputable def b_X12_count_4 (p1 : Int64) (v2_1 : Int32) (v3_2 : Int32) : Option ((Int32 × Int32) ⊕ (Int32)) :=
  if v3_2 < (64 : Int32) then some (Sum.inl ((v2_1 + ((zlshr p1 v3_2) &&& (1 : Int64)).toInt32), (v3_2 + 1))) else some (Sum.inr v2_1)
noncomputable def f_X12_count (p1 : Int64) : Option (Int32) :=
  (zlp (fun q : Int32 × Int32 => b_X12_count_4 p1 q.1 q.2) ((0 : Int32), (0 : Int32))).bind (fun e3 : Int32 => some e3)
set_option maxRecDepth 100000 in
set_option maxHeartbeats 4000000 in
theorem c_X12_count (l : Launch) (p1 : Int64) (σ : zG) (q : Int32) (hq : f_X12_count p1 = some q) : zMet l zsyM m_X12_count yX12_count [zL p1] σ (some (zI q)) σ := by
  refine zEnter [(0, zL p1)] (by decide) rfl (fun _ => Nat.le_of_ble_eq_true rfl) (fun _ => rfl) (fun w h => ?_) (fun K hv hs => ?_)
  · exact zokm rfl h
  · have hP : ∀ x, f_X12_count p1 = some x → zKv K = some (zI x) ∧ zKs K = σ := fun x h => by rw [hq] at h; cases h; exact ⟨hv, hs⟩
    have hn : f_X12_count p1 ≠ none := fun z => by rw [hq] at z; cases z
    have hf := f_X12_count.eq_1 p1
    refine z_iconst (pc := 0) (v := 0) (zdg D_X12_count 0 (0, .iconst 0, 1) rfl) rfl ?_
    refine z_istore_n (pc := 1) (al' := [(2, zI (0 : Int32)), (0, zL p1)]) (zdg D_X12_count 1 (1, .istore_n 2, 1) rfl) rfl (by decide) rfl ?_
    refine z_iconst (pc := 2) (v := 0) (zdg D_X12_count 2 (2, .iconst 0, 1) rfl) rfl ?_
    refine z_istore_n (pc := 3) (al' := [(3, zI (0 : Int32)), (2, zI (0 : Int32)), (0, zL p1)]) (zdg D_X12_count 3 (3, .istore_n 3, 1) rfl) rfl (by decide) rfl ?_
    refine z_sub (al' := [(0, zL p1), (2, zI (0 : Int32)), (3, zI (0 : Int32))]) [2, 1, 0] rfl ?_
    refine z_loop (f := (fun q : Int32 × Int32 => b_X12_count_4 p1 q.1 q.2)) (a := ((0 : Int32), (0 : Int32))) (fun q : Int32 × Int32 => zX zsyM m_X12_count K 4 [(0, zL p1), (2, zI q.1), (3, zI q.2)] [] σ) (fun e3 : Int32 => zX zsyM m_X12_count K 25 [(2, zI e3)] [] σ) hn hf ?_ ?_
    · intro e3 hf
      refine z_iload_n (pc := 25) 0 (zdg D_X12_count 18 (25, .iload_n 2, 1) rfl) rfl rfl ?_
      exact z_iret (pc := 26) rfl rfl (zdg D_X12_count 19 (26, .ireturn, 1) rfl) (hP _ hf)
    · rintro ⟨v2_1, v3_2⟩ hn hi hx
      have hf := b_X12_count_4.eq_1 p1 v2_1 v3_2
      refine z_iload_n (pc := 4) 2 (zdg D_X12_count 4 (4, .iload_n 3, 1) rfl) rfl rfl ?_
      refine z_bipush (pc := 5) (v := 64) (zdg D_X12_count 5 (5, .bipush 64, 2) rfl) rfl ?_
      refine z_icmp_ge (pc := 7) 25 (zdg D_X12_count 6 (7, .if_icmp .ge 18, 3) rfl) rfl hf (fun hf => ?_) (fun hf => ?_)
      · refine z_sub (al' := [(2, zI v2_1)]) [1] rfl ?_
        exact hx v2_1 hf
      · refine z_iload_n (pc := 10) 1 (zdg D_X12_count 7 (10, .iload_n 2, 1) rfl) rfl rfl ?_
        refine z_lload_n (pc := 11) 0 (zdg D_X12_count 8 (11, .lload_n 0, 1) rfl) rfl rfl ?_
        refine z_iload_n (pc := 12) 2 (zdg D_X12_count 9 (12, .iload_n 3, 1) rfl) rfl rfl ?_
        refine z_lshr (pc := 13) (zdg D_X12_count 10 (13, .lshr, 1) rfl) ?_
        refine z_lconst (pc := 14) (v := 1) (zdg D_X12_count 11 (14, .lconst 1, 1) rfl) rfl ?_
        refine z_land (pc := 15) (zdg D_X12_count 12 (15, .land, 1) rfl) ?_
        refine z_l2i (pc := 16) (zdg D_X12_count 13 (16, .l2i, 1) rfl) ?_
        refine z_iadd (pc := 17) (zdg D_X12_count 14 (17, .iadd, 1) rfl) ?_
        refine z_istore_n (pc := 18) (al' := [(2, zI (v2_1 + ((zlshr p1 v3_2) &&& (1 : Int64)).toInt32)), (0, zL p1), (3, zI v3_2)]) (zdg D_X12_count 15 (18, .istore_n 2, 1) rfl) rfl (by decide) rfl ?_
        refine z_iinc (pc := 19) (v0 := (v3_2 + 1)) (al' := [(3, zI (v3_2 + 1)), (2, zI (v2_1 + ((zlshr p1 v3_2) &&& (1 : Int64)).toInt32)), (0, zL p1)]) 2 (zdg D_X12_count 16 (19, .iinc 3 1, 3) rfl) rfl rfl (by decide) rfl ?_
        refine z_goto (pc := 22) 4 (zdg D_X12_count 17 (22, .goto (-18), 3) rfl) rfl ?_
        refine z_sub (al' := [(0, zL p1), (2, zI (v2_1 + ((zlshr p1 v3_2) &&& (1 : Int64)).toInt32)), (3, zI (v3_2 + 1))]) [2, 1, 0] rfl ?_
        exact hi ((v2_1 + ((zlshr p1 v3_2) &&& (1 : Int64)).toInt32), (v3_2 + 1)) hf

def L_X12_joined : List (Nat × Instr × Nat) := [(0, .lconst 0, 1), (1, .lstore_n 2, 1), (2, .iconst 0, 1), (3, .istore 4, 2), (5, .iload 4, 2), (7, .aload_n 0, 1), (8, .getfield 7, 3), (11, .iconst 4, 1), (12, .iaload, 1), (13, .if_icmp .ge 29, 3), (16, .iload_n 1, 1), (17, .iload 4, 2), (19, .ishr, 1), (20, .iconst 1, 1), (21, .iand, 1), (22, .iconst 1, 1), (23, .if_icmp .ne 13, 3), (26, .lload_n 2, 1), (27, .aload_n 0, 1), (28, .getfield 44, 3), (31, .iload 4, 2), (33, .laload, 1), (34, .lor, 1), (35, .lstore_n 2, 1), (36, .iinc 4 1, 3), (39, .goto (-34), 3), (42, .lload_n 2, 1), (43, .lreturn, 1)]
set_option maxRecDepth 100000 in
theorem D_X12_joined : zdecs cX12_joined L_X12_joined = true := by decide +kernel
noncomputable def b_X12_joined_5 (σ : zG) (p1 : Int32) (v2_1 : Int64) (v4_2 : Int32) : Option ((Int64 × Int32) ⊕ (Int64)) :=
  if v4_2 < (σ.1 1 0 4) then if ((zshr p1 v4_2) &&& (1 : Int32)) = (1 : Int32) then zg (zin v4_2 10) (some (Sum.inl ((v2_1 ||| (σ.2 11 0 v4_2.toNatClampNeg)), (v4_2 + 1)))) else some (Sum.inl (v2_1, (v4_2 + 1))) else some (Sum.inr v2_1)
noncomputable def f_X12_joined (p1 : Int32) (σ : zG) : Option (Int64) :=
  (zlp (fun q : Int64 × Int32 => b_X12_joined_5 σ p1 q.1 q.2) ((0 : Int64), (0 : Int32))).bind (fun e3 : Int64 => some e3)
set_option maxRecDepth 100000 in
set_option maxHeartbeats 4000000 in
theorem c_X12_joined (l : Launch) (p1 : Int32) (σ : zG) (q : Int64) (hq : f_X12_joined p1 σ = some q) : zMet l zsyM m_X12_joined yX12_joined [zR 0 0, zI p1] σ (some (zL q)) σ := by
  refine zEnter [(0, zR 0 0), (1, zI p1)] (by decide) rfl (fun _ => Nat.le_of_ble_eq_true rfl) (fun _ => rfl) (fun w h => ?_) (fun K hv hs => ?_)
  · exact zokm rfl h
  · have hP : ∀ x, f_X12_joined p1 σ = some x → zKv K = some (zL x) ∧ zKs K = σ := fun x h => by rw [hq] at h; cases h; exact ⟨hv, hs⟩
    have hn : f_X12_joined p1 σ ≠ none := fun z => by rw [hq] at z; cases z
    have hf := f_X12_joined.eq_1 p1 σ
    refine z_lconst (pc := 0) (v := 0) (zdg D_X12_joined 0 (0, .lconst 0, 1) rfl) rfl ?_
    refine z_lstore_n (pc := 1) (al' := [(2, zL (0 : Int64)), (0, zR 0 0), (1, zI p1)]) (zdg D_X12_joined 1 (1, .lstore_n 2, 1) rfl) rfl (by decide) rfl ?_
    refine z_iconst (pc := 2) (v := 0) (zdg D_X12_joined 2 (2, .iconst 0, 1) rfl) rfl ?_
    refine z_istore (pc := 3) (al' := [(4, zI (0 : Int32)), (2, zL (0 : Int64)), (0, zR 0 0), (1, zI p1)]) (zdg D_X12_joined 3 (3, .istore 4, 2) rfl) (by decide) rfl ?_
    refine z_sub (al' := [(0, zR 0 0), (1, zI p1), (2, zL (0 : Int64)), (4, zI (0 : Int32))]) [2, 3, 1, 0] rfl ?_
    refine z_loop (f := (fun q : Int64 × Int32 => b_X12_joined_5 σ p1 q.1 q.2)) (a := ((0 : Int64), (0 : Int32))) (fun q : Int64 × Int32 => zX zsyM m_X12_joined K 5 [(0, zR 0 0), (1, zI p1), (2, zL q.1), (4, zI q.2)] [] σ) (fun e3 : Int64 => zX zsyM m_X12_joined K 42 [(2, zL e3)] [] σ) hn hf ?_ ?_
    · intro e3 hf
      refine z_lload_n (pc := 42) 0 (zdg D_X12_joined 26 (42, .lload_n 2, 1) rfl) rfl rfl ?_
      exact z_lret (pc := 43) rfl (zdg D_X12_joined 27 (43, .lreturn, 1) rfl) (hP _ hf)
    · rintro ⟨v2_1, v4_2⟩ hn hi hx
      have hf := b_X12_joined_5.eq_1 σ p1 v2_1 v4_2
      refine z_iload (pc := 5) 3 (zdg D_X12_joined 4 (5, .iload 4, 2) rfl) rfl ?_
      refine z_aload_n (pc := 7) 0 (zdg D_X12_joined 5 (7, .aload_n 0, 1) rfl) rfl rfl ?_
      refine z_getR (pc := 8) (g := 1) (j := 0) lf_X12_7 rfl rfl rfl (zdg D_X12_joined 6 (8, .getfield 7, 3) rfl) ?_
      refine z_iconst (pc := 11) (v := 4) (zdg D_X12_joined 7 (11, .iconst 4, 1) rfl) rfl ?_
      refine z_ialdC (pc := 12) (j := 4) rfl (fun _ => rfl) (zdg D_X12_joined 8 (12, .iaload, 1) rfl) rfl rfl ?_
      refine z_icmp_ge (pc := 13) 42 (zdg D_X12_joined 9 (13, .if_icmp .ge 29, 3) rfl) rfl hf (fun hf => ?_) (fun hf => ?_)
      · refine z_sub (al' := [(2, zL v2_1)]) [2] rfl ?_
        exact hx v2_1 hf
      · refine z_iload_n (pc := 16) 1 (zdg D_X12_joined 10 (16, .iload_n 1, 1) rfl) rfl rfl ?_
        refine z_iload (pc := 17) 3 (zdg D_X12_joined 11 (17, .iload 4, 2) rfl) rfl ?_
        refine z_ishr (pc := 19) (zdg D_X12_joined 12 (19, .ishr, 1) rfl) ?_
        refine z_iconst (pc := 20) (v := 1) (zdg D_X12_joined 13 (20, .iconst 1, 1) rfl) rfl ?_
        refine z_iand (pc := 21) (zdg D_X12_joined 14 (21, .iand, 1) rfl) ?_
        refine z_iconst (pc := 22) (v := 1) (zdg D_X12_joined 15 (22, .iconst 1, 1) rfl) rfl ?_
        refine z_icmp_ne (pc := 23) 36 (zdg D_X12_joined 16 (23, .if_icmp .ne 13, 3) rfl) rfl hf (fun hf => ?_) (fun hf => ?_)
        · refine z_iinc (pc := 36) (v0 := (v4_2 + 1)) (al' := [(4, zI (v4_2 + 1)), (0, zR 0 0), (1, zI p1), (2, zL v2_1)]) 3 (zdg D_X12_joined 24 (36, .iinc 4 1, 3) rfl) rfl rfl (by decide) rfl ?_
          refine z_goto (pc := 39) 5 (zdg D_X12_joined 25 (39, .goto (-34), 3) rfl) rfl ?_
          refine z_sub (al' := [(0, zR 0 0), (1, zI p1), (2, zL v2_1), (4, zI (v4_2 + 1))]) [1, 2, 3, 0] rfl ?_
          exact hi (v2_1, (v4_2 + 1)) hf
        · refine z_lload_n (pc := 26) 2 (zdg D_X12_joined 17 (26, .lload_n 2, 1) rfl) rfl rfl ?_
          refine z_aload_n (pc := 27) 0 (zdg D_X12_joined 18 (27, .aload_n 0, 1) rfl) rfl rfl ?_
          refine z_getR (pc := 28) (g := 11) (j := 0) lf_X12_44 rfl rfl rfl (zdg D_X12_joined 19 (28, .getfield 44, 3) rfl) ?_
          refine z_iload (pc := 31) 3 (zdg D_X12_joined 20 (31, .iload 4, 2) rfl) rfl ?_
          refine z_lald (pc := 33) rfl (fun _ => rfl) (zdg D_X12_joined 21 (33, .laload, 1) rfl) hn hf (fun hf => ?_)
          refine z_lor (pc := 34) (zdg D_X12_joined 22 (34, .lor, 1) rfl) ?_
          refine z_lstore_n (pc := 35) (al' := [(2, zL (v2_1 ||| (σ.2 11 0 v4_2.toNatClampNeg))), (0, zR 0 0), (1, zI p1), (4, zI v4_2)]) (zdg D_X12_joined 23 (35, .lstore_n 2, 1) rfl) rfl (by decide) rfl ?_
          refine z_iinc (pc := 36) (v0 := (v4_2 + 1)) (al' := [(4, zI (v4_2 + 1)), (2, zL (v2_1 ||| (σ.2 11 0 v4_2.toNatClampNeg))), (0, zR 0 0), (1, zI p1)]) 3 (zdg D_X12_joined 24 (36, .iinc 4 1, 3) rfl) rfl rfl (by decide) rfl ?_
          refine z_goto (pc := 39) 5 (zdg D_X12_joined 25 (39, .goto (-34), 3) rfl) rfl ?_
          refine z_sub (al' := [(0, zR 0 0), (1, zI p1), (2, zL (v2_1 ||| (σ.2 11 0 v4_2.toNatClampNeg))), (4, zI (v4_2 + 1))]) [2, 3, 1, 0] rfl ?_
          exact hi ((v2_1 ||| (σ.2 11 0 v4_2.toNatClampNeg)), (v4_2 + 1)) hf

def L_X12_fewestSet : List (Nat × Instr × Nat) := [(0, .iconst 1, 1), (1, .aload_n 0, 1), (2, .getfield 7, 3), (5, .iconst 4, 1), (6, .iaload, 1), (7, .ishl, 1), (8, .iconst 1, 1), (9, .isub, 1), (10, .istore_n 1, 1), (11, .iload_n 1, 1), (12, .istore_n 2, 1), (13, .iconst 0, 1), (14, .istore_n 3, 1), (15, .iload_n 3, 1), (16, .iload_n 1, 1), (17, .if_icmp .ge 38, 3), (20, .aload_n 0, 1), (21, .iload_n 3, 1), (22, .invokevirtual 386, 3), (25, .aload_n 0, 1), (26, .iload_n 1, 1), (27, .invokevirtual 386, 3), (30, .lcmp, 1), (31, .ifCond .ne 18, 3), (34, .iload_n 3, 1), (35, .i2l, 1), (36, .invokestatic 389, 3), (39, .iload_n 2, 1), (40, .i2l, 1), (41, .invokestatic 389, 3), (44, .if_icmp .ge 5, 3), (47, .iload_n 3, 1), (48, .istore_n 2, 1), (49, .iinc 3 1, 3), (52, .goto (-37), 3), (55, .iload_n 2, 1), (56, .ireturn, 1)]
set_option maxRecDepth 100000 in
theorem D_X12_fewestSet : zdecs cX12_fewestSet L_X12_fewestSet = true := by decide +kernel
noncomputable def b_X12_fewestSet_15 (σ : zG) (v2_1 : Int32) (v3_2 : Int32) : Option ((Int32 × Int32) ⊕ (Int32)) :=
  if v3_2 < ((zshl (1 : Int32) (σ.1 1 0 4)) - (1 : Int32)) then (f_X12_joined v3_2 σ).bind (fun q3 => (f_X12_joined ((zshl (1 : Int32) (σ.1 1 0 4)) - (1 : Int32)) σ).bind (fun q4 => if (lg_cmp q3 q4) = 0 then (f_X12_count v3_2.toInt64).bind (fun q5 => (f_X12_count v2_1.toInt64).bind (fun q6 => if q5 < q6 then some (Sum.inl (v3_2, (v3_2 + 1))) else some (Sum.inl (v2_1, (v3_2 + 1))))) else some (Sum.inl (v2_1, (v3_2 + 1))))) else some (Sum.inr v2_1)
noncomputable def f_X12_fewestSet (σ : zG) : Option (Int32) :=
  (zlp (fun q : Int32 × Int32 => b_X12_fewestSet_15 σ q.1 q.2) (((zshl (1 : Int32) (σ.1 1 0 4)) - (1 : Int32)), (0 : Int32))).bind (fun e7 : Int32 => some e7)
set_option maxRecDepth 100000 in
set_option maxHeartbeats 4000000 in
theorem c_X12_fewestSet (l : Launch)  (σ : zG) (q : Int32) (hq : f_X12_fewestSet σ = some q) : zMet l zsyM m_X12_fewestSet yX12_fewestSet [zR 0 0] σ (some (zI q)) σ := by
  refine zEnter [(0, zR 0 0)] (by decide) rfl (fun _ => Nat.le_of_ble_eq_true rfl) (fun _ => rfl) (fun w h => ?_) (fun K hv hs => ?_)
  · exact zokm rfl h
  · have hP : ∀ x, f_X12_fewestSet σ = some x → zKv K = some (zI x) ∧ zKs K = σ := fun x h => by rw [hq] at h; cases h; exact ⟨hv, hs⟩
    have hn : f_X12_fewestSet σ ≠ none := fun z => by rw [hq] at z; cases z
    have hf := f_X12_fewestSet.eq_1 σ
    refine z_iconst (pc := 0) (v := 1) (zdg D_X12_fewestSet 0 (0, .iconst 1, 1) rfl) rfl ?_
    refine z_aload_n (pc := 1) 0 (zdg D_X12_fewestSet 1 (1, .aload_n 0, 1) rfl) rfl rfl ?_
    refine z_getR (pc := 2) (g := 1) (j := 0) lf_X12_7 rfl rfl rfl (zdg D_X12_fewestSet 2 (2, .getfield 7, 3) rfl) ?_
    refine z_iconst (pc := 5) (v := 4) (zdg D_X12_fewestSet 3 (5, .iconst 4, 1) rfl) rfl ?_
    refine z_ialdC (pc := 6) (j := 4) rfl (fun _ => rfl) (zdg D_X12_fewestSet 4 (6, .iaload, 1) rfl) rfl rfl ?_
    refine z_ishl (pc := 7) (zdg D_X12_fewestSet 5 (7, .ishl, 1) rfl) ?_
    refine z_iconst (pc := 8) (v := 1) (zdg D_X12_fewestSet 6 (8, .iconst 1, 1) rfl) rfl ?_
    refine z_isub (pc := 9) (zdg D_X12_fewestSet 7 (9, .isub, 1) rfl) ?_
    refine z_istore_n (pc := 10) (al' := [(1, zI ((zshl (1 : Int32) (σ.1 1 0 4)) - (1 : Int32))), (0, zR 0 0)]) (zdg D_X12_fewestSet 8 (10, .istore_n 1, 1) rfl) rfl (by decide) rfl ?_
    refine z_iload_n (pc := 11) 0 (zdg D_X12_fewestSet 9 (11, .iload_n 1, 1) rfl) rfl rfl ?_
    refine z_istore_n (pc := 12) (al' := [(2, zI ((zshl (1 : Int32) (σ.1 1 0 4)) - (1 : Int32))), (1, zI ((zshl (1 : Int32) (σ.1 1 0 4)) - (1 : Int32))), (0, zR 0 0)]) (zdg D_X12_fewestSet 10 (12, .istore_n 2, 1) rfl) rfl (by decide) rfl ?_
    refine z_iconst (pc := 13) (v := 0) (zdg D_X12_fewestSet 11 (13, .iconst 0, 1) rfl) rfl ?_
    refine z_istore_n (pc := 14) (al' := [(3, zI (0 : Int32)), (2, zI ((zshl (1 : Int32) (σ.1 1 0 4)) - (1 : Int32))), (1, zI ((zshl (1 : Int32) (σ.1 1 0 4)) - (1 : Int32))), (0, zR 0 0)]) (zdg D_X12_fewestSet 12 (14, .istore_n 3, 1) rfl) rfl (by decide) rfl ?_
    refine z_sub (al' := [(0, zR 0 0), (1, zI ((zshl (1 : Int32) (σ.1 1 0 4)) - (1 : Int32))), (2, zI ((zshl (1 : Int32) (σ.1 1 0 4)) - (1 : Int32))), (3, zI (0 : Int32))]) [3, 2, 1, 0] rfl ?_
    refine z_loop (f := (fun q : Int32 × Int32 => b_X12_fewestSet_15 σ q.1 q.2)) (a := (((zshl (1 : Int32) (σ.1 1 0 4)) - (1 : Int32)), (0 : Int32))) (fun q : Int32 × Int32 => zX zsyM m_X12_fewestSet K 15 [(0, zR 0 0), (1, zI ((zshl (1 : Int32) (σ.1 1 0 4)) - (1 : Int32))), (2, zI q.1), (3, zI q.2)] [] σ) (fun e7 : Int32 => zX zsyM m_X12_fewestSet K 55 [(2, zI e7)] [] σ) hn hf ?_ ?_
    · intro e7 hf
      refine z_iload_n (pc := 55) 0 (zdg D_X12_fewestSet 35 (55, .iload_n 2, 1) rfl) rfl rfl ?_
      exact z_iret (pc := 56) rfl rfl (zdg D_X12_fewestSet 36 (56, .ireturn, 1) rfl) (hP _ hf)
    · rintro ⟨v2_1, v3_2⟩ hn hi hx
      have hf := b_X12_fewestSet_15.eq_1 σ v2_1 v3_2
      refine z_iload_n (pc := 15) 3 (zdg D_X12_fewestSet 13 (15, .iload_n 3, 1) rfl) rfl rfl ?_
      refine z_iload_n (pc := 16) 1 (zdg D_X12_fewestSet 14 (16, .iload_n 1, 1) rfl) rfl rfl ?_
      refine z_icmp_ge (pc := 17) 55 (zdg D_X12_fewestSet 15 (17, .if_icmp .ge 38, 3) rfl) rfl hf (fun hf => ?_) (fun hf => ?_)
      · refine z_sub (al' := [(2, zI v2_1)]) [2] rfl ?_
        exact hx v2_1 hf
      · refine z_aload_n (pc := 20) 0 (zdg D_X12_fewestSet 16 (20, .aload_n 0, 1) rfl) rfl rfl ?_
        refine z_iload_n (pc := 21) 3 (zdg D_X12_fewestSet 17 (21, .iload_n 3, 1) rfl) rfl rfl ?_
        refine z_bind hn hf (fun q3 hq hf => ?_)
        refine z_callV (pc := 22) (rest := []) (st2 := [zL q3]) (fun l => c_X12_joined l v3_2 σ q3 hq) zv_X12_joined lm_X12_386 rfl rfl rfl rfl rfl rfl (Nat.le_of_ble_eq_true rfl) ⟨Nat.le_of_ble_eq_true rfl, Nat.le_of_ble_eq_true rfl⟩ (zdg D_X12_fewestSet 18 (22, .invokevirtual 386, 3) rfl) ?_
        refine z_aload_n (pc := 25) 0 (zdg D_X12_fewestSet 19 (25, .aload_n 0, 1) rfl) rfl rfl ?_
        refine z_iload_n (pc := 26) 1 (zdg D_X12_fewestSet 20 (26, .iload_n 1, 1) rfl) rfl rfl ?_
        refine z_bind hn hf (fun q4 hq hf => ?_)
        refine z_callV (pc := 27) (rest := [zL q3]) (st2 := [zL q4, zL q3]) (fun l => c_X12_joined l ((zshl (1 : Int32) (σ.1 1 0 4)) - (1 : Int32)) σ q4 hq) zv_X12_joined lm_X12_386 rfl rfl rfl rfl rfl rfl (Nat.le_of_ble_eq_true rfl) ⟨Nat.le_of_ble_eq_true rfl, Nat.le_of_ble_eq_true rfl⟩ (zdg D_X12_fewestSet 21 (27, .invokevirtual 386, 3) rfl) ?_
        refine z_lcmp (pc := 30) (zdg D_X12_fewestSet 22 (30, .lcmp, 1) rfl) ?_
        refine z_if_ne (pc := 31) 49 (zdg D_X12_fewestSet 23 (31, .ifCond .ne 18, 3) rfl) rfl hf (fun hf => ?_) (fun hf => ?_)
        · refine z_iinc (pc := 49) (v0 := (v3_2 + 1)) (al' := [(3, zI (v3_2 + 1)), (0, zR 0 0), (1, zI ((zshl (1 : Int32) (σ.1 1 0 4)) - (1 : Int32))), (2, zI v2_1)]) 3 (zdg D_X12_fewestSet 33 (49, .iinc 3 1, 3) rfl) rfl rfl (by decide) rfl ?_
          refine z_goto (pc := 52) 15 (zdg D_X12_fewestSet 34 (52, .goto (-37), 3) rfl) rfl ?_
          refine z_sub (al' := [(0, zR 0 0), (1, zI ((zshl (1 : Int32) (σ.1 1 0 4)) - (1 : Int32))), (2, zI v2_1), (3, zI (v3_2 + 1))]) [1, 2, 3, 0] rfl ?_
          exact hi (v2_1, (v3_2 + 1)) hf
        · refine z_iload_n (pc := 34) 3 (zdg D_X12_fewestSet 24 (34, .iload_n 3, 1) rfl) rfl rfl ?_
          refine z_i2l (pc := 35) (zdg D_X12_fewestSet 25 (35, .i2l, 1) rfl) ?_
          refine z_bind hn hf (fun q5 hq hf => ?_)
          refine z_callS (pc := 36) (rest := []) (st2 := [zI q5]) (fun l => c_X12_count l v3_2.toInt64 σ q5 hq) zs_X12_count lm_X12_389 rfl rfl rfl (Nat.le_of_ble_eq_true rfl) ⟨Nat.le_of_ble_eq_true rfl, Nat.le_of_ble_eq_true rfl⟩ (zdg D_X12_fewestSet 26 (36, .invokestatic 389, 3) rfl) ?_
          refine z_iload_n (pc := 39) 2 (zdg D_X12_fewestSet 27 (39, .iload_n 2, 1) rfl) rfl rfl ?_
          refine z_i2l (pc := 40) (zdg D_X12_fewestSet 28 (40, .i2l, 1) rfl) ?_
          refine z_bind hn hf (fun q6 hq hf => ?_)
          refine z_callS (pc := 41) (rest := [zI q5]) (st2 := [zI q6, zI q5]) (fun l => c_X12_count l v2_1.toInt64 σ q6 hq) zs_X12_count lm_X12_389 rfl rfl rfl (Nat.le_of_ble_eq_true rfl) ⟨Nat.le_of_ble_eq_true rfl, Nat.le_of_ble_eq_true rfl⟩ (zdg D_X12_fewestSet 29 (41, .invokestatic 389, 3) rfl) ?_
          refine z_icmp_ge (pc := 44) 49 (zdg D_X12_fewestSet 30 (44, .if_icmp .ge 5, 3) rfl) rfl hf (fun hf => ?_) (fun hf => ?_)
          · refine z_iinc (pc := 49) (v0 := (v3_2 + 1)) (al' := [(3, zI (v3_2 + 1)), (0, zR 0 0), (1, zI ((zshl (1 : Int32) (σ.1 1 0 4)) - (1 : Int32))), (2, zI v2_1)]) 3 (zdg D_X12_fewestSet 33 (49, .iinc 3 1, 3) rfl) rfl rfl (by decide) rfl ?_
            refine z_goto (pc := 52) 15 (zdg D_X12_fewestSet 34 (52, .goto (-37), 3) rfl) rfl ?_
            refine z_sub (al' := [(0, zR 0 0), (1, zI ((zshl (1 : Int32) (σ.1 1 0 4)) - (1 : Int32))), (2, zI v2_1), (3, zI (v3_2 + 1))]) [1, 2, 3, 0] rfl ?_
            exact hi (v2_1, (v3_2 + 1)) hf
          · refine z_iload_n (pc := 47) 3 (zdg D_X12_fewestSet 31 (47, .iload_n 3, 1) rfl) rfl rfl ?_
            refine z_istore_n (pc := 48) (al' := [(2, zI v3_2), (0, zR 0 0), (1, zI ((zshl (1 : Int32) (σ.1 1 0 4)) - (1 : Int32))), (3, zI v3_2)]) (zdg D_X12_fewestSet 32 (48, .istore_n 2, 1) rfl) rfl (by decide) rfl ?_
            refine z_iinc (pc := 49) (v0 := (v3_2 + 1)) (al' := [(3, zI (v3_2 + 1)), (2, zI v3_2), (0, zR 0 0), (1, zI ((zshl (1 : Int32) (σ.1 1 0 4)) - (1 : Int32)))]) 3 (zdg D_X12_fewestSet 33 (49, .iinc 3 1, 3) rfl) rfl rfl (by decide) rfl ?_
            refine z_goto (pc := 52) 15 (zdg D_X12_fewestSet 34 (52, .goto (-37), 3) rfl) rfl ?_
            refine z_sub (al' := [(0, zR 0 0), (1, zI ((zshl (1 : Int32) (σ.1 1 0 4)) - (1 : Int32))), (2, zI v3_2), (3, zI (v3_2 + 1))]) [2, 3, 1, 0] rfl ?_
            exact hi (v3_2, (v3_2 + 1)) hf
