/-! METHODS, by program: functions and contracts -/
def L_X12_aWalker : List (Nat × Instr × Nat) := [(0, .aload_n 0, 1), (1, .getfield 159, 3), (4, .bipush 8, 2), (6, .if_icmp .eq 9, 3), (9, .aload_n 0, 1), (10, .iconst 1, 1), (11, .invokevirtual 181, 3), (14, .ireturn, 1), (15, .aload_n 0, 1), (16, .getfield 233, 3), (19, .bipush 12, 2), (21, .if_icmp .ne 9, 3), (24, .aload_n 0, 1), (25, .iconst 3, 1), (26, .invokevirtual 181, 3), (29, .ireturn, 1), (30, .aload_n 0, 1), (31, .iconst 0, 1), (32, .bipush 8, 2), (34, .bipush 99, 2), (36, .invokevirtual 256, 3), (39, .ifCond .eq 23, 3), (42, .aload_n 0, 1), (43, .iconst 1, 1), (44, .bipush 9, 2), (46, .sipush 500, 3), (49, .invokevirtual 256, 3), (52, .ifCond .eq 10, 3), (55, .aload_n 0, 1), (56, .invokevirtual 259, 3), (59, .ifCond .ne 5, 3), (62, .iconst 0, 1), (63, .ireturn, 1), (64, .iconst 0, 1), (65, .istore_n 1, 1), (66, .iload_n 1, 1), (67, .sipush 501, 3), (70, .if_icmp .ge 25, 3), (73, .aload_n 0, 1), (74, .getfield 28, 3), (77, .sipush 501, 3), (80, .aload_n 0, 1), (81, .getfield 233, 3), (84, .imul, 1), (85, .iload_n 1, 1), (86, .iadd, 1), (87, .iconst (-1), 1), (88, .iastore, 1), (89, .iinc 1 1, 3), (92, .goto (-26), 3), (95, .aload_n 0, 1), (96, .aload_n 0, 1), (97, .getfield 25, 3), (100, .iconst 4, 1), (101, .aload_n 0, 1), (102, .getfield 233, 3), (105, .imul, 1), (106, .iconst 1, 1), (107, .iadd, 1), (108, .iaload, 1), (109, .putfield 239, 3), (112, .aload_n 0, 1), (113, .aload_n 0, 1), (114, .getfield 25, 3), (117, .iconst 4, 1), (118, .aload_n 0, 1), (119, .getfield 233, 3), (122, .imul, 1), (123, .iconst 2, 1), (124, .iadd, 1), (125, .iaload, 1), (126, .invokevirtual 249, 3), (129, .aload_n 0, 1), (130, .invokevirtual 262, 3), (133, .ifCond .ne 5, 3), (136, .iconst 0, 1), (137, .ireturn, 1), (138, .aload_n 0, 1), (139, .dup, 1), (140, .getfield 233, 3), (143, .iconst 1, 1), (144, .iadd, 1), (145, .putfield 233, 3), (148, .iconst 1, 1), (149, .ireturn, 1)]
set_option maxRecDepth 100000 in
theorem D_X12_aWalker : zdecs cX12_aWalker L_X12_aWalker = true := by decide +kernel
noncomputable def b_X12_aWalker_66  (v1_4 : Int32) (s5 : zG) : Option ((Int32 × zG) ⊕ (zG)) :=
  if v1_4 < (501 : Int32) then zg (zin (((501 : Int32) * (s5.1 0 0 15)) + v1_4) 6012) (zb (zwI s5 7 0 (((501 : Int32) * (s5.1 0 0 15)) + v1_4).toNatClampNeg (-1 : Int32)) (fun s6 => some (Sum.inl ((v1_4 + 1), s6)))) else some (Sum.inr s5)
noncomputable def f_X12_aWalker (σ : zG) : Option (Int32 × zG) :=
  if (σ.1 0 0 18) = (8 : Int32) then if (σ.1 0 0 15) = (12 : Int32) then zb (f_X12_bad (3 : Int32) σ) (fun q12 => zg (zbl q12.1) (some (q12.1, q12.2))) else (f_X12_told (0 : Int32) (8 : Int32) (99 : Int32) σ).bind (fun q1 => if q1.1 = 0 then some ((0 : Int32), q1.2) else (f_X12_told (1 : Int32) (9 : Int32) (500 : Int32) q1.2).bind (fun q2 => if q2.1 = 0 then some ((0 : Int32), q2.2) else (f_X12_spotTold q2.2).bind (fun q3 => if q3.1 = 0 then some ((0 : Int32), q3.2) else (zlp (fun q : Int32 × zG => b_X12_aWalker_66 q.1 q.2) ((0 : Int32), q3.2)).bind (fun e7 : zG => zg (zin (((4 : Int32) * (e7.1 0 0 15)) + (1 : Int32)) 48) (zb (zwI e7 0 0 28 (e7.1 6 0 (((4 : Int32) * (e7.1 0 0 15)) + (1 : Int32)).toNatClampNeg)) (fun s8 => zg (zin (((4 : Int32) * (s8.1 0 0 15)) + (2 : Int32)) 48) ((f_X12_isThere (s8.1 6 0 (((4 : Int32) * (s8.1 0 0 15)) + (2 : Int32)).toNatClampNeg) s8).bind (fun q9 => (f_X12_someParts q9).bind (fun q10 => if q10.1 = 0 then some ((0 : Int32), q10.2) else zb (zwI q10.2 0 0 15 ((q10.2.1 0 0 15) + (1 : Int32))) (fun s11 => some ((1 : Int32), s11))))))))))) else zb (f_X12_bad (1 : Int32) σ) (fun q13 => zg (zbl q13.1) (some (q13.1, q13.2)))
set_option maxRecDepth 100000 in
set_option maxHeartbeats 4000000 in
theorem c_X12_aWalker (l : Launch)  (σ : zG) (q : Int32 × zG) (hq : f_X12_aWalker σ = some q) : zMet l zsyM m_X12_aWalker yX12_aWalker [zR 0 0] σ (some (zI q.1)) q.2 := by
  refine zEnter [(0, zR 0 0)] (by decide) rfl (fun _ => Nat.le_of_ble_eq_true rfl) (fun _ => rfl) (fun w h => ?_) (fun K hv hs => ?_)
  · exact zokm rfl h
  · have hP : ∀ x s, f_X12_aWalker σ = some (x, s) → zKv K = some (zI x) ∧ zKs K = s := fun x s h => by rw [hq] at h; cases h; exact ⟨hv, hs⟩
    have hn : f_X12_aWalker σ ≠ none := fun z => by rw [hq] at z; cases z
    have hf := f_X12_aWalker.eq_1 σ
    refine z_aload_n (pc := 0) 0 (zdg D_X12_aWalker 0 (0, .aload_n 0, 1) rfl) rfl rfl ?_
    refine z_getI (pc := 1) lf_X12_159 rfl rfl (zdg D_X12_aWalker 1 (1, .getfield 159, 3) rfl) ?_
    refine z_bipush (pc := 4) (v := 8) (zdg D_X12_aWalker 2 (4, .bipush 8, 2) rfl) rfl ?_
    refine z_icmp_eq (pc := 6) 15 (zdg D_X12_aWalker 3 (6, .if_icmp .eq 9, 3) rfl) rfl hf (fun hf => ?_) (fun hf => ?_)
    · refine z_aload_n (pc := 15) 0 (zdg D_X12_aWalker 8 (15, .aload_n 0, 1) rfl) rfl rfl ?_
      refine z_getI (pc := 16) lf_X12_233 rfl rfl (zdg D_X12_aWalker 9 (16, .getfield 233, 3) rfl) ?_
      refine z_bipush (pc := 19) (v := 12) (zdg D_X12_aWalker 10 (19, .bipush 12, 2) rfl) rfl ?_
      refine z_icmp_ne (pc := 21) 30 (zdg D_X12_aWalker 11 (21, .if_icmp .ne 9, 3) rfl) rfl hf (fun hf => ?_) (fun hf => ?_)
      · refine z_aload_n (pc := 30) 0 (zdg D_X12_aWalker 16 (30, .aload_n 0, 1) rfl) rfl rfl ?_
        refine z_iconst (pc := 31) (v := 0) (zdg D_X12_aWalker 17 (31, .iconst 0, 1) rfl) rfl ?_
        refine z_bipush (pc := 32) (v := 8) (zdg D_X12_aWalker 18 (32, .bipush 8, 2) rfl) rfl ?_
        refine z_bipush (pc := 34) (v := 99) (zdg D_X12_aWalker 19 (34, .bipush 99, 2) rfl) rfl ?_
        refine z_bind hn hf (fun q1 hq hf => ?_)
        refine z_callV (pc := 36) (rest := []) (st2 := [zI q1.1]) (fun l => c_X12_told l (0 : Int32) (8 : Int32) (99 : Int32) σ q1 hq) zv_X12_told lm_X12_256 rfl rfl rfl rfl rfl rfl (Nat.le_of_ble_eq_true rfl) ⟨Nat.le_of_ble_eq_true rfl, Nat.le_of_ble_eq_true rfl⟩ (zdg D_X12_aWalker 20 (36, .invokevirtual 256, 3) rfl) ?_
        refine z_if_eq (pc := 39) 62 (zdg D_X12_aWalker 21 (39, .ifCond .eq 23, 3) rfl) rfl hf (fun hf => ?_) (fun hf => ?_)
        · refine z_iconst (pc := 62) (v := 0) (zdg D_X12_aWalker 31 (62, .iconst 0, 1) rfl) rfl ?_
          exact z_iret (pc := 63) rfl rfl (zdg D_X12_aWalker 32 (63, .ireturn, 1) rfl) (hP _ _ hf)
        · refine z_aload_n (pc := 42) 0 (zdg D_X12_aWalker 22 (42, .aload_n 0, 1) rfl) rfl rfl ?_
          refine z_iconst (pc := 43) (v := 1) (zdg D_X12_aWalker 23 (43, .iconst 1, 1) rfl) rfl ?_
          refine z_bipush (pc := 44) (v := 9) (zdg D_X12_aWalker 24 (44, .bipush 9, 2) rfl) rfl ?_
          refine z_sipush (pc := 46) (v := 500) (zdg D_X12_aWalker 25 (46, .sipush 500, 3) rfl) rfl ?_
          refine z_bind hn hf (fun q2 hq hf => ?_)
          refine z_callV (pc := 49) (rest := []) (st2 := [zI q2.1]) (fun l => c_X12_told l (1 : Int32) (9 : Int32) (500 : Int32) q1.2 q2 hq) zv_X12_told lm_X12_256 rfl rfl rfl rfl rfl rfl (Nat.le_of_ble_eq_true rfl) ⟨Nat.le_of_ble_eq_true rfl, Nat.le_of_ble_eq_true rfl⟩ (zdg D_X12_aWalker 26 (49, .invokevirtual 256, 3) rfl) ?_
          refine z_if_eq (pc := 52) 62 (zdg D_X12_aWalker 27 (52, .ifCond .eq 10, 3) rfl) rfl hf (fun hf => ?_) (fun hf => ?_)
          · refine z_iconst (pc := 62) (v := 0) (zdg D_X12_aWalker 31 (62, .iconst 0, 1) rfl) rfl ?_
            exact z_iret (pc := 63) rfl rfl (zdg D_X12_aWalker 32 (63, .ireturn, 1) rfl) (hP _ _ hf)
          · refine z_aload_n (pc := 55) 0 (zdg D_X12_aWalker 28 (55, .aload_n 0, 1) rfl) rfl rfl ?_
            refine z_bind hn hf (fun q3 hq hf => ?_)
            refine z_callV (pc := 56) (rest := []) (st2 := [zI q3.1]) (fun l => c_X12_spotTold l q2.2 q3 hq) zv_X12_spotTold lm_X12_259 rfl rfl rfl rfl rfl rfl (Nat.le_of_ble_eq_true rfl) ⟨Nat.le_of_ble_eq_true rfl, Nat.le_of_ble_eq_true rfl⟩ (zdg D_X12_aWalker 29 (56, .invokevirtual 259, 3) rfl) ?_
            refine z_if_ne (pc := 59) 64 (zdg D_X12_aWalker 30 (59, .ifCond .ne 5, 3) rfl) rfl hf (fun hf => ?_) (fun hf => ?_)
            · refine z_iconst (pc := 64) (v := 0) (zdg D_X12_aWalker 33 (64, .iconst 0, 1) rfl) rfl ?_
              refine z_istore_n (pc := 65) (al' := [(1, zI (0 : Int32)), (0, zR 0 0)]) (zdg D_X12_aWalker 34 (65, .istore_n 1, 1) rfl) rfl (by decide) rfl ?_
              refine z_sub (al' := [(0, zR 0 0), (1, zI (0 : Int32))]) [1, 0] rfl ?_
              refine z_loop (f := (fun q : Int32 × zG => b_X12_aWalker_66 q.1 q.2)) (a := ((0 : Int32), q3.2)) (fun q : Int32 × zG => zX zsyM m_X12_aWalker K 66 [(0, zR 0 0), (1, zI q.1)] [] q.2) (fun e7 : zG => zX zsyM m_X12_aWalker K 95 [(0, zR 0 0)] [] e7) hn hf ?_ ?_
              · intro e7 hf
                refine z_aload_n (pc := 95) 0 (zdg D_X12_aWalker 50 (95, .aload_n 0, 1) rfl) rfl rfl ?_
                refine z_aload_n (pc := 96) 0 (zdg D_X12_aWalker 51 (96, .aload_n 0, 1) rfl) rfl rfl ?_
                refine z_getR (pc := 97) (g := 6) (j := 0) lf_X12_25 rfl rfl rfl (zdg D_X12_aWalker 52 (97, .getfield 25, 3) rfl) ?_
                refine z_iconst (pc := 100) (v := 4) (zdg D_X12_aWalker 53 (100, .iconst 4, 1) rfl) rfl ?_
                refine z_aload_n (pc := 101) 0 (zdg D_X12_aWalker 54 (101, .aload_n 0, 1) rfl) rfl rfl ?_
                refine z_getI (pc := 102) lf_X12_233 rfl rfl (zdg D_X12_aWalker 55 (102, .getfield 233, 3) rfl) ?_
                refine z_imul (pc := 105) (zdg D_X12_aWalker 56 (105, .imul, 1) rfl) ?_
                refine z_iconst (pc := 106) (v := 1) (zdg D_X12_aWalker 57 (106, .iconst 1, 1) rfl) rfl ?_
                refine z_iadd (pc := 107) (zdg D_X12_aWalker 58 (107, .iadd, 1) rfl) ?_
                refine z_iald (pc := 108) rfl (fun _ => rfl) (zdg D_X12_aWalker 59 (108, .iaload, 1) rfl) hn hf (fun hf => ?_)
                refine z_putI (pc := 109) lw_X12_239 rfl rfl rfl rfl (zdg D_X12_aWalker 60 (109, .putfield 239, 3) rfl) ?_
                refine z_nmS hf (fun s8 hf => ?_)
                refine z_aload_n (pc := 112) 0 (zdg D_X12_aWalker 61 (112, .aload_n 0, 1) rfl) rfl rfl ?_
                refine z_aload_n (pc := 113) 0 (zdg D_X12_aWalker 62 (113, .aload_n 0, 1) rfl) rfl rfl ?_
                refine z_getR (pc := 114) (g := 6) (j := 0) lf_X12_25 rfl rfl rfl (zdg D_X12_aWalker 63 (114, .getfield 25, 3) rfl) ?_
                refine z_iconst (pc := 117) (v := 4) (zdg D_X12_aWalker 64 (117, .iconst 4, 1) rfl) rfl ?_
                refine z_aload_n (pc := 118) 0 (zdg D_X12_aWalker 65 (118, .aload_n 0, 1) rfl) rfl rfl ?_
                refine z_getI (pc := 119) lf_X12_233 rfl rfl (zdg D_X12_aWalker 66 (119, .getfield 233, 3) rfl) ?_
                refine z_imul (pc := 122) (zdg D_X12_aWalker 67 (122, .imul, 1) rfl) ?_
                refine z_iconst (pc := 123) (v := 2) (zdg D_X12_aWalker 68 (123, .iconst 2, 1) rfl) rfl ?_
                refine z_iadd (pc := 124) (zdg D_X12_aWalker 69 (124, .iadd, 1) rfl) ?_
                refine z_iald (pc := 125) rfl (fun _ => rfl) (zdg D_X12_aWalker 70 (125, .iaload, 1) rfl) hn hf (fun hf => ?_)
                refine z_bind hn hf (fun q9 hq hf => ?_)
                refine z_callV (pc := 126) (rest := []) (st2 := []) (fun l => c_X12_isThere l (s8.1 6 0 (((4 : Int32) * (s8.1 0 0 15)) + (2 : Int32)).toNatClampNeg) s8 q9 hq) zv_X12_isThere lm_X12_249 rfl rfl rfl rfl rfl rfl (Nat.le_of_ble_eq_true rfl) ⟨Nat.le_of_ble_eq_true rfl, Nat.le_of_ble_eq_true rfl⟩ (zdg D_X12_aWalker 71 (126, .invokevirtual 249, 3) rfl) ?_
                refine z_aload_n (pc := 129) 0 (zdg D_X12_aWalker 72 (129, .aload_n 0, 1) rfl) rfl rfl ?_
                refine z_bind hn hf (fun q10 hq hf => ?_)
                refine z_callV (pc := 130) (rest := []) (st2 := [zI q10.1]) (fun l => c_X12_someParts l q9 q10 hq) zv_X12_someParts lm_X12_262 rfl rfl rfl rfl rfl rfl (Nat.le_of_ble_eq_true rfl) ⟨Nat.le_of_ble_eq_true rfl, Nat.le_of_ble_eq_true rfl⟩ (zdg D_X12_aWalker 73 (130, .invokevirtual 262, 3) rfl) ?_
                refine z_if_ne (pc := 133) 138 (zdg D_X12_aWalker 74 (133, .ifCond .ne 5, 3) rfl) rfl hf (fun hf => ?_) (fun hf => ?_)
                · refine z_aload_n (pc := 138) 0 (zdg D_X12_aWalker 77 (138, .aload_n 0, 1) rfl) rfl rfl ?_
                  refine z_dup (pc := 139) rfl (zdg D_X12_aWalker 78 (139, .dup, 1) rfl) ?_
                  refine z_getI (pc := 140) lf_X12_233 rfl rfl (zdg D_X12_aWalker 79 (140, .getfield 233, 3) rfl) ?_
                  refine z_iconst (pc := 143) (v := 1) (zdg D_X12_aWalker 80 (143, .iconst 1, 1) rfl) rfl ?_
                  refine z_iadd (pc := 144) (zdg D_X12_aWalker 81 (144, .iadd, 1) rfl) ?_
                  refine z_putI (pc := 145) lw_X12_233 rfl rfl rfl rfl (zdg D_X12_aWalker 82 (145, .putfield 233, 3) rfl) ?_
                  refine z_nmS hf (fun s11 hf => ?_)
                  refine z_iconst (pc := 148) (v := 1) (zdg D_X12_aWalker 83 (148, .iconst 1, 1) rfl) rfl ?_
                  exact z_iret (pc := 149) rfl rfl (zdg D_X12_aWalker 84 (149, .ireturn, 1) rfl) (hP _ _ hf)
                · refine z_iconst (pc := 136) (v := 0) (zdg D_X12_aWalker 75 (136, .iconst 0, 1) rfl) rfl ?_
                  exact z_iret (pc := 137) rfl rfl (zdg D_X12_aWalker 76 (137, .ireturn, 1) rfl) (hP _ _ hf)
              · rintro ⟨v1_4, s5⟩ hn hi hx
                have hf := b_X12_aWalker_66.eq_1  v1_4 s5
                refine z_iload_n (pc := 66) 1 (zdg D_X12_aWalker 35 (66, .iload_n 1, 1) rfl) rfl rfl ?_
                refine z_sipush (pc := 67) (v := 501) (zdg D_X12_aWalker 36 (67, .sipush 501, 3) rfl) rfl ?_
                refine z_icmp_ge (pc := 70) 95 (zdg D_X12_aWalker 37 (70, .if_icmp .ge 25, 3) rfl) rfl hf (fun hf => ?_) (fun hf => ?_)
                · refine z_sub (al' := [(0, zR 0 0)]) [0] rfl ?_
                  exact hx s5 hf
                · refine z_aload_n (pc := 73) 0 (zdg D_X12_aWalker 38 (73, .aload_n 0, 1) rfl) rfl rfl ?_
                  refine z_getR (pc := 74) (g := 7) (j := 0) lf_X12_28 rfl rfl rfl (zdg D_X12_aWalker 39 (74, .getfield 28, 3) rfl) ?_
                  refine z_sipush (pc := 77) (v := 501) (zdg D_X12_aWalker 40 (77, .sipush 501, 3) rfl) rfl ?_
                  refine z_aload_n (pc := 80) 0 (zdg D_X12_aWalker 41 (80, .aload_n 0, 1) rfl) rfl rfl ?_
                  refine z_getI (pc := 81) lf_X12_233 rfl rfl (zdg D_X12_aWalker 42 (81, .getfield 233, 3) rfl) ?_
                  refine z_imul (pc := 84) (zdg D_X12_aWalker 43 (84, .imul, 1) rfl) ?_
                  refine z_iload_n (pc := 85) 1 (zdg D_X12_aWalker 44 (85, .iload_n 1, 1) rfl) rfl rfl ?_
                  refine z_iadd (pc := 86) (zdg D_X12_aWalker 45 (86, .iadd, 1) rfl) ?_
                  refine z_iconst (pc := 87) (v := -1) (zdg D_X12_aWalker 46 (87, .iconst (-1), 1) rfl) rfl ?_
                  refine z_iast (pc := 88) rfl (fun _ => rfl) (zdg D_X12_aWalker 47 (88, .iastore, 1) rfl) hn hf (fun hf => ?_)
                  refine z_nmS hf (fun s6 hf => ?_)
                  refine z_iinc (pc := 89) (v0 := (v1_4 + 1)) (al' := [(1, zI (v1_4 + 1)), (0, zR 0 0)]) 1 (zdg D_X12_aWalker 48 (89, .iinc 1 1, 3) rfl) rfl rfl (by decide) rfl ?_
                  refine z_goto (pc := 92) 66 (zdg D_X12_aWalker 49 (92, .goto (-26), 3) rfl) rfl ?_
                  refine z_sub (al' := [(0, zR 0 0), (1, zI (v1_4 + 1))]) [1, 0] rfl ?_
                  exact hi ((v1_4 + 1), s6) hf
            · refine z_iconst (pc := 62) (v := 0) (zdg D_X12_aWalker 31 (62, .iconst 0, 1) rfl) rfl ?_
              exact z_iret (pc := 63) rfl rfl (zdg D_X12_aWalker 32 (63, .ireturn, 1) rfl) (hP _ _ hf)
      · refine z_aload_n (pc := 24) 0 (zdg D_X12_aWalker 12 (24, .aload_n 0, 1) rfl) rfl rfl ?_
        refine z_iconst (pc := 25) (v := 3) (zdg D_X12_aWalker 13 (25, .iconst 3, 1) rfl) rfl ?_
        refine z_callV (pc := 26) (rest := []) (st2 := [zI ((f_X12_bad (3 : Int32) σ).1)]) (fun l => c_X12_bad l (3 : Int32) σ) zv_X12_bad lm_X12_181 rfl rfl rfl rfl rfl rfl (Nat.le_of_ble_eq_true rfl) ⟨Nat.le_of_ble_eq_true rfl, Nat.le_of_ble_eq_true rfl⟩ (zdg D_X12_aWalker 14 (26, .invokevirtual 181, 3) rfl) ?_
        refine z_nmWI hf (fun q12 hf => ?_)
        exact z_zret (pc := 29) rfl (zdg D_X12_aWalker 15 (29, .ireturn, 1) rfl) hn hf (fun hf => (hP _ _ hf))
    · refine z_aload_n (pc := 9) 0 (zdg D_X12_aWalker 4 (9, .aload_n 0, 1) rfl) rfl rfl ?_
      refine z_iconst (pc := 10) (v := 1) (zdg D_X12_aWalker 5 (10, .iconst 1, 1) rfl) rfl ?_
      refine z_callV (pc := 11) (rest := []) (st2 := [zI ((f_X12_bad (1 : Int32) σ).1)]) (fun l => c_X12_bad l (1 : Int32) σ) zv_X12_bad lm_X12_181 rfl rfl rfl rfl rfl rfl (Nat.le_of_ble_eq_true rfl) ⟨Nat.le_of_ble_eq_true rfl, Nat.le_of_ble_eq_true rfl⟩ (zdg D_X12_aWalker 6 (11, .invokevirtual 181, 3) rfl) ?_
      refine z_nmWI hf (fun q13 hf => ?_)
      exact z_zret (pc := 14) rfl (zdg D_X12_aWalker 7 (14, .ireturn, 1) rfl) hn hf (fun hf => (hP _ _ hf))

def L_X12_readsWalkers : List (Nat × Instr × Nat) := [(0, .aload_n 0, 1), (1, .iconst 0, 1), (2, .putfield 233, 3), (5, .iconst 1, 1), (6, .istore_n 1, 1), (7, .iload_n 1, 1), (8, .ifCond .eq 18, 3), (11, .aload_n 0, 1), (12, .getfield 159, 3), (15, .ifCond .eq 11, 3), (18, .aload_n 0, 1), (19, .invokevirtual 265, 3), (22, .istore_n 1, 1), (23, .goto (-16), 3), (26, .iload_n 1, 1), (27, .ireturn, 1)]
set_option maxRecDepth 100000 in
theorem D_X12_readsWalkers : zdecs cX12_readsWalkers L_X12_readsWalkers = true := by decide +kernel
noncomputable def b_X12_readsWalkers_7  (v1_2 : Int32) (s3 : zG) : Option ((Int32 × zG) ⊕ (Int32 × zG)) :=
  if v1_2 = 0 then some (Sum.inr (v1_2, s3)) else if (s3.1 0 0 18) = 0 then some (Sum.inr (v1_2, s3)) else (f_X12_aWalker s3).bind (fun q4 => some (Sum.inl (q4.1, q4.2)))
noncomputable def f_X12_readsWalkers (σ : zG) : Option (Int32 × zG) :=
  zb (zwI σ 0 0 15 (0 : Int32)) (fun s1 => (zlp (fun q : Int32 × zG => b_X12_readsWalkers_7 q.1 q.2) ((1 : Int32), s1)).bind (fun e5 : Int32 × zG => zg (zbl e5.1) (some (e5.1, e5.2))))
set_option maxRecDepth 100000 in
set_option maxHeartbeats 4000000 in
theorem c_X12_readsWalkers (l : Launch)  (σ : zG) (q : Int32 × zG) (hq : f_X12_readsWalkers σ = some q) : zMet l zsyM m_X12_readsWalkers yX12_readsWalkers [zR 0 0] σ (some (zI q.1)) q.2 := by
  refine zEnter [(0, zR 0 0)] (by decide) rfl (fun _ => Nat.le_of_ble_eq_true rfl) (fun _ => rfl) (fun w h => ?_) (fun K hv hs => ?_)
  · exact zokm rfl h
  · have hP : ∀ x s, f_X12_readsWalkers σ = some (x, s) → zKv K = some (zI x) ∧ zKs K = s := fun x s h => by rw [hq] at h; cases h; exact ⟨hv, hs⟩
    have hn : f_X12_readsWalkers σ ≠ none := fun z => by rw [hq] at z; cases z
    have hf := f_X12_readsWalkers.eq_1 σ
    refine z_aload_n (pc := 0) 0 (zdg D_X12_readsWalkers 0 (0, .aload_n 0, 1) rfl) rfl rfl ?_
    refine z_iconst (pc := 1) (v := 0) (zdg D_X12_readsWalkers 1 (1, .iconst 0, 1) rfl) rfl ?_
    refine z_putI (pc := 2) lw_X12_233 rfl rfl rfl rfl (zdg D_X12_readsWalkers 2 (2, .putfield 233, 3) rfl) ?_
    refine z_nmS hf (fun s1 hf => ?_)
    refine z_iconst (pc := 5) (v := 1) (zdg D_X12_readsWalkers 3 (5, .iconst 1, 1) rfl) rfl ?_
    refine z_istore_n (pc := 6) (al' := [(1, zI (1 : Int32)), (0, zR 0 0)]) (zdg D_X12_readsWalkers 4 (6, .istore_n 1, 1) rfl) rfl (by decide) rfl ?_
    refine z_sub (al' := [(0, zR 0 0), (1, zI (1 : Int32))]) [1, 0] rfl ?_
    refine z_loop (f := (fun q : Int32 × zG => b_X12_readsWalkers_7 q.1 q.2)) (a := ((1 : Int32), s1)) (fun q : Int32 × zG => zX zsyM m_X12_readsWalkers K 7 [(0, zR 0 0), (1, zI q.1)] [] q.2) (fun e5 : Int32 × zG => zX zsyM m_X12_readsWalkers K 26 [(1, zI e5.1)] [] e5.2) hn hf ?_ ?_
    · intro e5 hf
      refine z_iload_n (pc := 26) 0 (zdg D_X12_readsWalkers 14 (26, .iload_n 1, 1) rfl) rfl rfl ?_
      exact z_zret (pc := 27) rfl (zdg D_X12_readsWalkers 15 (27, .ireturn, 1) rfl) hn hf (fun hf => (hP _ _ hf))
    · rintro ⟨v1_2, s3⟩ hn hi hx
      have hf := b_X12_readsWalkers_7.eq_1  v1_2 s3
      refine z_iload_n (pc := 7) 1 (zdg D_X12_readsWalkers 5 (7, .iload_n 1, 1) rfl) rfl rfl ?_
      refine z_if_eq (pc := 8) 26 (zdg D_X12_readsWalkers 6 (8, .ifCond .eq 18, 3) rfl) rfl hf (fun hf => ?_) (fun hf => ?_)
      · refine z_sub (al' := [(1, zI v1_2)]) [1] rfl ?_
        exact hx (v1_2, s3) hf
      · refine z_aload_n (pc := 11) 0 (zdg D_X12_readsWalkers 7 (11, .aload_n 0, 1) rfl) rfl rfl ?_
        refine z_getI (pc := 12) lf_X12_159 rfl rfl (zdg D_X12_readsWalkers 8 (12, .getfield 159, 3) rfl) ?_
        refine z_if_eq (pc := 15) 26 (zdg D_X12_readsWalkers 9 (15, .ifCond .eq 11, 3) rfl) rfl hf (fun hf => ?_) (fun hf => ?_)
        · refine z_sub (al' := [(1, zI v1_2)]) [1] rfl ?_
          exact hx (v1_2, s3) hf
        · refine z_aload_n (pc := 18) 0 (zdg D_X12_readsWalkers 10 (18, .aload_n 0, 1) rfl) rfl rfl ?_
          refine z_bind hn hf (fun q4 hq hf => ?_)
          refine z_callV (pc := 19) (rest := []) (st2 := [zI q4.1]) (fun l => c_X12_aWalker l s3 q4 hq) zv_X12_aWalker lm_X12_265 rfl rfl rfl rfl rfl rfl (Nat.le_of_ble_eq_true rfl) ⟨Nat.le_of_ble_eq_true rfl, Nat.le_of_ble_eq_true rfl⟩ (zdg D_X12_readsWalkers 11 (19, .invokevirtual 265, 3) rfl) ?_
          refine z_istore_n (pc := 22) (al' := [(1, zI q4.1), (0, zR 0 0)]) (zdg D_X12_readsWalkers 12 (22, .istore_n 1, 1) rfl) rfl (by decide) rfl ?_
          refine z_goto (pc := 23) 7 (zdg D_X12_readsWalkers 13 (23, .goto (-16), 3) rfl) rfl ?_
          refine z_sub (al' := [(0, zR 0 0), (1, zI q4.1)]) [1, 0] rfl ?_
          exact hi (q4.1, q4.2) hf

def L_X12_putsLaw : List (Nat × Instr × Nat) := [(0, .aload_n 0, 1), (1, .getfield 7, 3), (4, .bipush 37, 2), (6, .iload_n 1, 1), (7, .iadd, 1), (8, .aload_n 0, 1), (9, .getfield 221, 3), (12, .iastore, 1), (13, .iconst 0, 1), (14, .istore_n 2, 1), (15, .iload_n 2, 1), (16, .aload_n 0, 1), (17, .getfield 221, 3), (20, .if_icmp .ge 82, 3), (23, .aload_n 0, 1), (24, .getfield 7, 3), (27, .sipush 7512, 3), (30, .bipush 16, 2), (32, .iload_n 1, 1), (33, .imul, 1), (34, .iadd, 1), (35, .iload_n 2, 1), (36, .iadd, 1), (37, .aload_n 0, 1), (38, .getfield 19, 3), (41, .iconst 3, 1), (42, .iload_n 2, 1), (43, .imul, 1), (44, .iaload, 1), (45, .iastore, 1), (46, .aload_n 0, 1), (47, .getfield 7, 3), (50, .sipush 7544, 3), (53, .bipush 16, 2), (55, .iload_n 1, 1), (56, .imul, 1), (57, .iadd, 1), (58, .iload_n 2, 1), (59, .iadd, 1), (60, .aload_n 0, 1), (61, .getfield 19, 3), (64, .iconst 3, 1), (65, .iload_n 2, 1), (66, .imul, 1), (67, .iconst 1, 1), (68, .iadd, 1), (69, .iaload, 1), (70, .iastore, 1), (71, .aload_n 0, 1), (72, .getfield 7, 3), (75, .sipush 7576, 3), (78, .bipush 16, 2), (80, .iload_n 1, 1), (81, .imul, 1), (82, .iadd, 1), (83, .iload_n 2, 1), (84, .iadd, 1), (85, .aload_n 0, 1), (86, .getfield 19, 3), (89, .iconst 3, 1), (90, .iload_n 2, 1), (91, .imul, 1), (92, .iconst 2, 1), (93, .iadd, 1), (94, .iaload, 1), (95, .iastore, 1), (96, .iinc 2 1, 3), (99, .goto (-84), 3), (102, .iconst 0, 1), (103, .istore_n 2, 1), (104, .iload_n 2, 1), (105, .iconst 2, 1), (106, .aload_n 0, 1), (107, .getfield 187, 3), (110, .imul, 1), (111, .if_icmp .ge 31, 3), (114, .aload_n 0, 1), (115, .getfield 7, 3), (118, .sipush 7608, 3), (121, .sipush 820, 3), (124, .iload_n 1, 1), (125, .imul, 1), (126, .iadd, 1), (127, .iload_n 2, 1), (128, .iadd, 1), (129, .aload_n 0, 1), (130, .getfield 22, 3), (133, .iload_n 2, 1), (134, .iaload, 1), (135, .iastore, 1), (136, .iinc 2 1, 3), (139, .goto (-35), 3), (142, .aload_n 0, 1), (143, .getfield 221, 3), (146, .ireturn, 1)]
set_option maxRecDepth 100000 in
theorem D_X12_putsLaw : zdecs cX12_putsLaw L_X12_putsLaw = true := by decide +kernel
noncomputable def b_X12_putsLaw_15 (p1 : Int32) (v2_2 : Int32) (s3 : zG) : Option ((Int32 × zG) ⊕ (zG)) :=
  if v2_2 < (s3.1 0 0 13) then zg (zin ((3 : Int32) * v2_2) 48) (zg (zin (((7512 : Int32) + ((16 : Int32) * p1)) + v2_2) 9248) (zb (zwI s3 1 0 (((7512 : Int32) + ((16 : Int32) * p1)) + v2_2).toNatClampNeg (s3.1 4 0 ((3 : Int32) * v2_2).toNatClampNeg)) (fun s4 => zg (zin (((3 : Int32) * v2_2) + (1 : Int32)) 48) (zg (zin (((7544 : Int32) + ((16 : Int32) * p1)) + v2_2) 9248) (zb (zwI s4 1 0 (((7544 : Int32) + ((16 : Int32) * p1)) + v2_2).toNatClampNeg (s4.1 4 0 (((3 : Int32) * v2_2) + (1 : Int32)).toNatClampNeg)) (fun s5 => zg (zin (((3 : Int32) * v2_2) + (2 : Int32)) 48) (zg (zin (((7576 : Int32) + ((16 : Int32) * p1)) + v2_2) 9248) (zb (zwI s5 1 0 (((7576 : Int32) + ((16 : Int32) * p1)) + v2_2).toNatClampNeg (s5.1 4 0 (((3 : Int32) * v2_2) + (2 : Int32)).toNatClampNeg)) (fun s6 => some (Sum.inl ((v2_2 + 1), s6))))))))))) else some (Sum.inr s3)
noncomputable def b_X12_putsLaw_104 (p1 : Int32) (v2_8 : Int32) (s9 : zG) : Option ((Int32 × zG) ⊕ (zG)) :=
  if v2_8 < ((2 : Int32) * (s9.1 0 0 14)) then zg (zin v2_8 820) (zg (zin (((7608 : Int32) + ((820 : Int32) * p1)) + v2_8) 9248) (zb (zwI s9 1 0 (((7608 : Int32) + ((820 : Int32) * p1)) + v2_8).toNatClampNeg (s9.1 5 0 v2_8.toNatClampNeg)) (fun s10 => some (Sum.inl ((v2_8 + 1), s10))))) else some (Sum.inr s9)
noncomputable def f_X12_putsLaw (p1 : Int32) (σ : zG) : Option (Int32 × zG) :=
  zg (zin ((37 : Int32) + p1) 9248) (zb (zwI σ 1 0 ((37 : Int32) + p1).toNatClampNeg (σ.1 0 0 13)) (fun s1 => (zlp (fun q : Int32 × zG => b_X12_putsLaw_15 p1 q.1 q.2) ((0 : Int32), s1)).bind (fun e7 : zG => (zlp (fun q : Int32 × zG => b_X12_putsLaw_104 p1 q.1 q.2) ((0 : Int32), e7)).bind (fun e11 : zG => some ((e11.1 0 0 13), e11)))))
set_option maxRecDepth 100000 in
set_option maxHeartbeats 4000000 in
theorem c_X12_putsLaw (l : Launch) (p1 : Int32) (σ : zG) (q : Int32 × zG) (hq : f_X12_putsLaw p1 σ = some q) : zMet l zsyM m_X12_putsLaw yX12_putsLaw [zR 0 0, zI p1] σ (some (zI q.1)) q.2 := by
  refine zEnter [(0, zR 0 0), (1, zI p1)] (by decide) rfl (fun _ => Nat.le_of_ble_eq_true rfl) (fun _ => rfl) (fun w h => ?_) (fun K hv hs => ?_)
  · exact zokm rfl h
  · have hP : ∀ x s, f_X12_putsLaw p1 σ = some (x, s) → zKv K = some (zI x) ∧ zKs K = s := fun x s h => by rw [hq] at h; cases h; exact ⟨hv, hs⟩
    have hn : f_X12_putsLaw p1 σ ≠ none := fun z => by rw [hq] at z; cases z
    have hf := f_X12_putsLaw.eq_1 p1 σ
    refine z_aload_n (pc := 0) 0 (zdg D_X12_putsLaw 0 (0, .aload_n 0, 1) rfl) rfl rfl ?_
    refine z_getR (pc := 1) (g := 1) (j := 0) lf_X12_7 rfl rfl rfl (zdg D_X12_putsLaw 1 (1, .getfield 7, 3) rfl) ?_
    refine z_bipush (pc := 4) (v := 37) (zdg D_X12_putsLaw 2 (4, .bipush 37, 2) rfl) rfl ?_
    refine z_iload_n (pc := 6) 1 (zdg D_X12_putsLaw 3 (6, .iload_n 1, 1) rfl) rfl rfl ?_
    refine z_iadd (pc := 7) (zdg D_X12_putsLaw 4 (7, .iadd, 1) rfl) ?_
    refine z_aload_n (pc := 8) 0 (zdg D_X12_putsLaw 5 (8, .aload_n 0, 1) rfl) rfl rfl ?_
    refine z_getI (pc := 9) lf_X12_221 rfl rfl (zdg D_X12_putsLaw 6 (9, .getfield 221, 3) rfl) ?_
    refine z_iast (pc := 12) rfl (fun _ => rfl) (zdg D_X12_putsLaw 7 (12, .iastore, 1) rfl) hn hf (fun hf => ?_)
    refine z_nmS hf (fun s1 hf => ?_)
    refine z_iconst (pc := 13) (v := 0) (zdg D_X12_putsLaw 8 (13, .iconst 0, 1) rfl) rfl ?_
    refine z_istore_n (pc := 14) (al' := [(2, zI (0 : Int32)), (0, zR 0 0), (1, zI p1)]) (zdg D_X12_putsLaw 9 (14, .istore_n 2, 1) rfl) rfl (by decide) rfl ?_
    refine z_sub (al' := [(0, zR 0 0), (1, zI p1), (2, zI (0 : Int32))]) [1, 2, 0] rfl ?_
    refine z_loop (f := (fun q : Int32 × zG => b_X12_putsLaw_15 p1 q.1 q.2)) (a := ((0 : Int32), s1)) (fun q : Int32 × zG => zX zsyM m_X12_putsLaw K 15 [(0, zR 0 0), (1, zI p1), (2, zI q.1)] [] q.2) (fun e7 : zG => zX zsyM m_X12_putsLaw K 102 [(0, zR 0 0), (1, zI p1)] [] e7) hn hf ?_ ?_
    · intro e7 hf
      refine z_iconst (pc := 102) (v := 0) (zdg D_X12_putsLaw 68 (102, .iconst 0, 1) rfl) rfl ?_
      refine z_istore_n (pc := 103) (al' := [(2, zI (0 : Int32)), (0, zR 0 0), (1, zI p1)]) (zdg D_X12_putsLaw 69 (103, .istore_n 2, 1) rfl) rfl (by decide) rfl ?_
      refine z_sub (al' := [(0, zR 0 0), (1, zI p1), (2, zI (0 : Int32))]) [1, 2, 0] rfl ?_
      refine z_loop (f := (fun q : Int32 × zG => b_X12_putsLaw_104 p1 q.1 q.2)) (a := ((0 : Int32), e7)) (fun q : Int32 × zG => zX zsyM m_X12_putsLaw K 104 [(0, zR 0 0), (1, zI p1), (2, zI q.1)] [] q.2) (fun e11 : zG => zX zsyM m_X12_putsLaw K 142 [(0, zR 0 0)] [] e11) hn hf ?_ ?_
      · intro e11 hf
        refine z_aload_n (pc := 142) 0 (zdg D_X12_putsLaw 92 (142, .aload_n 0, 1) rfl) rfl rfl ?_
        refine z_getI (pc := 143) lf_X12_221 rfl rfl (zdg D_X12_putsLaw 93 (143, .getfield 221, 3) rfl) ?_
        exact z_iret (pc := 146) rfl rfl (zdg D_X12_putsLaw 94 (146, .ireturn, 1) rfl) (hP _ _ hf)
      · rintro ⟨v2_8, s9⟩ hn hi hx
        have hf := b_X12_putsLaw_104.eq_1 p1 v2_8 s9
        refine z_iload_n (pc := 104) 2 (zdg D_X12_putsLaw 70 (104, .iload_n 2, 1) rfl) rfl rfl ?_
        refine z_iconst (pc := 105) (v := 2) (zdg D_X12_putsLaw 71 (105, .iconst 2, 1) rfl) rfl ?_
        refine z_aload_n (pc := 106) 0 (zdg D_X12_putsLaw 72 (106, .aload_n 0, 1) rfl) rfl rfl ?_
        refine z_getI (pc := 107) lf_X12_187 rfl rfl (zdg D_X12_putsLaw 73 (107, .getfield 187, 3) rfl) ?_
        refine z_imul (pc := 110) (zdg D_X12_putsLaw 74 (110, .imul, 1) rfl) ?_
        refine z_icmp_ge (pc := 111) 142 (zdg D_X12_putsLaw 75 (111, .if_icmp .ge 31, 3) rfl) rfl hf (fun hf => ?_) (fun hf => ?_)
        · refine z_sub (al' := [(0, zR 0 0)]) [0] rfl ?_
          exact hx s9 hf
        · refine z_aload_n (pc := 114) 0 (zdg D_X12_putsLaw 76 (114, .aload_n 0, 1) rfl) rfl rfl ?_
          refine z_getR (pc := 115) (g := 1) (j := 0) lf_X12_7 rfl rfl rfl (zdg D_X12_putsLaw 77 (115, .getfield 7, 3) rfl) ?_
          refine z_sipush (pc := 118) (v := 7608) (zdg D_X12_putsLaw 78 (118, .sipush 7608, 3) rfl) rfl ?_
          refine z_sipush (pc := 121) (v := 820) (zdg D_X12_putsLaw 79 (121, .sipush 820, 3) rfl) rfl ?_
          refine z_iload_n (pc := 124) 1 (zdg D_X12_putsLaw 80 (124, .iload_n 1, 1) rfl) rfl rfl ?_
          refine z_imul (pc := 125) (zdg D_X12_putsLaw 81 (125, .imul, 1) rfl) ?_
          refine z_iadd (pc := 126) (zdg D_X12_putsLaw 82 (126, .iadd, 1) rfl) ?_
          refine z_iload_n (pc := 127) 2 (zdg D_X12_putsLaw 83 (127, .iload_n 2, 1) rfl) rfl rfl ?_
          refine z_iadd (pc := 128) (zdg D_X12_putsLaw 84 (128, .iadd, 1) rfl) ?_
          refine z_aload_n (pc := 129) 0 (zdg D_X12_putsLaw 85 (129, .aload_n 0, 1) rfl) rfl rfl ?_
          refine z_getR (pc := 130) (g := 5) (j := 0) lf_X12_22 rfl rfl rfl (zdg D_X12_putsLaw 86 (130, .getfield 22, 3) rfl) ?_
          refine z_iload_n (pc := 133) 2 (zdg D_X12_putsLaw 87 (133, .iload_n 2, 1) rfl) rfl rfl ?_
          refine z_iald (pc := 134) rfl (fun _ => rfl) (zdg D_X12_putsLaw 88 (134, .iaload, 1) rfl) hn hf (fun hf => ?_)
          refine z_iast (pc := 135) rfl (fun _ => rfl) (zdg D_X12_putsLaw 89 (135, .iastore, 1) rfl) hn hf (fun hf => ?_)
          refine z_nmS hf (fun s10 hf => ?_)
          refine z_iinc (pc := 136) (v0 := (v2_8 + 1)) (al' := [(2, zI (v2_8 + 1)), (0, zR 0 0), (1, zI p1)]) 2 (zdg D_X12_putsLaw 90 (136, .iinc 2 1, 3) rfl) rfl rfl (by decide) rfl ?_
          refine z_goto (pc := 139) 104 (zdg D_X12_putsLaw 91 (139, .goto (-35), 3) rfl) rfl ?_
          refine z_sub (al' := [(0, zR 0 0), (1, zI p1), (2, zI (v2_8 + 1))]) [1, 2, 0] rfl ?_
          exact hi ((v2_8 + 1), s10) hf
    · rintro ⟨v2_2, s3⟩ hn hi hx
      have hf := b_X12_putsLaw_15.eq_1 p1 v2_2 s3
      refine z_iload_n (pc := 15) 2 (zdg D_X12_putsLaw 10 (15, .iload_n 2, 1) rfl) rfl rfl ?_
      refine z_aload_n (pc := 16) 0 (zdg D_X12_putsLaw 11 (16, .aload_n 0, 1) rfl) rfl rfl ?_
      refine z_getI (pc := 17) lf_X12_221 rfl rfl (zdg D_X12_putsLaw 12 (17, .getfield 221, 3) rfl) ?_
      refine z_icmp_ge (pc := 20) 102 (zdg D_X12_putsLaw 13 (20, .if_icmp .ge 82, 3) rfl) rfl hf (fun hf => ?_) (fun hf => ?_)
      · refine z_sub (al' := [(0, zR 0 0), (1, zI p1)]) [0, 1] rfl ?_
        exact hx s3 hf
      · refine z_aload_n (pc := 23) 0 (zdg D_X12_putsLaw 14 (23, .aload_n 0, 1) rfl) rfl rfl ?_
        refine z_getR (pc := 24) (g := 1) (j := 0) lf_X12_7 rfl rfl rfl (zdg D_X12_putsLaw 15 (24, .getfield 7, 3) rfl) ?_
        refine z_sipush (pc := 27) (v := 7512) (zdg D_X12_putsLaw 16 (27, .sipush 7512, 3) rfl) rfl ?_
        refine z_bipush (pc := 30) (v := 16) (zdg D_X12_putsLaw 17 (30, .bipush 16, 2) rfl) rfl ?_
        refine z_iload_n (pc := 32) 1 (zdg D_X12_putsLaw 18 (32, .iload_n 1, 1) rfl) rfl rfl ?_
        refine z_imul (pc := 33) (zdg D_X12_putsLaw 19 (33, .imul, 1) rfl) ?_
        refine z_iadd (pc := 34) (zdg D_X12_putsLaw 20 (34, .iadd, 1) rfl) ?_
        refine z_iload_n (pc := 35) 2 (zdg D_X12_putsLaw 21 (35, .iload_n 2, 1) rfl) rfl rfl ?_
        refine z_iadd (pc := 36) (zdg D_X12_putsLaw 22 (36, .iadd, 1) rfl) ?_
        refine z_aload_n (pc := 37) 0 (zdg D_X12_putsLaw 23 (37, .aload_n 0, 1) rfl) rfl rfl ?_
        refine z_getR (pc := 38) (g := 4) (j := 0) lf_X12_19 rfl rfl rfl (zdg D_X12_putsLaw 24 (38, .getfield 19, 3) rfl) ?_
        refine z_iconst (pc := 41) (v := 3) (zdg D_X12_putsLaw 25 (41, .iconst 3, 1) rfl) rfl ?_
        refine z_iload_n (pc := 42) 2 (zdg D_X12_putsLaw 26 (42, .iload_n 2, 1) rfl) rfl rfl ?_
        refine z_imul (pc := 43) (zdg D_X12_putsLaw 27 (43, .imul, 1) rfl) ?_
        refine z_iald (pc := 44) rfl (fun _ => rfl) (zdg D_X12_putsLaw 28 (44, .iaload, 1) rfl) hn hf (fun hf => ?_)
        refine z_iast (pc := 45) rfl (fun _ => rfl) (zdg D_X12_putsLaw 29 (45, .iastore, 1) rfl) hn hf (fun hf => ?_)
        refine z_nmS hf (fun s4 hf => ?_)
        refine z_aload_n (pc := 46) 0 (zdg D_X12_putsLaw 30 (46, .aload_n 0, 1) rfl) rfl rfl ?_
        refine z_getR (pc := 47) (g := 1) (j := 0) lf_X12_7 rfl rfl rfl (zdg D_X12_putsLaw 31 (47, .getfield 7, 3) rfl) ?_
        refine z_sipush (pc := 50) (v := 7544) (zdg D_X12_putsLaw 32 (50, .sipush 7544, 3) rfl) rfl ?_
        refine z_bipush (pc := 53) (v := 16) (zdg D_X12_putsLaw 33 (53, .bipush 16, 2) rfl) rfl ?_
        refine z_iload_n (pc := 55) 1 (zdg D_X12_putsLaw 34 (55, .iload_n 1, 1) rfl) rfl rfl ?_
        refine z_imul (pc := 56) (zdg D_X12_putsLaw 35 (56, .imul, 1) rfl) ?_
        refine z_iadd (pc := 57) (zdg D_X12_putsLaw 36 (57, .iadd, 1) rfl) ?_
        refine z_iload_n (pc := 58) 2 (zdg D_X12_putsLaw 37 (58, .iload_n 2, 1) rfl) rfl rfl ?_
        refine z_iadd (pc := 59) (zdg D_X12_putsLaw 38 (59, .iadd, 1) rfl) ?_
        refine z_aload_n (pc := 60) 0 (zdg D_X12_putsLaw 39 (60, .aload_n 0, 1) rfl) rfl rfl ?_
        refine z_getR (pc := 61) (g := 4) (j := 0) lf_X12_19 rfl rfl rfl (zdg D_X12_putsLaw 40 (61, .getfield 19, 3) rfl) ?_
        refine z_iconst (pc := 64) (v := 3) (zdg D_X12_putsLaw 41 (64, .iconst 3, 1) rfl) rfl ?_
        refine z_iload_n (pc := 65) 2 (zdg D_X12_putsLaw 42 (65, .iload_n 2, 1) rfl) rfl rfl ?_
        refine z_imul (pc := 66) (zdg D_X12_putsLaw 43 (66, .imul, 1) rfl) ?_
        refine z_iconst (pc := 67) (v := 1) (zdg D_X12_putsLaw 44 (67, .iconst 1, 1) rfl) rfl ?_
        refine z_iadd (pc := 68) (zdg D_X12_putsLaw 45 (68, .iadd, 1) rfl) ?_
        refine z_iald (pc := 69) rfl (fun _ => rfl) (zdg D_X12_putsLaw 46 (69, .iaload, 1) rfl) hn hf (fun hf => ?_)
        refine z_iast (pc := 70) rfl (fun _ => rfl) (zdg D_X12_putsLaw 47 (70, .iastore, 1) rfl) hn hf (fun hf => ?_)
        refine z_nmS hf (fun s5 hf => ?_)
        refine z_aload_n (pc := 71) 0 (zdg D_X12_putsLaw 48 (71, .aload_n 0, 1) rfl) rfl rfl ?_
        refine z_getR (pc := 72) (g := 1) (j := 0) lf_X12_7 rfl rfl rfl (zdg D_X12_putsLaw 49 (72, .getfield 7, 3) rfl) ?_
        refine z_sipush (pc := 75) (v := 7576) (zdg D_X12_putsLaw 50 (75, .sipush 7576, 3) rfl) rfl ?_
        refine z_bipush (pc := 78) (v := 16) (zdg D_X12_putsLaw 51 (78, .bipush 16, 2) rfl) rfl ?_
        refine z_iload_n (pc := 80) 1 (zdg D_X12_putsLaw 52 (80, .iload_n 1, 1) rfl) rfl rfl ?_
        refine z_imul (pc := 81) (zdg D_X12_putsLaw 53 (81, .imul, 1) rfl) ?_
        refine z_iadd (pc := 82) (zdg D_X12_putsLaw 54 (82, .iadd, 1) rfl) ?_
        refine z_iload_n (pc := 83) 2 (zdg D_X12_putsLaw 55 (83, .iload_n 2, 1) rfl) rfl rfl ?_
        refine z_iadd (pc := 84) (zdg D_X12_putsLaw 56 (84, .iadd, 1) rfl) ?_
        refine z_aload_n (pc := 85) 0 (zdg D_X12_putsLaw 57 (85, .aload_n 0, 1) rfl) rfl rfl ?_
        refine z_getR (pc := 86) (g := 4) (j := 0) lf_X12_19 rfl rfl rfl (zdg D_X12_putsLaw 58 (86, .getfield 19, 3) rfl) ?_
        refine z_iconst (pc := 89) (v := 3) (zdg D_X12_putsLaw 59 (89, .iconst 3, 1) rfl) rfl ?_
        refine z_iload_n (pc := 90) 2 (zdg D_X12_putsLaw 60 (90, .iload_n 2, 1) rfl) rfl rfl ?_
        refine z_imul (pc := 91) (zdg D_X12_putsLaw 61 (91, .imul, 1) rfl) ?_
        refine z_iconst (pc := 92) (v := 2) (zdg D_X12_putsLaw 62 (92, .iconst 2, 1) rfl) rfl ?_
        refine z_iadd (pc := 93) (zdg D_X12_putsLaw 63 (93, .iadd, 1) rfl) ?_
        refine z_iald (pc := 94) rfl (fun _ => rfl) (zdg D_X12_putsLaw 64 (94, .iaload, 1) rfl) hn hf (fun hf => ?_)
        refine z_iast (pc := 95) rfl (fun _ => rfl) (zdg D_X12_putsLaw 65 (95, .iastore, 1) rfl) hn hf (fun hf => ?_)
        refine z_nmS hf (fun s6 hf => ?_)
        refine z_iinc (pc := 96) (v0 := (v2_2 + 1)) (al' := [(2, zI (v2_2 + 1)), (0, zR 0 0), (1, zI p1)]) 2 (zdg D_X12_putsLaw 66 (96, .iinc 2 1, 3) rfl) rfl rfl (by decide) rfl ?_
        refine z_goto (pc := 99) 15 (zdg D_X12_putsLaw 67 (99, .goto (-84), 3) rfl) rfl ?_
        refine z_sub (al' := [(0, zR 0 0), (1, zI p1), (2, zI (v2_2 + 1))]) [1, 2, 0] rfl ?_
        exact hi ((v2_2 + 1), s6) hf

def L_X12_putsWalkers : List (Nat × Instr × Nat) := [(0, .aload_n 0, 1), (1, .getfield 7, 3), (4, .bipush 36, 2), (6, .aload_n 0, 1), (7, .getfield 233, 3), (10, .iastore, 1), (11, .iconst 0, 1), (12, .istore_n 1, 1), (13, .iload_n 1, 1), (14, .iconst 4, 1), (15, .aload_n 0, 1), (16, .getfield 233, 3), (19, .imul, 1), (20, .if_icmp .ge 24, 3), (23, .aload_n 0, 1), (24, .getfield 7, 3), (27, .bipush 104, 2), (29, .iload_n 1, 1), (30, .iadd, 1), (31, .aload_n 0, 1), (32, .getfield 25, 3), (35, .iload_n 1, 1), (36, .iaload, 1), (37, .iastore, 1), (38, .iinc 1 1, 3), (41, .goto (-28), 3), (44, .iconst 0, 1), (45, .istore_n 1, 1), (46, .iload_n 1, 1), (47, .sipush 501, 3), (50, .aload_n 0, 1), (51, .getfield 233, 3), (54, .imul, 1), (55, .if_icmp .ge 25, 3), (58, .aload_n 0, 1), (59, .getfield 7, 3), (62, .sipush 1500, 3), (65, .iload_n 1, 1), (66, .iadd, 1), (67, .aload_n 0, 1), (68, .getfield 28, 3), (71, .iload_n 1, 1), (72, .iaload, 1), (73, .iastore, 1), (74, .iinc 1 1, 3), (77, .goto (-31), 3), (80, .aload_n 0, 1), (81, .invokevirtual 72, 3), (84, .aload_n 0, 1), (85, .getfield 233, 3), (88, .ireturn, 1)]
set_option maxRecDepth 100000 in
theorem D_X12_putsWalkers : zdecs cX12_putsWalkers L_X12_putsWalkers = true := by decide +kernel
noncomputable def b_X12_putsWalkers_13  (v1_2 : Int32) (s3 : zG) : Option ((Int32 × zG) ⊕ (zG)) :=
  if v1_2 < ((4 : Int32) * (s3.1 0 0 15)) then zg (zin v1_2 48) (zg (zin ((104 : Int32) + v1_2) 9248) (zb (zwI s3 1 0 ((104 : Int32) + v1_2).toNatClampNeg (s3.1 6 0 v1_2.toNatClampNeg)) (fun s4 => some (Sum.inl ((v1_2 + 1), s4))))) else some (Sum.inr s3)
noncomputable def b_X12_putsWalkers_46  (v1_6 : Int32) (s7 : zG) : Option ((Int32 × zG) ⊕ (zG)) :=
  if v1_6 < ((501 : Int32) * (s7.1 0 0 15)) then zg (zin v1_6 6012) (zg (zin ((1500 : Int32) + v1_6) 9248) (zb (zwI s7 1 0 ((1500 : Int32) + v1_6).toNatClampNeg (s7.1 7 0 v1_6.toNatClampNeg)) (fun s8 => some (Sum.inl ((v1_6 + 1), s8))))) else some (Sum.inr s7)
noncomputable def f_X12_putsWalkers (σ : zG) : Option (Int32 × zG) :=
  zb (zwI σ 1 0 36 (σ.1 0 0 15)) (fun s1 => (zlp (fun q : Int32 × zG => b_X12_putsWalkers_13 q.1 q.2) ((0 : Int32), s1)).bind (fun e5 : zG => (zlp (fun q : Int32 × zG => b_X12_putsWalkers_46 q.1 q.2) ((0 : Int32), e5)).bind (fun e9 : zG => zb (f_X12_forgets e9) (fun s10 => some ((s10.1 0 0 15), s10)))))
set_option maxRecDepth 100000 in
set_option maxHeartbeats 4000000 in
theorem c_X12_putsWalkers (l : Launch)  (σ : zG) (q : Int32 × zG) (hq : f_X12_putsWalkers σ = some q) : zMet l zsyM m_X12_putsWalkers yX12_putsWalkers [zR 0 0] σ (some (zI q.1)) q.2 := by
  refine zEnter [(0, zR 0 0)] (by decide) rfl (fun _ => Nat.le_of_ble_eq_true rfl) (fun _ => rfl) (fun w h => ?_) (fun K hv hs => ?_)
  · exact zokm rfl h
  · have hP : ∀ x s, f_X12_putsWalkers σ = some (x, s) → zKv K = some (zI x) ∧ zKs K = s := fun x s h => by rw [hq] at h; cases h; exact ⟨hv, hs⟩
    have hn : f_X12_putsWalkers σ ≠ none := fun z => by rw [hq] at z; cases z
    have hf := f_X12_putsWalkers.eq_1 σ
    refine z_aload_n (pc := 0) 0 (zdg D_X12_putsWalkers 0 (0, .aload_n 0, 1) rfl) rfl rfl ?_
    refine z_getR (pc := 1) (g := 1) (j := 0) lf_X12_7 rfl rfl rfl (zdg D_X12_putsWalkers 1 (1, .getfield 7, 3) rfl) ?_
    refine z_bipush (pc := 4) (v := 36) (zdg D_X12_putsWalkers 2 (4, .bipush 36, 2) rfl) rfl ?_
    refine z_aload_n (pc := 6) 0 (zdg D_X12_putsWalkers 3 (6, .aload_n 0, 1) rfl) rfl rfl ?_
    refine z_getI (pc := 7) lf_X12_233 rfl rfl (zdg D_X12_putsWalkers 4 (7, .getfield 233, 3) rfl) ?_
    refine z_iastC (pc := 10) (j := 36) rfl (fun _ => rfl) (zdg D_X12_putsWalkers 5 (10, .iastore, 1) rfl) rfl rfl ?_
    refine z_nmS hf (fun s1 hf => ?_)
    refine z_iconst (pc := 11) (v := 0) (zdg D_X12_putsWalkers 6 (11, .iconst 0, 1) rfl) rfl ?_
    refine z_istore_n (pc := 12) (al' := [(1, zI (0 : Int32)), (0, zR 0 0)]) (zdg D_X12_putsWalkers 7 (12, .istore_n 1, 1) rfl) rfl (by decide) rfl ?_
    refine z_sub (al' := [(0, zR 0 0), (1, zI (0 : Int32))]) [1, 0] rfl ?_
    refine z_loop (f := (fun q : Int32 × zG => b_X12_putsWalkers_13 q.1 q.2)) (a := ((0 : Int32), s1)) (fun q : Int32 × zG => zX zsyM m_X12_putsWalkers K 13 [(0, zR 0 0), (1, zI q.1)] [] q.2) (fun e5 : zG => zX zsyM m_X12_putsWalkers K 44 [(0, zR 0 0)] [] e5) hn hf ?_ ?_
    · intro e5 hf
      refine z_iconst (pc := 44) (v := 0) (zdg D_X12_putsWalkers 26 (44, .iconst 0, 1) rfl) rfl ?_
      refine z_istore_n (pc := 45) (al' := [(1, zI (0 : Int32)), (0, zR 0 0)]) (zdg D_X12_putsWalkers 27 (45, .istore_n 1, 1) rfl) rfl (by decide) rfl ?_
      refine z_sub (al' := [(0, zR 0 0), (1, zI (0 : Int32))]) [1, 0] rfl ?_
      refine z_loop (f := (fun q : Int32 × zG => b_X12_putsWalkers_46 q.1 q.2)) (a := ((0 : Int32), e5)) (fun q : Int32 × zG => zX zsyM m_X12_putsWalkers K 46 [(0, zR 0 0), (1, zI q.1)] [] q.2) (fun e9 : zG => zX zsyM m_X12_putsWalkers K 80 [(0, zR 0 0)] [] e9) hn hf ?_ ?_
      · intro e9 hf
        refine z_aload_n (pc := 80) 0 (zdg D_X12_putsWalkers 46 (80, .aload_n 0, 1) rfl) rfl rfl ?_
        refine z_callV (pc := 81) (rest := []) (st2 := []) (fun l => c_X12_forgets l e9) zv_X12_forgets lm_X12_72 rfl rfl rfl rfl rfl rfl (Nat.le_of_ble_eq_true rfl) ⟨Nat.le_of_ble_eq_true rfl, Nat.le_of_ble_eq_true rfl⟩ (zdg D_X12_putsWalkers 47 (81, .invokevirtual 72, 3) rfl) ?_
        refine z_nmS hf (fun s10 hf => ?_)
        refine z_aload_n (pc := 84) 0 (zdg D_X12_putsWalkers 48 (84, .aload_n 0, 1) rfl) rfl rfl ?_
        refine z_getI (pc := 85) lf_X12_233 rfl rfl (zdg D_X12_putsWalkers 49 (85, .getfield 233, 3) rfl) ?_
        exact z_iret (pc := 88) rfl rfl (zdg D_X12_putsWalkers 50 (88, .ireturn, 1) rfl) (hP _ _ hf)
      · rintro ⟨v1_6, s7⟩ hn hi hx
        have hf := b_X12_putsWalkers_46.eq_1  v1_6 s7
        refine z_iload_n (pc := 46) 1 (zdg D_X12_putsWalkers 28 (46, .iload_n 1, 1) rfl) rfl rfl ?_
        refine z_sipush (pc := 47) (v := 501) (zdg D_X12_putsWalkers 29 (47, .sipush 501, 3) rfl) rfl ?_
        refine z_aload_n (pc := 50) 0 (zdg D_X12_putsWalkers 30 (50, .aload_n 0, 1) rfl) rfl rfl ?_
        refine z_getI (pc := 51) lf_X12_233 rfl rfl (zdg D_X12_putsWalkers 31 (51, .getfield 233, 3) rfl) ?_
        refine z_imul (pc := 54) (zdg D_X12_putsWalkers 32 (54, .imul, 1) rfl) ?_
        refine z_icmp_ge (pc := 55) 80 (zdg D_X12_putsWalkers 33 (55, .if_icmp .ge 25, 3) rfl) rfl hf (fun hf => ?_) (fun hf => ?_)
        · refine z_sub (al' := [(0, zR 0 0)]) [0] rfl ?_
          exact hx s7 hf
        · refine z_aload_n (pc := 58) 0 (zdg D_X12_putsWalkers 34 (58, .aload_n 0, 1) rfl) rfl rfl ?_
          refine z_getR (pc := 59) (g := 1) (j := 0) lf_X12_7 rfl rfl rfl (zdg D_X12_putsWalkers 35 (59, .getfield 7, 3) rfl) ?_
          refine z_sipush (pc := 62) (v := 1500) (zdg D_X12_putsWalkers 36 (62, .sipush 1500, 3) rfl) rfl ?_
          refine z_iload_n (pc := 65) 1 (zdg D_X12_putsWalkers 37 (65, .iload_n 1, 1) rfl) rfl rfl ?_
          refine z_iadd (pc := 66) (zdg D_X12_putsWalkers 38 (66, .iadd, 1) rfl) ?_
          refine z_aload_n (pc := 67) 0 (zdg D_X12_putsWalkers 39 (67, .aload_n 0, 1) rfl) rfl rfl ?_
          refine z_getR (pc := 68) (g := 7) (j := 0) lf_X12_28 rfl rfl rfl (zdg D_X12_putsWalkers 40 (68, .getfield 28, 3) rfl) ?_
          refine z_iload_n (pc := 71) 1 (zdg D_X12_putsWalkers 41 (71, .iload_n 1, 1) rfl) rfl rfl ?_
          refine z_iald (pc := 72) rfl (fun _ => rfl) (zdg D_X12_putsWalkers 42 (72, .iaload, 1) rfl) hn hf (fun hf => ?_)
          refine z_iast (pc := 73) rfl (fun _ => rfl) (zdg D_X12_putsWalkers 43 (73, .iastore, 1) rfl) hn hf (fun hf => ?_)
          refine z_nmS hf (fun s8 hf => ?_)
          refine z_iinc (pc := 74) (v0 := (v1_6 + 1)) (al' := [(1, zI (v1_6 + 1)), (0, zR 0 0)]) 1 (zdg D_X12_putsWalkers 44 (74, .iinc 1 1, 3) rfl) rfl rfl (by decide) rfl ?_
          refine z_goto (pc := 77) 46 (zdg D_X12_putsWalkers 45 (77, .goto (-31), 3) rfl) rfl ?_
          refine z_sub (al' := [(0, zR 0 0), (1, zI (v1_6 + 1))]) [1, 0] rfl ?_
          exact hi ((v1_6 + 1), s8) hf
    · rintro ⟨v1_2, s3⟩ hn hi hx
      have hf := b_X12_putsWalkers_13.eq_1  v1_2 s3
      refine z_iload_n (pc := 13) 1 (zdg D_X12_putsWalkers 8 (13, .iload_n 1, 1) rfl) rfl rfl ?_
      refine z_iconst (pc := 14) (v := 4) (zdg D_X12_putsWalkers 9 (14, .iconst 4, 1) rfl) rfl ?_
      refine z_aload_n (pc := 15) 0 (zdg D_X12_putsWalkers 10 (15, .aload_n 0, 1) rfl) rfl rfl ?_
      refine z_getI (pc := 16) lf_X12_233 rfl rfl (zdg D_X12_putsWalkers 11 (16, .getfield 233, 3) rfl) ?_
      refine z_imul (pc := 19) (zdg D_X12_putsWalkers 12 (19, .imul, 1) rfl) ?_
      refine z_icmp_ge (pc := 20) 44 (zdg D_X12_putsWalkers 13 (20, .if_icmp .ge 24, 3) rfl) rfl hf (fun hf => ?_) (fun hf => ?_)
      · refine z_sub (al' := [(0, zR 0 0)]) [0] rfl ?_
        exact hx s3 hf
      · refine z_aload_n (pc := 23) 0 (zdg D_X12_putsWalkers 14 (23, .aload_n 0, 1) rfl) rfl rfl ?_
        refine z_getR (pc := 24) (g := 1) (j := 0) lf_X12_7 rfl rfl rfl (zdg D_X12_putsWalkers 15 (24, .getfield 7, 3) rfl) ?_
        refine z_bipush (pc := 27) (v := 104) (zdg D_X12_putsWalkers 16 (27, .bipush 104, 2) rfl) rfl ?_
        refine z_iload_n (pc := 29) 1 (zdg D_X12_putsWalkers 17 (29, .iload_n 1, 1) rfl) rfl rfl ?_
        refine z_iadd (pc := 30) (zdg D_X12_putsWalkers 18 (30, .iadd, 1) rfl) ?_
        refine z_aload_n (pc := 31) 0 (zdg D_X12_putsWalkers 19 (31, .aload_n 0, 1) rfl) rfl rfl ?_
        refine z_getR (pc := 32) (g := 6) (j := 0) lf_X12_25 rfl rfl rfl (zdg D_X12_putsWalkers 20 (32, .getfield 25, 3) rfl) ?_
        refine z_iload_n (pc := 35) 1 (zdg D_X12_putsWalkers 21 (35, .iload_n 1, 1) rfl) rfl rfl ?_
        refine z_iald (pc := 36) rfl (fun _ => rfl) (zdg D_X12_putsWalkers 22 (36, .iaload, 1) rfl) hn hf (fun hf => ?_)
        refine z_iast (pc := 37) rfl (fun _ => rfl) (zdg D_X12_putsWalkers 23 (37, .iastore, 1) rfl) hn hf (fun hf => ?_)
        refine z_nmS hf (fun s4 hf => ?_)
        refine z_iinc (pc := 38) (v0 := (v1_2 + 1)) (al' := [(1, zI (v1_2 + 1)), (0, zR 0 0)]) 1 (zdg D_X12_putsWalkers 24 (38, .iinc 1 1, 3) rfl) rfl rfl (by decide) rfl ?_
        refine z_goto (pc := 41) 13 (zdg D_X12_putsWalkers 25 (41, .goto (-28), 3) rfl) rfl ?_
        refine z_sub (al' := [(0, zR 0 0), (1, zI (v1_2 + 1))]) [1, 0] rfl ?_
        exact hi ((v1_2 + 1), s4) hf

def L_X12_text : List (Nat × Instr × Nat) := [(0, .aload_n 0, 1), (1, .iconst 0, 1), (2, .putfield 268, 3), (5, .aload_n 0, 1), (6, .iconst (-1), 1), (7, .putfield 40, 3), (10, .iload_n 1, 1), (11, .iconst 0, 1), (12, .iconst 2, 1), (13, .invokestatic 64, 3), (16, .ifCond .ne 10, 3), (19, .aload_n 0, 1), (20, .iconst 0, 1), (21, .putfield 77, 3), (24, .iconst (-1), 1), (25, .ireturn, 1), (26, .aload_n 0, 1), (27, .iconst 0, 1), (28, .putfield 175, 3), (31, .aload_n 0, 1), (32, .iconst 0, 1), (33, .putfield 80, 3), (36, .aload_n 0, 1), (37, .iload_n 1, 1), (38, .putfield 135, 3), (41, .aload_n 0, 1), (42, .invokevirtual 184, 3), (45, .iload_n 1, 1), (46, .ifCond .ne 10, 3), (49, .aload_n 0, 1), (50, .invokevirtual 271, 3), (53, .goto 7, 3), (56, .aload_n 0, 1), (57, .invokevirtual 274, 3), (60, .istore_n 2, 1), (61, .aload_n 0, 1), (62, .iconst 0, 1), (63, .putfield 77, 3), (66, .iload_n 2, 1), (67, .ifCond .eq 22, 3), (70, .iload_n 1, 1), (71, .ifCond .ne 10, 3), (74, .aload_n 0, 1), (75, .invokevirtual 277, 3), (78, .goto 10, 3), (81, .aload_n 0, 1), (82, .iload_n 1, 1), (83, .iconst 1, 1), (84, .isub, 1), (85, .invokevirtual 280, 3), (88, .ireturn, 1), (89, .aload_n 0, 1), (90, .aload_n 0, 1), (91, .getfield 175, 3), (94, .putfield 268, 3), (97, .aload_n 0, 1), (98, .aload_n 0, 1), (99, .getfield 178, 3), (102, .putfield 40, 3), (105, .iconst (-1), 1), (106, .ireturn, 1)]
set_option maxRecDepth 100000 in
theorem D_X12_text : zdecs cX12_text L_X12_text = true := by decide +kernel
noncomputable def j_X12_text_60 (p1 : Int32) (t8 : Int32) (s9 : zG) : Option (Int32 × zG) :=
  zb (zwI s9 0 0 16 (0 : Int32)) (fun s10 => if t8 = 0 then zb (zwI s10 0 0 23 (s10.1 0 0 21)) (fun s11 => zb (zwI s11 0 0 25 (s11.1 0 0 22)) (fun s12 => some ((-1 : Int32), s12))) else if p1 = 0 then (f_X12_putsWalkers s10).bind (fun q14 => some (q14.1, q14.2)) else (f_X12_putsLaw (p1 - (1 : Int32)) s10).bind (fun q13 => some (q13.1, q13.2)))
noncomputable def f_X12_text (p1 : Int32) (σ : zG) : Option (Int32 × zG) :=
  zb (zwI σ 0 0 23 (0 : Int32)) (fun s1 => zb (zwI s1 0 0 25 (-1 : Int32)) (fun s2 => if (f_X12_isIn p1 (0 : Int32) (2 : Int32)) = 0 then zb (zwI s2 0 0 16 (0 : Int32)) (fun s16 => some ((-1 : Int32), s16)) else zb (zwI s2 0 0 21 (0 : Int32)) (fun s3 => zb (zwI s3 0 0 17 (0 : Int32)) (fun s4 => zb (zwI s4 0 0 12 p1) (fun s5 => (f_X12_next0 s5).bind (fun q6 => if p1 = 0 then (f_X12_readsWalkers q6).bind (fun q15 => j_X12_text_60 p1 q15.1 q15.2) else (f_X12_readsLaw q6).bind (fun q7 => j_X12_text_60 p1 q7.1 q7.2)))))))
set_option maxRecDepth 100000 in
set_option maxHeartbeats 4000000 in
theorem c_X12_text (l : Launch) (p1 : Int32) (σ : zG) (q : Int32 × zG) (hq : f_X12_text p1 σ = some q) : zMet l zsyM m_X12_text yX12_text [zR 0 0, zI p1] σ (some (zI q.1)) q.2 := by
  refine zEnter [(0, zR 0 0), (1, zI p1)] (by decide) rfl (fun _ => Nat.le_of_ble_eq_true rfl) (fun _ => rfl) (fun w h => ?_) (fun K hv hs => ?_)
  · exact zokm rfl h
  · have hP : ∀ x s, f_X12_text p1 σ = some (x, s) → zKv K = some (zI x) ∧ zKs K = s := fun x s h => by rw [hq] at h; cases h; exact ⟨hv, hs⟩
    have hn : f_X12_text p1 σ ≠ none := fun z => by rw [hq] at z; cases z
    have hf := f_X12_text.eq_1 p1 σ
    have t_60 : ∀ (t8 : Int32) (s9 : zG), f_X12_text p1 σ = j_X12_text_60 p1 t8 s9 → zX zsyM m_X12_text K 60 [(0, zR 0 0), (1, zI p1)] [zI t8] s9 := by
      intro t8 s9 hf
      replace hf := hf.trans (j_X12_text_60.eq_1 p1 t8 s9)
      refine z_istore_n (pc := 60) (al' := [(2, zI t8), (0, zR 0 0), (1, zI p1)]) (zdg D_X12_text 34 (60, .istore_n 2, 1) rfl) rfl (by decide) rfl ?_
      refine z_aload_n (pc := 61) 1 (zdg D_X12_text 35 (61, .aload_n 0, 1) rfl) rfl rfl ?_
      refine z_iconst (pc := 62) (v := 0) (zdg D_X12_text 36 (62, .iconst 0, 1) rfl) rfl ?_
      refine z_putI (pc := 63) lw_X12_77 rfl rfl rfl rfl (zdg D_X12_text 37 (63, .putfield 77, 3) rfl) ?_
      refine z_nmS hf (fun s10 hf => ?_)
      refine z_iload_n (pc := 66) 0 (zdg D_X12_text 38 (66, .iload_n 2, 1) rfl) rfl rfl ?_
      refine z_if_eq (pc := 67) 89 (zdg D_X12_text 39 (67, .ifCond .eq 22, 3) rfl) rfl hf (fun hf => ?_) (fun hf => ?_)
      · refine z_aload_n (pc := 89) 1 (zdg D_X12_text 51 (89, .aload_n 0, 1) rfl) rfl rfl ?_
        refine z_aload_n (pc := 90) 1 (zdg D_X12_text 52 (90, .aload_n 0, 1) rfl) rfl rfl ?_
        refine z_getI (pc := 91) lf_X12_175 rfl rfl (zdg D_X12_text 53 (91, .getfield 175, 3) rfl) ?_
        refine z_putI (pc := 94) lw_X12_268 rfl rfl rfl rfl (zdg D_X12_text 54 (94, .putfield 268, 3) rfl) ?_
        refine z_nmS hf (fun s11 hf => ?_)
        refine z_aload_n (pc := 97) 1 (zdg D_X12_text 55 (97, .aload_n 0, 1) rfl) rfl rfl ?_
        refine z_aload_n (pc := 98) 1 (zdg D_X12_text 56 (98, .aload_n 0, 1) rfl) rfl rfl ?_
        refine z_getI (pc := 99) lf_X12_178 rfl rfl (zdg D_X12_text 57 (99, .getfield 178, 3) rfl) ?_
        refine z_putI (pc := 102) lw_X12_40 rfl rfl rfl rfl (zdg D_X12_text 58 (102, .putfield 40, 3) rfl) ?_
        refine z_nmS hf (fun s12 hf => ?_)
        refine z_iconst (pc := 105) (v := -1) (zdg D_X12_text 59 (105, .iconst (-1), 1) rfl) rfl ?_
        exact z_iret (pc := 106) rfl rfl (zdg D_X12_text 60 (106, .ireturn, 1) rfl) (hP _ _ hf)
      · refine z_iload_n (pc := 70) 2 (zdg D_X12_text 40 (70, .iload_n 1, 1) rfl) rfl rfl ?_
        refine z_if_ne (pc := 71) 81 (zdg D_X12_text 41 (71, .ifCond .ne 10, 3) rfl) rfl hf (fun hf => ?_) (fun hf => ?_)
        · refine z_aload_n (pc := 81) 1 (zdg D_X12_text 45 (81, .aload_n 0, 1) rfl) rfl rfl ?_
          refine z_iload_n (pc := 82) 2 (zdg D_X12_text 46 (82, .iload_n 1, 1) rfl) rfl rfl ?_
          refine z_iconst (pc := 83) (v := 1) (zdg D_X12_text 47 (83, .iconst 1, 1) rfl) rfl ?_
          refine z_isub (pc := 84) (zdg D_X12_text 48 (84, .isub, 1) rfl) ?_
          refine z_bind hn hf (fun q13 hq hf => ?_)
          refine z_callV (pc := 85) (rest := []) (st2 := [zI q13.1]) (fun l => c_X12_putsLaw l (p1 - (1 : Int32)) s10 q13 hq) zv_X12_putsLaw lm_X12_280 rfl rfl rfl rfl rfl rfl (Nat.le_of_ble_eq_true rfl) ⟨Nat.le_of_ble_eq_true rfl, Nat.le_of_ble_eq_true rfl⟩ (zdg D_X12_text 49 (85, .invokevirtual 280, 3) rfl) ?_
          exact z_iret (pc := 88) rfl rfl (zdg D_X12_text 50 (88, .ireturn, 1) rfl) (hP _ _ hf)
        · refine z_aload_n (pc := 74) 1 (zdg D_X12_text 42 (74, .aload_n 0, 1) rfl) rfl rfl ?_
          refine z_bind hn hf (fun q14 hq hf => ?_)
          refine z_callV (pc := 75) (rest := []) (st2 := [zI q14.1]) (fun l => c_X12_putsWalkers l s10 q14 hq) zv_X12_putsWalkers lm_X12_277 rfl rfl rfl rfl rfl rfl (Nat.le_of_ble_eq_true rfl) ⟨Nat.le_of_ble_eq_true rfl, Nat.le_of_ble_eq_true rfl⟩ (zdg D_X12_text 43 (75, .invokevirtual 277, 3) rfl) ?_
          refine z_goto (pc := 78) 88 (zdg D_X12_text 44 (78, .goto 10, 3) rfl) rfl ?_
          exact z_iret (pc := 88) rfl rfl (zdg D_X12_text 50 (88, .ireturn, 1) rfl) (hP _ _ hf)
    refine z_aload_n (pc := 0) 0 (zdg D_X12_text 0 (0, .aload_n 0, 1) rfl) rfl rfl ?_
    refine z_iconst (pc := 1) (v := 0) (zdg D_X12_text 1 (1, .iconst 0, 1) rfl) rfl ?_
    refine z_putI (pc := 2) lw_X12_268 rfl rfl rfl rfl (zdg D_X12_text 2 (2, .putfield 268, 3) rfl) ?_
    refine z_nmS hf (fun s1 hf => ?_)
    refine z_aload_n (pc := 5) 0 (zdg D_X12_text 3 (5, .aload_n 0, 1) rfl) rfl rfl ?_
    refine z_iconst (pc := 6) (v := -1) (zdg D_X12_text 4 (6, .iconst (-1), 1) rfl) rfl ?_
    refine z_putI (pc := 7) lw_X12_40 rfl rfl rfl rfl (zdg D_X12_text 5 (7, .putfield 40, 3) rfl) ?_
    refine z_nmS hf (fun s2 hf => ?_)
    refine z_iload_n (pc := 10) 1 (zdg D_X12_text 6 (10, .iload_n 1, 1) rfl) rfl rfl ?_
    refine z_iconst (pc := 11) (v := 0) (zdg D_X12_text 7 (11, .iconst 0, 1) rfl) rfl ?_
    refine z_iconst (pc := 12) (v := 2) (zdg D_X12_text 8 (12, .iconst 2, 1) rfl) rfl ?_
    refine z_callS (pc := 13) (rest := []) (st2 := [zI (f_X12_isIn p1 (0 : Int32) (2 : Int32))]) (fun l => c_X12_isIn l p1 (0 : Int32) (2 : Int32) s2) zs_X12_isIn lm_X12_64 rfl rfl rfl (Nat.le_of_ble_eq_true rfl) ⟨Nat.le_of_ble_eq_true rfl, Nat.le_of_ble_eq_true rfl⟩ (zdg D_X12_text 9 (13, .invokestatic 64, 3) rfl) ?_
    refine z_if_ne (pc := 16) 26 (zdg D_X12_text 10 (16, .ifCond .ne 10, 3) rfl) rfl hf (fun hf => ?_) (fun hf => ?_)
    · refine z_aload_n (pc := 26) 0 (zdg D_X12_text 16 (26, .aload_n 0, 1) rfl) rfl rfl ?_
      refine z_iconst (pc := 27) (v := 0) (zdg D_X12_text 17 (27, .iconst 0, 1) rfl) rfl ?_
      refine z_putI (pc := 28) lw_X12_175 rfl rfl rfl rfl (zdg D_X12_text 18 (28, .putfield 175, 3) rfl) ?_
      refine z_nmS hf (fun s3 hf => ?_)
      refine z_aload_n (pc := 31) 0 (zdg D_X12_text 19 (31, .aload_n 0, 1) rfl) rfl rfl ?_
      refine z_iconst (pc := 32) (v := 0) (zdg D_X12_text 20 (32, .iconst 0, 1) rfl) rfl ?_
      refine z_putI (pc := 33) lw_X12_80 rfl rfl rfl rfl (zdg D_X12_text 21 (33, .putfield 80, 3) rfl) ?_
      refine z_nmS hf (fun s4 hf => ?_)
      refine z_aload_n (pc := 36) 0 (zdg D_X12_text 22 (36, .aload_n 0, 1) rfl) rfl rfl ?_
      refine z_iload_n (pc := 37) 1 (zdg D_X12_text 23 (37, .iload_n 1, 1) rfl) rfl rfl ?_
      refine z_putI (pc := 38) lw_X12_135 rfl rfl rfl rfl (zdg D_X12_text 24 (38, .putfield 135, 3) rfl) ?_
      refine z_nmS hf (fun s5 hf => ?_)
      refine z_aload_n (pc := 41) 0 (zdg D_X12_text 25 (41, .aload_n 0, 1) rfl) rfl rfl ?_
      refine z_bind hn hf (fun q6 hq hf => ?_)
      refine z_callV (pc := 42) (rest := []) (st2 := []) (fun l => c_X12_next0 l s5 q6 hq) zv_X12_next0 lm_X12_184 rfl rfl rfl rfl rfl rfl (Nat.le_of_ble_eq_true rfl) ⟨Nat.le_of_ble_eq_true rfl, Nat.le_of_ble_eq_true rfl⟩ (zdg D_X12_text 26 (42, .invokevirtual 184, 3) rfl) ?_
      refine z_iload_n (pc := 45) 1 (zdg D_X12_text 27 (45, .iload_n 1, 1) rfl) rfl rfl ?_
      refine z_if_ne (pc := 46) 56 (zdg D_X12_text 28 (46, .ifCond .ne 10, 3) rfl) rfl hf (fun hf => ?_) (fun hf => ?_)
      · refine z_aload_n (pc := 56) 0 (zdg D_X12_text 32 (56, .aload_n 0, 1) rfl) rfl rfl ?_
        refine z_bind hn hf (fun q7 hq hf => ?_)
        refine z_callV (pc := 57) (rest := []) (st2 := [zI q7.1]) (fun l => c_X12_readsLaw l q6 q7 hq) zv_X12_readsLaw lm_X12_274 rfl rfl rfl rfl rfl rfl (Nat.le_of_ble_eq_true rfl) ⟨Nat.le_of_ble_eq_true rfl, Nat.le_of_ble_eq_true rfl⟩ (zdg D_X12_text 33 (57, .invokevirtual 274, 3) rfl) ?_
        exact t_60 q7.1 q7.2 hf
      · refine z_aload_n (pc := 49) 0 (zdg D_X12_text 29 (49, .aload_n 0, 1) rfl) rfl rfl ?_
        refine z_bind hn hf (fun q15 hq hf => ?_)
        refine z_callV (pc := 50) (rest := []) (st2 := [zI q15.1]) (fun l => c_X12_readsWalkers l q6 q15 hq) zv_X12_readsWalkers lm_X12_271 rfl rfl rfl rfl rfl rfl (Nat.le_of_ble_eq_true rfl) ⟨Nat.le_of_ble_eq_true rfl, Nat.le_of_ble_eq_true rfl⟩ (zdg D_X12_text 30 (50, .invokevirtual 271, 3) rfl) ?_
        refine z_goto (pc := 53) 60 (zdg D_X12_text 31 (53, .goto 7, 3) rfl) rfl ?_
        exact t_60 q15.1 q15.2 hf
    · refine z_aload_n (pc := 19) 0 (zdg D_X12_text 11 (19, .aload_n 0, 1) rfl) rfl rfl ?_
      refine z_iconst (pc := 20) (v := 0) (zdg D_X12_text 12 (20, .iconst 0, 1) rfl) rfl ?_
      refine z_putI (pc := 21) lw_X12_77 rfl rfl rfl rfl (zdg D_X12_text 13 (21, .putfield 77, 3) rfl) ?_
      refine z_nmS hf (fun s16 hf => ?_)
      refine z_iconst (pc := 24) (v := -1) (zdg D_X12_text 14 (24, .iconst (-1), 1) rfl) rfl ?_
      exact z_iret (pc := 25) rfl rfl (zdg D_X12_text 15 (25, .ireturn, 1) rfl) (hP _ _ hf)

def L_X12_fault : List (Nat × Instr × Nat) := [(0, .iload_n 1, 1), (1, .ifCond .ne 10, 3), (4, .aload_n 0, 1), (5, .getfield 268, 3), (8, .goto 16, 3), (11, .iload_n 1, 1), (12, .iconst 1, 1), (13, .if_icmp .ne 10, 3), (16, .aload_n 0, 1), (17, .getfield 40, 3), (20, .goto 4, 3), (23, .iconst (-1), 1), (24, .ireturn, 1)]
set_option maxRecDepth 100000 in
theorem D_X12_fault : zdecs cX12_fault L_X12_fault = true := by decide +kernel
noncomputable def f_X12_fault (p1 : Int32) (σ : zG) : Int32 :=
  if p1 = 0 then (σ.1 0 0 23) else if p1 = (1 : Int32) then (σ.1 0 0 25) else (-1 : Int32)
set_option maxRecDepth 100000 in
set_option maxHeartbeats 4000000 in
theorem c_X12_fault (l : Launch) (p1 : Int32) (σ : zG) : zMet l zsyM m_X12_fault yX12_fault [zR 0 0, zI p1] σ (some (zI (f_X12_fault p1 σ))) σ := by
  refine zEnter [(0, zR 0 0), (1, zI p1)] (by decide) rfl (fun _ => Nat.le_of_ble_eq_true rfl) (fun _ => rfl) (fun w h => ?_) (fun K hv hs => ?_)
  · exact zokm rfl h
  · have hP : ∀ x, f_X12_fault p1 σ = x → zKv K = some (zI x) ∧ zKs K = σ := fun x h => by rw [h] at hv; exact ⟨hv, hs⟩
    have hf := f_X12_fault.eq_1 p1 σ
    refine z_iload_n (pc := 0) 1 (zdg D_X12_fault 0 (0, .iload_n 1, 1) rfl) rfl rfl ?_
    refine z_if_ne (pc := 1) 11 (zdg D_X12_fault 1 (1, .ifCond .ne 10, 3) rfl) rfl hf (fun hf => ?_) (fun hf => ?_)
    · refine z_iload_n (pc := 11) 1 (zdg D_X12_fault 5 (11, .iload_n 1, 1) rfl) rfl rfl ?_
      refine z_iconst (pc := 12) (v := 1) (zdg D_X12_fault 6 (12, .iconst 1, 1) rfl) rfl ?_
      refine z_icmp_ne (pc := 13) 23 (zdg D_X12_fault 7 (13, .if_icmp .ne 10, 3) rfl) rfl hf (fun hf => ?_) (fun hf => ?_)
      · refine z_iconst (pc := 23) (v := -1) (zdg D_X12_fault 11 (23, .iconst (-1), 1) rfl) rfl ?_
        exact z_iret (pc := 24) rfl rfl (zdg D_X12_fault 12 (24, .ireturn, 1) rfl) (hP _ hf)
      · refine z_aload_n (pc := 16) 0 (zdg D_X12_fault 8 (16, .aload_n 0, 1) rfl) rfl rfl ?_
        refine z_getI (pc := 17) lf_X12_40 rfl rfl (zdg D_X12_fault 9 (17, .getfield 40, 3) rfl) ?_
        refine z_goto (pc := 20) 24 (zdg D_X12_fault 10 (20, .goto 4, 3) rfl) rfl ?_
        exact z_iret (pc := 24) rfl rfl (zdg D_X12_fault 12 (24, .ireturn, 1) rfl) (hP _ hf)
    · refine z_aload_n (pc := 4) 0 (zdg D_X12_fault 2 (4, .aload_n 0, 1) rfl) rfl rfl ?_
      refine z_getI (pc := 5) lf_X12_268 rfl rfl (zdg D_X12_fault 3 (5, .getfield 268, 3) rfl) ?_
      refine z_goto (pc := 8) 24 (zdg D_X12_fault 4 (8, .goto 16, 3) rfl) rfl ?_
      exact z_iret (pc := 24) rfl rfl (zdg D_X12_fault 12 (24, .ireturn, 1) rfl) (hP _ hf)

def L_X12_both : List (Nat × Instr × Nat) := [(0, .iload_n 0, 1), (1, .tableswitch 100 23 31 #[51, 55, 59, 100, 63, 74, 85, 100, 96], 51), (52, .iload_n 1, 1), (53, .iload_n 2, 1), (54, .iadd, 1), (55, .ireturn, 1), (56, .iload_n 1, 1), (57, .iload_n 2, 1), (58, .isub, 1), (59, .ireturn, 1), (60, .iload_n 1, 1), (61, .iload_n 2, 1), (62, .imul, 1), (63, .ireturn, 1), (64, .iload_n 1, 1), (65, .iload_n 2, 1), (66, .if_icmp .ge 7, 3), (69, .iconst 1, 1), (70, .goto 4, 3), (73, .iconst 0, 1), (74, .ireturn, 1), (75, .iload_n 1, 1), (76, .iload_n 2, 1), (77, .if_icmp .ne 7, 3), (80, .iconst 1, 1), (81, .goto 4, 3), (84, .iconst 0, 1), (85, .ireturn, 1), (86, .iload_n 1, 1), (87, .iload_n 2, 1), (88, .if_icmp .le 7, 3), (91, .iconst 1, 1), (92, .goto 4, 3), (95, .iconst 0, 1), (96, .ireturn, 1), (97, .iload_n 1, 1), (98, .iload_n 2, 1), (99, .iand, 1), (100, .ireturn, 1), (101, .iload_n 1, 1), (102, .iload_n 2, 1), (103, .ior, 1), (104, .ireturn, 1)]
set_option maxRecDepth 100000 in
theorem D_X12_both : zdecs cX12_both L_X12_both = true := by decide +kernel
noncomputable def f_X12_both (p1 : Int32) (p2 : Int32) (p3 : Int32) : Int32 :=
  if p1 = 23 then (p2 + p3) else if p1 = 24 then (p2 - p3) else if p1 = 25 then (p2 * p3) else if p1 = 26 then (p2 ||| p3) else if p1 = 27 then if p2 < p3 then (1 : Int32) else (0 : Int32) else if p1 = 28 then if p2 = p3 then (1 : Int32) else (0 : Int32) else if p1 = 29 then if p3 < p2 then (1 : Int32) else (0 : Int32) else if p1 = 30 then (p2 ||| p3) else if p1 = 31 then (p2 &&& p3) else (p2 ||| p3)
set_option maxRecDepth 100000 in
set_option maxHeartbeats 4000000 in
theorem c_X12_both (l : Launch) (p1 : Int32) (p2 : Int32) (p3 : Int32) (σ : zG) : zMet l zsyM m_X12_both yX12_both [zI p1, zI p2, zI p3] σ (some (zI (f_X12_both p1 p2 p3))) σ := by
  refine zEnter [(0, zI p1), (1, zI p2), (2, zI p3)] (by decide) rfl (fun _ => Nat.le_of_ble_eq_true rfl) (fun _ => rfl) (fun w h => ?_) (fun K hv hs => ?_)
  · exact zokm rfl h
  · have hP : ∀ x, f_X12_both p1 p2 p3 = x → zKv K = some (zI x) ∧ zKs K = σ := fun x h => by rw [h] at hv; exact ⟨hv, hs⟩
    have hf := f_X12_both.eq_1 p1 p2 p3
    refine z_iload_n (pc := 0) 0 (zdg D_X12_both 0 (0, .iload_n 0, 1) rfl) rfl rfl ?_
    refine zif hf (fun hc0 hf => ?_) (fun hc0 hf => ?_)
    · refine z_tsIn (pc := 1) (c := 23) (j := 0) 52 (zdg D_X12_both 1 (1, .tableswitch 100 23 31 #[51, 55, 59, 100, 63, 74, 85, 100, 96], 51) rfl) hc0 (by decide) (by decide) rfl rfl rfl ?_
      refine z_iload_n (pc := 52) 1 (zdg D_X12_both 2 (52, .iload_n 1, 1) rfl) rfl rfl ?_
      refine z_iload_n (pc := 53) 2 (zdg D_X12_both 3 (53, .iload_n 2, 1) rfl) rfl rfl ?_
      refine z_iadd (pc := 54) (zdg D_X12_both 4 (54, .iadd, 1) rfl) ?_
      exact z_iret (pc := 55) rfl rfl (zdg D_X12_both 5 (55, .ireturn, 1) rfl) (hP _ hf)
    · skip
      refine zif hf (fun hc1 hf => ?_) (fun hc1 hf => ?_)
      · refine z_tsIn (pc := 1) (c := 24) (j := 1) 56 (zdg D_X12_both 1 (1, .tableswitch 100 23 31 #[51, 55, 59, 100, 63, 74, 85, 100, 96], 51) rfl) hc1 (by decide) (by decide) rfl rfl rfl ?_
        refine z_iload_n (pc := 56) 1 (zdg D_X12_both 6 (56, .iload_n 1, 1) rfl) rfl rfl ?_
        refine z_iload_n (pc := 57) 2 (zdg D_X12_both 7 (57, .iload_n 2, 1) rfl) rfl rfl ?_
        refine z_isub (pc := 58) (zdg D_X12_both 8 (58, .isub, 1) rfl) ?_
        exact z_iret (pc := 59) rfl rfl (zdg D_X12_both 9 (59, .ireturn, 1) rfl) (hP _ hf)
      · skip
        refine zif hf (fun hc2 hf => ?_) (fun hc2 hf => ?_)
        · refine z_tsIn (pc := 1) (c := 25) (j := 2) 60 (zdg D_X12_both 1 (1, .tableswitch 100 23 31 #[51, 55, 59, 100, 63, 74, 85, 100, 96], 51) rfl) hc2 (by decide) (by decide) rfl rfl rfl ?_
          refine z_iload_n (pc := 60) 1 (zdg D_X12_both 10 (60, .iload_n 1, 1) rfl) rfl rfl ?_
          refine z_iload_n (pc := 61) 2 (zdg D_X12_both 11 (61, .iload_n 2, 1) rfl) rfl rfl ?_
          refine z_imul (pc := 62) (zdg D_X12_both 12 (62, .imul, 1) rfl) ?_
          exact z_iret (pc := 63) rfl rfl (zdg D_X12_both 13 (63, .ireturn, 1) rfl) (hP _ hf)
        · skip
          refine zif hf (fun hc3 hf => ?_) (fun hc3 hf => ?_)
          · refine z_tsIn (pc := 1) (c := 26) (j := 3) 101 (zdg D_X12_both 1 (1, .tableswitch 100 23 31 #[51, 55, 59, 100, 63, 74, 85, 100, 96], 51) rfl) hc3 (by decide) (by decide) rfl rfl rfl ?_
            refine z_iload_n (pc := 101) 1 (zdg D_X12_both 39 (101, .iload_n 1, 1) rfl) rfl rfl ?_
            refine z_iload_n (pc := 102) 2 (zdg D_X12_both 40 (102, .iload_n 2, 1) rfl) rfl rfl ?_
            refine z_ior (pc := 103) (zdg D_X12_both 41 (103, .ior, 1) rfl) ?_
            exact z_iret (pc := 104) rfl rfl (zdg D_X12_both 42 (104, .ireturn, 1) rfl) (hP _ hf)
          · skip
            refine zif hf (fun hc4 hf => ?_) (fun hc4 hf => ?_)
            · refine z_tsIn (pc := 1) (c := 27) (j := 4) 64 (zdg D_X12_both 1 (1, .tableswitch 100 23 31 #[51, 55, 59, 100, 63, 74, 85, 100, 96], 51) rfl) hc4 (by decide) (by decide) rfl rfl rfl ?_
              refine z_iload_n (pc := 64) 1 (zdg D_X12_both 14 (64, .iload_n 1, 1) rfl) rfl rfl ?_
              refine z_iload_n (pc := 65) 2 (zdg D_X12_both 15 (65, .iload_n 2, 1) rfl) rfl rfl ?_
              refine z_icmp_ge (pc := 66) 73 (zdg D_X12_both 16 (66, .if_icmp .ge 7, 3) rfl) rfl hf (fun hf => ?_) (fun hf => ?_)
              · refine z_iconst (pc := 73) (v := 0) (zdg D_X12_both 19 (73, .iconst 0, 1) rfl) rfl ?_
                exact z_iret (pc := 74) rfl rfl (zdg D_X12_both 20 (74, .ireturn, 1) rfl) (hP _ hf)
              · refine z_iconst (pc := 69) (v := 1) (zdg D_X12_both 17 (69, .iconst 1, 1) rfl) rfl ?_
                refine z_goto (pc := 70) 74 (zdg D_X12_both 18 (70, .goto 4, 3) rfl) rfl ?_
                exact z_iret (pc := 74) rfl rfl (zdg D_X12_both 20 (74, .ireturn, 1) rfl) (hP _ hf)
            · skip
              refine zif hf (fun hc5 hf => ?_) (fun hc5 hf => ?_)
              · refine z_tsIn (pc := 1) (c := 28) (j := 5) 75 (zdg D_X12_both 1 (1, .tableswitch 100 23 31 #[51, 55, 59, 100, 63, 74, 85, 100, 96], 51) rfl) hc5 (by decide) (by decide) rfl rfl rfl ?_
                refine z_iload_n (pc := 75) 1 (zdg D_X12_both 21 (75, .iload_n 1, 1) rfl) rfl rfl ?_
                refine z_iload_n (pc := 76) 2 (zdg D_X12_both 22 (76, .iload_n 2, 1) rfl) rfl rfl ?_
                refine z_icmp_ne (pc := 77) 84 (zdg D_X12_both 23 (77, .if_icmp .ne 7, 3) rfl) rfl hf (fun hf => ?_) (fun hf => ?_)
                · refine z_iconst (pc := 84) (v := 0) (zdg D_X12_both 26 (84, .iconst 0, 1) rfl) rfl ?_
                  exact z_iret (pc := 85) rfl rfl (zdg D_X12_both 27 (85, .ireturn, 1) rfl) (hP _ hf)
                · refine z_iconst (pc := 80) (v := 1) (zdg D_X12_both 24 (80, .iconst 1, 1) rfl) rfl ?_
                  refine z_goto (pc := 81) 85 (zdg D_X12_both 25 (81, .goto 4, 3) rfl) rfl ?_
                  exact z_iret (pc := 85) rfl rfl (zdg D_X12_both 27 (85, .ireturn, 1) rfl) (hP _ hf)
              · skip
                refine zif hf (fun hc6 hf => ?_) (fun hc6 hf => ?_)
                · refine z_tsIn (pc := 1) (c := 29) (j := 6) 86 (zdg D_X12_both 1 (1, .tableswitch 100 23 31 #[51, 55, 59, 100, 63, 74, 85, 100, 96], 51) rfl) hc6 (by decide) (by decide) rfl rfl rfl ?_
                  refine z_iload_n (pc := 86) 1 (zdg D_X12_both 28 (86, .iload_n 1, 1) rfl) rfl rfl ?_
                  refine z_iload_n (pc := 87) 2 (zdg D_X12_both 29 (87, .iload_n 2, 1) rfl) rfl rfl ?_
                  refine z_icmp_le (pc := 88) 95 (zdg D_X12_both 30 (88, .if_icmp .le 7, 3) rfl) rfl hf (fun hf => ?_) (fun hf => ?_)
                  · refine z_iconst (pc := 95) (v := 0) (zdg D_X12_both 33 (95, .iconst 0, 1) rfl) rfl ?_
                    exact z_iret (pc := 96) rfl rfl (zdg D_X12_both 34 (96, .ireturn, 1) rfl) (hP _ hf)
                  · refine z_iconst (pc := 91) (v := 1) (zdg D_X12_both 31 (91, .iconst 1, 1) rfl) rfl ?_
                    refine z_goto (pc := 92) 96 (zdg D_X12_both 32 (92, .goto 4, 3) rfl) rfl ?_
                    exact z_iret (pc := 96) rfl rfl (zdg D_X12_both 34 (96, .ireturn, 1) rfl) (hP _ hf)
                · skip
                  refine zif hf (fun hc7 hf => ?_) (fun hc7 hf => ?_)
                  · refine z_tsIn (pc := 1) (c := 30) (j := 7) 101 (zdg D_X12_both 1 (1, .tableswitch 100 23 31 #[51, 55, 59, 100, 63, 74, 85, 100, 96], 51) rfl) hc7 (by decide) (by decide) rfl rfl rfl ?_
                    refine z_iload_n (pc := 101) 1 (zdg D_X12_both 39 (101, .iload_n 1, 1) rfl) rfl rfl ?_
                    refine z_iload_n (pc := 102) 2 (zdg D_X12_both 40 (102, .iload_n 2, 1) rfl) rfl rfl ?_
                    refine z_ior (pc := 103) (zdg D_X12_both 41 (103, .ior, 1) rfl) ?_
                    exact z_iret (pc := 104) rfl rfl (zdg D_X12_both 42 (104, .ireturn, 1) rfl) (hP _ hf)
                  · skip
                    refine zif hf (fun hc8 hf => ?_) (fun hc8 hf => ?_)
                    · refine z_tsIn (pc := 1) (c := 31) (j := 8) 97 (zdg D_X12_both 1 (1, .tableswitch 100 23 31 #[51, 55, 59, 100, 63, 74, 85, 100, 96], 51) rfl) hc8 (by decide) (by decide) rfl rfl rfl ?_
                      refine z_iload_n (pc := 97) 1 (zdg D_X12_both 35 (97, .iload_n 1, 1) rfl) rfl rfl ?_
                      refine z_iload_n (pc := 98) 2 (zdg D_X12_both 36 (98, .iload_n 2, 1) rfl) rfl rfl ?_
                      refine z_iand (pc := 99) (zdg D_X12_both 37 (99, .iand, 1) rfl) ?_
                      exact z_iret (pc := 100) rfl rfl (zdg D_X12_both 38 (100, .ireturn, 1) rfl) (hP _ hf)
                    · skip
                      refine z_tsOut (pc := 1) 101 (zdg D_X12_both 1 (1, .tableswitch 100 23 31 #[51, 55, 59, 100, 63, 74, 85, 100, 96], 51) rfl) (by have e0 := lv_neT hc0 (k := 23) (a := 23) rfl; have e1 := lv_neT hc1 (k := 24) (a := 24) rfl; have e2 := lv_neT hc2 (k := 25) (a := 25) rfl; have e3 := lv_neT hc3 (k := 26) (a := 26) rfl; have e4 := lv_neT hc4 (k := 27) (a := 27) rfl; have e5 := lv_neT hc5 (k := 28) (a := 28) rfl; have e6 := lv_neT hc6 (k := 29) (a := 29) rfl; have e7 := lv_neT hc7 (k := 30) (a := 30) rfl; have e8 := lv_neT hc8 (k := 31) (a := 31) rfl; omega) rfl ?_
                      refine z_iload_n (pc := 101) 1 (zdg D_X12_both 39 (101, .iload_n 1, 1) rfl) rfl rfl ?_
                      refine z_iload_n (pc := 102) 2 (zdg D_X12_both 40 (102, .iload_n 2, 1) rfl) rfl rfl ?_
                      refine z_ior (pc := 103) (zdg D_X12_both 41 (103, .ior, 1) rfl) ?_
                      exact z_iret (pc := 104) rfl rfl (zdg D_X12_both 42 (104, .ireturn, 1) rfl) (hP _ hf)

def L_X12_comesTo : List (Nat × Instr × Nat) := [(0, .iconst 0, 1), (1, .istore 4, 2), (3, .iload_n 2, 1), (4, .istore 5, 2), (6, .iload 5, 2), (8, .iload_n 3, 1), (9, .if_icmp .ge 177, 3), (12, .aload_n 0, 1), (13, .getfield 7, 3), (16, .sipush 7608, 3), (19, .sipush 820, 3), (22, .iload_n 1, 1), (23, .imul, 1), (24, .iadd, 1), (25, .iconst 2, 1), (26, .iload 5, 2), (28, .imul, 1), (29, .iadd, 1), (30, .iaload, 1), (31, .istore 6, 2), (33, .aload_n 0, 1), (34, .getfield 7, 3), (37, .sipush 7608, 3), (40, .sipush 820, 3), (43, .iload_n 1, 1), (44, .imul, 1), (45, .iadd, 1), (46, .iconst 2, 1), (47, .iload 5, 2), (49, .imul, 1), (50, .iadd, 1), (51, .iconst 1, 1), (52, .iadd, 1), (53, .iaload, 1), (54, .istore 7, 2), (56, .iload 6, 2), (58, .bipush 23, 2), (60, .if_icmp .ge 33, 3), (63, .aload_n 0, 1), (64, .getfield 34, 3), (67, .iload 4, 2), (69, .iload 6, 2), (71, .ifCond .ne 8, 3), (74, .iload 7, 2), (76, .goto 10, 3), (79, .aload_n 0, 1), (80, .getfield 37, 3), (83, .iload 6, 2), (85, .iaload, 1), (86, .iastore, 1), (87, .iinc 4 1, 3), (90, .goto 90, 3), (93, .iload 6, 2), (95, .bipush 26, 2), (97, .if_icmp .ne 20, 3), (100, .aload_n 0, 1), (101, .getfield 34, 3), (104, .iload 4, 2), (106, .iconst 1, 1), (107, .isub, 1), (108, .dup2, 1), (109, .iaload, 1), (110, .iload 7, 2), (112, .idiv, 1), (113, .iastore, 1), (114, .goto 66, 3), (117, .iload 6, 2), (119, .bipush 30, 2), (121, .if_icmp .ne 26, 3), (124, .aload_n 0, 1), (125, .getfield 34, 3), (128, .iload 4, 2), (130, .iconst 1, 1), (131, .isub, 1), (132, .iconst 1, 1), (133, .aload_n 0, 1), (134, .getfield 34, 3), (137, .iload 4, 2), (139, .iconst 1, 1), (140, .isub, 1), (141, .iaload, 1), (142, .isub, 1), (143, .iastore, 1), (144, .goto 36, 3), (147, .iinc 4 (-1), 3), (150, .aload_n 0, 1), (151, .getfield 34, 3), (154, .iload 4, 2), (156, .iconst 1, 1), (157, .isub, 1), (158, .iload 6, 2), (160, .aload_n 0, 1), (161, .getfield 34, 3), (164, .iload 4, 2), (166, .iconst 1, 1), (167, .isub, 1), (168, .iaload, 1), (169, .aload_n 0, 1), (170, .getfield 34, 3), (173, .iload 4, 2), (175, .iaload, 1), (176, .invokestatic 283, 3), (179, .iastore, 1), (180, .iinc 5 1, 3), (183, .goto (-177), 3), (186, .aload_n 0, 1), (187, .getfield 34, 3), (190, .iconst 0, 1), (191, .iaload, 1), (192, .ireturn, 1)]
set_option maxRecDepth 100000 in
theorem D_X12_comesTo : zdecs cX12_comesTo L_X12_comesTo = true := by decide +kernel
noncomputable def b_X12_comesTo_6 (p3 : Int32) (p1 : Int32) (v4_1 : Int32) (v5_2 : Int32) (s3 : zG) : Option ((Int32 × Int32 × zG) ⊕ (zG)) :=
  if v5_2 < p3 then zg (zin (((7608 : Int32) + ((820 : Int32) * p1)) + ((2 : Int32) * v5_2)) 9248) (zb (s3.1 1 0 (((7608 : Int32) + ((820 : Int32) * p1)) + ((2 : Int32) * v5_2)).toNatClampNeg) (fun x4 => zg (zin ((((7608 : Int32) + ((820 : Int32) * p1)) + ((2 : Int32) * v5_2)) + (1 : Int32)) 9248) (zb (s3.1 1 0 ((((7608 : Int32) + ((820 : Int32) * p1)) + ((2 : Int32) * v5_2)) + (1 : Int32)).toNatClampNeg) (fun x5 => if x4 < (23 : Int32) then if x4 = 0 then zg (zin v4_1 420) (zb (zwI s3 9 0 v4_1.toNatClampNeg x5) (fun s10 => some (Sum.inl ((v4_1 + 1), (v5_2 + 1), s10)))) else zg (zin x4 9) (zg (zin v4_1 420) (zb (zwI s3 9 0 v4_1.toNatClampNeg (s3.1 10 0 x4.toNatClampNeg)) (fun s9 => some (Sum.inl ((v4_1 + 1), (v5_2 + 1), s9))))) else if x4 = (26 : Int32) then zg (zin (v4_1 - (1 : Int32)) 420) (zg (x5 != 0) (zg (zin (v4_1 - (1 : Int32)) 420) (zb (zwI s3 9 0 (v4_1 - (1 : Int32)).toNatClampNeg ((s3.1 9 0 (v4_1 - (1 : Int32)).toNatClampNeg) / x5)) (fun s8 => some (Sum.inl (v4_1, (v5_2 + 1), s8)))))) else if x4 = (30 : Int32) then zg (zin (v4_1 - (1 : Int32)) 420) (zg (zin (v4_1 - (1 : Int32)) 420) (zb (zwI s3 9 0 (v4_1 - (1 : Int32)).toNatClampNeg ((1 : Int32) - (s3.1 9 0 (v4_1 - (1 : Int32)).toNatClampNeg))) (fun s7 => some (Sum.inl (v4_1, (v5_2 + 1), s7))))) else zg (zin ((v4_1 + (-1)) - (1 : Int32)) 420) (zg (zin (v4_1 + (-1)) 420) (zg (zin ((v4_1 + (-1)) - (1 : Int32)) 420) (zb (zwI s3 9 0 ((v4_1 + (-1)) - (1 : Int32)).toNatClampNeg (f_X12_both x4 (s3.1 9 0 ((v4_1 + (-1)) - (1 : Int32)).toNatClampNeg) (s3.1 9 0 (v4_1 + (-1)).toNatClampNeg))) (fun s6 => some (Sum.inl ((v4_1 + (-1)), (v5_2 + 1), s6)))))))))) else some (Sum.inr s3)
noncomputable def f_X12_comesTo (p1 : Int32) (p2 : Int32) (p3 : Int32) (σ : zG) : Option (Int32 × zG) :=
  (zlp (fun q : Int32 × Int32 × zG => b_X12_comesTo_6 p3 p1 q.1 q.2.1 q.2.2) ((0 : Int32), p2, σ)).bind (fun e11 : zG => some ((e11.1 9 0 0), e11))
set_option maxRecDepth 100000 in
set_option maxHeartbeats 4000000 in
theorem c_X12_comesTo (l : Launch) (p1 : Int32) (p2 : Int32) (p3 : Int32) (σ : zG) (q : Int32 × zG) (hq : f_X12_comesTo p1 p2 p3 σ = some q) : zMet l zsyM m_X12_comesTo yX12_comesTo [zR 0 0, zI p1, zI p2, zI p3] σ (some (zI q.1)) q.2 := by
  refine zEnter [(0, zR 0 0), (1, zI p1), (2, zI p2), (3, zI p3)] (by decide) rfl (fun _ => Nat.le_of_ble_eq_true rfl) (fun _ => rfl) (fun w h => ?_) (fun K hv hs => ?_)
  · exact zokm rfl h
  · have hP : ∀ x s, f_X12_comesTo p1 p2 p3 σ = some (x, s) → zKv K = some (zI x) ∧ zKs K = s := fun x s h => by rw [hq] at h; cases h; exact ⟨hv, hs⟩
    have hn : f_X12_comesTo p1 p2 p3 σ ≠ none := fun z => by rw [hq] at z; cases z
    have hf := f_X12_comesTo.eq_1 p1 p2 p3 σ
    refine z_iconst (pc := 0) (v := 0) (zdg D_X12_comesTo 0 (0, .iconst 0, 1) rfl) rfl ?_
    refine z_istore (pc := 1) (al' := [(4, zI (0 : Int32)), (0, zR 0 0), (1, zI p1), (2, zI p2), (3, zI p3)]) (zdg D_X12_comesTo 1 (1, .istore 4, 2) rfl) (by decide) rfl ?_
    refine z_iload_n (pc := 3) 3 (zdg D_X12_comesTo 2 (3, .iload_n 2, 1) rfl) rfl rfl ?_
    refine z_istore (pc := 4) (al' := [(5, zI p2), (4, zI (0 : Int32)), (0, zR 0 0), (1, zI p1), (2, zI p2), (3, zI p3)]) (zdg D_X12_comesTo 3 (4, .istore 5, 2) rfl) (by decide) rfl ?_
    refine z_sub (al' := [(0, zR 0 0), (1, zI p1), (3, zI p3), (4, zI (0 : Int32)), (5, zI p2)]) [2, 3, 5, 1, 0] rfl ?_
    refine z_loop (f := (fun q : Int32 × Int32 × zG => b_X12_comesTo_6 p3 p1 q.1 q.2.1 q.2.2)) (a := ((0 : Int32), p2, σ)) (fun q : Int32 × Int32 × zG => zX zsyM m_X12_comesTo K 6 [(0, zR 0 0), (1, zI p1), (3, zI p3), (4, zI q.1), (5, zI q.2.1)] [] q.2.2) (fun e11 : zG => zX zsyM m_X12_comesTo K 186 [(0, zR 0 0)] [] e11) hn hf ?_ ?_
    · intro e11 hf
      refine z_aload_n (pc := 186) 0 (zdg D_X12_comesTo 105 (186, .aload_n 0, 1) rfl) rfl rfl ?_
      refine z_getR (pc := 187) (g := 9) (j := 0) lf_X12_34 rfl rfl rfl (zdg D_X12_comesTo 106 (187, .getfield 34, 3) rfl) ?_
      refine z_iconst (pc := 190) (v := 0) (zdg D_X12_comesTo 107 (190, .iconst 0, 1) rfl) rfl ?_
      refine z_ialdC (pc := 191) (j := 0) rfl (fun _ => rfl) (zdg D_X12_comesTo 108 (191, .iaload, 1) rfl) rfl rfl ?_
      exact z_iret (pc := 192) rfl rfl (zdg D_X12_comesTo 109 (192, .ireturn, 1) rfl) (hP _ _ hf)
    · rintro ⟨v4_1, v5_2, s3⟩ hn hi hx
      have hf := b_X12_comesTo_6.eq_1 p3 p1 v4_1 v5_2 s3
      refine z_iload (pc := 6) 4 (zdg D_X12_comesTo 4 (6, .iload 5, 2) rfl) rfl ?_
      refine z_iload_n (pc := 8) 2 (zdg D_X12_comesTo 5 (8, .iload_n 3, 1) rfl) rfl rfl ?_
      refine z_icmp_ge (pc := 9) 186 (zdg D_X12_comesTo 6 (9, .if_icmp .ge 177, 3) rfl) rfl hf (fun hf => ?_) (fun hf => ?_)
      · refine z_sub (al' := [(0, zR 0 0)]) [0] rfl ?_
        exact hx s3 hf
      · refine z_aload_n (pc := 12) 0 (zdg D_X12_comesTo 7 (12, .aload_n 0, 1) rfl) rfl rfl ?_
        refine z_getR (pc := 13) (g := 1) (j := 0) lf_X12_7 rfl rfl rfl (zdg D_X12_comesTo 8 (13, .getfield 7, 3) rfl) ?_
        refine z_sipush (pc := 16) (v := 7608) (zdg D_X12_comesTo 9 (16, .sipush 7608, 3) rfl) rfl ?_
        refine z_sipush (pc := 19) (v := 820) (zdg D_X12_comesTo 10 (19, .sipush 820, 3) rfl) rfl ?_
        refine z_iload_n (pc := 22) 1 (zdg D_X12_comesTo 11 (22, .iload_n 1, 1) rfl) rfl rfl ?_
        refine z_imul (pc := 23) (zdg D_X12_comesTo 12 (23, .imul, 1) rfl) ?_
        refine z_iadd (pc := 24) (zdg D_X12_comesTo 13 (24, .iadd, 1) rfl) ?_
        refine z_iconst (pc := 25) (v := 2) (zdg D_X12_comesTo 14 (25, .iconst 2, 1) rfl) rfl ?_
        refine z_iload (pc := 26) 4 (zdg D_X12_comesTo 15 (26, .iload 5, 2) rfl) rfl ?_
        refine z_imul (pc := 28) (zdg D_X12_comesTo 16 (28, .imul, 1) rfl) ?_
        refine z_iadd (pc := 29) (zdg D_X12_comesTo 17 (29, .iadd, 1) rfl) ?_
        refine z_iald (pc := 30) rfl (fun _ => rfl) (zdg D_X12_comesTo 18 (30, .iaload, 1) rfl) hn hf (fun hf => ?_)
        refine z_nmI hf (fun x4 hf => ?_)
        refine z_istore (pc := 31) (al' := [(6, zI x4), (0, zR 0 0), (1, zI p1), (3, zI p3), (4, zI v4_1), (5, zI v5_2)]) (zdg D_X12_comesTo 19 (31, .istore 6, 2) rfl) (by decide) rfl ?_
        refine z_aload_n (pc := 33) 1 (zdg D_X12_comesTo 20 (33, .aload_n 0, 1) rfl) rfl rfl ?_
        refine z_getR (pc := 34) (g := 1) (j := 0) lf_X12_7 rfl rfl rfl (zdg D_X12_comesTo 21 (34, .getfield 7, 3) rfl) ?_
        refine z_sipush (pc := 37) (v := 7608) (zdg D_X12_comesTo 22 (37, .sipush 7608, 3) rfl) rfl ?_
        refine z_sipush (pc := 40) (v := 820) (zdg D_X12_comesTo 23 (40, .sipush 820, 3) rfl) rfl ?_
        refine z_iload_n (pc := 43) 2 (zdg D_X12_comesTo 24 (43, .iload_n 1, 1) rfl) rfl rfl ?_
        refine z_imul (pc := 44) (zdg D_X12_comesTo 25 (44, .imul, 1) rfl) ?_
        refine z_iadd (pc := 45) (zdg D_X12_comesTo 26 (45, .iadd, 1) rfl) ?_
        refine z_iconst (pc := 46) (v := 2) (zdg D_X12_comesTo 27 (46, .iconst 2, 1) rfl) rfl ?_
        refine z_iload (pc := 47) 5 (zdg D_X12_comesTo 28 (47, .iload 5, 2) rfl) rfl ?_
        refine z_imul (pc := 49) (zdg D_X12_comesTo 29 (49, .imul, 1) rfl) ?_
        refine z_iadd (pc := 50) (zdg D_X12_comesTo 30 (50, .iadd, 1) rfl) ?_
        refine z_iconst (pc := 51) (v := 1) (zdg D_X12_comesTo 31 (51, .iconst 1, 1) rfl) rfl ?_
        refine z_iadd (pc := 52) (zdg D_X12_comesTo 32 (52, .iadd, 1) rfl) ?_
        refine z_iald (pc := 53) rfl (fun _ => rfl) (zdg D_X12_comesTo 33 (53, .iaload, 1) rfl) hn hf (fun hf => ?_)
        refine z_nmI hf (fun x5 hf => ?_)
        refine z_istore (pc := 54) (al' := [(7, zI x5), (6, zI x4), (0, zR 0 0), (1, zI p1), (3, zI p3), (4, zI v4_1), (5, zI v5_2)]) (zdg D_X12_comesTo 34 (54, .istore 7, 2) rfl) (by decide) rfl ?_
        refine z_iload (pc := 56) 1 (zdg D_X12_comesTo 35 (56, .iload 6, 2) rfl) rfl ?_
        refine z_bipush (pc := 58) (v := 23) (zdg D_X12_comesTo 36 (58, .bipush 23, 2) rfl) rfl ?_
        refine z_icmp_ge (pc := 60) 93 (zdg D_X12_comesTo 37 (60, .if_icmp .ge 33, 3) rfl) rfl hf (fun hf => ?_) (fun hf => ?_)
        · refine z_iload (pc := 93) 1 (zdg D_X12_comesTo 52 (93, .iload 6, 2) rfl) rfl ?_
          refine z_bipush (pc := 95) (v := 26) (zdg D_X12_comesTo 53 (95, .bipush 26, 2) rfl) rfl ?_
          refine z_icmp_ne (pc := 97) 117 (zdg D_X12_comesTo 54 (97, .if_icmp .ne 20, 3) rfl) rfl hf (fun hf => ?_) (fun hf => ?_)
          · refine z_iload (pc := 117) 1 (zdg D_X12_comesTo 66 (117, .iload 6, 2) rfl) rfl ?_
            refine z_bipush (pc := 119) (v := 30) (zdg D_X12_comesTo 67 (119, .bipush 30, 2) rfl) rfl ?_
            refine z_icmp_ne (pc := 121) 147 (zdg D_X12_comesTo 68 (121, .if_icmp .ne 26, 3) rfl) rfl hf (fun hf => ?_) (fun hf => ?_)
            · refine z_iinc (pc := 147) (v0 := (v4_1 + (-1))) (al' := [(4, zI (v4_1 + (-1))), (7, zI x5), (6, zI x4), (0, zR 0 0), (1, zI p1), (3, zI p3), (5, zI v5_2)]) 5 (zdg D_X12_comesTo 84 (147, .iinc 4 (-1), 3) rfl) rfl rfl (by decide) rfl ?_
              refine z_aload_n (pc := 150) 3 (zdg D_X12_comesTo 85 (150, .aload_n 0, 1) rfl) rfl rfl ?_
              refine z_getR (pc := 151) (g := 9) (j := 0) lf_X12_34 rfl rfl rfl (zdg D_X12_comesTo 86 (151, .getfield 34, 3) rfl) ?_
              refine z_iload (pc := 154) 0 (zdg D_X12_comesTo 87 (154, .iload 4, 2) rfl) rfl ?_
              refine z_iconst (pc := 156) (v := 1) (zdg D_X12_comesTo 88 (156, .iconst 1, 1) rfl) rfl ?_
              refine z_isub (pc := 157) (zdg D_X12_comesTo 89 (157, .isub, 1) rfl) ?_
              refine z_iload (pc := 158) 2 (zdg D_X12_comesTo 90 (158, .iload 6, 2) rfl) rfl ?_
              refine z_aload_n (pc := 160) 3 (zdg D_X12_comesTo 91 (160, .aload_n 0, 1) rfl) rfl rfl ?_
              refine z_getR (pc := 161) (g := 9) (j := 0) lf_X12_34 rfl rfl rfl (zdg D_X12_comesTo 92 (161, .getfield 34, 3) rfl) ?_
              refine z_iload (pc := 164) 0 (zdg D_X12_comesTo 93 (164, .iload 4, 2) rfl) rfl ?_
              refine z_iconst (pc := 166) (v := 1) (zdg D_X12_comesTo 94 (166, .iconst 1, 1) rfl) rfl ?_
              refine z_isub (pc := 167) (zdg D_X12_comesTo 95 (167, .isub, 1) rfl) ?_
              refine z_iald (pc := 168) rfl (fun _ => rfl) (zdg D_X12_comesTo 96 (168, .iaload, 1) rfl) hn hf (fun hf => ?_)
              refine z_aload_n (pc := 169) 3 (zdg D_X12_comesTo 97 (169, .aload_n 0, 1) rfl) rfl rfl ?_
              refine z_getR (pc := 170) (g := 9) (j := 0) lf_X12_34 rfl rfl rfl (zdg D_X12_comesTo 98 (170, .getfield 34, 3) rfl) ?_
              refine z_iload (pc := 173) 0 (zdg D_X12_comesTo 99 (173, .iload 4, 2) rfl) rfl ?_
              refine z_iald (pc := 175) rfl (fun _ => rfl) (zdg D_X12_comesTo 100 (175, .iaload, 1) rfl) hn hf (fun hf => ?_)
              refine z_callS (pc := 176) (rest := [zI ((v4_1 + (-1)) - (1 : Int32)), zR 9 0]) (st2 := [zI (f_X12_both x4 (s3.1 9 0 ((v4_1 + (-1)) - (1 : Int32)).toNatClampNeg) (s3.1 9 0 (v4_1 + (-1)).toNatClampNeg)), zI ((v4_1 + (-1)) - (1 : Int32)), zR 9 0]) (fun l => c_X12_both l x4 (s3.1 9 0 ((v4_1 + (-1)) - (1 : Int32)).toNatClampNeg) (s3.1 9 0 (v4_1 + (-1)).toNatClampNeg) s3) zs_X12_both lm_X12_283 rfl rfl rfl (Nat.le_of_ble_eq_true rfl) ⟨Nat.le_of_ble_eq_true rfl, Nat.le_of_ble_eq_true rfl⟩ (zdg D_X12_comesTo 101 (176, .invokestatic 283, 3) rfl) ?_
              refine z_iast (pc := 179) rfl (fun _ => rfl) (zdg D_X12_comesTo 102 (179, .iastore, 1) rfl) hn hf (fun hf => ?_)
              refine z_nmS hf (fun s6 hf => ?_)
              refine z_iinc (pc := 180) (v0 := (v5_2 + 1)) (al' := [(5, zI (v5_2 + 1)), (4, zI (v4_1 + (-1))), (7, zI x5), (6, zI x4), (0, zR 0 0), (1, zI p1), (3, zI p3)]) 6 (zdg D_X12_comesTo 103 (180, .iinc 5 1, 3) rfl) rfl rfl (by decide) rfl ?_
              refine z_goto (pc := 183) 6 (zdg D_X12_comesTo 104 (183, .goto (-177), 3) rfl) rfl ?_
              refine z_sub (al' := [(0, zR 0 0), (1, zI p1), (3, zI p3), (4, zI (v4_1 + (-1))), (5, zI (v5_2 + 1))]) [4, 5, 6, 1, 0] rfl ?_
              exact hi ((v4_1 + (-1)), (v5_2 + 1), s6) hf
            · refine z_aload_n (pc := 124) 2 (zdg D_X12_comesTo 69 (124, .aload_n 0, 1) rfl) rfl rfl ?_
              refine z_getR (pc := 125) (g := 9) (j := 0) lf_X12_34 rfl rfl rfl (zdg D_X12_comesTo 70 (125, .getfield 34, 3) rfl) ?_
              refine z_iload (pc := 128) 5 (zdg D_X12_comesTo 71 (128, .iload 4, 2) rfl) rfl ?_
              refine z_iconst (pc := 130) (v := 1) (zdg D_X12_comesTo 72 (130, .iconst 1, 1) rfl) rfl ?_
              refine z_isub (pc := 131) (zdg D_X12_comesTo 73 (131, .isub, 1) rfl) ?_
              refine z_iconst (pc := 132) (v := 1) (zdg D_X12_comesTo 74 (132, .iconst 1, 1) rfl) rfl ?_
              refine z_aload_n (pc := 133) 2 (zdg D_X12_comesTo 75 (133, .aload_n 0, 1) rfl) rfl rfl ?_
              refine z_getR (pc := 134) (g := 9) (j := 0) lf_X12_34 rfl rfl rfl (zdg D_X12_comesTo 76 (134, .getfield 34, 3) rfl) ?_
              refine z_iload (pc := 137) 5 (zdg D_X12_comesTo 77 (137, .iload 4, 2) rfl) rfl ?_
              refine z_iconst (pc := 139) (v := 1) (zdg D_X12_comesTo 78 (139, .iconst 1, 1) rfl) rfl ?_
              refine z_isub (pc := 140) (zdg D_X12_comesTo 79 (140, .isub, 1) rfl) ?_
              refine z_iald (pc := 141) rfl (fun _ => rfl) (zdg D_X12_comesTo 80 (141, .iaload, 1) rfl) hn hf (fun hf => ?_)
              refine z_isub (pc := 142) (zdg D_X12_comesTo 81 (142, .isub, 1) rfl) ?_
              refine z_iast (pc := 143) rfl (fun _ => rfl) (zdg D_X12_comesTo 82 (143, .iastore, 1) rfl) hn hf (fun hf => ?_)
              refine z_nmS hf (fun s7 hf => ?_)
              refine z_goto (pc := 144) 180 (zdg D_X12_comesTo 83 (144, .goto 36, 3) rfl) rfl ?_
              refine z_iinc (pc := 180) (v0 := (v5_2 + 1)) (al' := [(5, zI (v5_2 + 1)), (7, zI x5), (6, zI x4), (0, zR 0 0), (1, zI p1), (3, zI p3), (4, zI v4_1)]) 6 (zdg D_X12_comesTo 103 (180, .iinc 5 1, 3) rfl) rfl rfl (by decide) rfl ?_
              refine z_goto (pc := 183) 6 (zdg D_X12_comesTo 104 (183, .goto (-177), 3) rfl) rfl ?_
              refine z_sub (al' := [(0, zR 0 0), (1, zI p1), (3, zI p3), (4, zI v4_1), (5, zI (v5_2 + 1))]) [3, 4, 5, 6, 0] rfl ?_
              exact hi (v4_1, (v5_2 + 1), s7) hf
          · refine z_aload_n (pc := 100) 2 (zdg D_X12_comesTo 55 (100, .aload_n 0, 1) rfl) rfl rfl ?_
            refine z_getR (pc := 101) (g := 9) (j := 0) lf_X12_34 rfl rfl rfl (zdg D_X12_comesTo 56 (101, .getfield 34, 3) rfl) ?_
            refine z_iload (pc := 104) 5 (zdg D_X12_comesTo 57 (104, .iload 4, 2) rfl) rfl ?_
            refine z_iconst (pc := 106) (v := 1) (zdg D_X12_comesTo 58 (106, .iconst 1, 1) rfl) rfl ?_
            refine z_isub (pc := 107) (zdg D_X12_comesTo 59 (107, .isub, 1) rfl) ?_
            refine z_dup2 (pc := 108) rfl rfl (zdg D_X12_comesTo 60 (108, .dup2, 1) rfl) ?_
            refine z_iald (pc := 109) rfl (fun _ => rfl) (zdg D_X12_comesTo 61 (109, .iaload, 1) rfl) hn hf (fun hf => ?_)
            refine z_iload (pc := 110) 0 (zdg D_X12_comesTo 62 (110, .iload 7, 2) rfl) rfl ?_
            refine z_idiv (pc := 112) (zdg D_X12_comesTo 63 (112, .idiv, 1) rfl) hn hf (fun hf => ?_)
            refine z_iast (pc := 113) rfl (fun _ => rfl) (zdg D_X12_comesTo 64 (113, .iastore, 1) rfl) hn hf (fun hf => ?_)
            refine z_nmS hf (fun s8 hf => ?_)
            refine z_goto (pc := 114) 180 (zdg D_X12_comesTo 65 (114, .goto 66, 3) rfl) rfl ?_
            refine z_iinc (pc := 180) (v0 := (v5_2 + 1)) (al' := [(5, zI (v5_2 + 1)), (7, zI x5), (6, zI x4), (0, zR 0 0), (1, zI p1), (3, zI p3), (4, zI v4_1)]) 6 (zdg D_X12_comesTo 103 (180, .iinc 5 1, 3) rfl) rfl rfl (by decide) rfl ?_
            refine z_goto (pc := 183) 6 (zdg D_X12_comesTo 104 (183, .goto (-177), 3) rfl) rfl ?_
            refine z_sub (al' := [(0, zR 0 0), (1, zI p1), (3, zI p3), (4, zI v4_1), (5, zI (v5_2 + 1))]) [3, 4, 5, 6, 0] rfl ?_
            exact hi (v4_1, (v5_2 + 1), s8) hf
        · refine z_aload_n (pc := 63) 2 (zdg D_X12_comesTo 38 (63, .aload_n 0, 1) rfl) rfl rfl ?_
          refine z_getR (pc := 64) (g := 9) (j := 0) lf_X12_34 rfl rfl rfl (zdg D_X12_comesTo 39 (64, .getfield 34, 3) rfl) ?_
          refine z_iload (pc := 67) 5 (zdg D_X12_comesTo 40 (67, .iload 4, 2) rfl) rfl ?_
          refine z_iload (pc := 69) 1 (zdg D_X12_comesTo 41 (69, .iload 6, 2) rfl) rfl ?_
          refine z_if_ne (pc := 71) 79 (zdg D_X12_comesTo 42 (71, .ifCond .ne 8, 3) rfl) rfl hf (fun hf => ?_) (fun hf => ?_)
          · refine z_aload_n (pc := 79) 2 (zdg D_X12_comesTo 45 (79, .aload_n 0, 1) rfl) rfl rfl ?_
            refine z_getR (pc := 80) (g := 10) (j := 0) lf_X12_37 rfl rfl rfl (zdg D_X12_comesTo 46 (80, .getfield 37, 3) rfl) ?_
            refine z_iload (pc := 83) 1 (zdg D_X12_comesTo 47 (83, .iload 6, 2) rfl) rfl ?_
            refine z_iald (pc := 85) rfl (fun _ => rfl) (zdg D_X12_comesTo 48 (85, .iaload, 1) rfl) hn hf (fun hf => ?_)
            refine z_iast (pc := 86) rfl (fun _ => rfl) (zdg D_X12_comesTo 49 (86, .iastore, 1) rfl) hn hf (fun hf => ?_)
            refine z_nmS hf (fun s9 hf => ?_)
            refine z_iinc (pc := 87) (v0 := (v4_1 + 1)) (al' := [(4, zI (v4_1 + 1)), (7, zI x5), (6, zI x4), (0, zR 0 0), (1, zI p1), (3, zI p3), (5, zI v5_2)]) 5 (zdg D_X12_comesTo 50 (87, .iinc 4 1, 3) rfl) rfl rfl (by decide) rfl ?_
            refine z_goto (pc := 90) 180 (zdg D_X12_comesTo 51 (90, .goto 90, 3) rfl) rfl ?_
            refine z_iinc (pc := 180) (v0 := (v5_2 + 1)) (al' := [(5, zI (v5_2 + 1)), (4, zI (v4_1 + 1)), (7, zI x5), (6, zI x4), (0, zR 0 0), (1, zI p1), (3, zI p3)]) 6 (zdg D_X12_comesTo 103 (180, .iinc 5 1, 3) rfl) rfl rfl (by decide) rfl ?_
            refine z_goto (pc := 183) 6 (zdg D_X12_comesTo 104 (183, .goto (-177), 3) rfl) rfl ?_
            refine z_sub (al' := [(0, zR 0 0), (1, zI p1), (3, zI p3), (4, zI (v4_1 + 1)), (5, zI (v5_2 + 1))]) [4, 5, 6, 1, 0] rfl ?_
            exact hi ((v4_1 + 1), (v5_2 + 1), s9) hf
          · refine z_iload (pc := 74) 0 (zdg D_X12_comesTo 43 (74, .iload 7, 2) rfl) rfl ?_
            refine z_goto (pc := 76) 86 (zdg D_X12_comesTo 44 (76, .goto 10, 3) rfl) rfl ?_
            refine z_iast (pc := 86) rfl (fun _ => rfl) (zdg D_X12_comesTo 49 (86, .iastore, 1) rfl) hn hf (fun hf => ?_)
            refine z_nmS hf (fun s10 hf => ?_)
            refine z_iinc (pc := 87) (v0 := (v4_1 + 1)) (al' := [(4, zI (v4_1 + 1)), (7, zI x5), (6, zI x4), (0, zR 0 0), (1, zI p1), (3, zI p3), (5, zI v5_2)]) 5 (zdg D_X12_comesTo 50 (87, .iinc 4 1, 3) rfl) rfl rfl (by decide) rfl ?_
            refine z_goto (pc := 90) 180 (zdg D_X12_comesTo 51 (90, .goto 90, 3) rfl) rfl ?_
            refine z_iinc (pc := 180) (v0 := (v5_2 + 1)) (al' := [(5, zI (v5_2 + 1)), (4, zI (v4_1 + 1)), (7, zI x5), (6, zI x4), (0, zR 0 0), (1, zI p1), (3, zI p3)]) 6 (zdg D_X12_comesTo 103 (180, .iinc 5 1, 3) rfl) rfl rfl (by decide) rfl ?_
            refine z_goto (pc := 183) 6 (zdg D_X12_comesTo 104 (183, .goto (-177), 3) rfl) rfl ?_
            refine z_sub (al' := [(0, zR 0 0), (1, zI p1), (3, zI p3), (4, zI (v4_1 + 1)), (5, zI (v5_2 + 1))]) [4, 5, 6, 1, 0] rfl ?_
            exact hi ((v4_1 + 1), (v5_2 + 1), s10) hf

def L_X12_lawSays : List (Nat × Instr × Nat) := [(0, .iload_n 2, 1), (1, .istore 5, 2), (3, .iconst 0, 1), (4, .istore 6, 2), (6, .bipush 16, 2), (8, .iload_n 1, 1), (9, .imul, 1), (10, .istore 7, 2), (12, .iload 7, 2), (14, .bipush 16, 2), (16, .iload_n 1, 1), (17, .imul, 1), (18, .aload_n 0, 1), (19, .getfield 7, 3), (22, .bipush 37, 2), (24, .iload_n 1, 1), (25, .iadd, 1), (26, .iaload, 1), (27, .iadd, 1), (28, .if_icmp .ge 111, 3), (31, .iload 6, 2), (33, .ifCond .ne 106, 3), (36, .aload_n 0, 1), (37, .getfield 7, 3), (40, .sipush 7576, 3), (43, .iload 7, 2), (45, .iadd, 1), (46, .iaload, 1), (47, .aload_n 0, 1), (48, .getfield 7, 3), (51, .sipush 7544, 3), (54, .iload 7, 2), (56, .iadd, 1), (57, .iaload, 1), (58, .if_icmp .eq 34, 3), (61, .aload_n 0, 1), (62, .iload_n 1, 1), (63, .aload_n 0, 1), (64, .getfield 7, 3), (67, .sipush 7544, 3), (70, .iload 7, 2), (72, .iadd, 1), (73, .iaload, 1), (74, .aload_n 0, 1), (75, .getfield 7, 3), (78, .sipush 7576, 3), (81, .iload 7, 2), (83, .iadd, 1), (84, .iaload, 1), (85, .invokevirtual 287, 3), (88, .iconst 1, 1), (89, .if_icmp .ne 7, 3), (92, .iconst 1, 1), (93, .goto 4, 3), (96, .iconst 0, 1), (97, .istore 6, 2), (99, .iload 6, 2), (101, .ifCond .eq 32, 3), (104, .aload_n 0, 1), (105, .iload_n 1, 1), (106, .aload_n 0, 1), (107, .getfield 7, 3), (110, .sipush 7512, 3), (113, .iload 7, 2), (115, .iadd, 1), (116, .iaload, 1), (117, .aload_n 0, 1), (118, .getfield 7, 3), (121, .sipush 7544, 3), (124, .iload 7, 2), (126, .iadd, 1), (127, .iaload, 1), (128, .invokevirtual 287, 3), (131, .istore 5, 2), (133, .iinc 7 1, 3), (136, .goto (-124), 3), (139, .iload_n 3, 1), (140, .iload 4, 2), (142, .iload 5, 2), (144, .invokestatic 290, 3), (147, .invokestatic 293, 3), (150, .ireturn, 1)]
set_option maxRecDepth 100000 in
theorem D_X12_lawSays : zdecs cX12_lawSays L_X12_lawSays = true := by decide +kernel
noncomputable def j_X12_lawSays_97_12 (p1 : Int32) (w5_8 : Int32) (w7_9 : Int32) (t10 : Int32) (s11 : zG) : Option ((Int32 × Int32 × Int32 × zG) ⊕ (Int32 × zG)) :=
  if t10 = 0 then some (Sum.inl (w5_8, t10, (w7_9 + 1), s11)) else zg (zin ((7512 : Int32) + w7_9) 9248) (zg (zin ((7544 : Int32) + w7_9) 9248) ((f_X12_comesTo p1 (s11.1 1 0 ((7512 : Int32) + w7_9).toNatClampNeg) (s11.1 1 0 ((7544 : Int32) + w7_9).toNatClampNeg) s11).bind (fun q12 => some (Sum.inl (q12.1, t10, (w7_9 + 1), q12.2)))))
noncomputable def j_X12_lawSays_92_12 (p1 : Int32) (w5_5 : Int32) (w7_6 : Int32) (s7 : zG) : Option ((Int32 × Int32 × Int32 × zG) ⊕ (Int32 × zG)) :=
  j_X12_lawSays_97_12 p1 w5_5 w7_6 (1 : Int32) s7
noncomputable def b_X12_lawSays_12 (p1 : Int32) (v5_1 : Int32) (v6_2 : Int32) (v7_3 : Int32) (s4 : zG) : Option ((Int32 × Int32 × Int32 × zG) ⊕ (Int32 × zG)) :=
  zg (zin ((37 : Int32) + p1) 9248) (if v7_3 < (((16 : Int32) * p1) + (s4.1 1 0 ((37 : Int32) + p1).toNatClampNeg)) then if v6_2 = 0 then zg (zin ((7576 : Int32) + v7_3) 9248) (zg (zin ((7544 : Int32) + v7_3) 9248) (if (s4.1 1 0 ((7576 : Int32) + v7_3).toNatClampNeg) = (s4.1 1 0 ((7544 : Int32) + v7_3).toNatClampNeg) then j_X12_lawSays_92_12 p1 v5_1 v7_3 s4 else zg (zin ((7544 : Int32) + v7_3) 9248) (zg (zin ((7576 : Int32) + v7_3) 9248) ((f_X12_comesTo p1 (s4.1 1 0 ((7544 : Int32) + v7_3).toNatClampNeg) (s4.1 1 0 ((7576 : Int32) + v7_3).toNatClampNeg) s4).bind (fun q13 => if q13.1 = (1 : Int32) then j_X12_lawSays_92_12 p1 v5_1 v7_3 q13.2 else j_X12_lawSays_97_12 p1 v5_1 v7_3 (0 : Int32) q13.2))))) else some (Sum.inr (v5_1, s4)) else some (Sum.inr (v5_1, s4)))
noncomputable def f_X12_lawSays (p1 : Int32) (p2 : Int32) (p3 : Int32) (p4 : Int32) (σ : zG) : Option (Int32 × zG) :=
  (zlp (fun q : Int32 × Int32 × Int32 × zG => b_X12_lawSays_12 p1 q.1 q.2.1 q.2.2.1 q.2.2.2) (p2, (0 : Int32), ((16 : Int32) * p1), σ)).bind (fun e14 : Int32 × zG => some ((f_X12_greater p3 (f_X12_lesser p4 e14.1)), e14.2))
set_option maxRecDepth 100000 in
set_option maxHeartbeats 4000000 in
theorem c_X12_lawSays (l : Launch) (p1 : Int32) (p2 : Int32) (p3 : Int32) (p4 : Int32) (σ : zG) (q : Int32 × zG) (hq : f_X12_lawSays p1 p2 p3 p4 σ = some q) : zMet l zsyM m_X12_lawSays yX12_lawSays [zR 0 0, zI p1, zI p2, zI p3, zI p4] σ (some (zI q.1)) q.2 := by
  refine zEnter [(0, zR 0 0), (1, zI p1), (2, zI p2), (3, zI p3), (4, zI p4)] (by decide) rfl (fun _ => Nat.le_of_ble_eq_true rfl) (fun _ => rfl) (fun w h => ?_) (fun K hv hs => ?_)
  · exact zokm rfl h
  · have hP : ∀ x s, f_X12_lawSays p1 p2 p3 p4 σ = some (x, s) → zKv K = some (zI x) ∧ zKs K = s := fun x s h => by rw [hq] at h; cases h; exact ⟨hv, hs⟩
    have hn : f_X12_lawSays p1 p2 p3 p4 σ ≠ none := fun z => by rw [hq] at z; cases z
    have hf := f_X12_lawSays.eq_1 p1 p2 p3 p4 σ
    refine z_iload_n (pc := 0) 2 (zdg D_X12_lawSays 0 (0, .iload_n 2, 1) rfl) rfl rfl ?_
    refine z_istore (pc := 1) (al' := [(5, zI p2), (0, zR 0 0), (1, zI p1), (2, zI p2), (3, zI p3), (4, zI p4)]) (zdg D_X12_lawSays 1 (1, .istore 5, 2) rfl) (by decide) rfl ?_
    refine z_iconst (pc := 3) (v := 0) (zdg D_X12_lawSays 2 (3, .iconst 0, 1) rfl) rfl ?_
    refine z_istore (pc := 4) (al' := [(6, zI (0 : Int32)), (5, zI p2), (0, zR 0 0), (1, zI p1), (2, zI p2), (3, zI p3), (4, zI p4)]) (zdg D_X12_lawSays 3 (4, .istore 6, 2) rfl) (by decide) rfl ?_
    refine z_bipush (pc := 6) (v := 16) (zdg D_X12_lawSays 4 (6, .bipush 16, 2) rfl) rfl ?_
    refine z_iload_n (pc := 8) 3 (zdg D_X12_lawSays 5 (8, .iload_n 1, 1) rfl) rfl rfl ?_
    refine z_imul (pc := 9) (zdg D_X12_lawSays 6 (9, .imul, 1) rfl) ?_
    refine z_istore (pc := 10) (al' := [(7, zI ((16 : Int32) * p1)), (6, zI (0 : Int32)), (5, zI p2), (0, zR 0 0), (1, zI p1), (2, zI p2), (3, zI p3), (4, zI p4)]) (zdg D_X12_lawSays 7 (10, .istore 7, 2) rfl) (by decide) rfl ?_
    refine z_sub (al' := [(0, zR 0 0), (1, zI p1), (3, zI p3), (4, zI p4), (5, zI p2), (6, zI (0 : Int32)), (7, zI ((16 : Int32) * p1))]) [3, 4, 6, 7, 2, 1, 0] rfl ?_
    refine z_loop (f := (fun q : Int32 × Int32 × Int32 × zG => b_X12_lawSays_12 p1 q.1 q.2.1 q.2.2.1 q.2.2.2)) (a := (p2, (0 : Int32), ((16 : Int32) * p1), σ)) (fun q : Int32 × Int32 × Int32 × zG => zX zsyM m_X12_lawSays K 12 [(0, zR 0 0), (1, zI p1), (3, zI p3), (4, zI p4), (5, zI q.1), (6, zI q.2.1), (7, zI q.2.2.1)] [] q.2.2.2) (fun e14 : Int32 × zG => zX zsyM m_X12_lawSays K 139 [(3, zI p3), (4, zI p4), (5, zI e14.1)] [] e14.2) hn hf ?_ ?_
    · intro e14 hf
      refine z_iload_n (pc := 139) 0 (zdg D_X12_lawSays 76 (139, .iload_n 3, 1) rfl) rfl rfl ?_
      refine z_iload (pc := 140) 1 (zdg D_X12_lawSays 77 (140, .iload 4, 2) rfl) rfl ?_
      refine z_iload (pc := 142) 2 (zdg D_X12_lawSays 78 (142, .iload 5, 2) rfl) rfl ?_
      refine z_callS (pc := 144) (rest := [zI p3]) (st2 := [zI (f_X12_lesser p4 e14.1), zI p3]) (fun l => c_X12_lesser l p4 e14.1 e14.2) zs_X12_lesser lm_X12_290 rfl rfl rfl (Nat.le_of_ble_eq_true rfl) ⟨Nat.le_of_ble_eq_true rfl, Nat.le_of_ble_eq_true rfl⟩ (zdg D_X12_lawSays 79 (144, .invokestatic 290, 3) rfl) ?_
      refine z_callS (pc := 147) (rest := []) (st2 := [zI (f_X12_greater p3 (f_X12_lesser p4 e14.1))]) (fun l => c_X12_greater l p3 (f_X12_lesser p4 e14.1) e14.2) zs_X12_greater lm_X12_293 rfl rfl rfl (Nat.le_of_ble_eq_true rfl) ⟨Nat.le_of_ble_eq_true rfl, Nat.le_of_ble_eq_true rfl⟩ (zdg D_X12_lawSays 80 (147, .invokestatic 293, 3) rfl) ?_
      exact z_iret (pc := 150) rfl rfl (zdg D_X12_lawSays 81 (150, .ireturn, 1) rfl) (hP _ _ hf)
    · rintro ⟨v5_1, v6_2, v7_3, s4⟩ hn hi hx
      have hf := b_X12_lawSays_12.eq_1 p1 v5_1 v6_2 v7_3 s4
      have t_97 : ∀ (w5_8 : Int32) (w7_9 : Int32) (t10 : Int32) (s11 : zG), b_X12_lawSays_12 p1 v5_1 v6_2 v7_3 s4 = j_X12_lawSays_97_12 p1 w5_8 w7_9 t10 s11 → zX zsyM m_X12_lawSays K 97 [(0, zR 0 0), (1, zI p1), (3, zI p3), (4, zI p4), (5, zI w5_8), (7, zI w7_9)] [zI t10] s11 := by
        intro w5_8 w7_9 t10 s11 hf
        replace hf := hf.trans (j_X12_lawSays_97_12.eq_1 p1 w5_8 w7_9 t10 s11)
        refine z_istore (pc := 97) (al' := [(6, zI t10), (0, zR 0 0), (1, zI p1), (3, zI p3), (4, zI p4), (5, zI w5_8), (7, zI w7_9)]) (zdg D_X12_lawSays 55 (97, .istore 6, 2) rfl) (by decide) rfl ?_
        refine z_iload (pc := 99) 0 (zdg D_X12_lawSays 56 (99, .iload 6, 2) rfl) rfl ?_
        refine z_if_eq (pc := 101) 133 (zdg D_X12_lawSays 57 (101, .ifCond .eq 32, 3) rfl) rfl hf (fun hf => ?_) (fun hf => ?_)
        · refine z_iinc (pc := 133) (v0 := (w7_9 + 1)) (al' := [(7, zI (w7_9 + 1)), (6, zI t10), (0, zR 0 0), (1, zI p1), (3, zI p3), (4, zI p4), (5, zI w5_8)]) 6 (zdg D_X12_lawSays 74 (133, .iinc 7 1, 3) rfl) rfl rfl (by decide) rfl ?_
          refine z_goto (pc := 136) 12 (zdg D_X12_lawSays 75 (136, .goto (-124), 3) rfl) rfl ?_
          refine z_sub (al' := [(0, zR 0 0), (1, zI p1), (3, zI p3), (4, zI p4), (5, zI w5_8), (6, zI t10), (7, zI (w7_9 + 1))]) [2, 3, 4, 5, 6, 1, 0] rfl ?_
          exact hi (w5_8, t10, (w7_9 + 1), s11) hf
        · refine z_aload_n (pc := 104) 1 (zdg D_X12_lawSays 58 (104, .aload_n 0, 1) rfl) rfl rfl ?_
          refine z_iload_n (pc := 105) 2 (zdg D_X12_lawSays 59 (105, .iload_n 1, 1) rfl) rfl rfl ?_
          refine z_aload_n (pc := 106) 1 (zdg D_X12_lawSays 60 (106, .aload_n 0, 1) rfl) rfl rfl ?_
          refine z_getR (pc := 107) (g := 1) (j := 0) lf_X12_7 rfl rfl rfl (zdg D_X12_lawSays 61 (107, .getfield 7, 3) rfl) ?_
          refine z_sipush (pc := 110) (v := 7512) (zdg D_X12_lawSays 62 (110, .sipush 7512, 3) rfl) rfl ?_
          refine z_iload (pc := 113) 6 (zdg D_X12_lawSays 63 (113, .iload 7, 2) rfl) rfl ?_
          refine z_iadd (pc := 115) (zdg D_X12_lawSays 64 (115, .iadd, 1) rfl) ?_
          refine z_iald (pc := 116) rfl (fun _ => rfl) (zdg D_X12_lawSays 65 (116, .iaload, 1) rfl) hn hf (fun hf => ?_)
          refine z_aload_n (pc := 117) 1 (zdg D_X12_lawSays 66 (117, .aload_n 0, 1) rfl) rfl rfl ?_
          refine z_getR (pc := 118) (g := 1) (j := 0) lf_X12_7 rfl rfl rfl (zdg D_X12_lawSays 67 (118, .getfield 7, 3) rfl) ?_
          refine z_sipush (pc := 121) (v := 7544) (zdg D_X12_lawSays 68 (121, .sipush 7544, 3) rfl) rfl ?_
          refine z_iload (pc := 124) 6 (zdg D_X12_lawSays 69 (124, .iload 7, 2) rfl) rfl ?_
          refine z_iadd (pc := 126) (zdg D_X12_lawSays 70 (126, .iadd, 1) rfl) ?_
          refine z_iald (pc := 127) rfl (fun _ => rfl) (zdg D_X12_lawSays 71 (127, .iaload, 1) rfl) hn hf (fun hf => ?_)
          refine z_bind hn hf (fun q12 hq hf => ?_)
          refine z_callV (pc := 128) (rest := []) (st2 := [zI q12.1]) (fun l => c_X12_comesTo l p1 (s11.1 1 0 ((7512 : Int32) + w7_9).toNatClampNeg) (s11.1 1 0 ((7544 : Int32) + w7_9).toNatClampNeg) s11 q12 hq) zv_X12_comesTo lm_X12_287 rfl rfl rfl rfl rfl rfl (Nat.le_of_ble_eq_true rfl) ⟨Nat.le_of_ble_eq_true rfl, Nat.le_of_ble_eq_true rfl⟩ (zdg D_X12_lawSays 72 (128, .invokevirtual 287, 3) rfl) ?_
          refine z_istore (pc := 131) (al' := [(5, zI q12.1), (6, zI t10), (0, zR 0 0), (1, zI p1), (3, zI p3), (4, zI p4), (7, zI w7_9)]) (zdg D_X12_lawSays 73 (131, .istore 5, 2) rfl) (by decide) rfl ?_
          refine z_iinc (pc := 133) (v0 := (w7_9 + 1)) (al' := [(7, zI (w7_9 + 1)), (5, zI q12.1), (6, zI t10), (0, zR 0 0), (1, zI p1), (3, zI p3), (4, zI p4)]) 6 (zdg D_X12_lawSays 74 (133, .iinc 7 1, 3) rfl) rfl rfl (by decide) rfl ?_
          refine z_goto (pc := 136) 12 (zdg D_X12_lawSays 75 (136, .goto (-124), 3) rfl) rfl ?_
          refine z_sub (al' := [(0, zR 0 0), (1, zI p1), (3, zI p3), (4, zI p4), (5, zI q12.1), (6, zI t10), (7, zI (w7_9 + 1))]) [3, 4, 5, 6, 1, 2, 0] rfl ?_
          exact hi (q12.1, t10, (w7_9 + 1), q12.2) hf
      have t_92 : ∀ (w5_5 : Int32) (w7_6 : Int32) (s7 : zG), b_X12_lawSays_12 p1 v5_1 v6_2 v7_3 s4 = j_X12_lawSays_92_12 p1 w5_5 w7_6 s7 → zX zsyM m_X12_lawSays K 92 [(0, zR 0 0), (1, zI p1), (3, zI p3), (4, zI p4), (5, zI w5_5), (7, zI w7_6)] [] s7 := by
        intro w5_5 w7_6 s7 hf
        replace hf := hf.trans (j_X12_lawSays_92_12.eq_1 p1 w5_5 w7_6 s7)
        refine z_iconst (pc := 92) (v := 1) (zdg D_X12_lawSays 52 (92, .iconst 1, 1) rfl) rfl ?_
        refine z_goto (pc := 93) 97 (zdg D_X12_lawSays 53 (93, .goto 4, 3) rfl) rfl ?_
        exact t_97 w5_5 w7_6 (1 : Int32) s7 hf
      refine z_iload (pc := 12) 6 (zdg D_X12_lawSays 8 (12, .iload 7, 2) rfl) rfl ?_
      refine z_bipush (pc := 14) (v := 16) (zdg D_X12_lawSays 9 (14, .bipush 16, 2) rfl) rfl ?_
      refine z_iload_n (pc := 16) 1 (zdg D_X12_lawSays 10 (16, .iload_n 1, 1) rfl) rfl rfl ?_
      refine z_imul (pc := 17) (zdg D_X12_lawSays 11 (17, .imul, 1) rfl) ?_
      refine z_aload_n (pc := 18) 0 (zdg D_X12_lawSays 12 (18, .aload_n 0, 1) rfl) rfl rfl ?_
      refine z_getR (pc := 19) (g := 1) (j := 0) lf_X12_7 rfl rfl rfl (zdg D_X12_lawSays 13 (19, .getfield 7, 3) rfl) ?_
      refine z_bipush (pc := 22) (v := 37) (zdg D_X12_lawSays 14 (22, .bipush 37, 2) rfl) rfl ?_
      refine z_iload_n (pc := 24) 1 (zdg D_X12_lawSays 15 (24, .iload_n 1, 1) rfl) rfl rfl ?_
      refine z_iadd (pc := 25) (zdg D_X12_lawSays 16 (25, .iadd, 1) rfl) ?_
      refine z_iald (pc := 26) rfl (fun _ => rfl) (zdg D_X12_lawSays 17 (26, .iaload, 1) rfl) hn hf (fun hf => ?_)
      refine z_iadd (pc := 27) (zdg D_X12_lawSays 18 (27, .iadd, 1) rfl) ?_
      refine z_icmp_ge (pc := 28) 139 (zdg D_X12_lawSays 19 (28, .if_icmp .ge 111, 3) rfl) rfl hf (fun hf => ?_) (fun hf => ?_)
      · refine z_sub (al' := [(3, zI p3), (4, zI p4), (5, zI v5_1)]) [2, 3, 4] rfl ?_
        exact hx (v5_1, s4) hf
      · refine z_iload (pc := 31) 5 (zdg D_X12_lawSays 20 (31, .iload 6, 2) rfl) rfl ?_
        refine z_if_ne (pc := 33) 139 (zdg D_X12_lawSays 21 (33, .ifCond .ne 106, 3) rfl) rfl hf (fun hf => ?_) (fun hf => ?_)
        · refine z_sub (al' := [(3, zI p3), (4, zI p4), (5, zI v5_1)]) [2, 3, 4] rfl ?_
          exact hx (v5_1, s4) hf
        · refine z_aload_n (pc := 36) 0 (zdg D_X12_lawSays 22 (36, .aload_n 0, 1) rfl) rfl rfl ?_
          refine z_getR (pc := 37) (g := 1) (j := 0) lf_X12_7 rfl rfl rfl (zdg D_X12_lawSays 23 (37, .getfield 7, 3) rfl) ?_
          refine z_sipush (pc := 40) (v := 7576) (zdg D_X12_lawSays 24 (40, .sipush 7576, 3) rfl) rfl ?_
          refine z_iload (pc := 43) 6 (zdg D_X12_lawSays 25 (43, .iload 7, 2) rfl) rfl ?_
          refine z_iadd (pc := 45) (zdg D_X12_lawSays 26 (45, .iadd, 1) rfl) ?_
          refine z_iald (pc := 46) rfl (fun _ => rfl) (zdg D_X12_lawSays 27 (46, .iaload, 1) rfl) hn hf (fun hf => ?_)
          refine z_aload_n (pc := 47) 0 (zdg D_X12_lawSays 28 (47, .aload_n 0, 1) rfl) rfl rfl ?_
          refine z_getR (pc := 48) (g := 1) (j := 0) lf_X12_7 rfl rfl rfl (zdg D_X12_lawSays 29 (48, .getfield 7, 3) rfl) ?_
          refine z_sipush (pc := 51) (v := 7544) (zdg D_X12_lawSays 30 (51, .sipush 7544, 3) rfl) rfl ?_
          refine z_iload (pc := 54) 6 (zdg D_X12_lawSays 31 (54, .iload 7, 2) rfl) rfl ?_
          refine z_iadd (pc := 56) (zdg D_X12_lawSays 32 (56, .iadd, 1) rfl) ?_
          refine z_iald (pc := 57) rfl (fun _ => rfl) (zdg D_X12_lawSays 33 (57, .iaload, 1) rfl) hn hf (fun hf => ?_)
          refine z_icmp_eq (pc := 58) 92 (zdg D_X12_lawSays 34 (58, .if_icmp .eq 34, 3) rfl) rfl hf (fun hf => ?_) (fun hf => ?_)
          · refine z_sub (al' := [(0, zR 0 0), (1, zI p1), (3, zI p3), (4, zI p4), (5, zI v5_1), (7, zI v7_3)]) [0, 1, 2, 3, 4, 6] rfl ?_
            exact t_92 v5_1 v7_3 s4 hf
          · refine z_aload_n (pc := 61) 0 (zdg D_X12_lawSays 35 (61, .aload_n 0, 1) rfl) rfl rfl ?_
            refine z_iload_n (pc := 62) 1 (zdg D_X12_lawSays 36 (62, .iload_n 1, 1) rfl) rfl rfl ?_
            refine z_aload_n (pc := 63) 0 (zdg D_X12_lawSays 37 (63, .aload_n 0, 1) rfl) rfl rfl ?_
            refine z_getR (pc := 64) (g := 1) (j := 0) lf_X12_7 rfl rfl rfl (zdg D_X12_lawSays 38 (64, .getfield 7, 3) rfl) ?_
            refine z_sipush (pc := 67) (v := 7544) (zdg D_X12_lawSays 39 (67, .sipush 7544, 3) rfl) rfl ?_
            refine z_iload (pc := 70) 6 (zdg D_X12_lawSays 40 (70, .iload 7, 2) rfl) rfl ?_
            refine z_iadd (pc := 72) (zdg D_X12_lawSays 41 (72, .iadd, 1) rfl) ?_
            refine z_iald (pc := 73) rfl (fun _ => rfl) (zdg D_X12_lawSays 42 (73, .iaload, 1) rfl) hn hf (fun hf => ?_)
            refine z_aload_n (pc := 74) 0 (zdg D_X12_lawSays 43 (74, .aload_n 0, 1) rfl) rfl rfl ?_
            refine z_getR (pc := 75) (g := 1) (j := 0) lf_X12_7 rfl rfl rfl (zdg D_X12_lawSays 44 (75, .getfield 7, 3) rfl) ?_
            refine z_sipush (pc := 78) (v := 7576) (zdg D_X12_lawSays 45 (78, .sipush 7576, 3) rfl) rfl ?_
            refine z_iload (pc := 81) 6 (zdg D_X12_lawSays 46 (81, .iload 7, 2) rfl) rfl ?_
            refine z_iadd (pc := 83) (zdg D_X12_lawSays 47 (83, .iadd, 1) rfl) ?_
            refine z_iald (pc := 84) rfl (fun _ => rfl) (zdg D_X12_lawSays 48 (84, .iaload, 1) rfl) hn hf (fun hf => ?_)
            refine z_bind hn hf (fun q13 hq hf => ?_)
            refine z_callV (pc := 85) (rest := []) (st2 := [zI q13.1]) (fun l => c_X12_comesTo l p1 (s4.1 1 0 ((7544 : Int32) + v7_3).toNatClampNeg) (s4.1 1 0 ((7576 : Int32) + v7_3).toNatClampNeg) s4 q13 hq) zv_X12_comesTo lm_X12_287 rfl rfl rfl rfl rfl rfl (Nat.le_of_ble_eq_true rfl) ⟨Nat.le_of_ble_eq_true rfl, Nat.le_of_ble_eq_true rfl⟩ (zdg D_X12_lawSays 49 (85, .invokevirtual 287, 3) rfl) ?_
            refine z_iconst (pc := 88) (v := 1) (zdg D_X12_lawSays 50 (88, .iconst 1, 1) rfl) rfl ?_
            refine z_icmp_ne (pc := 89) 96 (zdg D_X12_lawSays 51 (89, .if_icmp .ne 7, 3) rfl) rfl hf (fun hf => ?_) (fun hf => ?_)
            · refine z_iconst (pc := 96) (v := 0) (zdg D_X12_lawSays 54 (96, .iconst 0, 1) rfl) rfl ?_
              refine z_sub (al' := [(0, zR 0 0), (1, zI p1), (3, zI p3), (4, zI p4), (5, zI v5_1), (7, zI v7_3)]) [0, 1, 2, 3, 4, 6] rfl ?_
              exact t_97 v5_1 v7_3 (0 : Int32) q13.2 hf
            · refine z_sub (al' := [(0, zR 0 0), (1, zI p1), (3, zI p3), (4, zI p4), (5, zI v5_1), (7, zI v7_3)]) [0, 1, 2, 3, 4, 6] rfl ?_
              exact t_92 v5_1 v7_3 q13.2 hf

def L_X12_shade : List (Nat × Instr × Nat) := [(0, .iload_n 1, 1), (1, .bipush 8, 2), (3, .irem, 1), (4, .istore_n 3, 1), (5, .iload_n 1, 1), (6, .bipush 8, 2), (8, .idiv, 1), (9, .istore 4, 2), (11, .aload_n 0, 1), (12, .getfield 37, 3), (15, .iconst 1, 1), (16, .iload_n 3, 1), (17, .iastore, 1), (18, .aload_n 0, 1), (19, .getfield 37, 3), (22, .iconst 2, 1), (23, .iload 4, 2), (25, .iastore, 1), (26, .aload_n 0, 1), (27, .getfield 37, 3), (30, .iconst 3, 1), (31, .iload_n 2, 1), (32, .iastore, 1), (33, .aload_n 0, 1), (34, .getfield 37, 3), (37, .iconst 4, 1), (38, .iload_n 3, 1), (39, .ifCond .eq 35, 3), (42, .iload 4, 2), (44, .ifCond .eq 30, 3), (47, .iload_n 3, 1), (48, .aload_n 0, 1), (49, .getfield 7, 3), (52, .bipush 30, 2), (54, .iaload, 1), (55, .iconst 1, 1), (56, .isub, 1), (57, .if_icmp .eq 17, 3), (60, .iload 4, 2), (62, .aload_n 0, 1), (63, .getfield 7, 3), (66, .bipush 31, 2), (68, .iaload, 1), (69, .iconst 1, 1), (70, .isub, 1), (71, .if_icmp .ne 7, 3), (74, .iconst 1, 1), (75, .goto 4, 3), (78, .iconst 0, 1), (79, .iastore, 1), (80, .aload_n 0, 1), (81, .iconst 0, 1), (82, .bipush 50, 2), (84, .iconst 0, 1), (85, .bipush 99, 2), (87, .invokevirtual 296, 3), (90, .ireturn, 1)]
set_option maxRecDepth 100000 in
theorem D_X12_shade : zdecs cX12_shade L_X12_shade = true := by decide +kernel
noncomputable def j_X12_shade_79 (t7 : Int32) (t8 : Int32) (t9 : Nat) (s10 : zG) : Option (Int32 × zG) :=
  zg (zin t8 9) (zb (zwI s10 10 t9 t8.toNatClampNeg t7) (fun s11 => (f_X12_lawSays (0 : Int32) (50 : Int32) (0 : Int32) (99 : Int32) s11).bind (fun q12 => some (q12.1, q12.2))))
noncomputable def j_X12_shade_74 (t4 : Int32) (t5 : Nat) (s6 : zG) : Option (Int32 × zG) :=
  j_X12_shade_79 (1 : Int32) t4 t5 s6
noncomputable def f_X12_shade (p1 : Int32) (p2 : Int32) (σ : zG) : Option (Int32 × zG) :=
  zb (zwI σ 10 0 1 (zrem p1 (8 : Int32))) (fun s1 => zb (zwI s1 10 0 2 (p1 / (8 : Int32))) (fun s2 => zb (zwI s2 10 0 3 p2) (fun s3 => if (zrem p1 (8 : Int32)) = 0 then j_X12_shade_74 (4 : Int32) 0 s3 else if (p1 / (8 : Int32)) = 0 then j_X12_shade_74 (4 : Int32) 0 s3 else if (zrem p1 (8 : Int32)) = ((s3.1 1 0 30) - (1 : Int32)) then j_X12_shade_74 (4 : Int32) 0 s3 else if (p1 / (8 : Int32)) = ((s3.1 1 0 31) - (1 : Int32)) then j_X12_shade_74 (4 : Int32) 0 s3 else j_X12_shade_79 (0 : Int32) (4 : Int32) 0 s3)))
set_option maxRecDepth 100000 in
set_option maxHeartbeats 4000000 in
theorem c_X12_shade (l : Launch) (p1 : Int32) (p2 : Int32) (σ : zG) (q : Int32 × zG) (hq : f_X12_shade p1 p2 σ = some q) : zMet l zsyM m_X12_shade yX12_shade [zR 0 0, zI p1, zI p2] σ (some (zI q.1)) q.2 := by
  refine zEnter [(0, zR 0 0), (1, zI p1), (2, zI p2)] (by decide) rfl (fun _ => Nat.le_of_ble_eq_true rfl) (fun _ => rfl) (fun w h => ?_) (fun K hv hs => ?_)
  · exact zokm rfl h
  · have hP : ∀ x s, f_X12_shade p1 p2 σ = some (x, s) → zKv K = some (zI x) ∧ zKs K = s := fun x s h => by rw [hq] at h; cases h; exact ⟨hv, hs⟩
    have hn : f_X12_shade p1 p2 σ ≠ none := fun z => by rw [hq] at z; cases z
    have hf := f_X12_shade.eq_1 p1 p2 σ
    have t_79 : ∀ (t7 : Int32) (t8 : Int32) (t9 : Nat) (s10 : zG), f_X12_shade p1 p2 σ = j_X12_shade_79 t7 t8 t9 s10 → zX zsyM m_X12_shade K 79 [(0, zR 0 0)] [zI t7, zI t8, zR 10 t9] s10 := by
      intro t7 t8 t9 s10 hf
      replace hf := hf.trans (j_X12_shade_79.eq_1 t7 t8 t9 s10)
      refine z_iast (pc := 79) rfl (fun _ => rfl) (zdg D_X12_shade 49 (79, .iastore, 1) rfl) hn hf (fun hf => ?_)
      refine z_nmS hf (fun s11 hf => ?_)
      refine z_aload_n (pc := 80) 0 (zdg D_X12_shade 50 (80, .aload_n 0, 1) rfl) rfl rfl ?_
      refine z_iconst (pc := 81) (v := 0) (zdg D_X12_shade 51 (81, .iconst 0, 1) rfl) rfl ?_
      refine z_bipush (pc := 82) (v := 50) (zdg D_X12_shade 52 (82, .bipush 50, 2) rfl) rfl ?_
      refine z_iconst (pc := 84) (v := 0) (zdg D_X12_shade 53 (84, .iconst 0, 1) rfl) rfl ?_
      refine z_bipush (pc := 85) (v := 99) (zdg D_X12_shade 54 (85, .bipush 99, 2) rfl) rfl ?_
      refine z_bind hn hf (fun q12 hq hf => ?_)
      refine z_callV (pc := 87) (rest := []) (st2 := [zI q12.1]) (fun l => c_X12_lawSays l (0 : Int32) (50 : Int32) (0 : Int32) (99 : Int32) s11 q12 hq) zv_X12_lawSays lm_X12_296 rfl rfl rfl rfl rfl rfl (Nat.le_of_ble_eq_true rfl) ⟨Nat.le_of_ble_eq_true rfl, Nat.le_of_ble_eq_true rfl⟩ (zdg D_X12_shade 55 (87, .invokevirtual 296, 3) rfl) ?_
      exact z_iret (pc := 90) rfl rfl (zdg D_X12_shade 56 (90, .ireturn, 1) rfl) (hP _ _ hf)
    have t_74 : ∀ (t4 : Int32) (t5 : Nat) (s6 : zG), f_X12_shade p1 p2 σ = j_X12_shade_74 t4 t5 s6 → zX zsyM m_X12_shade K 74 [(0, zR 0 0)] [zI t4, zR 10 t5] s6 := by
      intro t4 t5 s6 hf
      replace hf := hf.trans (j_X12_shade_74.eq_1 t4 t5 s6)
      refine z_iconst (pc := 74) (v := 1) (zdg D_X12_shade 46 (74, .iconst 1, 1) rfl) rfl ?_
      refine z_goto (pc := 75) 79 (zdg D_X12_shade 47 (75, .goto 4, 3) rfl) rfl ?_
      exact t_79 (1 : Int32) t4 t5 s6 hf
    refine z_iload_n (pc := 0) 1 (zdg D_X12_shade 0 (0, .iload_n 1, 1) rfl) rfl rfl ?_
    refine z_bipush (pc := 1) (v := 8) (zdg D_X12_shade 1 (1, .bipush 8, 2) rfl) rfl ?_
    refine z_iremK (pc := 3) (zdg D_X12_shade 2 (3, .irem, 1) rfl) rfl ?_
    refine z_istore_n (pc := 4) (al' := [(3, zI (zrem p1 (8 : Int32))), (0, zR 0 0), (1, zI p1), (2, zI p2)]) (zdg D_X12_shade 3 (4, .istore_n 3, 1) rfl) rfl (by decide) rfl ?_
    refine z_iload_n (pc := 5) 2 (zdg D_X12_shade 4 (5, .iload_n 1, 1) rfl) rfl rfl ?_
    refine z_bipush (pc := 6) (v := 8) (zdg D_X12_shade 5 (6, .bipush 8, 2) rfl) rfl ?_
    refine z_idivK (pc := 8) (zdg D_X12_shade 6 (8, .idiv, 1) rfl) rfl ?_
    refine z_istore (pc := 9) (al' := [(4, zI (p1 / (8 : Int32))), (3, zI (zrem p1 (8 : Int32))), (0, zR 0 0), (1, zI p1), (2, zI p2)]) (zdg D_X12_shade 7 (9, .istore 4, 2) rfl) (by decide) rfl ?_
    refine z_aload_n (pc := 11) 2 (zdg D_X12_shade 8 (11, .aload_n 0, 1) rfl) rfl rfl ?_
    refine z_getR (pc := 12) (g := 10) (j := 0) lf_X12_37 rfl rfl rfl (zdg D_X12_shade 9 (12, .getfield 37, 3) rfl) ?_
    refine z_iconst (pc := 15) (v := 1) (zdg D_X12_shade 10 (15, .iconst 1, 1) rfl) rfl ?_
    refine z_iload_n (pc := 16) 1 (zdg D_X12_shade 11 (16, .iload_n 3, 1) rfl) rfl rfl ?_
    refine z_iastC (pc := 17) (j := 1) rfl (fun _ => rfl) (zdg D_X12_shade 12 (17, .iastore, 1) rfl) rfl rfl ?_
    refine z_nmS hf (fun s1 hf => ?_)
    refine z_aload_n (pc := 18) 2 (zdg D_X12_shade 13 (18, .aload_n 0, 1) rfl) rfl rfl ?_
    refine z_getR (pc := 19) (g := 10) (j := 0) lf_X12_37 rfl rfl rfl (zdg D_X12_shade 14 (19, .getfield 37, 3) rfl) ?_
    refine z_iconst (pc := 22) (v := 2) (zdg D_X12_shade 15 (22, .iconst 2, 1) rfl) rfl ?_
    refine z_iload (pc := 23) 0 (zdg D_X12_shade 16 (23, .iload 4, 2) rfl) rfl ?_
    refine z_iastC (pc := 25) (j := 2) rfl (fun _ => rfl) (zdg D_X12_shade 17 (25, .iastore, 1) rfl) rfl rfl ?_
    refine z_nmS hf (fun s2 hf => ?_)
    refine z_aload_n (pc := 26) 2 (zdg D_X12_shade 18 (26, .aload_n 0, 1) rfl) rfl rfl ?_
    refine z_getR (pc := 27) (g := 10) (j := 0) lf_X12_37 rfl rfl rfl (zdg D_X12_shade 19 (27, .getfield 37, 3) rfl) ?_
    refine z_iconst (pc := 30) (v := 3) (zdg D_X12_shade 20 (30, .iconst 3, 1) rfl) rfl ?_
    refine z_iload_n (pc := 31) 4 (zdg D_X12_shade 21 (31, .iload_n 2, 1) rfl) rfl rfl ?_
    refine z_iastC (pc := 32) (j := 3) rfl (fun _ => rfl) (zdg D_X12_shade 22 (32, .iastore, 1) rfl) rfl rfl ?_
    refine z_nmS hf (fun s3 hf => ?_)
    refine z_aload_n (pc := 33) 2 (zdg D_X12_shade 23 (33, .aload_n 0, 1) rfl) rfl rfl ?_
    refine z_getR (pc := 34) (g := 10) (j := 0) lf_X12_37 rfl rfl rfl (zdg D_X12_shade 24 (34, .getfield 37, 3) rfl) ?_
    refine z_iconst (pc := 37) (v := 4) (zdg D_X12_shade 25 (37, .iconst 4, 1) rfl) rfl ?_
    refine z_iload_n (pc := 38) 1 (zdg D_X12_shade 26 (38, .iload_n 3, 1) rfl) rfl rfl ?_
    refine z_if_eq (pc := 39) 74 (zdg D_X12_shade 27 (39, .ifCond .eq 35, 3) rfl) rfl hf (fun hf => ?_) (fun hf => ?_)
    · refine z_sub (al' := [(0, zR 0 0)]) [2] rfl ?_
      exact t_74 (4 : Int32) 0 s3 hf
    · refine z_iload (pc := 42) 0 (zdg D_X12_shade 28 (42, .iload 4, 2) rfl) rfl ?_
      refine z_if_eq (pc := 44) 74 (zdg D_X12_shade 29 (44, .ifCond .eq 30, 3) rfl) rfl hf (fun hf => ?_) (fun hf => ?_)
      · refine z_sub (al' := [(0, zR 0 0)]) [2] rfl ?_
        exact t_74 (4 : Int32) 0 s3 hf
      · refine z_iload_n (pc := 47) 1 (zdg D_X12_shade 30 (47, .iload_n 3, 1) rfl) rfl rfl ?_
        refine z_aload_n (pc := 48) 2 (zdg D_X12_shade 31 (48, .aload_n 0, 1) rfl) rfl rfl ?_
        refine z_getR (pc := 49) (g := 1) (j := 0) lf_X12_7 rfl rfl rfl (zdg D_X12_shade 32 (49, .getfield 7, 3) rfl) ?_
        refine z_bipush (pc := 52) (v := 30) (zdg D_X12_shade 33 (52, .bipush 30, 2) rfl) rfl ?_
        refine z_ialdC (pc := 54) (j := 30) rfl (fun _ => rfl) (zdg D_X12_shade 34 (54, .iaload, 1) rfl) rfl rfl ?_
        refine z_iconst (pc := 55) (v := 1) (zdg D_X12_shade 35 (55, .iconst 1, 1) rfl) rfl ?_
        refine z_isub (pc := 56) (zdg D_X12_shade 36 (56, .isub, 1) rfl) ?_
        refine z_icmp_eq (pc := 57) 74 (zdg D_X12_shade 37 (57, .if_icmp .eq 17, 3) rfl) rfl hf (fun hf => ?_) (fun hf => ?_)
        · refine z_sub (al' := [(0, zR 0 0)]) [2] rfl ?_
          exact t_74 (4 : Int32) 0 s3 hf
        · refine z_iload (pc := 60) 0 (zdg D_X12_shade 38 (60, .iload 4, 2) rfl) rfl ?_
          refine z_aload_n (pc := 62) 2 (zdg D_X12_shade 39 (62, .aload_n 0, 1) rfl) rfl rfl ?_
          refine z_getR (pc := 63) (g := 1) (j := 0) lf_X12_7 rfl rfl rfl (zdg D_X12_shade 40 (63, .getfield 7, 3) rfl) ?_
          refine z_bipush (pc := 66) (v := 31) (zdg D_X12_shade 41 (66, .bipush 31, 2) rfl) rfl ?_
          refine z_ialdC (pc := 68) (j := 31) rfl (fun _ => rfl) (zdg D_X12_shade 42 (68, .iaload, 1) rfl) rfl rfl ?_
          refine z_iconst (pc := 69) (v := 1) (zdg D_X12_shade 43 (69, .iconst 1, 1) rfl) rfl ?_
          refine z_isub (pc := 70) (zdg D_X12_shade 44 (70, .isub, 1) rfl) ?_
          refine z_icmp_ne (pc := 71) 78 (zdg D_X12_shade 45 (71, .if_icmp .ne 7, 3) rfl) rfl hf (fun hf => ?_) (fun hf => ?_)
          · refine z_iconst (pc := 78) (v := 0) (zdg D_X12_shade 48 (78, .iconst 0, 1) rfl) rfl ?_
            refine z_sub (al' := [(0, zR 0 0)]) [2] rfl ?_
            exact t_79 (0 : Int32) (4 : Int32) 0 s3 hf
          · refine z_sub (al' := [(0, zR 0 0)]) [2] rfl ?_
            exact t_74 (4 : Int32) 0 s3 hf

def L_X12_placeOf : List (Nat × Instr × Nat) := [(0, .aload_n 0, 1), (1, .getfield 7, 3), (4, .sipush 1500, 3), (7, .sipush 501, 3), (10, .iload_n 1, 1), (11, .imul, 1), (12, .iadd, 1), (13, .iload_n 2, 1), (14, .iadd, 1), (15, .iaload, 1), (16, .ireturn, 1)]
set_option maxRecDepth 100000 in
theorem D_X12_placeOf : zdecs cX12_placeOf L_X12_placeOf = true := by decide +kernel
noncomputable def f_X12_placeOf (p1 : Int32) (p2 : Int32) (σ : zG) : Option (Int32) :=
  zg (zin (((1500 : Int32) + ((501 : Int32) * p1)) + p2) 9248) (some (σ.1 1 0 (((1500 : Int32) + ((501 : Int32) * p1)) + p2).toNatClampNeg))
set_option maxRecDepth 100000 in
set_option maxHeartbeats 4000000 in
theorem c_X12_placeOf (l : Launch) (p1 : Int32) (p2 : Int32) (σ : zG) (q : Int32) (hq : f_X12_placeOf p1 p2 σ = some q) : zMet l zsyM m_X12_placeOf yX12_placeOf [zR 0 0, zI p1, zI p2] σ (some (zI q)) σ := by
  refine zEnter [(0, zR 0 0), (1, zI p1), (2, zI p2)] (by decide) rfl (fun _ => Nat.le_of_ble_eq_true rfl) (fun _ => rfl) (fun w h => ?_) (fun K hv hs => ?_)
  · exact zokm rfl h
  · have hP : ∀ x, f_X12_placeOf p1 p2 σ = some x → zKv K = some (zI x) ∧ zKs K = σ := fun x h => by rw [hq] at h; cases h; exact ⟨hv, hs⟩
    have hn : f_X12_placeOf p1 p2 σ ≠ none := fun z => by rw [hq] at z; cases z
    have hf := f_X12_placeOf.eq_1 p1 p2 σ
    refine z_aload_n (pc := 0) 0 (zdg D_X12_placeOf 0 (0, .aload_n 0, 1) rfl) rfl rfl ?_
    refine z_getR (pc := 1) (g := 1) (j := 0) lf_X12_7 rfl rfl rfl (zdg D_X12_placeOf 1 (1, .getfield 7, 3) rfl) ?_
    refine z_sipush (pc := 4) (v := 1500) (zdg D_X12_placeOf 2 (4, .sipush 1500, 3) rfl) rfl ?_
    refine z_sipush (pc := 7) (v := 501) (zdg D_X12_placeOf 3 (7, .sipush 501, 3) rfl) rfl ?_
    refine z_iload_n (pc := 10) 1 (zdg D_X12_placeOf 4 (10, .iload_n 1, 1) rfl) rfl rfl ?_
    refine z_imul (pc := 11) (zdg D_X12_placeOf 5 (11, .imul, 1) rfl) ?_
    refine z_iadd (pc := 12) (zdg D_X12_placeOf 6 (12, .iadd, 1) rfl) ?_
    refine z_iload_n (pc := 13) 2 (zdg D_X12_placeOf 7 (13, .iload_n 2, 1) rfl) rfl rfl ?_
    refine z_iadd (pc := 14) (zdg D_X12_placeOf 8 (14, .iadd, 1) rfl) ?_
    refine z_iald (pc := 15) rfl (fun _ => rfl) (zdg D_X12_placeOf 9 (15, .iaload, 1) rfl) hn hf (fun hf => ?_)
    exact z_iret (pc := 16) rfl rfl (zdg D_X12_placeOf 10 (16, .ireturn, 1) rfl) (hP _ hf)

def L_X12_isStrangerAt : List (Nat × Instr × Nat) := [(0, .aload_n 0, 1), (1, .iload_n 1, 1), (2, .iconst 0, 1), (3, .invokevirtual 300, 3), (6, .iload_n 2, 1), (7, .if_icmp .ne 26, 3), (10, .iload_n 3, 1), (11, .aload_n 0, 1), (12, .iload_n 1, 1), (13, .iconst 2, 1), (14, .invokevirtual 300, 3), (17, .aload_n 0, 1), (18, .iload_n 1, 1), (19, .iconst 1, 1), (20, .invokevirtual 300, 3), (23, .invokestatic 64, 3), (26, .ifCond .eq 7, 3), (29, .iconst 1, 1), (30, .goto 4, 3), (33, .iconst 0, 1), (34, .ireturn, 1)]
set_option maxRecDepth 100000 in
theorem D_X12_isStrangerAt : zdecs cX12_isStrangerAt L_X12_isStrangerAt = true := by decide +kernel
noncomputable def f_X12_isStrangerAt (p1 : Int32) (p2 : Int32) (p3 : Int32) (σ : zG) : Option (Int32) :=
  (f_X12_ofStranger p1 (0 : Int32) σ).bind (fun q1 => if q1 = p2 then (f_X12_ofStranger p1 (2 : Int32) σ).bind (fun q2 => (f_X12_ofStranger p1 (1 : Int32) σ).bind (fun q3 => if (f_X12_isIn p3 q2 q3) = 0 then some (0 : Int32) else some (1 : Int32))) else some (0 : Int32))
set_option maxRecDepth 100000 in
set_option maxHeartbeats 4000000 in
theorem c_X12_isStrangerAt (l : Launch) (p1 : Int32) (p2 : Int32) (p3 : Int32) (σ : zG) (q : Int32) (hq : f_X12_isStrangerAt p1 p2 p3 σ = some q) : zMet l zsyM m_X12_isStrangerAt yX12_isStrangerAt [zR 0 0, zI p1, zI p2, zI p3] σ (some (zI q)) σ := by
  refine zEnter [(0, zR 0 0), (1, zI p1), (2, zI p2), (3, zI p3)] (by decide) rfl (fun _ => Nat.le_of_ble_eq_true rfl) (fun _ => rfl) (fun w h => ?_) (fun K hv hs => ?_)
  · exact zokm rfl h
  · have hP : ∀ x, f_X12_isStrangerAt p1 p2 p3 σ = some x → zKv K = some (zI x) ∧ zKs K = σ := fun x h => by rw [hq] at h; cases h; exact ⟨hv, hs⟩
    have hn : f_X12_isStrangerAt p1 p2 p3 σ ≠ none := fun z => by rw [hq] at z; cases z
    have hf := f_X12_isStrangerAt.eq_1 p1 p2 p3 σ
    refine z_aload_n (pc := 0) 0 (zdg D_X12_isStrangerAt 0 (0, .aload_n 0, 1) rfl) rfl rfl ?_
    refine z_iload_n (pc := 1) 1 (zdg D_X12_isStrangerAt 1 (1, .iload_n 1, 1) rfl) rfl rfl ?_
    refine z_iconst (pc := 2) (v := 0) (zdg D_X12_isStrangerAt 2 (2, .iconst 0, 1) rfl) rfl ?_
    refine z_bind hn hf (fun q1 hq hf => ?_)
    refine z_callV (pc := 3) (rest := []) (st2 := [zI q1]) (fun l => c_X12_ofStranger l p1 (0 : Int32) σ q1 hq) zv_X12_ofStranger lm_X12_300 rfl rfl rfl rfl rfl rfl (Nat.le_of_ble_eq_true rfl) ⟨Nat.le_of_ble_eq_true rfl, Nat.le_of_ble_eq_true rfl⟩ (zdg D_X12_isStrangerAt 3 (3, .invokevirtual 300, 3) rfl) ?_
    refine z_iload_n (pc := 6) 2 (zdg D_X12_isStrangerAt 4 (6, .iload_n 2, 1) rfl) rfl rfl ?_
    refine z_icmp_ne (pc := 7) 33 (zdg D_X12_isStrangerAt 5 (7, .if_icmp .ne 26, 3) rfl) rfl hf (fun hf => ?_) (fun hf => ?_)
    · refine z_iconst (pc := 33) (v := 0) (zdg D_X12_isStrangerAt 19 (33, .iconst 0, 1) rfl) rfl ?_
      exact z_iret (pc := 34) rfl rfl (zdg D_X12_isStrangerAt 20 (34, .ireturn, 1) rfl) (hP _ hf)
    · refine z_iload_n (pc := 10) 3 (zdg D_X12_isStrangerAt 6 (10, .iload_n 3, 1) rfl) rfl rfl ?_
      refine z_aload_n (pc := 11) 0 (zdg D_X12_isStrangerAt 7 (11, .aload_n 0, 1) rfl) rfl rfl ?_
      refine z_iload_n (pc := 12) 1 (zdg D_X12_isStrangerAt 8 (12, .iload_n 1, 1) rfl) rfl rfl ?_
      refine z_iconst (pc := 13) (v := 2) (zdg D_X12_isStrangerAt 9 (13, .iconst 2, 1) rfl) rfl ?_
      refine z_bind hn hf (fun q2 hq hf => ?_)
      refine z_callV (pc := 14) (rest := [zI p3]) (st2 := [zI q2, zI p3]) (fun l => c_X12_ofStranger l p1 (2 : Int32) σ q2 hq) zv_X12_ofStranger lm_X12_300 rfl rfl rfl rfl rfl rfl (Nat.le_of_ble_eq_true rfl) ⟨Nat.le_of_ble_eq_true rfl, Nat.le_of_ble_eq_true rfl⟩ (zdg D_X12_isStrangerAt 10 (14, .invokevirtual 300, 3) rfl) ?_
      refine z_aload_n (pc := 17) 0 (zdg D_X12_isStrangerAt 11 (17, .aload_n 0, 1) rfl) rfl rfl ?_
      refine z_iload_n (pc := 18) 1 (zdg D_X12_isStrangerAt 12 (18, .iload_n 1, 1) rfl) rfl rfl ?_
      refine z_iconst (pc := 19) (v := 1) (zdg D_X12_isStrangerAt 13 (19, .iconst 1, 1) rfl) rfl ?_
      refine z_bind hn hf (fun q3 hq hf => ?_)
      refine z_callV (pc := 20) (rest := [zI q2, zI p3]) (st2 := [zI q3, zI q2, zI p3]) (fun l => c_X12_ofStranger l p1 (1 : Int32) σ q3 hq) zv_X12_ofStranger lm_X12_300 rfl rfl rfl rfl rfl rfl (Nat.le_of_ble_eq_true rfl) ⟨Nat.le_of_ble_eq_true rfl, Nat.le_of_ble_eq_true rfl⟩ (zdg D_X12_isStrangerAt 14 (20, .invokevirtual 300, 3) rfl) ?_
      refine z_callS (pc := 23) (rest := []) (st2 := [zI (f_X12_isIn p3 q2 q3)]) (fun l => c_X12_isIn l p3 q2 q3 σ) zs_X12_isIn lm_X12_64 rfl rfl rfl (Nat.le_of_ble_eq_true rfl) ⟨Nat.le_of_ble_eq_true rfl, Nat.le_of_ble_eq_true rfl⟩ (zdg D_X12_isStrangerAt 15 (23, .invokestatic 64, 3) rfl) ?_
      refine z_if_eq (pc := 26) 33 (zdg D_X12_isStrangerAt 16 (26, .ifCond .eq 7, 3) rfl) rfl hf (fun hf => ?_) (fun hf => ?_)
      · refine z_iconst (pc := 33) (v := 0) (zdg D_X12_isStrangerAt 19 (33, .iconst 0, 1) rfl) rfl ?_
        exact z_iret (pc := 34) rfl rfl (zdg D_X12_isStrangerAt 20 (34, .ireturn, 1) rfl) (hP _ hf)
      · refine z_iconst (pc := 29) (v := 1) (zdg D_X12_isStrangerAt 17 (29, .iconst 1, 1) rfl) rfl ?_
        refine z_goto (pc := 30) 34 (zdg D_X12_isStrangerAt 18 (30, .goto 4, 3) rfl) rfl ?_
        exact z_iret (pc := 34) rfl rfl (zdg D_X12_isStrangerAt 20 (34, .ireturn, 1) rfl) (hP _ hf)

def L_X12_whoIs : List (Nat × Instr × Nat) := [(0, .iconst 0, 1), (1, .istore_n 3, 1), (2, .iload_n 3, 1), (3, .aload_n 0, 1), (4, .getfield 7, 3), (7, .bipush 36, 2), (9, .iaload, 1), (10, .if_icmp .ge 21, 3), (13, .aload_n 0, 1), (14, .iload_n 3, 1), (15, .iload_n 2, 1), (16, .invokevirtual 303, 3), (19, .iload_n 1, 1), (20, .if_icmp .ne 5, 3), (23, .iload_n 3, 1), (24, .ireturn, 1), (25, .iinc 3 1, 3), (28, .goto (-26), 3), (31, .iconst 0, 1), (32, .istore_n 3, 1), (33, .iload_n 3, 1), (34, .aload_n 0, 1), (35, .getfield 7, 3), (38, .iconst 3, 1), (39, .iaload, 1), (40, .if_icmp .ge 24, 3), (43, .aload_n 0, 1), (44, .iload_n 3, 1), (45, .iload_n 1, 1), (46, .iload_n 2, 1), (47, .invokevirtual 306, 3), (50, .ifCond .eq 8, 3), (53, .bipush 12, 2), (55, .iload_n 3, 1), (56, .iadd, 1), (57, .ireturn, 1), (58, .iinc 3 1, 3), (61, .goto (-28), 3), (64, .iconst (-1), 1), (65, .ireturn, 1)]
set_option maxRecDepth 100000 in
theorem D_X12_whoIs : zdecs cX12_whoIs L_X12_whoIs = true := by decide +kernel
noncomputable def b_X12_whoIs_2 (σ : zG) (p2 : Int32) (p1 : Int32) (v3_1 : Int32) : Option ((Int32) ⊕ ((Int32) ⊕ (Unit))) :=
  if v3_1 < (σ.1 1 0 36) then (f_X12_placeOf v3_1 p2 σ).bind (fun q2 => if q2 = p1 then some (Sum.inr (Sum.inl v3_1)) else some (Sum.inl (v3_1 + 1))) else some (Sum.inr (Sum.inr ()))
noncomputable def b_X12_whoIs_33 (σ : zG) (p1 : Int32) (p2 : Int32) (v3_5 : Int32) : Option ((Int32) ⊕ ((Int32) ⊕ (Unit))) :=
  if v3_5 < (σ.1 1 0 3) then (f_X12_isStrangerAt v3_5 p1 p2 σ).bind (fun q6 => if q6 = 0 then some (Sum.inl (v3_5 + 1)) else some (Sum.inr (Sum.inl v3_5))) else some (Sum.inr (Sum.inr ()))
noncomputable def f_X12_whoIs (p1 : Int32) (p2 : Int32) (σ : zG) : Option (Int32) :=
  (zlp (fun q : Int32 => b_X12_whoIs_2 σ p2 p1 q) (0 : Int32)).bind (Sum.elim (fun e3 : Int32 => some e3) (fun e4 : Unit => (zlp (fun q : Int32 => b_X12_whoIs_33 σ p1 p2 q) (0 : Int32)).bind (Sum.elim (fun e7 : Int32 => some ((12 : Int32) + e7)) (fun e8 : Unit => some (-1 : Int32)))))
set_option maxRecDepth 100000 in
set_option maxHeartbeats 4000000 in
theorem c_X12_whoIs (l : Launch) (p1 : Int32) (p2 : Int32) (σ : zG) (q : Int32) (hq : f_X12_whoIs p1 p2 σ = some q) : zMet l zsyM m_X12_whoIs yX12_whoIs [zR 0 0, zI p1, zI p2] σ (some (zI q)) σ := by
  refine zEnter [(0, zR 0 0), (1, zI p1), (2, zI p2)] (by decide) rfl (fun _ => Nat.le_of_ble_eq_true rfl) (fun _ => rfl) (fun w h => ?_) (fun K hv hs => ?_)
  · exact zokm rfl h
  · have hP : ∀ x, f_X12_whoIs p1 p2 σ = some x → zKv K = some (zI x) ∧ zKs K = σ := fun x h => by rw [hq] at h; cases h; exact ⟨hv, hs⟩
    have hn : f_X12_whoIs p1 p2 σ ≠ none := fun z => by rw [hq] at z; cases z
    have hf := f_X12_whoIs.eq_1 p1 p2 σ
    refine z_iconst (pc := 0) (v := 0) (zdg D_X12_whoIs 0 (0, .iconst 0, 1) rfl) rfl ?_
    refine z_istore_n (pc := 1) (al' := [(3, zI (0 : Int32)), (0, zR 0 0), (1, zI p1), (2, zI p2)]) (zdg D_X12_whoIs 1 (1, .istore_n 3, 1) rfl) rfl (by decide) rfl ?_
    refine z_sub (al' := [(0, zR 0 0), (1, zI p1), (2, zI p2), (3, zI (0 : Int32))]) [1, 2, 3, 0] rfl ?_
    refine z_loop (f := (fun q : Int32 => b_X12_whoIs_2 σ p2 p1 q)) (a := (0 : Int32)) (fun q : Int32 => zX zsyM m_X12_whoIs K 2 [(0, zR 0 0), (1, zI p1), (2, zI p2), (3, zI q)] [] σ) (Sum.elim (fun e3 : Int32 => zX zsyM m_X12_whoIs K 23 [(3, zI e3)] [] σ) (fun e4 : Unit => zX zsyM m_X12_whoIs K 31 [(0, zR 0 0), (1, zI p1), (2, zI p2)] [] σ)) hn hf ?_ ?_
    · intro b hf
      cases b with
      | inl e3 =>
        refine z_iload_n (pc := 23) 0 (zdg D_X12_whoIs 14 (23, .iload_n 3, 1) rfl) rfl rfl ?_
        exact z_iret (pc := 24) rfl rfl (zdg D_X12_whoIs 15 (24, .ireturn, 1) rfl) (hP _ hf)
      | inr b =>
        revert hf
        revert b
        intro e4 hf
        refine z_iconst (pc := 31) (v := 0) (zdg D_X12_whoIs 18 (31, .iconst 0, 1) rfl) rfl ?_
        refine z_istore_n (pc := 32) (al' := [(3, zI (0 : Int32)), (0, zR 0 0), (1, zI p1), (2, zI p2)]) (zdg D_X12_whoIs 19 (32, .istore_n 3, 1) rfl) rfl (by decide) rfl ?_
        refine z_sub (al' := [(0, zR 0 0), (1, zI p1), (2, zI p2), (3, zI (0 : Int32))]) [1, 2, 3, 0] rfl ?_
        refine z_loop (f := (fun q : Int32 => b_X12_whoIs_33 σ p1 p2 q)) (a := (0 : Int32)) (fun q : Int32 => zX zsyM m_X12_whoIs K 33 [(0, zR 0 0), (1, zI p1), (2, zI p2), (3, zI q)] [] σ) (Sum.elim (fun e7 : Int32 => zX zsyM m_X12_whoIs K 53 [(3, zI e7)] [] σ) (fun e8 : Unit => zX zsyM m_X12_whoIs K 64 [] [] σ)) hn hf ?_ ?_
        · intro b hf
          cases b with
          | inl e7 =>
            refine z_bipush (pc := 53) (v := 12) (zdg D_X12_whoIs 32 (53, .bipush 12, 2) rfl) rfl ?_
            refine z_iload_n (pc := 55) 0 (zdg D_X12_whoIs 33 (55, .iload_n 3, 1) rfl) rfl rfl ?_
            refine z_iadd (pc := 56) (zdg D_X12_whoIs 34 (56, .iadd, 1) rfl) ?_
            exact z_iret (pc := 57) rfl rfl (zdg D_X12_whoIs 35 (57, .ireturn, 1) rfl) (hP _ hf)
          | inr b =>
            revert hf
            revert b
            intro e8 hf
            refine z_iconst (pc := 64) (v := -1) (zdg D_X12_whoIs 38 (64, .iconst (-1), 1) rfl) rfl ?_
            exact z_iret (pc := 65) rfl rfl (zdg D_X12_whoIs 39 (65, .ireturn, 1) rfl) (hP _ hf)
        · intro v3_5 hn hi hx
          have hf := b_X12_whoIs_33.eq_1 σ p1 p2 v3_5
          refine z_iload_n (pc := 33) 3 (zdg D_X12_whoIs 20 (33, .iload_n 3, 1) rfl) rfl rfl ?_
          refine z_aload_n (pc := 34) 0 (zdg D_X12_whoIs 21 (34, .aload_n 0, 1) rfl) rfl rfl ?_
          refine z_getR (pc := 35) (g := 1) (j := 0) lf_X12_7 rfl rfl rfl (zdg D_X12_whoIs 22 (35, .getfield 7, 3) rfl) ?_
          refine z_iconst (pc := 38) (v := 3) (zdg D_X12_whoIs 23 (38, .iconst 3, 1) rfl) rfl ?_
          refine z_ialdC (pc := 39) (j := 3) rfl (fun _ => rfl) (zdg D_X12_whoIs 24 (39, .iaload, 1) rfl) rfl rfl ?_
          refine z_icmp_ge (pc := 40) 64 (zdg D_X12_whoIs 25 (40, .if_icmp .ge 24, 3) rfl) rfl hf (fun hf => ?_) (fun hf => ?_)
          · refine z_sub (al' := []) [] rfl ?_
            exact hx (Sum.inr ()) hf
          · refine z_aload_n (pc := 43) 0 (zdg D_X12_whoIs 26 (43, .aload_n 0, 1) rfl) rfl rfl ?_
            refine z_iload_n (pc := 44) 3 (zdg D_X12_whoIs 27 (44, .iload_n 3, 1) rfl) rfl rfl ?_
            refine z_iload_n (pc := 45) 1 (zdg D_X12_whoIs 28 (45, .iload_n 1, 1) rfl) rfl rfl ?_
            refine z_iload_n (pc := 46) 2 (zdg D_X12_whoIs 29 (46, .iload_n 2, 1) rfl) rfl rfl ?_
            refine z_bind hn hf (fun q6 hq hf => ?_)
            refine z_callV (pc := 47) (rest := []) (st2 := [zI q6]) (fun l => c_X12_isStrangerAt l v3_5 p1 p2 σ q6 hq) zv_X12_isStrangerAt lm_X12_306 rfl rfl rfl rfl rfl rfl (Nat.le_of_ble_eq_true rfl) ⟨Nat.le_of_ble_eq_true rfl, Nat.le_of_ble_eq_true rfl⟩ (zdg D_X12_whoIs 30 (47, .invokevirtual 306, 3) rfl) ?_
            refine z_if_eq (pc := 50) 58 (zdg D_X12_whoIs 31 (50, .ifCond .eq 8, 3) rfl) rfl hf (fun hf => ?_) (fun hf => ?_)
            · refine z_iinc (pc := 58) (v0 := (v3_5 + 1)) (al' := [(3, zI (v3_5 + 1)), (0, zR 0 0), (1, zI p1), (2, zI p2)]) 3 (zdg D_X12_whoIs 36 (58, .iinc 3 1, 3) rfl) rfl rfl (by decide) rfl ?_
              refine z_goto (pc := 61) 33 (zdg D_X12_whoIs 37 (61, .goto (-28), 3) rfl) rfl ?_
              refine z_sub (al' := [(0, zR 0 0), (1, zI p1), (2, zI p2), (3, zI (v3_5 + 1))]) [1, 2, 3, 0] rfl ?_
              exact hi (v3_5 + 1) hf
            · refine z_sub (al' := [(3, zI v3_5)]) [3] rfl ?_
              exact hx (Sum.inl v3_5) hf
    · intro v3_1 hn hi hx
      have hf := b_X12_whoIs_2.eq_1 σ p2 p1 v3_1
      refine z_iload_n (pc := 2) 3 (zdg D_X12_whoIs 2 (2, .iload_n 3, 1) rfl) rfl rfl ?_
      refine z_aload_n (pc := 3) 0 (zdg D_X12_whoIs 3 (3, .aload_n 0, 1) rfl) rfl rfl ?_
      refine z_getR (pc := 4) (g := 1) (j := 0) lf_X12_7 rfl rfl rfl (zdg D_X12_whoIs 4 (4, .getfield 7, 3) rfl) ?_
      refine z_bipush (pc := 7) (v := 36) (zdg D_X12_whoIs 5 (7, .bipush 36, 2) rfl) rfl ?_
      refine z_ialdC (pc := 9) (j := 36) rfl (fun _ => rfl) (zdg D_X12_whoIs 6 (9, .iaload, 1) rfl) rfl rfl ?_
      refine z_icmp_ge (pc := 10) 31 (zdg D_X12_whoIs 7 (10, .if_icmp .ge 21, 3) rfl) rfl hf (fun hf => ?_) (fun hf => ?_)
      · refine z_sub (al' := [(0, zR 0 0), (1, zI p1), (2, zI p2)]) [0, 1, 2] rfl ?_
        exact hx (Sum.inr ()) hf
      · refine z_aload_n (pc := 13) 0 (zdg D_X12_whoIs 8 (13, .aload_n 0, 1) rfl) rfl rfl ?_
        refine z_iload_n (pc := 14) 3 (zdg D_X12_whoIs 9 (14, .iload_n 3, 1) rfl) rfl rfl ?_
        refine z_iload_n (pc := 15) 2 (zdg D_X12_whoIs 10 (15, .iload_n 2, 1) rfl) rfl rfl ?_
        refine z_bind hn hf (fun q2 hq hf => ?_)
        refine z_callV (pc := 16) (rest := []) (st2 := [zI q2]) (fun l => c_X12_placeOf l v3_1 p2 σ q2 hq) zv_X12_placeOf lm_X12_303 rfl rfl rfl rfl rfl rfl (Nat.le_of_ble_eq_true rfl) ⟨Nat.le_of_ble_eq_true rfl, Nat.le_of_ble_eq_true rfl⟩ (zdg D_X12_whoIs 11 (16, .invokevirtual 303, 3) rfl) ?_
        refine z_iload_n (pc := 19) 1 (zdg D_X12_whoIs 12 (19, .iload_n 1, 1) rfl) rfl rfl ?_
        refine z_icmp_ne (pc := 20) 25 (zdg D_X12_whoIs 13 (20, .if_icmp .ne 5, 3) rfl) rfl hf (fun hf => ?_) (fun hf => ?_)
        · refine z_iinc (pc := 25) (v0 := (v3_1 + 1)) (al' := [(3, zI (v3_1 + 1)), (0, zR 0 0), (1, zI p1), (2, zI p2)]) 3 (zdg D_X12_whoIs 16 (25, .iinc 3 1, 3) rfl) rfl rfl (by decide) rfl ?_
          refine z_goto (pc := 28) 2 (zdg D_X12_whoIs 17 (28, .goto (-26), 3) rfl) rfl ?_
          refine z_sub (al' := [(0, zR 0 0), (1, zI p1), (2, zI p2), (3, zI (v3_1 + 1))]) [1, 2, 3, 0] rfl ?_
          exact hi (v3_1 + 1) hf
        · refine z_sub (al' := [(3, zI v3_1)]) [3] rfl ?_
          exact hx (Sum.inl v3_1) hf

def L_X12_isCovered : List (Nat × Instr × Nat) := [(0, .aload_n 0, 1), (1, .iload_n 1, 1), (2, .iload_n 2, 1), (3, .invokevirtual 309, 3), (6, .iconst (-1), 1), (7, .if_icmp .eq 7, 3), (10, .iconst 1, 1), (11, .goto 4, 3), (14, .iconst 0, 1), (15, .ireturn, 1)]
set_option maxRecDepth 100000 in
theorem D_X12_isCovered : zdecs cX12_isCovered L_X12_isCovered = true := by decide +kernel
noncomputable def f_X12_isCovered (p1 : Int32) (p2 : Int32) (σ : zG) : Option (Int32) :=
  (f_X12_whoIs p1 p2 σ).bind (fun q1 => if q1 = (-1 : Int32) then some (0 : Int32) else some (1 : Int32))
set_option maxRecDepth 100000 in
set_option maxHeartbeats 4000000 in
theorem c_X12_isCovered (l : Launch) (p1 : Int32) (p2 : Int32) (σ : zG) (q : Int32) (hq : f_X12_isCovered p1 p2 σ = some q) : zMet l zsyM m_X12_isCovered yX12_isCovered [zR 0 0, zI p1, zI p2] σ (some (zI q)) σ := by
  refine zEnter [(0, zR 0 0), (1, zI p1), (2, zI p2)] (by decide) rfl (fun _ => Nat.le_of_ble_eq_true rfl) (fun _ => rfl) (fun w h => ?_) (fun K hv hs => ?_)
  · exact zokm rfl h
  · have hP : ∀ x, f_X12_isCovered p1 p2 σ = some x → zKv K = some (zI x) ∧ zKs K = σ := fun x h => by rw [hq] at h; cases h; exact ⟨hv, hs⟩
    have hn : f_X12_isCovered p1 p2 σ ≠ none := fun z => by rw [hq] at z; cases z
    have hf := f_X12_isCovered.eq_1 p1 p2 σ
    refine z_aload_n (pc := 0) 0 (zdg D_X12_isCovered 0 (0, .aload_n 0, 1) rfl) rfl rfl ?_
    refine z_iload_n (pc := 1) 1 (zdg D_X12_isCovered 1 (1, .iload_n 1, 1) rfl) rfl rfl ?_
    refine z_iload_n (pc := 2) 2 (zdg D_X12_isCovered 2 (2, .iload_n 2, 1) rfl) rfl rfl ?_
    refine z_bind hn hf (fun q1 hq hf => ?_)
    refine z_callV (pc := 3) (rest := []) (st2 := [zI q1]) (fun l => c_X12_whoIs l p1 p2 σ q1 hq) zv_X12_whoIs lm_X12_309 rfl rfl rfl rfl rfl rfl (Nat.le_of_ble_eq_true rfl) ⟨Nat.le_of_ble_eq_true rfl, Nat.le_of_ble_eq_true rfl⟩ (zdg D_X12_isCovered 3 (3, .invokevirtual 309, 3) rfl) ?_
    refine z_iconst (pc := 6) (v := -1) (zdg D_X12_isCovered 4 (6, .iconst (-1), 1) rfl) rfl ?_
    refine z_icmp_eq (pc := 7) 14 (zdg D_X12_isCovered 5 (7, .if_icmp .eq 7, 3) rfl) rfl hf (fun hf => ?_) (fun hf => ?_)
    · refine z_iconst (pc := 14) (v := 0) (zdg D_X12_isCovered 8 (14, .iconst 0, 1) rfl) rfl ?_
      exact z_iret (pc := 15) rfl rfl (zdg D_X12_isCovered 9 (15, .ireturn, 1) rfl) (hP _ hf)
    · refine z_iconst (pc := 10) (v := 1) (zdg D_X12_isCovered 6 (10, .iconst 1, 1) rfl) rfl ?_
      refine z_goto (pc := 11) 15 (zdg D_X12_isCovered 7 (11, .goto 4, 3) rfl) rfl ?_
      exact z_iret (pc := 15) rfl rfl (zdg D_X12_isCovered 9 (15, .ireturn, 1) rfl) (hP _ hf)

def L_X12_toneOf : List (Nat × Instr × Nat) := [(0, .aload_n 0, 1), (1, .iload_n 1, 1), (2, .iload_n 2, 1), (3, .invokevirtual 309, 3), (6, .istore_n 3, 1), (7, .iload_n 3, 1), (8, .iconst (-1), 1), (9, .if_icmp .ne 12, 3), (12, .aload_n 0, 1), (13, .iload_n 1, 1), (14, .iload_n 2, 1), (15, .invokevirtual 312, 3), (18, .goto 25, 3), (21, .iload_n 3, 1), (22, .bipush 12, 2), (24, .if_icmp .ge 12, 3), (27, .aload_n 0, 1), (28, .iload_n 3, 1), (29, .iconst 0, 1), (30, .invokevirtual 314, 3), (33, .goto 10, 3), (36, .aload_n 0, 1), (37, .getfield 7, 3), (40, .bipush 35, 2), (42, .iaload, 1), (43, .ireturn, 1)]
set_option maxRecDepth 100000 in
theorem D_X12_toneOf : zdecs cX12_toneOf L_X12_toneOf = true := by decide +kernel
noncomputable def f_X12_toneOf (p1 : Int32) (p2 : Int32) (σ : zG) : Option (Int32 × zG) :=
  (f_X12_whoIs p1 p2 σ).bind (fun q1 => if q1 = (-1 : Int32) then (f_X12_shade p1 p2 σ).bind (fun q3 => some (q3.1, q3.2)) else if q1 < (12 : Int32) then (f_X12_ofWalker q1 (0 : Int32) σ).bind (fun q2 => some (q2, σ)) else some ((σ.1 1 0 35), σ))
set_option maxRecDepth 100000 in
set_option maxHeartbeats 4000000 in
theorem c_X12_toneOf (l : Launch) (p1 : Int32) (p2 : Int32) (σ : zG) (q : Int32 × zG) (hq : f_X12_toneOf p1 p2 σ = some q) : zMet l zsyM m_X12_toneOf yX12_toneOf [zR 0 0, zI p1, zI p2] σ (some (zI q.1)) q.2 := by
  refine zEnter [(0, zR 0 0), (1, zI p1), (2, zI p2)] (by decide) rfl (fun _ => Nat.le_of_ble_eq_true rfl) (fun _ => rfl) (fun w h => ?_) (fun K hv hs => ?_)
  · exact zokm rfl h
  · have hP : ∀ x s, f_X12_toneOf p1 p2 σ = some (x, s) → zKv K = some (zI x) ∧ zKs K = s := fun x s h => by rw [hq] at h; cases h; exact ⟨hv, hs⟩
    have hn : f_X12_toneOf p1 p2 σ ≠ none := fun z => by rw [hq] at z; cases z
    have hf := f_X12_toneOf.eq_1 p1 p2 σ
    refine z_aload_n (pc := 0) 0 (zdg D_X12_toneOf 0 (0, .aload_n 0, 1) rfl) rfl rfl ?_
    refine z_iload_n (pc := 1) 1 (zdg D_X12_toneOf 1 (1, .iload_n 1, 1) rfl) rfl rfl ?_
    refine z_iload_n (pc := 2) 2 (zdg D_X12_toneOf 2 (2, .iload_n 2, 1) rfl) rfl rfl ?_
    refine z_bind hn hf (fun q1 hq hf => ?_)
    refine z_callV (pc := 3) (rest := []) (st2 := [zI q1]) (fun l => c_X12_whoIs l p1 p2 σ q1 hq) zv_X12_whoIs lm_X12_309 rfl rfl rfl rfl rfl rfl (Nat.le_of_ble_eq_true rfl) ⟨Nat.le_of_ble_eq_true rfl, Nat.le_of_ble_eq_true rfl⟩ (zdg D_X12_toneOf 3 (3, .invokevirtual 309, 3) rfl) ?_
    refine z_istore_n (pc := 6) (al' := [(3, zI q1), (0, zR 0 0), (1, zI p1), (2, zI p2)]) (zdg D_X12_toneOf 4 (6, .istore_n 3, 1) rfl) rfl (by decide) rfl ?_
    refine z_iload_n (pc := 7) 0 (zdg D_X12_toneOf 5 (7, .iload_n 3, 1) rfl) rfl rfl ?_
    refine z_iconst (pc := 8) (v := -1) (zdg D_X12_toneOf 6 (8, .iconst (-1), 1) rfl) rfl ?_
    refine z_icmp_ne (pc := 9) 21 (zdg D_X12_toneOf 7 (9, .if_icmp .ne 12, 3) rfl) rfl hf (fun hf => ?_) (fun hf => ?_)
    · refine z_iload_n (pc := 21) 0 (zdg D_X12_toneOf 13 (21, .iload_n 3, 1) rfl) rfl rfl ?_
      refine z_bipush (pc := 22) (v := 12) (zdg D_X12_toneOf 14 (22, .bipush 12, 2) rfl) rfl ?_
      refine z_icmp_ge (pc := 24) 36 (zdg D_X12_toneOf 15 (24, .if_icmp .ge 12, 3) rfl) rfl hf (fun hf => ?_) (fun hf => ?_)
      · refine z_aload_n (pc := 36) 1 (zdg D_X12_toneOf 21 (36, .aload_n 0, 1) rfl) rfl rfl ?_
        refine z_getR (pc := 37) (g := 1) (j := 0) lf_X12_7 rfl rfl rfl (zdg D_X12_toneOf 22 (37, .getfield 7, 3) rfl) ?_
        refine z_bipush (pc := 40) (v := 35) (zdg D_X12_toneOf 23 (40, .bipush 35, 2) rfl) rfl ?_
        refine z_ialdC (pc := 42) (j := 35) rfl (fun _ => rfl) (zdg D_X12_toneOf 24 (42, .iaload, 1) rfl) rfl rfl ?_
        exact z_iret (pc := 43) rfl rfl (zdg D_X12_toneOf 25 (43, .ireturn, 1) rfl) (hP _ _ hf)
      · refine z_aload_n (pc := 27) 1 (zdg D_X12_toneOf 16 (27, .aload_n 0, 1) rfl) rfl rfl ?_
        refine z_iload_n (pc := 28) 0 (zdg D_X12_toneOf 17 (28, .iload_n 3, 1) rfl) rfl rfl ?_
        refine z_iconst (pc := 29) (v := 0) (zdg D_X12_toneOf 18 (29, .iconst 0, 1) rfl) rfl ?_
        refine z_bind hn hf (fun q2 hq hf => ?_)
        refine z_callV (pc := 30) (rest := []) (st2 := [zI q2]) (fun l => c_X12_ofWalker l q1 (0 : Int32) σ q2 hq) zv_X12_ofWalker lm_X12_314 rfl rfl rfl rfl rfl rfl (Nat.le_of_ble_eq_true rfl) ⟨Nat.le_of_ble_eq_true rfl, Nat.le_of_ble_eq_true rfl⟩ (zdg D_X12_toneOf 19 (30, .invokevirtual 314, 3) rfl) ?_
        refine z_goto (pc := 33) 43 (zdg D_X12_toneOf 20 (33, .goto 10, 3) rfl) rfl ?_
        exact z_iret (pc := 43) rfl rfl (zdg D_X12_toneOf 25 (43, .ireturn, 1) rfl) (hP _ _ hf)
    · refine z_aload_n (pc := 12) 1 (zdg D_X12_toneOf 8 (12, .aload_n 0, 1) rfl) rfl rfl ?_
      refine z_iload_n (pc := 13) 2 (zdg D_X12_toneOf 9 (13, .iload_n 1, 1) rfl) rfl rfl ?_
      refine z_iload_n (pc := 14) 3 (zdg D_X12_toneOf 10 (14, .iload_n 2, 1) rfl) rfl rfl ?_
      refine z_bind hn hf (fun q3 hq hf => ?_)
      refine z_callV (pc := 15) (rest := []) (st2 := [zI q3.1]) (fun l => c_X12_shade l p1 p2 σ q3 hq) zv_X12_shade lm_X12_312 rfl rfl rfl rfl rfl rfl (Nat.le_of_ble_eq_true rfl) ⟨Nat.le_of_ble_eq_true rfl, Nat.le_of_ble_eq_true rfl⟩ (zdg D_X12_toneOf 11 (15, .invokevirtual 312, 3) rfl) ?_
      refine z_goto (pc := 18) 43 (zdg D_X12_toneOf 12 (18, .goto 25, 3) rfl) rfl ?_
      exact z_iret (pc := 43) rfl rfl (zdg D_X12_toneOf 25 (43, .ireturn, 1) rfl) (hP _ _ hf)

def L_X12_isInColumns : List (Nat × Instr × Nat) := [(0, .iload_n 1, 1), (1, .bipush 8, 2), (3, .irem, 1), (4, .iload_n 2, 1), (5, .iload_n 2, 1), (6, .iload_n 3, 1), (7, .iadd, 1), (8, .iconst 1, 1), (9, .isub, 1), (10, .invokestatic 64, 3), (13, .ireturn, 1)]
set_option maxRecDepth 100000 in
theorem D_X12_isInColumns : zdecs cX12_isInColumns L_X12_isInColumns = true := by decide +kernel
noncomputable def f_X12_isInColumns (p1 : Int32) (p2 : Int32) (p3 : Int32) : Option (Int32) :=
  zg (zbl (f_X12_isIn (zrem p1 (8 : Int32)) p2 ((p2 + p3) - (1 : Int32)))) (some (f_X12_isIn (zrem p1 (8 : Int32)) p2 ((p2 + p3) - (1 : Int32))))
set_option maxRecDepth 100000 in
set_option maxHeartbeats 4000000 in
theorem c_X12_isInColumns (l : Launch) (p1 : Int32) (p2 : Int32) (p3 : Int32) (σ : zG) (q : Int32) (hq : f_X12_isInColumns p1 p2 p3 = some q) : zMet l zsyM m_X12_isInColumns yX12_isInColumns [zR 0 0, zI p1, zI p2, zI p3] σ (some (zI q)) σ := by
  refine zEnter [(0, zR 0 0), (1, zI p1), (2, zI p2), (3, zI p3)] (by decide) rfl (fun _ => Nat.le_of_ble_eq_true rfl) (fun _ => rfl) (fun w h => ?_) (fun K hv hs => ?_)
  · exact zokm rfl h
  · have hP : ∀ x, f_X12_isInColumns p1 p2 p3 = some x → zKv K = some (zI x) ∧ zKs K = σ := fun x h => by rw [hq] at h; cases h; exact ⟨hv, hs⟩
    have hn : f_X12_isInColumns p1 p2 p3 ≠ none := fun z => by rw [hq] at z; cases z
    have hf := f_X12_isInColumns.eq_1 p1 p2 p3
    refine z_iload_n (pc := 0) 1 (zdg D_X12_isInColumns 0 (0, .iload_n 1, 1) rfl) rfl rfl ?_
    refine z_bipush (pc := 1) (v := 8) (zdg D_X12_isInColumns 1 (1, .bipush 8, 2) rfl) rfl ?_
    refine z_iremK (pc := 3) (zdg D_X12_isInColumns 2 (3, .irem, 1) rfl) rfl ?_
    refine z_iload_n (pc := 4) 2 (zdg D_X12_isInColumns 3 (4, .iload_n 2, 1) rfl) rfl rfl ?_
    refine z_iload_n (pc := 5) 2 (zdg D_X12_isInColumns 4 (5, .iload_n 2, 1) rfl) rfl rfl ?_
    refine z_iload_n (pc := 6) 3 (zdg D_X12_isInColumns 5 (6, .iload_n 3, 1) rfl) rfl rfl ?_
    refine z_iadd (pc := 7) (zdg D_X12_isInColumns 6 (7, .iadd, 1) rfl) ?_
    refine z_iconst (pc := 8) (v := 1) (zdg D_X12_isInColumns 7 (8, .iconst 1, 1) rfl) rfl ?_
    refine z_isub (pc := 9) (zdg D_X12_isInColumns 8 (9, .isub, 1) rfl) ?_
    refine z_callS (pc := 10) (rest := []) (st2 := [zI (f_X12_isIn (zrem p1 (8 : Int32)) p2 ((p2 + p3) - (1 : Int32)))]) (fun l => c_X12_isIn l (zrem p1 (8 : Int32)) p2 ((p2 + p3) - (1 : Int32)) σ) zs_X12_isIn lm_X12_64 rfl rfl rfl (Nat.le_of_ble_eq_true rfl) ⟨Nat.le_of_ble_eq_true rfl, Nat.le_of_ble_eq_true rfl⟩ (zdg D_X12_isInColumns 9 (10, .invokestatic 64, 3) rfl) ?_
    exact z_zret (pc := 13) rfl (zdg D_X12_isInColumns 10 (13, .ireturn, 1) rfl) hn hf (fun hf => (hP _ hf))

def L_X12_isInView : List (Nat × Instr × Nat) := [(0, .aload_n 0, 1), (1, .iload_n 1, 1), (2, .invokevirtual 236, 3), (5, .ifCond .eq 28, 3), (8, .aload_n 0, 1), (9, .iload_n 1, 1), (10, .aload_n 0, 1), (11, .getfield 7, 3), (14, .iconst 1, 1), (15, .iaload, 1), (16, .aload_n 0, 1), (17, .getfield 7, 3), (20, .bipush 32, 2), (22, .iaload, 1), (23, .invokevirtual 317, 3), (26, .ifCond .eq 7, 3), (29, .iconst 1, 1), (30, .goto 4, 3), (33, .iconst 0, 1), (34, .ireturn, 1)]
set_option maxRecDepth 100000 in
theorem D_X12_isInView : zdecs cX12_isInView L_X12_isInView = true := by decide +kernel
noncomputable def f_X12_isInView (p1 : Int32) (σ : zG) : Option (Int32) :=
  (f_X12_isSpot p1 σ).bind (fun q1 => if q1 = 0 then some (0 : Int32) else (f_X12_isInColumns p1 (σ.1 1 0 1) (σ.1 1 0 32)).bind (fun q2 => if q2 = 0 then some (0 : Int32) else some (1 : Int32)))
set_option maxRecDepth 100000 in
set_option maxHeartbeats 4000000 in
theorem c_X12_isInView (l : Launch) (p1 : Int32) (σ : zG) (q : Int32) (hq : f_X12_isInView p1 σ = some q) : zMet l zsyM m_X12_isInView yX12_isInView [zR 0 0, zI p1] σ (some (zI q)) σ := by
  refine zEnter [(0, zR 0 0), (1, zI p1)] (by decide) rfl (fun _ => Nat.le_of_ble_eq_true rfl) (fun _ => rfl) (fun w h => ?_) (fun K hv hs => ?_)
  · exact zokm rfl h
  · have hP : ∀ x, f_X12_isInView p1 σ = some x → zKv K = some (zI x) ∧ zKs K = σ := fun x h => by rw [hq] at h; cases h; exact ⟨hv, hs⟩
    have hn : f_X12_isInView p1 σ ≠ none := fun z => by rw [hq] at z; cases z
    have hf := f_X12_isInView.eq_1 p1 σ
    refine z_aload_n (pc := 0) 0 (zdg D_X12_isInView 0 (0, .aload_n 0, 1) rfl) rfl rfl ?_
    refine z_iload_n (pc := 1) 1 (zdg D_X12_isInView 1 (1, .iload_n 1, 1) rfl) rfl rfl ?_
    refine z_bind hn hf (fun q1 hq hf => ?_)
    refine z_callV (pc := 2) (rest := []) (st2 := [zI q1]) (fun l => c_X12_isSpot l p1 σ q1 hq) zv_X12_isSpot lm_X12_236 rfl rfl rfl rfl rfl rfl (Nat.le_of_ble_eq_true rfl) ⟨Nat.le_of_ble_eq_true rfl, Nat.le_of_ble_eq_true rfl⟩ (zdg D_X12_isInView 2 (2, .invokevirtual 236, 3) rfl) ?_
    refine z_if_eq (pc := 5) 33 (zdg D_X12_isInView 3 (5, .ifCond .eq 28, 3) rfl) rfl hf (fun hf => ?_) (fun hf => ?_)
    · refine z_iconst (pc := 33) (v := 0) (zdg D_X12_isInView 18 (33, .iconst 0, 1) rfl) rfl ?_
      exact z_iret (pc := 34) rfl rfl (zdg D_X12_isInView 19 (34, .ireturn, 1) rfl) (hP _ hf)
    · refine z_aload_n (pc := 8) 0 (zdg D_X12_isInView 4 (8, .aload_n 0, 1) rfl) rfl rfl ?_
      refine z_iload_n (pc := 9) 1 (zdg D_X12_isInView 5 (9, .iload_n 1, 1) rfl) rfl rfl ?_
      refine z_aload_n (pc := 10) 0 (zdg D_X12_isInView 6 (10, .aload_n 0, 1) rfl) rfl rfl ?_
      refine z_getR (pc := 11) (g := 1) (j := 0) lf_X12_7 rfl rfl rfl (zdg D_X12_isInView 7 (11, .getfield 7, 3) rfl) ?_
      refine z_iconst (pc := 14) (v := 1) (zdg D_X12_isInView 8 (14, .iconst 1, 1) rfl) rfl ?_
      refine z_ialdC (pc := 15) (j := 1) rfl (fun _ => rfl) (zdg D_X12_isInView 9 (15, .iaload, 1) rfl) rfl rfl ?_
      refine z_aload_n (pc := 16) 0 (zdg D_X12_isInView 10 (16, .aload_n 0, 1) rfl) rfl rfl ?_
      refine z_getR (pc := 17) (g := 1) (j := 0) lf_X12_7 rfl rfl rfl (zdg D_X12_isInView 11 (17, .getfield 7, 3) rfl) ?_
      refine z_bipush (pc := 20) (v := 32) (zdg D_X12_isInView 12 (20, .bipush 32, 2) rfl) rfl ?_
      refine z_ialdC (pc := 22) (j := 32) rfl (fun _ => rfl) (zdg D_X12_isInView 13 (22, .iaload, 1) rfl) rfl rfl ?_
      refine z_bind hn hf (fun q2 hq hf => ?_)
      refine z_callV (pc := 23) (rest := []) (st2 := [zI q2]) (fun l => c_X12_isInColumns l p1 (σ.1 1 0 1) (σ.1 1 0 32) σ q2 hq) zv_X12_isInColumns lm_X12_317 rfl rfl rfl rfl rfl rfl (Nat.le_of_ble_eq_true rfl) ⟨Nat.le_of_ble_eq_true rfl, Nat.le_of_ble_eq_true rfl⟩ (zdg D_X12_isInView 14 (23, .invokevirtual 317, 3) rfl) ?_
      refine z_if_eq (pc := 26) 33 (zdg D_X12_isInView 15 (26, .ifCond .eq 7, 3) rfl) rfl hf (fun hf => ?_) (fun hf => ?_)
      · refine z_iconst (pc := 33) (v := 0) (zdg D_X12_isInView 18 (33, .iconst 0, 1) rfl) rfl ?_
        exact z_iret (pc := 34) rfl rfl (zdg D_X12_isInView 19 (34, .ireturn, 1) rfl) (hP _ hf)
      · refine z_iconst (pc := 29) (v := 1) (zdg D_X12_isInView 16 (29, .iconst 1, 1) rfl) rfl ?_
        refine z_goto (pc := 30) 34 (zdg D_X12_isInView 17 (30, .goto 4, 3) rfl) rfl ?_
        exact z_iret (pc := 34) rfl rfl (zdg D_X12_isInView 19 (34, .ireturn, 1) rfl) (hP _ hf)

def L_X12_peopleIn : List (Nat × Instr × Nat) := [(0, .iconst 0, 1), (1, .istore_n 2, 1), (2, .iconst 0, 1), (3, .istore_n 3, 1), (4, .iload_n 3, 1), (5, .aload_n 0, 1), (6, .getfield 7, 3), (9, .bipush 36, 2), (11, .iaload, 1), (12, .if_icmp .ge 40, 3), (15, .iload_n 2, 1), (16, .aload_n 0, 1), (17, .iload_n 3, 1), (18, .iload_n 1, 1), (19, .invokevirtual 303, 3), (22, .iconst (-1), 1), (23, .if_icmp .eq 20, 3), (26, .aload_n 0, 1), (27, .aload_n 0, 1), (28, .iload_n 3, 1), (29, .iload_n 1, 1), (30, .invokevirtual 303, 3), (33, .invokevirtual 320, 3), (36, .ifCond .eq 7, 3), (39, .iconst 1, 1), (40, .goto 4, 3), (43, .iconst 0, 1), (44, .iadd, 1), (45, .istore_n 2, 1), (46, .iinc 3 1, 3), (49, .goto (-45), 3), (52, .iconst 0, 1), (53, .istore_n 3, 1), (54, .iload_n 3, 1), (55, .aload_n 0, 1), (56, .getfield 7, 3), (59, .iconst 3, 1), (60, .iaload, 1), (61, .if_icmp .ge 45, 3), (64, .iload_n 2, 1), (65, .aload_n 0, 1), (66, .aload_n 0, 1), (67, .iload_n 3, 1), (68, .iconst 0, 1), (69, .invokevirtual 300, 3), (72, .invokevirtual 320, 3), (75, .ifCond .eq 22, 3), (78, .aload_n 0, 1), (79, .iload_n 3, 1), (80, .aload_n 0, 1), (81, .iload_n 3, 1), (82, .iconst 0, 1), (83, .invokevirtual 300, 3), (86, .iload_n 1, 1), (87, .invokevirtual 306, 3), (90, .ifCond .eq 7, 3), (93, .iconst 1, 1), (94, .goto 4, 3), (97, .iconst 0, 1), (98, .iadd, 1), (99, .istore_n 2, 1), (100, .iinc 3 1, 3), (103, .goto (-49), 3), (106, .iload_n 2, 1), (107, .ireturn, 1)]
set_option maxRecDepth 100000 in
theorem D_X12_peopleIn : zdecs cX12_peopleIn L_X12_peopleIn = true := by decide +kernel
noncomputable def b_X12_peopleIn_4 (σ : zG) (p1 : Int32) (v2_1 : Int32) (v3_2 : Int32) : Option ((Int32 × Int32) ⊕ (Int32)) :=
  if v3_2 < (σ.1 1 0 36) then (f_X12_placeOf v3_2 p1 σ).bind (fun q3 => if q3 = (-1 : Int32) then some (Sum.inl ((v2_1 + (0 : Int32)), (v3_2 + 1))) else (f_X12_placeOf v3_2 p1 σ).bind (fun q4 => (f_X12_isInView q4 σ).bind (fun q5 => if q5 = 0 then some (Sum.inl ((v2_1 + (0 : Int32)), (v3_2 + 1))) else some (Sum.inl ((v2_1 + (1 : Int32)), (v3_2 + 1)))))) else some (Sum.inr v2_1)
noncomputable def b_X12_peopleIn_54 (σ : zG) (p1 : Int32) (v2_7 : Int32) (v3_8 : Int32) : Option ((Int32 × Int32) ⊕ (Int32)) :=
  if v3_8 < (σ.1 1 0 3) then (f_X12_ofStranger v3_8 (0 : Int32) σ).bind (fun q9 => (f_X12_isInView q9 σ).bind (fun q10 => if q10 = 0 then some (Sum.inl ((v2_7 + (0 : Int32)), (v3_8 + 1))) else (f_X12_ofStranger v3_8 (0 : Int32) σ).bind (fun q11 => (f_X12_isStrangerAt v3_8 q11 p1 σ).bind (fun q12 => if q12 = 0 then some (Sum.inl ((v2_7 + (0 : Int32)), (v3_8 + 1))) else some (Sum.inl ((v2_7 + (1 : Int32)), (v3_8 + 1))))))) else some (Sum.inr v2_7)
noncomputable def f_X12_peopleIn (p1 : Int32) (σ : zG) : Option (Int32) :=
  (zlp (fun q : Int32 × Int32 => b_X12_peopleIn_4 σ p1 q.1 q.2) ((0 : Int32), (0 : Int32))).bind (fun e6 : Int32 => (zlp (fun q : Int32 × Int32 => b_X12_peopleIn_54 σ p1 q.1 q.2) (e6, (0 : Int32))).bind (fun e13 : Int32 => some e13))
set_option maxRecDepth 100000 in
set_option maxHeartbeats 4000000 in
theorem c_X12_peopleIn (l : Launch) (p1 : Int32) (σ : zG) (q : Int32) (hq : f_X12_peopleIn p1 σ = some q) : zMet l zsyM m_X12_peopleIn yX12_peopleIn [zR 0 0, zI p1] σ (some (zI q)) σ := by
  refine zEnter [(0, zR 0 0), (1, zI p1)] (by decide) rfl (fun _ => Nat.le_of_ble_eq_true rfl) (fun _ => rfl) (fun w h => ?_) (fun K hv hs => ?_)
  · exact zokm rfl h
  · have hP : ∀ x, f_X12_peopleIn p1 σ = some x → zKv K = some (zI x) ∧ zKs K = σ := fun x h => by rw [hq] at h; cases h; exact ⟨hv, hs⟩
    have hn : f_X12_peopleIn p1 σ ≠ none := fun z => by rw [hq] at z; cases z
    have hf := f_X12_peopleIn.eq_1 p1 σ
    refine z_iconst (pc := 0) (v := 0) (zdg D_X12_peopleIn 0 (0, .iconst 0, 1) rfl) rfl ?_
    refine z_istore_n (pc := 1) (al' := [(2, zI (0 : Int32)), (0, zR 0 0), (1, zI p1)]) (zdg D_X12_peopleIn 1 (1, .istore_n 2, 1) rfl) rfl (by decide) rfl ?_
    refine z_iconst (pc := 2) (v := 0) (zdg D_X12_peopleIn 2 (2, .iconst 0, 1) rfl) rfl ?_
    refine z_istore_n (pc := 3) (al' := [(3, zI (0 : Int32)), (2, zI (0 : Int32)), (0, zR 0 0), (1, zI p1)]) (zdg D_X12_peopleIn 3 (3, .istore_n 3, 1) rfl) rfl (by decide) rfl ?_
    refine z_sub (al' := [(0, zR 0 0), (1, zI p1), (2, zI (0 : Int32)), (3, zI (0 : Int32))]) [2, 3, 1, 0] rfl ?_
    refine z_loop (f := (fun q : Int32 × Int32 => b_X12_peopleIn_4 σ p1 q.1 q.2)) (a := ((0 : Int32), (0 : Int32))) (fun q : Int32 × Int32 => zX zsyM m_X12_peopleIn K 4 [(0, zR 0 0), (1, zI p1), (2, zI q.1), (3, zI q.2)] [] σ) (fun e6 : Int32 => zX zsyM m_X12_peopleIn K 52 [(0, zR 0 0), (1, zI p1), (2, zI e6)] [] σ) hn hf ?_ ?_
    · intro e6 hf
      refine z_iconst (pc := 52) (v := 0) (zdg D_X12_peopleIn 31 (52, .iconst 0, 1) rfl) rfl ?_
      refine z_istore_n (pc := 53) (al' := [(3, zI (0 : Int32)), (0, zR 0 0), (1, zI p1), (2, zI e6)]) (zdg D_X12_peopleIn 32 (53, .istore_n 3, 1) rfl) rfl (by decide) rfl ?_
      refine z_sub (al' := [(0, zR 0 0), (1, zI p1), (2, zI e6), (3, zI (0 : Int32))]) [1, 2, 3, 0] rfl ?_
      refine z_loop (f := (fun q : Int32 × Int32 => b_X12_peopleIn_54 σ p1 q.1 q.2)) (a := (e6, (0 : Int32))) (fun q : Int32 × Int32 => zX zsyM m_X12_peopleIn K 54 [(0, zR 0 0), (1, zI p1), (2, zI q.1), (3, zI q.2)] [] σ) (fun e13 : Int32 => zX zsyM m_X12_peopleIn K 106 [(2, zI e13)] [] σ) hn hf ?_ ?_
      · intro e13 hf
        refine z_iload_n (pc := 106) 0 (zdg D_X12_peopleIn 63 (106, .iload_n 2, 1) rfl) rfl rfl ?_
        exact z_iret (pc := 107) rfl rfl (zdg D_X12_peopleIn 64 (107, .ireturn, 1) rfl) (hP _ hf)
      · rintro ⟨v2_7, v3_8⟩ hn hi hx
        have hf := b_X12_peopleIn_54.eq_1 σ p1 v2_7 v3_8
        refine z_iload_n (pc := 54) 3 (zdg D_X12_peopleIn 33 (54, .iload_n 3, 1) rfl) rfl rfl ?_
        refine z_aload_n (pc := 55) 0 (zdg D_X12_peopleIn 34 (55, .aload_n 0, 1) rfl) rfl rfl ?_
        refine z_getR (pc := 56) (g := 1) (j := 0) lf_X12_7 rfl rfl rfl (zdg D_X12_peopleIn 35 (56, .getfield 7, 3) rfl) ?_
        refine z_iconst (pc := 59) (v := 3) (zdg D_X12_peopleIn 36 (59, .iconst 3, 1) rfl) rfl ?_
        refine z_ialdC (pc := 60) (j := 3) rfl (fun _ => rfl) (zdg D_X12_peopleIn 37 (60, .iaload, 1) rfl) rfl rfl ?_
        refine z_icmp_ge (pc := 61) 106 (zdg D_X12_peopleIn 38 (61, .if_icmp .ge 45, 3) rfl) rfl hf (fun hf => ?_) (fun hf => ?_)
        · refine z_sub (al' := [(2, zI v2_7)]) [2] rfl ?_
          exact hx v2_7 hf
        · refine z_iload_n (pc := 64) 2 (zdg D_X12_peopleIn 39 (64, .iload_n 2, 1) rfl) rfl rfl ?_
          refine z_aload_n (pc := 65) 0 (zdg D_X12_peopleIn 40 (65, .aload_n 0, 1) rfl) rfl rfl ?_
          refine z_aload_n (pc := 66) 0 (zdg D_X12_peopleIn 41 (66, .aload_n 0, 1) rfl) rfl rfl ?_
          refine z_iload_n (pc := 67) 3 (zdg D_X12_peopleIn 42 (67, .iload_n 3, 1) rfl) rfl rfl ?_
          refine z_iconst (pc := 68) (v := 0) (zdg D_X12_peopleIn 43 (68, .iconst 0, 1) rfl) rfl ?_
          refine z_bind hn hf (fun q9 hq hf => ?_)
          refine z_callV (pc := 69) (rest := [zR 0 0, zI v2_7]) (st2 := [zI q9, zR 0 0, zI v2_7]) (fun l => c_X12_ofStranger l v3_8 (0 : Int32) σ q9 hq) zv_X12_ofStranger lm_X12_300 rfl rfl rfl rfl rfl rfl (Nat.le_of_ble_eq_true rfl) ⟨Nat.le_of_ble_eq_true rfl, Nat.le_of_ble_eq_true rfl⟩ (zdg D_X12_peopleIn 44 (69, .invokevirtual 300, 3) rfl) ?_
          refine z_bind hn hf (fun q10 hq hf => ?_)
          refine z_callV (pc := 72) (rest := [zI v2_7]) (st2 := [zI q10, zI v2_7]) (fun l => c_X12_isInView l q9 σ q10 hq) zv_X12_isInView lm_X12_320 rfl rfl rfl rfl rfl rfl (Nat.le_of_ble_eq_true rfl) ⟨Nat.le_of_ble_eq_true rfl, Nat.le_of_ble_eq_true rfl⟩ (zdg D_X12_peopleIn 45 (72, .invokevirtual 320, 3) rfl) ?_
          refine z_if_eq (pc := 75) 97 (zdg D_X12_peopleIn 46 (75, .ifCond .eq 22, 3) rfl) rfl hf (fun hf => ?_) (fun hf => ?_)
          · refine z_iconst (pc := 97) (v := 0) (zdg D_X12_peopleIn 58 (97, .iconst 0, 1) rfl) rfl ?_
            refine z_iadd (pc := 98) (zdg D_X12_peopleIn 59 (98, .iadd, 1) rfl) ?_
            refine z_istore_n (pc := 99) (al' := [(2, zI (v2_7 + (0 : Int32))), (0, zR 0 0), (1, zI p1), (3, zI v3_8)]) (zdg D_X12_peopleIn 60 (99, .istore_n 2, 1) rfl) rfl (by decide) rfl ?_
            refine z_iinc (pc := 100) (v0 := (v3_8 + 1)) (al' := [(3, zI (v3_8 + 1)), (2, zI (v2_7 + (0 : Int32))), (0, zR 0 0), (1, zI p1)]) 3 (zdg D_X12_peopleIn 61 (100, .iinc 3 1, 3) rfl) rfl rfl (by decide) rfl ?_
            refine z_goto (pc := 103) 54 (zdg D_X12_peopleIn 62 (103, .goto (-49), 3) rfl) rfl ?_
            refine z_sub (al' := [(0, zR 0 0), (1, zI p1), (2, zI (v2_7 + (0 : Int32))), (3, zI (v3_8 + 1))]) [2, 3, 1, 0] rfl ?_
            exact hi ((v2_7 + (0 : Int32)), (v3_8 + 1)) hf
          · refine z_aload_n (pc := 78) 0 (zdg D_X12_peopleIn 47 (78, .aload_n 0, 1) rfl) rfl rfl ?_
            refine z_iload_n (pc := 79) 3 (zdg D_X12_peopleIn 48 (79, .iload_n 3, 1) rfl) rfl rfl ?_
            refine z_aload_n (pc := 80) 0 (zdg D_X12_peopleIn 49 (80, .aload_n 0, 1) rfl) rfl rfl ?_
            refine z_iload_n (pc := 81) 3 (zdg D_X12_peopleIn 50 (81, .iload_n 3, 1) rfl) rfl rfl ?_
            refine z_iconst (pc := 82) (v := 0) (zdg D_X12_peopleIn 51 (82, .iconst 0, 1) rfl) rfl ?_
            refine z_bind hn hf (fun q11 hq hf => ?_)
            refine z_callV (pc := 83) (rest := [zI v3_8, zR 0 0, zI v2_7]) (st2 := [zI q11, zI v3_8, zR 0 0, zI v2_7]) (fun l => c_X12_ofStranger l v3_8 (0 : Int32) σ q11 hq) zv_X12_ofStranger lm_X12_300 rfl rfl rfl rfl rfl rfl (Nat.le_of_ble_eq_true rfl) ⟨Nat.le_of_ble_eq_true rfl, Nat.le_of_ble_eq_true rfl⟩ (zdg D_X12_peopleIn 52 (83, .invokevirtual 300, 3) rfl) ?_
            refine z_iload_n (pc := 86) 1 (zdg D_X12_peopleIn 53 (86, .iload_n 1, 1) rfl) rfl rfl ?_
            refine z_bind hn hf (fun q12 hq hf => ?_)
            refine z_callV (pc := 87) (rest := [zI v2_7]) (st2 := [zI q12, zI v2_7]) (fun l => c_X12_isStrangerAt l v3_8 q11 p1 σ q12 hq) zv_X12_isStrangerAt lm_X12_306 rfl rfl rfl rfl rfl rfl (Nat.le_of_ble_eq_true rfl) ⟨Nat.le_of_ble_eq_true rfl, Nat.le_of_ble_eq_true rfl⟩ (zdg D_X12_peopleIn 54 (87, .invokevirtual 306, 3) rfl) ?_
            refine z_if_eq (pc := 90) 97 (zdg D_X12_peopleIn 55 (90, .ifCond .eq 7, 3) rfl) rfl hf (fun hf => ?_) (fun hf => ?_)
            · refine z_iconst (pc := 97) (v := 0) (zdg D_X12_peopleIn 58 (97, .iconst 0, 1) rfl) rfl ?_
              refine z_iadd (pc := 98) (zdg D_X12_peopleIn 59 (98, .iadd, 1) rfl) ?_
              refine z_istore_n (pc := 99) (al' := [(2, zI (v2_7 + (0 : Int32))), (0, zR 0 0), (1, zI p1), (3, zI v3_8)]) (zdg D_X12_peopleIn 60 (99, .istore_n 2, 1) rfl) rfl (by decide) rfl ?_
              refine z_iinc (pc := 100) (v0 := (v3_8 + 1)) (al' := [(3, zI (v3_8 + 1)), (2, zI (v2_7 + (0 : Int32))), (0, zR 0 0), (1, zI p1)]) 3 (zdg D_X12_peopleIn 61 (100, .iinc 3 1, 3) rfl) rfl rfl (by decide) rfl ?_
              refine z_goto (pc := 103) 54 (zdg D_X12_peopleIn 62 (103, .goto (-49), 3) rfl) rfl ?_
              refine z_sub (al' := [(0, zR 0 0), (1, zI p1), (2, zI (v2_7 + (0 : Int32))), (3, zI (v3_8 + 1))]) [2, 3, 1, 0] rfl ?_
              exact hi ((v2_7 + (0 : Int32)), (v3_8 + 1)) hf
            · refine z_iconst (pc := 93) (v := 1) (zdg D_X12_peopleIn 56 (93, .iconst 1, 1) rfl) rfl ?_
              refine z_goto (pc := 94) 98 (zdg D_X12_peopleIn 57 (94, .goto 4, 3) rfl) rfl ?_
              refine z_iadd (pc := 98) (zdg D_X12_peopleIn 59 (98, .iadd, 1) rfl) ?_
              refine z_istore_n (pc := 99) (al' := [(2, zI (v2_7 + (1 : Int32))), (0, zR 0 0), (1, zI p1), (3, zI v3_8)]) (zdg D_X12_peopleIn 60 (99, .istore_n 2, 1) rfl) rfl (by decide) rfl ?_
              refine z_iinc (pc := 100) (v0 := (v3_8 + 1)) (al' := [(3, zI (v3_8 + 1)), (2, zI (v2_7 + (1 : Int32))), (0, zR 0 0), (1, zI p1)]) 3 (zdg D_X12_peopleIn 61 (100, .iinc 3 1, 3) rfl) rfl rfl (by decide) rfl ?_
              refine z_goto (pc := 103) 54 (zdg D_X12_peopleIn 62 (103, .goto (-49), 3) rfl) rfl ?_
              refine z_sub (al' := [(0, zR 0 0), (1, zI p1), (2, zI (v2_7 + (1 : Int32))), (3, zI (v3_8 + 1))]) [2, 3, 1, 0] rfl ?_
              exact hi ((v2_7 + (1 : Int32)), (v3_8 + 1)) hf
    · rintro ⟨v2_1, v3_2⟩ hn hi hx
      have hf := b_X12_peopleIn_4.eq_1 σ p1 v2_1 v3_2
      refine z_iload_n (pc := 4) 3 (zdg D_X12_peopleIn 4 (4, .iload_n 3, 1) rfl) rfl rfl ?_
      refine z_aload_n (pc := 5) 0 (zdg D_X12_peopleIn 5 (5, .aload_n 0, 1) rfl) rfl rfl ?_
      refine z_getR (pc := 6) (g := 1) (j := 0) lf_X12_7 rfl rfl rfl (zdg D_X12_peopleIn 6 (6, .getfield 7, 3) rfl) ?_
      refine z_bipush (pc := 9) (v := 36) (zdg D_X12_peopleIn 7 (9, .bipush 36, 2) rfl) rfl ?_
      refine z_ialdC (pc := 11) (j := 36) rfl (fun _ => rfl) (zdg D_X12_peopleIn 8 (11, .iaload, 1) rfl) rfl rfl ?_
      refine z_icmp_ge (pc := 12) 52 (zdg D_X12_peopleIn 9 (12, .if_icmp .ge 40, 3) rfl) rfl hf (fun hf => ?_) (fun hf => ?_)
      · refine z_sub (al' := [(0, zR 0 0), (1, zI p1), (2, zI v2_1)]) [0, 1, 2] rfl ?_
        exact hx v2_1 hf
      · refine z_iload_n (pc := 15) 2 (zdg D_X12_peopleIn 10 (15, .iload_n 2, 1) rfl) rfl rfl ?_
        refine z_aload_n (pc := 16) 0 (zdg D_X12_peopleIn 11 (16, .aload_n 0, 1) rfl) rfl rfl ?_
        refine z_iload_n (pc := 17) 3 (zdg D_X12_peopleIn 12 (17, .iload_n 3, 1) rfl) rfl rfl ?_
        refine z_iload_n (pc := 18) 1 (zdg D_X12_peopleIn 13 (18, .iload_n 1, 1) rfl) rfl rfl ?_
        refine z_bind hn hf (fun q3 hq hf => ?_)
        refine z_callV (pc := 19) (rest := [zI v2_1]) (st2 := [zI q3, zI v2_1]) (fun l => c_X12_placeOf l v3_2 p1 σ q3 hq) zv_X12_placeOf lm_X12_303 rfl rfl rfl rfl rfl rfl (Nat.le_of_ble_eq_true rfl) ⟨Nat.le_of_ble_eq_true rfl, Nat.le_of_ble_eq_true rfl⟩ (zdg D_X12_peopleIn 14 (19, .invokevirtual 303, 3) rfl) ?_
        refine z_iconst (pc := 22) (v := -1) (zdg D_X12_peopleIn 15 (22, .iconst (-1), 1) rfl) rfl ?_
        refine z_icmp_eq (pc := 23) 43 (zdg D_X12_peopleIn 16 (23, .if_icmp .eq 20, 3) rfl) rfl hf (fun hf => ?_) (fun hf => ?_)
        · refine z_iconst (pc := 43) (v := 0) (zdg D_X12_peopleIn 26 (43, .iconst 0, 1) rfl) rfl ?_
          refine z_iadd (pc := 44) (zdg D_X12_peopleIn 27 (44, .iadd, 1) rfl) ?_
          refine z_istore_n (pc := 45) (al' := [(2, zI (v2_1 + (0 : Int32))), (0, zR 0 0), (1, zI p1), (3, zI v3_2)]) (zdg D_X12_peopleIn 28 (45, .istore_n 2, 1) rfl) rfl (by decide) rfl ?_
          refine z_iinc (pc := 46) (v0 := (v3_2 + 1)) (al' := [(3, zI (v3_2 + 1)), (2, zI (v2_1 + (0 : Int32))), (0, zR 0 0), (1, zI p1)]) 3 (zdg D_X12_peopleIn 29 (46, .iinc 3 1, 3) rfl) rfl rfl (by decide) rfl ?_
          refine z_goto (pc := 49) 4 (zdg D_X12_peopleIn 30 (49, .goto (-45), 3) rfl) rfl ?_
          refine z_sub (al' := [(0, zR 0 0), (1, zI p1), (2, zI (v2_1 + (0 : Int32))), (3, zI (v3_2 + 1))]) [2, 3, 1, 0] rfl ?_
          exact hi ((v2_1 + (0 : Int32)), (v3_2 + 1)) hf
        · refine z_aload_n (pc := 26) 0 (zdg D_X12_peopleIn 17 (26, .aload_n 0, 1) rfl) rfl rfl ?_
          refine z_aload_n (pc := 27) 0 (zdg D_X12_peopleIn 18 (27, .aload_n 0, 1) rfl) rfl rfl ?_
          refine z_iload_n (pc := 28) 3 (zdg D_X12_peopleIn 19 (28, .iload_n 3, 1) rfl) rfl rfl ?_
          refine z_iload_n (pc := 29) 1 (zdg D_X12_peopleIn 20 (29, .iload_n 1, 1) rfl) rfl rfl ?_
          refine z_bind hn hf (fun q4 hq hf => ?_)
          refine z_callV (pc := 30) (rest := [zR 0 0, zI v2_1]) (st2 := [zI q4, zR 0 0, zI v2_1]) (fun l => c_X12_placeOf l v3_2 p1 σ q4 hq) zv_X12_placeOf lm_X12_303 rfl rfl rfl rfl rfl rfl (Nat.le_of_ble_eq_true rfl) ⟨Nat.le_of_ble_eq_true rfl, Nat.le_of_ble_eq_true rfl⟩ (zdg D_X12_peopleIn 21 (30, .invokevirtual 303, 3) rfl) ?_
          refine z_bind hn hf (fun q5 hq hf => ?_)
          refine z_callV (pc := 33) (rest := [zI v2_1]) (st2 := [zI q5, zI v2_1]) (fun l => c_X12_isInView l q4 σ q5 hq) zv_X12_isInView lm_X12_320 rfl rfl rfl rfl rfl rfl (Nat.le_of_ble_eq_true rfl) ⟨Nat.le_of_ble_eq_true rfl, Nat.le_of_ble_eq_true rfl⟩ (zdg D_X12_peopleIn 22 (33, .invokevirtual 320, 3) rfl) ?_
          refine z_if_eq (pc := 36) 43 (zdg D_X12_peopleIn 23 (36, .ifCond .eq 7, 3) rfl) rfl hf (fun hf => ?_) (fun hf => ?_)
          · refine z_iconst (pc := 43) (v := 0) (zdg D_X12_peopleIn 26 (43, .iconst 0, 1) rfl) rfl ?_
            refine z_iadd (pc := 44) (zdg D_X12_peopleIn 27 (44, .iadd, 1) rfl) ?_
            refine z_istore_n (pc := 45) (al' := [(2, zI (v2_1 + (0 : Int32))), (0, zR 0 0), (1, zI p1), (3, zI v3_2)]) (zdg D_X12_peopleIn 28 (45, .istore_n 2, 1) rfl) rfl (by decide) rfl ?_
            refine z_iinc (pc := 46) (v0 := (v3_2 + 1)) (al' := [(3, zI (v3_2 + 1)), (2, zI (v2_1 + (0 : Int32))), (0, zR 0 0), (1, zI p1)]) 3 (zdg D_X12_peopleIn 29 (46, .iinc 3 1, 3) rfl) rfl rfl (by decide) rfl ?_
            refine z_goto (pc := 49) 4 (zdg D_X12_peopleIn 30 (49, .goto (-45), 3) rfl) rfl ?_
            refine z_sub (al' := [(0, zR 0 0), (1, zI p1), (2, zI (v2_1 + (0 : Int32))), (3, zI (v3_2 + 1))]) [2, 3, 1, 0] rfl ?_
            exact hi ((v2_1 + (0 : Int32)), (v3_2 + 1)) hf
          · refine z_iconst (pc := 39) (v := 1) (zdg D_X12_peopleIn 24 (39, .iconst 1, 1) rfl) rfl ?_
            refine z_goto (pc := 40) 44 (zdg D_X12_peopleIn 25 (40, .goto 4, 3) rfl) rfl ?_
            refine z_iadd (pc := 44) (zdg D_X12_peopleIn 27 (44, .iadd, 1) rfl) ?_
            refine z_istore_n (pc := 45) (al' := [(2, zI (v2_1 + (1 : Int32))), (0, zR 0 0), (1, zI p1), (3, zI v3_2)]) (zdg D_X12_peopleIn 28 (45, .istore_n 2, 1) rfl) rfl (by decide) rfl ?_
            refine z_iinc (pc := 46) (v0 := (v3_2 + 1)) (al' := [(3, zI (v3_2 + 1)), (2, zI (v2_1 + (1 : Int32))), (0, zR 0 0), (1, zI p1)]) 3 (zdg D_X12_peopleIn 29 (46, .iinc 3 1, 3) rfl) rfl rfl (by decide) rfl ?_
            refine z_goto (pc := 49) 4 (zdg D_X12_peopleIn 30 (49, .goto (-45), 3) rfl) rfl ?_
            refine z_sub (al' := [(0, zR 0 0), (1, zI p1), (2, zI (v2_1 + (1 : Int32))), (3, zI (v3_2 + 1))]) [2, 3, 1, 0] rfl ?_
            exact hi ((v2_1 + (1 : Int32)), (v3_2 + 1)) hf

def L_X12_worthOf : List (Nat × Instr × Nat) := [(0, .iconst 0, 1), (1, .istore_n 2, 1), (2, .iconst 0, 1), (3, .istore_n 3, 1), (4, .iconst 0, 1), (5, .istore 4, 2), (7, .iload 4, 2), (9, .bipush 64, 2), (11, .if_icmp .ge 80, 3), (14, .aload_n 0, 1), (15, .iload 4, 2), (17, .invokevirtual 320, 3), (20, .ifCond .eq 65, 3), (23, .aload_n 0, 1), (24, .iload 4, 2), (26, .iload_n 1, 1), (27, .invokevirtual 323, 3), (30, .ifCond .ne 6, 3), (33, .goto 52, 3), (36, .iinc 2 1, 3), (39, .iload_n 3, 1), (40, .iload 4, 2), (42, .bipush 8, 2), (44, .irem, 1), (45, .aload_n 0, 1), (46, .getfield 7, 3), (49, .iconst 1, 1), (50, .iaload, 1), (51, .if_icmp .eq 27, 3), (54, .iload 4, 2), (56, .bipush 8, 2), (58, .irem, 1), (59, .aload_n 0, 1), (60, .getfield 7, 3), (63, .iconst 1, 1), (64, .iaload, 1), (65, .aload_n 0, 1), (66, .getfield 7, 3), (69, .bipush 32, 2), (71, .iaload, 1), (72, .iadd, 1), (73, .iconst 1, 1), (74, .isub, 1), (75, .if_icmp .ne 7, 3), (78, .iconst 1, 1), (79, .goto 4, 3), (82, .iconst 0, 1), (83, .iadd, 1), (84, .istore_n 3, 1), (85, .iinc 4 1, 3), (88, .goto (-81), 3), (91, .aload_n 0, 1), (92, .getfield 37, 3), (95, .iconst 3, 1), (96, .iload_n 1, 1), (97, .iastore, 1), (98, .aload_n 0, 1), (99, .getfield 37, 3), (102, .iconst 5, 1), (103, .iload_n 2, 1), (104, .iastore, 1), (105, .aload_n 0, 1), (106, .getfield 37, 3), (109, .bipush 6, 2), (111, .iload_n 3, 1), (112, .iastore, 1), (113, .aload_n 0, 1), (114, .getfield 37, 3), (117, .bipush 7, 2), (119, .aload_n 0, 1), (120, .getfield 7, 3), (123, .iconst 1, 1), (124, .iaload, 1), (125, .iastore, 1), (126, .aload_n 0, 1), (127, .getfield 37, 3), (130, .bipush 8, 2), (132, .aload_n 0, 1), (133, .iload_n 1, 1), (134, .invokevirtual 326, 3), (137, .iastore, 1), (138, .aload_n 0, 1), (139, .iconst 1, 1), (140, .bipush 100, 2), (142, .iload_n 2, 1), (143, .isub, 1), (144, .sipush (-999), 3), (147, .sipush 999, 3), (150, .invokevirtual 296, 3), (153, .ireturn, 1)]
set_option maxRecDepth 100000 in
theorem D_X12_worthOf : zdecs cX12_worthOf L_X12_worthOf = true := by decide +kernel
noncomputable def b_X12_worthOf_7 (σ : zG) (p1 : Int32) (v2_1 : Int32) (v3_2 : Int32) (v4_3 : Int32) : Option ((Int32 × Int32 × Int32) ⊕ (Int32 × Int32)) :=
  if v4_3 < (64 : Int32) then (f_X12_isInView v4_3 σ).bind (fun q4 => if q4 = 0 then some (Sum.inl (v2_1, v3_2, (v4_3 + 1))) else (f_X12_isCovered v4_3 p1 σ).bind (fun q5 => if q5 = 0 then some (Sum.inl (v2_1, v3_2, (v4_3 + 1))) else if (zrem v4_3 (8 : Int32)) = (σ.1 1 0 1) then some (Sum.inl ((v2_1 + 1), (v3_2 + (1 : Int32)), (v4_3 + 1))) else if (zrem v4_3 (8 : Int32)) = (((σ.1 1 0 1) + (σ.1 1 0 32)) - (1 : Int32)) then some (Sum.inl ((v2_1 + 1), (v3_2 + (1 : Int32)), (v4_3 + 1))) else some (Sum.inl ((v2_1 + 1), (v3_2 + (0 : Int32)), (v4_3 + 1))))) else some (Sum.inr (v2_1, v3_2))
noncomputable def f_X12_worthOf (p1 : Int32) (σ : zG) : Option (Int32 × zG) :=
  (zlp (fun q : Int32 × Int32 × Int32 => b_X12_worthOf_7 σ p1 q.1 q.2.1 q.2.2) ((0 : Int32), (0 : Int32), (0 : Int32))).bind (fun e6 : Int32 × Int32 => zb (zwI σ 10 0 3 p1) (fun s7 => zb (zwI s7 10 0 5 e6.1) (fun s8 => zb (zwI s8 10 0 6 e6.2) (fun s9 => zb (zwI s9 10 0 7 (s9.1 1 0 1)) (fun s10 => (f_X12_peopleIn p1 s10).bind (fun q11 => zb (zwI s10 10 0 8 q11) (fun s12 => (f_X12_lawSays (1 : Int32) ((100 : Int32) - e6.1) (-999 : Int32) (999 : Int32) s12).bind (fun q13 => some (q13.1, q13.2)))))))))
set_option maxRecDepth 100000 in
set_option maxHeartbeats 4000000 in
theorem c_X12_worthOf (l : Launch) (p1 : Int32) (σ : zG) (q : Int32 × zG) (hq : f_X12_worthOf p1 σ = some q) : zMet l zsyM m_X12_worthOf yX12_worthOf [zR 0 0, zI p1] σ (some (zI q.1)) q.2 := by
  refine zEnter [(0, zR 0 0), (1, zI p1)] (by decide) rfl (fun _ => Nat.le_of_ble_eq_true rfl) (fun _ => rfl) (fun w h => ?_) (fun K hv hs => ?_)
  · exact zokm rfl h
  · have hP : ∀ x s, f_X12_worthOf p1 σ = some (x, s) → zKv K = some (zI x) ∧ zKs K = s := fun x s h => by rw [hq] at h; cases h; exact ⟨hv, hs⟩
    have hn : f_X12_worthOf p1 σ ≠ none := fun z => by rw [hq] at z; cases z
    have hf := f_X12_worthOf.eq_1 p1 σ
    refine z_iconst (pc := 0) (v := 0) (zdg D_X12_worthOf 0 (0, .iconst 0, 1) rfl) rfl ?_
    refine z_istore_n (pc := 1) (al' := [(2, zI (0 : Int32)), (0, zR 0 0), (1, zI p1)]) (zdg D_X12_worthOf 1 (1, .istore_n 2, 1) rfl) rfl (by decide) rfl ?_
    refine z_iconst (pc := 2) (v := 0) (zdg D_X12_worthOf 2 (2, .iconst 0, 1) rfl) rfl ?_
    refine z_istore_n (pc := 3) (al' := [(3, zI (0 : Int32)), (2, zI (0 : Int32)), (0, zR 0 0), (1, zI p1)]) (zdg D_X12_worthOf 3 (3, .istore_n 3, 1) rfl) rfl (by decide) rfl ?_
    refine z_iconst (pc := 4) (v := 0) (zdg D_X12_worthOf 4 (4, .iconst 0, 1) rfl) rfl ?_
    refine z_istore (pc := 5) (al' := [(4, zI (0 : Int32)), (3, zI (0 : Int32)), (2, zI (0 : Int32)), (0, zR 0 0), (1, zI p1)]) (zdg D_X12_worthOf 5 (5, .istore 4, 2) rfl) (by decide) rfl ?_
    refine z_sub (al' := [(0, zR 0 0), (1, zI p1), (2, zI (0 : Int32)), (3, zI (0 : Int32)), (4, zI (0 : Int32))]) [3, 4, 2, 1, 0] rfl ?_
    refine z_loop (f := (fun q : Int32 × Int32 × Int32 => b_X12_worthOf_7 σ p1 q.1 q.2.1 q.2.2)) (a := ((0 : Int32), (0 : Int32), (0 : Int32))) (fun q : Int32 × Int32 × Int32 => zX zsyM m_X12_worthOf K 7 [(0, zR 0 0), (1, zI p1), (2, zI q.1), (3, zI q.2.1), (4, zI q.2.2)] [] σ) (fun e6 : Int32 × Int32 => zX zsyM m_X12_worthOf K 91 [(0, zR 0 0), (1, zI p1), (2, zI e6.1), (3, zI e6.2)] [] σ) hn hf ?_ ?_
    · intro e6 hf
      refine z_aload_n (pc := 91) 0 (zdg D_X12_worthOf 51 (91, .aload_n 0, 1) rfl) rfl rfl ?_
      refine z_getR (pc := 92) (g := 10) (j := 0) lf_X12_37 rfl rfl rfl (zdg D_X12_worthOf 52 (92, .getfield 37, 3) rfl) ?_
      refine z_iconst (pc := 95) (v := 3) (zdg D_X12_worthOf 53 (95, .iconst 3, 1) rfl) rfl ?_
      refine z_iload_n (pc := 96) 1 (zdg D_X12_worthOf 54 (96, .iload_n 1, 1) rfl) rfl rfl ?_
      refine z_iastC (pc := 97) (j := 3) rfl (fun _ => rfl) (zdg D_X12_worthOf 55 (97, .iastore, 1) rfl) rfl rfl ?_
      refine z_nmS hf (fun s7 hf => ?_)
      refine z_aload_n (pc := 98) 0 (zdg D_X12_worthOf 56 (98, .aload_n 0, 1) rfl) rfl rfl ?_
      refine z_getR (pc := 99) (g := 10) (j := 0) lf_X12_37 rfl rfl rfl (zdg D_X12_worthOf 57 (99, .getfield 37, 3) rfl) ?_
      refine z_iconst (pc := 102) (v := 5) (zdg D_X12_worthOf 58 (102, .iconst 5, 1) rfl) rfl ?_
      refine z_iload_n (pc := 103) 2 (zdg D_X12_worthOf 59 (103, .iload_n 2, 1) rfl) rfl rfl ?_
      refine z_iastC (pc := 104) (j := 5) rfl (fun _ => rfl) (zdg D_X12_worthOf 60 (104, .iastore, 1) rfl) rfl rfl ?_
      refine z_nmS hf (fun s8 hf => ?_)
      refine z_aload_n (pc := 105) 0 (zdg D_X12_worthOf 61 (105, .aload_n 0, 1) rfl) rfl rfl ?_
      refine z_getR (pc := 106) (g := 10) (j := 0) lf_X12_37 rfl rfl rfl (zdg D_X12_worthOf 62 (106, .getfield 37, 3) rfl) ?_
      refine z_bipush (pc := 109) (v := 6) (zdg D_X12_worthOf 63 (109, .bipush 6, 2) rfl) rfl ?_
      refine z_iload_n (pc := 111) 3 (zdg D_X12_worthOf 64 (111, .iload_n 3, 1) rfl) rfl rfl ?_
      refine z_iastC (pc := 112) (j := 6) rfl (fun _ => rfl) (zdg D_X12_worthOf 65 (112, .iastore, 1) rfl) rfl rfl ?_
      refine z_nmS hf (fun s9 hf => ?_)
      refine z_aload_n (pc := 113) 0 (zdg D_X12_worthOf 66 (113, .aload_n 0, 1) rfl) rfl rfl ?_
      refine z_getR (pc := 114) (g := 10) (j := 0) lf_X12_37 rfl rfl rfl (zdg D_X12_worthOf 67 (114, .getfield 37, 3) rfl) ?_
      refine z_bipush (pc := 117) (v := 7) (zdg D_X12_worthOf 68 (117, .bipush 7, 2) rfl) rfl ?_
      refine z_aload_n (pc := 119) 0 (zdg D_X12_worthOf 69 (119, .aload_n 0, 1) rfl) rfl rfl ?_
      refine z_getR (pc := 120) (g := 1) (j := 0) lf_X12_7 rfl rfl rfl (zdg D_X12_worthOf 70 (120, .getfield 7, 3) rfl) ?_
      refine z_iconst (pc := 123) (v := 1) (zdg D_X12_worthOf 71 (123, .iconst 1, 1) rfl) rfl ?_
      refine z_ialdC (pc := 124) (j := 1) rfl (fun _ => rfl) (zdg D_X12_worthOf 72 (124, .iaload, 1) rfl) rfl rfl ?_
      refine z_iastC (pc := 125) (j := 7) rfl (fun _ => rfl) (zdg D_X12_worthOf 73 (125, .iastore, 1) rfl) rfl rfl ?_
      refine z_nmS hf (fun s10 hf => ?_)
      refine z_aload_n (pc := 126) 0 (zdg D_X12_worthOf 74 (126, .aload_n 0, 1) rfl) rfl rfl ?_
      refine z_getR (pc := 127) (g := 10) (j := 0) lf_X12_37 rfl rfl rfl (zdg D_X12_worthOf 75 (127, .getfield 37, 3) rfl) ?_
      refine z_bipush (pc := 130) (v := 8) (zdg D_X12_worthOf 76 (130, .bipush 8, 2) rfl) rfl ?_
      refine z_aload_n (pc := 132) 0 (zdg D_X12_worthOf 77 (132, .aload_n 0, 1) rfl) rfl rfl ?_
      refine z_iload_n (pc := 133) 1 (zdg D_X12_worthOf 78 (133, .iload_n 1, 1) rfl) rfl rfl ?_
      refine z_bind hn hf (fun q11 hq hf => ?_)
      refine z_callV (pc := 134) (rest := [zI (8 : Int32), zR 10 0]) (st2 := [zI q11, zI (8 : Int32), zR 10 0]) (fun l => c_X12_peopleIn l p1 s10 q11 hq) zv_X12_peopleIn lm_X12_326 rfl rfl rfl rfl rfl rfl (Nat.le_of_ble_eq_true rfl) ⟨Nat.le_of_ble_eq_true rfl, Nat.le_of_ble_eq_true rfl⟩ (zdg D_X12_worthOf 79 (134, .invokevirtual 326, 3) rfl) ?_
      refine z_iastC (pc := 137) (j := 8) rfl (fun _ => rfl) (zdg D_X12_worthOf 80 (137, .iastore, 1) rfl) rfl rfl ?_
      refine z_nmS hf (fun s12 hf => ?_)
      refine z_aload_n (pc := 138) 0 (zdg D_X12_worthOf 81 (138, .aload_n 0, 1) rfl) rfl rfl ?_
      refine z_iconst (pc := 139) (v := 1) (zdg D_X12_worthOf 82 (139, .iconst 1, 1) rfl) rfl ?_
      refine z_bipush (pc := 140) (v := 100) (zdg D_X12_worthOf 83 (140, .bipush 100, 2) rfl) rfl ?_
      refine z_iload_n (pc := 142) 2 (zdg D_X12_worthOf 84 (142, .iload_n 2, 1) rfl) rfl rfl ?_
      refine z_isub (pc := 143) (zdg D_X12_worthOf 85 (143, .isub, 1) rfl) ?_
      refine z_sipush (pc := 144) (v := -999) (zdg D_X12_worthOf 86 (144, .sipush (-999), 3) rfl) rfl ?_
      refine z_sipush (pc := 147) (v := 999) (zdg D_X12_worthOf 87 (147, .sipush 999, 3) rfl) rfl ?_
      refine z_bind hn hf (fun q13 hq hf => ?_)
      refine z_callV (pc := 150) (rest := []) (st2 := [zI q13.1]) (fun l => c_X12_lawSays l (1 : Int32) ((100 : Int32) - e6.1) (-999 : Int32) (999 : Int32) s12 q13 hq) zv_X12_lawSays lm_X12_296 rfl rfl rfl rfl rfl rfl (Nat.le_of_ble_eq_true rfl) ⟨Nat.le_of_ble_eq_true rfl, Nat.le_of_ble_eq_true rfl⟩ (zdg D_X12_worthOf 88 (150, .invokevirtual 296, 3) rfl) ?_
      exact z_iret (pc := 153) rfl rfl (zdg D_X12_worthOf 89 (153, .ireturn, 1) rfl) (hP _ _ hf)
    · rintro ⟨v2_1, v3_2, v4_3⟩ hn hi hx
      have hf := b_X12_worthOf_7.eq_1 σ p1 v2_1 v3_2 v4_3
      refine z_iload (pc := 7) 4 (zdg D_X12_worthOf 6 (7, .iload 4, 2) rfl) rfl ?_
      refine z_bipush (pc := 9) (v := 64) (zdg D_X12_worthOf 7 (9, .bipush 64, 2) rfl) rfl ?_
      refine z_icmp_ge (pc := 11) 91 (zdg D_X12_worthOf 8 (11, .if_icmp .ge 80, 3) rfl) rfl hf (fun hf => ?_) (fun hf => ?_)
      · refine z_sub (al' := [(0, zR 0 0), (1, zI p1), (2, zI v2_1), (3, zI v3_2)]) [0, 1, 2, 3] rfl ?_
        exact hx (v2_1, v3_2) hf
      · refine z_aload_n (pc := 14) 0 (zdg D_X12_worthOf 9 (14, .aload_n 0, 1) rfl) rfl rfl ?_
        refine z_iload (pc := 15) 4 (zdg D_X12_worthOf 10 (15, .iload 4, 2) rfl) rfl ?_
        refine z_bind hn hf (fun q4 hq hf => ?_)
        refine z_callV (pc := 17) (rest := []) (st2 := [zI q4]) (fun l => c_X12_isInView l v4_3 σ q4 hq) zv_X12_isInView lm_X12_320 rfl rfl rfl rfl rfl rfl (Nat.le_of_ble_eq_true rfl) ⟨Nat.le_of_ble_eq_true rfl, Nat.le_of_ble_eq_true rfl⟩ (zdg D_X12_worthOf 11 (17, .invokevirtual 320, 3) rfl) ?_
        refine z_if_eq (pc := 20) 85 (zdg D_X12_worthOf 12 (20, .ifCond .eq 65, 3) rfl) rfl hf (fun hf => ?_) (fun hf => ?_)
        · refine z_iinc (pc := 85) (v0 := (v4_3 + 1)) (al' := [(4, zI (v4_3 + 1)), (0, zR 0 0), (1, zI p1), (2, zI v2_1), (3, zI v3_2)]) 4 (zdg D_X12_worthOf 49 (85, .iinc 4 1, 3) rfl) rfl rfl (by decide) rfl ?_
          refine z_goto (pc := 88) 7 (zdg D_X12_worthOf 50 (88, .goto (-81), 3) rfl) rfl ?_
          refine z_sub (al' := [(0, zR 0 0), (1, zI p1), (2, zI v2_1), (3, zI v3_2), (4, zI (v4_3 + 1))]) [1, 2, 3, 4, 0] rfl ?_
          exact hi (v2_1, v3_2, (v4_3 + 1)) hf
        · refine z_aload_n (pc := 23) 0 (zdg D_X12_worthOf 13 (23, .aload_n 0, 1) rfl) rfl rfl ?_
          refine z_iload (pc := 24) 4 (zdg D_X12_worthOf 14 (24, .iload 4, 2) rfl) rfl ?_
          refine z_iload_n (pc := 26) 1 (zdg D_X12_worthOf 15 (26, .iload_n 1, 1) rfl) rfl rfl ?_
          refine z_bind hn hf (fun q5 hq hf => ?_)
          refine z_callV (pc := 27) (rest := []) (st2 := [zI q5]) (fun l => c_X12_isCovered l v4_3 p1 σ q5 hq) zv_X12_isCovered lm_X12_323 rfl rfl rfl rfl rfl rfl (Nat.le_of_ble_eq_true rfl) ⟨Nat.le_of_ble_eq_true rfl, Nat.le_of_ble_eq_true rfl⟩ (zdg D_X12_worthOf 16 (27, .invokevirtual 323, 3) rfl) ?_
          refine z_if_ne (pc := 30) 36 (zdg D_X12_worthOf 17 (30, .ifCond .ne 6, 3) rfl) rfl hf (fun hf => ?_) (fun hf => ?_)
          · refine z_iinc (pc := 36) (v0 := (v2_1 + 1)) (al' := [(2, zI (v2_1 + 1)), (0, zR 0 0), (1, zI p1), (3, zI v3_2), (4, zI v4_3)]) 2 (zdg D_X12_worthOf 19 (36, .iinc 2 1, 3) rfl) rfl rfl (by decide) rfl ?_
            refine z_iload_n (pc := 39) 3 (zdg D_X12_worthOf 20 (39, .iload_n 3, 1) rfl) rfl rfl ?_
            refine z_iload (pc := 40) 4 (zdg D_X12_worthOf 21 (40, .iload 4, 2) rfl) rfl ?_
            refine z_bipush (pc := 42) (v := 8) (zdg D_X12_worthOf 22 (42, .bipush 8, 2) rfl) rfl ?_
            refine z_iremK (pc := 44) (zdg D_X12_worthOf 23 (44, .irem, 1) rfl) rfl ?_
            refine z_aload_n (pc := 45) 1 (zdg D_X12_worthOf 24 (45, .aload_n 0, 1) rfl) rfl rfl ?_
            refine z_getR (pc := 46) (g := 1) (j := 0) lf_X12_7 rfl rfl rfl (zdg D_X12_worthOf 25 (46, .getfield 7, 3) rfl) ?_
            refine z_iconst (pc := 49) (v := 1) (zdg D_X12_worthOf 26 (49, .iconst 1, 1) rfl) rfl ?_
            refine z_ialdC (pc := 50) (j := 1) rfl (fun _ => rfl) (zdg D_X12_worthOf 27 (50, .iaload, 1) rfl) rfl rfl ?_
            refine z_icmp_eq (pc := 51) 78 (zdg D_X12_worthOf 28 (51, .if_icmp .eq 27, 3) rfl) rfl hf (fun hf => ?_) (fun hf => ?_)
            · refine z_iconst (pc := 78) (v := 1) (zdg D_X12_worthOf 44 (78, .iconst 1, 1) rfl) rfl ?_
              refine z_goto (pc := 79) 83 (zdg D_X12_worthOf 45 (79, .goto 4, 3) rfl) rfl ?_
              refine z_iadd (pc := 83) (zdg D_X12_worthOf 47 (83, .iadd, 1) rfl) ?_
              refine z_istore_n (pc := 84) (al' := [(3, zI (v3_2 + (1 : Int32))), (2, zI (v2_1 + 1)), (0, zR 0 0), (1, zI p1), (4, zI v4_3)]) (zdg D_X12_worthOf 48 (84, .istore_n 3, 1) rfl) rfl (by decide) rfl ?_
              refine z_iinc (pc := 85) (v0 := (v4_3 + 1)) (al' := [(4, zI (v4_3 + 1)), (3, zI (v3_2 + (1 : Int32))), (2, zI (v2_1 + 1)), (0, zR 0 0), (1, zI p1)]) 4 (zdg D_X12_worthOf 49 (85, .iinc 4 1, 3) rfl) rfl rfl (by decide) rfl ?_
              refine z_goto (pc := 88) 7 (zdg D_X12_worthOf 50 (88, .goto (-81), 3) rfl) rfl ?_
              refine z_sub (al' := [(0, zR 0 0), (1, zI p1), (2, zI (v2_1 + 1)), (3, zI (v3_2 + (1 : Int32))), (4, zI (v4_3 + 1))]) [3, 4, 2, 1, 0] rfl ?_
              exact hi ((v2_1 + 1), (v3_2 + (1 : Int32)), (v4_3 + 1)) hf
            · refine z_iload (pc := 54) 4 (zdg D_X12_worthOf 29 (54, .iload 4, 2) rfl) rfl ?_
              refine z_bipush (pc := 56) (v := 8) (zdg D_X12_worthOf 30 (56, .bipush 8, 2) rfl) rfl ?_
              refine z_iremK (pc := 58) (zdg D_X12_worthOf 31 (58, .irem, 1) rfl) rfl ?_
              refine z_aload_n (pc := 59) 1 (zdg D_X12_worthOf 32 (59, .aload_n 0, 1) rfl) rfl rfl ?_
              refine z_getR (pc := 60) (g := 1) (j := 0) lf_X12_7 rfl rfl rfl (zdg D_X12_worthOf 33 (60, .getfield 7, 3) rfl) ?_
              refine z_iconst (pc := 63) (v := 1) (zdg D_X12_worthOf 34 (63, .iconst 1, 1) rfl) rfl ?_
              refine z_ialdC (pc := 64) (j := 1) rfl (fun _ => rfl) (zdg D_X12_worthOf 35 (64, .iaload, 1) rfl) rfl rfl ?_
              refine z_aload_n (pc := 65) 1 (zdg D_X12_worthOf 36 (65, .aload_n 0, 1) rfl) rfl rfl ?_
              refine z_getR (pc := 66) (g := 1) (j := 0) lf_X12_7 rfl rfl rfl (zdg D_X12_worthOf 37 (66, .getfield 7, 3) rfl) ?_
              refine z_bipush (pc := 69) (v := 32) (zdg D_X12_worthOf 38 (69, .bipush 32, 2) rfl) rfl ?_
              refine z_ialdC (pc := 71) (j := 32) rfl (fun _ => rfl) (zdg D_X12_worthOf 39 (71, .iaload, 1) rfl) rfl rfl ?_
              refine z_iadd (pc := 72) (zdg D_X12_worthOf 40 (72, .iadd, 1) rfl) ?_
              refine z_iconst (pc := 73) (v := 1) (zdg D_X12_worthOf 41 (73, .iconst 1, 1) rfl) rfl ?_
              refine z_isub (pc := 74) (zdg D_X12_worthOf 42 (74, .isub, 1) rfl) ?_
              refine z_icmp_ne (pc := 75) 82 (zdg D_X12_worthOf 43 (75, .if_icmp .ne 7, 3) rfl) rfl hf (fun hf => ?_) (fun hf => ?_)
              · refine z_iconst (pc := 82) (v := 0) (zdg D_X12_worthOf 46 (82, .iconst 0, 1) rfl) rfl ?_
                refine z_iadd (pc := 83) (zdg D_X12_worthOf 47 (83, .iadd, 1) rfl) ?_
                refine z_istore_n (pc := 84) (al' := [(3, zI (v3_2 + (0 : Int32))), (2, zI (v2_1 + 1)), (0, zR 0 0), (1, zI p1), (4, zI v4_3)]) (zdg D_X12_worthOf 48 (84, .istore_n 3, 1) rfl) rfl (by decide) rfl ?_
                refine z_iinc (pc := 85) (v0 := (v4_3 + 1)) (al' := [(4, zI (v4_3 + 1)), (3, zI (v3_2 + (0 : Int32))), (2, zI (v2_1 + 1)), (0, zR 0 0), (1, zI p1)]) 4 (zdg D_X12_worthOf 49 (85, .iinc 4 1, 3) rfl) rfl rfl (by decide) rfl ?_
                refine z_goto (pc := 88) 7 (zdg D_X12_worthOf 50 (88, .goto (-81), 3) rfl) rfl ?_
                refine z_sub (al' := [(0, zR 0 0), (1, zI p1), (2, zI (v2_1 + 1)), (3, zI (v3_2 + (0 : Int32))), (4, zI (v4_3 + 1))]) [3, 4, 2, 1, 0] rfl ?_
                exact hi ((v2_1 + 1), (v3_2 + (0 : Int32)), (v4_3 + 1)) hf
              · refine z_iconst (pc := 78) (v := 1) (zdg D_X12_worthOf 44 (78, .iconst 1, 1) rfl) rfl ?_
                refine z_goto (pc := 79) 83 (zdg D_X12_worthOf 45 (79, .goto 4, 3) rfl) rfl ?_
                refine z_iadd (pc := 83) (zdg D_X12_worthOf 47 (83, .iadd, 1) rfl) ?_
                refine z_istore_n (pc := 84) (al' := [(3, zI (v3_2 + (1 : Int32))), (2, zI (v2_1 + 1)), (0, zR 0 0), (1, zI p1), (4, zI v4_3)]) (zdg D_X12_worthOf 48 (84, .istore_n 3, 1) rfl) rfl (by decide) rfl ?_
                refine z_iinc (pc := 85) (v0 := (v4_3 + 1)) (al' := [(4, zI (v4_3 + 1)), (3, zI (v3_2 + (1 : Int32))), (2, zI (v2_1 + 1)), (0, zR 0 0), (1, zI p1)]) 4 (zdg D_X12_worthOf 49 (85, .iinc 4 1, 3) rfl) rfl rfl (by decide) rfl ?_
                refine z_goto (pc := 88) 7 (zdg D_X12_worthOf 50 (88, .goto (-81), 3) rfl) rfl ?_
                refine z_sub (al' := [(0, zR 0 0), (1, zI p1), (2, zI (v2_1 + 1)), (3, zI (v3_2 + (1 : Int32))), (4, zI (v4_3 + 1))]) [3, 4, 2, 1, 0] rfl ?_
                exact hi ((v2_1 + 1), (v3_2 + (1 : Int32)), (v4_3 + 1)) hf
          · refine z_goto (pc := 33) 85 (zdg D_X12_worthOf 18 (33, .goto 52, 3) rfl) rfl ?_
            refine z_iinc (pc := 85) (v0 := (v4_3 + 1)) (al' := [(4, zI (v4_3 + 1)), (0, zR 0 0), (1, zI p1), (2, zI v2_1), (3, zI v3_2)]) 4 (zdg D_X12_worthOf 49 (85, .iinc 4 1, 3) rfl) rfl rfl (by decide) rfl ?_
            refine z_goto (pc := 88) 7 (zdg D_X12_worthOf 50 (88, .goto (-81), 3) rfl) rfl ?_
            refine z_sub (al' := [(0, zR 0 0), (1, zI p1), (2, zI v2_1), (3, zI v3_2), (4, zI (v4_3 + 1))]) [1, 2, 3, 4, 0] rfl ?_
            exact hi (v2_1, v3_2, (v4_3 + 1)) hf

def L_X12_keeps : List (Nat × Instr × Nat) := [(0, .aload_n 0, 1), (1, .getfield 61, 3), (4, .bipush 6, 2), (6, .if_icmp .ne 43, 3), (9, .iconst 0, 1), (10, .istore_n 1, 1), (11, .iload_n 1, 1), (12, .sipush 150, 3), (15, .if_icmp .ge 24, 3), (18, .aload_n 0, 1), (19, .getfield 16, 3), (22, .iload_n 1, 1), (23, .aload_n 0, 1), (24, .getfield 16, 3), (27, .iload_n 1, 1), (28, .bipush 30, 2), (30, .iadd, 1), (31, .iaload, 1), (32, .iastore, 1), (33, .iinc 1 1, 3), (36, .goto (-25), 3), (39, .aload_n 0, 1), (40, .dup, 1), (41, .getfield 61, 3), (44, .iconst 1, 1), (45, .isub, 1), (46, .putfield 61, 3), (49, .iconst 0, 1), (50, .istore_n 1, 1), (51, .iload_n 1, 1), (52, .bipush 30, 2), (54, .if_icmp .ge 29, 3), (57, .aload_n 0, 1), (58, .getfield 16, 3), (61, .bipush 30, 2), (63, .aload_n 0, 1), (64, .getfield 61, 3), (67, .imul, 1), (68, .iload_n 1, 1), (69, .iadd, 1), (70, .aload_n 0, 1), (71, .getfield 7, 3), (74, .iload_n 1, 1), (75, .iaload, 1), (76, .iastore, 1), (77, .iinc 1 1, 3), (80, .goto (-29), 3), (83, .aload_n 0, 1), (84, .dup, 1), (85, .getfield 61, 3), (88, .iconst 1, 1), (89, .iadd, 1), (90, .putfield 61, 3), (93, .return_, 1)]
set_option maxRecDepth 100000 in
theorem D_X12_keeps : zdecs cX12_keeps L_X12_keeps = true := by decide +kernel
noncomputable def b_X12_keeps_51  (v1_2 : Int32) (s3 : zG) : Option ((Int32 × zG) ⊕ (zG)) :=
  if v1_2 < (30 : Int32) then zg (zin v1_2 9248) (zg (zin (((30 : Int32) * (s3.1 0 0 3)) + v1_2) 180) (zb (zwI s3 3 0 (((30 : Int32) * (s3.1 0 0 3)) + v1_2).toNatClampNeg (s3.1 1 0 v1_2.toNatClampNeg)) (fun s4 => some (Sum.inl ((v1_2 + 1), s4))))) else some (Sum.inr s3)
noncomputable def b_X12_keeps_11  (v1_7 : Int32) (s8 : zG) : Option ((Int32 × zG) ⊕ (zG)) :=
  if v1_7 < (150 : Int32) then zg (zin (v1_7 + (30 : Int32)) 180) (zg (zin v1_7 180) (zb (zwI s8 3 0 v1_7.toNatClampNeg (s8.1 3 0 (v1_7 + (30 : Int32)).toNatClampNeg)) (fun s9 => some (Sum.inl ((v1_7 + 1), s9))))) else some (Sum.inr s8)
noncomputable def j_X12_keeps_49 (s1 : zG) : Option (zG) :=
  (zlp (fun q : Int32 × zG => b_X12_keeps_51 q.1 q.2) ((0 : Int32), s1)).bind (fun e5 : zG => zb (zwI e5 0 0 3 ((e5.1 0 0 3) + (1 : Int32))) (fun s6 => some s6))
noncomputable def f_X12_keeps (σ : zG) : Option (zG) :=
  if (σ.1 0 0 3) = (6 : Int32) then (zlp (fun q : Int32 × zG => b_X12_keeps_11 q.1 q.2) ((0 : Int32), σ)).bind (fun e10 : zG => zb (zwI e10 0 0 3 ((e10.1 0 0 3) - (1 : Int32))) (fun s11 => j_X12_keeps_49 s11)) else j_X12_keeps_49 σ
set_option maxRecDepth 100000 in
set_option maxHeartbeats 4000000 in
theorem c_X12_keeps (l : Launch)  (σ : zG) (q : zG) (hq : f_X12_keeps σ = some q) : zMet l zsyM m_X12_keeps yX12_keeps [zR 0 0] σ none q := by
  refine zEnter [(0, zR 0 0)] (by decide) rfl (fun _ => Nat.le_of_ble_eq_true rfl) (fun _ => rfl) (fun w h => ?_) (fun K hv hs => ?_)
  · exact zokm rfl h
  · have hP : ∀ s, f_X12_keeps σ = some s → zKv K = none ∧ zKs K = s := fun s h => by rw [hq] at h; cases h; exact ⟨hv, hs⟩
    have hn : f_X12_keeps σ ≠ none := fun z => by rw [hq] at z; cases z
    have hf := f_X12_keeps.eq_1 σ
    have t_49 : ∀ (s1 : zG), f_X12_keeps σ = j_X12_keeps_49 s1 → zX zsyM m_X12_keeps K 49 [(0, zR 0 0)] [] s1 := by
      intro s1 hf
      replace hf := hf.trans (j_X12_keeps_49.eq_1 s1)
      refine z_iconst (pc := 49) (v := 0) (zdg D_X12_keeps 27 (49, .iconst 0, 1) rfl) rfl ?_
      refine z_istore_n (pc := 50) (al' := [(1, zI (0 : Int32)), (0, zR 0 0)]) (zdg D_X12_keeps 28 (50, .istore_n 1, 1) rfl) rfl (by decide) rfl ?_
      refine z_sub (al' := [(0, zR 0 0), (1, zI (0 : Int32))]) [1, 0] rfl ?_
      refine z_loop (f := (fun q : Int32 × zG => b_X12_keeps_51 q.1 q.2)) (a := ((0 : Int32), s1)) (fun q : Int32 × zG => zX zsyM m_X12_keeps K 51 [(0, zR 0 0), (1, zI q.1)] [] q.2) (fun e5 : zG => zX zsyM m_X12_keeps K 83 [(0, zR 0 0)] [] e5) hn hf ?_ ?_
      · intro e5 hf
        refine z_aload_n (pc := 83) 0 (zdg D_X12_keeps 47 (83, .aload_n 0, 1) rfl) rfl rfl ?_
        refine z_dup (pc := 84) rfl (zdg D_X12_keeps 48 (84, .dup, 1) rfl) ?_
        refine z_getI (pc := 85) lf_X12_61 rfl rfl (zdg D_X12_keeps 49 (85, .getfield 61, 3) rfl) ?_
        refine z_iconst (pc := 88) (v := 1) (zdg D_X12_keeps 50 (88, .iconst 1, 1) rfl) rfl ?_
        refine z_iadd (pc := 89) (zdg D_X12_keeps 51 (89, .iadd, 1) rfl) ?_
        refine z_putI (pc := 90) lw_X12_61 rfl rfl rfl rfl (zdg D_X12_keeps 52 (90, .putfield 61, 3) rfl) ?_
        refine z_nmS hf (fun s6 hf => ?_)
        exact z_vret (pc := 93) rfl (zdg D_X12_keeps 53 (93, .return_, 1) rfl) (hP _ hf)
      · rintro ⟨v1_2, s3⟩ hn hi hx
        have hf := b_X12_keeps_51.eq_1  v1_2 s3
        refine z_iload_n (pc := 51) 1 (zdg D_X12_keeps 29 (51, .iload_n 1, 1) rfl) rfl rfl ?_
        refine z_bipush (pc := 52) (v := 30) (zdg D_X12_keeps 30 (52, .bipush 30, 2) rfl) rfl ?_
        refine z_icmp_ge (pc := 54) 83 (zdg D_X12_keeps 31 (54, .if_icmp .ge 29, 3) rfl) rfl hf (fun hf => ?_) (fun hf => ?_)
        · refine z_sub (al' := [(0, zR 0 0)]) [0] rfl ?_
          exact hx s3 hf
        · refine z_aload_n (pc := 57) 0 (zdg D_X12_keeps 32 (57, .aload_n 0, 1) rfl) rfl rfl ?_
          refine z_getR (pc := 58) (g := 3) (j := 0) lf_X12_16 rfl rfl rfl (zdg D_X12_keeps 33 (58, .getfield 16, 3) rfl) ?_
          refine z_bipush (pc := 61) (v := 30) (zdg D_X12_keeps 34 (61, .bipush 30, 2) rfl) rfl ?_
          refine z_aload_n (pc := 63) 0 (zdg D_X12_keeps 35 (63, .aload_n 0, 1) rfl) rfl rfl ?_
          refine z_getI (pc := 64) lf_X12_61 rfl rfl (zdg D_X12_keeps 36 (64, .getfield 61, 3) rfl) ?_
          refine z_imul (pc := 67) (zdg D_X12_keeps 37 (67, .imul, 1) rfl) ?_
          refine z_iload_n (pc := 68) 1 (zdg D_X12_keeps 38 (68, .iload_n 1, 1) rfl) rfl rfl ?_
          refine z_iadd (pc := 69) (zdg D_X12_keeps 39 (69, .iadd, 1) rfl) ?_
          refine z_aload_n (pc := 70) 0 (zdg D_X12_keeps 40 (70, .aload_n 0, 1) rfl) rfl rfl ?_
          refine z_getR (pc := 71) (g := 1) (j := 0) lf_X12_7 rfl rfl rfl (zdg D_X12_keeps 41 (71, .getfield 7, 3) rfl) ?_
          refine z_iload_n (pc := 74) 1 (zdg D_X12_keeps 42 (74, .iload_n 1, 1) rfl) rfl rfl ?_
          refine z_iald (pc := 75) rfl (fun _ => rfl) (zdg D_X12_keeps 43 (75, .iaload, 1) rfl) hn hf (fun hf => ?_)
          refine z_iast (pc := 76) rfl (fun _ => rfl) (zdg D_X12_keeps 44 (76, .iastore, 1) rfl) hn hf (fun hf => ?_)
          refine z_nmS hf (fun s4 hf => ?_)
          refine z_iinc (pc := 77) (v0 := (v1_2 + 1)) (al' := [(1, zI (v1_2 + 1)), (0, zR 0 0)]) 1 (zdg D_X12_keeps 45 (77, .iinc 1 1, 3) rfl) rfl rfl (by decide) rfl ?_
          refine z_goto (pc := 80) 51 (zdg D_X12_keeps 46 (80, .goto (-29), 3) rfl) rfl ?_
          refine z_sub (al' := [(0, zR 0 0), (1, zI (v1_2 + 1))]) [1, 0] rfl ?_
          exact hi ((v1_2 + 1), s4) hf
    refine z_aload_n (pc := 0) 0 (zdg D_X12_keeps 0 (0, .aload_n 0, 1) rfl) rfl rfl ?_
    refine z_getI (pc := 1) lf_X12_61 rfl rfl (zdg D_X12_keeps 1 (1, .getfield 61, 3) rfl) ?_
    refine z_bipush (pc := 4) (v := 6) (zdg D_X12_keeps 2 (4, .bipush 6, 2) rfl) rfl ?_
    refine z_icmp_ne (pc := 6) 49 (zdg D_X12_keeps 3 (6, .if_icmp .ne 43, 3) rfl) rfl hf (fun hf => ?_) (fun hf => ?_)
    · exact t_49 σ hf
    · refine z_iconst (pc := 9) (v := 0) (zdg D_X12_keeps 4 (9, .iconst 0, 1) rfl) rfl ?_
      refine z_istore_n (pc := 10) (al' := [(1, zI (0 : Int32)), (0, zR 0 0)]) (zdg D_X12_keeps 5 (10, .istore_n 1, 1) rfl) rfl (by decide) rfl ?_
      refine z_sub (al' := [(0, zR 0 0), (1, zI (0 : Int32))]) [1, 0] rfl ?_
      refine z_loop (f := (fun q : Int32 × zG => b_X12_keeps_11 q.1 q.2)) (a := ((0 : Int32), σ)) (fun q : Int32 × zG => zX zsyM m_X12_keeps K 11 [(0, zR 0 0), (1, zI q.1)] [] q.2) (fun e10 : zG => zX zsyM m_X12_keeps K 39 [(0, zR 0 0)] [] e10) hn hf ?_ ?_
      · intro e10 hf
        refine z_aload_n (pc := 39) 0 (zdg D_X12_keeps 21 (39, .aload_n 0, 1) rfl) rfl rfl ?_
        refine z_dup (pc := 40) rfl (zdg D_X12_keeps 22 (40, .dup, 1) rfl) ?_
        refine z_getI (pc := 41) lf_X12_61 rfl rfl (zdg D_X12_keeps 23 (41, .getfield 61, 3) rfl) ?_
        refine z_iconst (pc := 44) (v := 1) (zdg D_X12_keeps 24 (44, .iconst 1, 1) rfl) rfl ?_
        refine z_isub (pc := 45) (zdg D_X12_keeps 25 (45, .isub, 1) rfl) ?_
        refine z_putI (pc := 46) lw_X12_61 rfl rfl rfl rfl (zdg D_X12_keeps 26 (46, .putfield 61, 3) rfl) ?_
        refine z_nmS hf (fun s11 hf => ?_)
        exact t_49 s11 hf
      · rintro ⟨v1_7, s8⟩ hn hi hx
        have hf := b_X12_keeps_11.eq_1  v1_7 s8
        refine z_iload_n (pc := 11) 1 (zdg D_X12_keeps 6 (11, .iload_n 1, 1) rfl) rfl rfl ?_
        refine z_sipush (pc := 12) (v := 150) (zdg D_X12_keeps 7 (12, .sipush 150, 3) rfl) rfl ?_
        refine z_icmp_ge (pc := 15) 39 (zdg D_X12_keeps 8 (15, .if_icmp .ge 24, 3) rfl) rfl hf (fun hf => ?_) (fun hf => ?_)
        · refine z_sub (al' := [(0, zR 0 0)]) [0] rfl ?_
          exact hx s8 hf
        · refine z_aload_n (pc := 18) 0 (zdg D_X12_keeps 9 (18, .aload_n 0, 1) rfl) rfl rfl ?_
          refine z_getR (pc := 19) (g := 3) (j := 0) lf_X12_16 rfl rfl rfl (zdg D_X12_keeps 10 (19, .getfield 16, 3) rfl) ?_
          refine z_iload_n (pc := 22) 1 (zdg D_X12_keeps 11 (22, .iload_n 1, 1) rfl) rfl rfl ?_
          refine z_aload_n (pc := 23) 0 (zdg D_X12_keeps 12 (23, .aload_n 0, 1) rfl) rfl rfl ?_
          refine z_getR (pc := 24) (g := 3) (j := 0) lf_X12_16 rfl rfl rfl (zdg D_X12_keeps 13 (24, .getfield 16, 3) rfl) ?_
          refine z_iload_n (pc := 27) 1 (zdg D_X12_keeps 14 (27, .iload_n 1, 1) rfl) rfl rfl ?_
          refine z_bipush (pc := 28) (v := 30) (zdg D_X12_keeps 15 (28, .bipush 30, 2) rfl) rfl ?_
          refine z_iadd (pc := 30) (zdg D_X12_keeps 16 (30, .iadd, 1) rfl) ?_
          refine z_iald (pc := 31) rfl (fun _ => rfl) (zdg D_X12_keeps 17 (31, .iaload, 1) rfl) hn hf (fun hf => ?_)
          refine z_iast (pc := 32) rfl (fun _ => rfl) (zdg D_X12_keeps 18 (32, .iastore, 1) rfl) hn hf (fun hf => ?_)
          refine z_nmS hf (fun s9 hf => ?_)
          refine z_iinc (pc := 33) (v0 := (v1_7 + 1)) (al' := [(1, zI (v1_7 + 1)), (0, zR 0 0)]) 1 (zdg D_X12_keeps 19 (33, .iinc 1 1, 3) rfl) rfl rfl (by decide) rfl ?_
          refine z_goto (pc := 36) 11 (zdg D_X12_keeps 20 (36, .goto (-25), 3) rfl) rfl ?_
          refine z_sub (al' := [(0, zR 0 0), (1, zI (v1_7 + 1))]) [1, 0] rfl ?_
          exact hi ((v1_7 + 1), s9) hf

def L_X12_undo : List (Nat × Instr × Nat) := [(0, .aload_n 0, 1), (1, .getfield 61, 3), (4, .ifCond .ne 5, 3), (7, .iconst 0, 1), (8, .ireturn, 1), (9, .aload_n 0, 1), (10, .dup, 1), (11, .getfield 61, 3), (14, .iconst 1, 1), (15, .isub, 1), (16, .putfield 61, 3), (19, .iconst 0, 1), (20, .istore_n 1, 1), (21, .iload_n 1, 1), (22, .bipush 30, 2), (24, .if_icmp .ge 29, 3), (27, .aload_n 0, 1), (28, .getfield 7, 3), (31, .iload_n 1, 1), (32, .aload_n 0, 1), (33, .getfield 16, 3), (36, .bipush 30, 2), (38, .aload_n 0, 1), (39, .getfield 61, 3), (42, .imul, 1), (43, .iload_n 1, 1), (44, .iadd, 1), (45, .iaload, 1), (46, .iastore, 1), (47, .iinc 1 1, 3), (50, .goto (-29), 3), (53, .iconst 1, 1), (54, .ireturn, 1)]
set_option maxRecDepth 100000 in
theorem D_X12_undo : zdecs cX12_undo L_X12_undo = true := by decide +kernel
noncomputable def b_X12_undo_21  (v1_2 : Int32) (s3 : zG) : Option ((Int32 × zG) ⊕ (zG)) :=
  if v1_2 < (30 : Int32) then zg (zin (((30 : Int32) * (s3.1 0 0 3)) + v1_2) 180) (zg (zin v1_2 9248) (zb (zwI s3 1 0 v1_2.toNatClampNeg (s3.1 3 0 (((30 : Int32) * (s3.1 0 0 3)) + v1_2).toNatClampNeg)) (fun s4 => some (Sum.inl ((v1_2 + 1), s4))))) else some (Sum.inr s3)
noncomputable def f_X12_undo (σ : zG) : Option (Int32 × zG) :=
  if (σ.1 0 0 3) = 0 then some ((0 : Int32), σ) else zb (zwI σ 0 0 3 ((σ.1 0 0 3) - (1 : Int32))) (fun s1 => (zlp (fun q : Int32 × zG => b_X12_undo_21 q.1 q.2) ((0 : Int32), s1)).bind (fun e5 : zG => some ((1 : Int32), e5)))
set_option maxRecDepth 100000 in
set_option maxHeartbeats 4000000 in
theorem c_X12_undo (l : Launch)  (σ : zG) (q : Int32 × zG) (hq : f_X12_undo σ = some q) : zMet l zsyM m_X12_undo yX12_undo [zR 0 0] σ (some (zI q.1)) q.2 := by
  refine zEnter [(0, zR 0 0)] (by decide) rfl (fun _ => Nat.le_of_ble_eq_true rfl) (fun _ => rfl) (fun w h => ?_) (fun K hv hs => ?_)
  · exact zokm rfl h
  · have hP : ∀ x s, f_X12_undo σ = some (x, s) → zKv K = some (zI x) ∧ zKs K = s := fun x s h => by rw [hq] at h; cases h; exact ⟨hv, hs⟩
    have hn : f_X12_undo σ ≠ none := fun z => by rw [hq] at z; cases z
    have hf := f_X12_undo.eq_1 σ
    refine z_aload_n (pc := 0) 0 (zdg D_X12_undo 0 (0, .aload_n 0, 1) rfl) rfl rfl ?_
    refine z_getI (pc := 1) lf_X12_61 rfl rfl (zdg D_X12_undo 1 (1, .getfield 61, 3) rfl) ?_
    refine z_if_ne (pc := 4) 9 (zdg D_X12_undo 2 (4, .ifCond .ne 5, 3) rfl) rfl hf (fun hf => ?_) (fun hf => ?_)
    · refine z_aload_n (pc := 9) 0 (zdg D_X12_undo 5 (9, .aload_n 0, 1) rfl) rfl rfl ?_
      refine z_dup (pc := 10) rfl (zdg D_X12_undo 6 (10, .dup, 1) rfl) ?_
      refine z_getI (pc := 11) lf_X12_61 rfl rfl (zdg D_X12_undo 7 (11, .getfield 61, 3) rfl) ?_
      refine z_iconst (pc := 14) (v := 1) (zdg D_X12_undo 8 (14, .iconst 1, 1) rfl) rfl ?_
      refine z_isub (pc := 15) (zdg D_X12_undo 9 (15, .isub, 1) rfl) ?_
      refine z_putI (pc := 16) lw_X12_61 rfl rfl rfl rfl (zdg D_X12_undo 10 (16, .putfield 61, 3) rfl) ?_
      refine z_nmS hf (fun s1 hf => ?_)
      refine z_iconst (pc := 19) (v := 0) (zdg D_X12_undo 11 (19, .iconst 0, 1) rfl) rfl ?_
      refine z_istore_n (pc := 20) (al' := [(1, zI (0 : Int32)), (0, zR 0 0)]) (zdg D_X12_undo 12 (20, .istore_n 1, 1) rfl) rfl (by decide) rfl ?_
      refine z_sub (al' := [(0, zR 0 0), (1, zI (0 : Int32))]) [1, 0] rfl ?_
      refine z_loop (f := (fun q : Int32 × zG => b_X12_undo_21 q.1 q.2)) (a := ((0 : Int32), s1)) (fun q : Int32 × zG => zX zsyM m_X12_undo K 21 [(0, zR 0 0), (1, zI q.1)] [] q.2) (fun e5 : zG => zX zsyM m_X12_undo K 53 [] [] e5) hn hf ?_ ?_
      · intro e5 hf
        refine z_iconst (pc := 53) (v := 1) (zdg D_X12_undo 31 (53, .iconst 1, 1) rfl) rfl ?_
        exact z_iret (pc := 54) rfl rfl (zdg D_X12_undo 32 (54, .ireturn, 1) rfl) (hP _ _ hf)
      · rintro ⟨v1_2, s3⟩ hn hi hx
        have hf := b_X12_undo_21.eq_1  v1_2 s3
        refine z_iload_n (pc := 21) 1 (zdg D_X12_undo 13 (21, .iload_n 1, 1) rfl) rfl rfl ?_
        refine z_bipush (pc := 22) (v := 30) (zdg D_X12_undo 14 (22, .bipush 30, 2) rfl) rfl ?_
        refine z_icmp_ge (pc := 24) 53 (zdg D_X12_undo 15 (24, .if_icmp .ge 29, 3) rfl) rfl hf (fun hf => ?_) (fun hf => ?_)
        · refine z_sub (al' := []) [] rfl ?_
          exact hx s3 hf
        · refine z_aload_n (pc := 27) 0 (zdg D_X12_undo 16 (27, .aload_n 0, 1) rfl) rfl rfl ?_
          refine z_getR (pc := 28) (g := 1) (j := 0) lf_X12_7 rfl rfl rfl (zdg D_X12_undo 17 (28, .getfield 7, 3) rfl) ?_
          refine z_iload_n (pc := 31) 1 (zdg D_X12_undo 18 (31, .iload_n 1, 1) rfl) rfl rfl ?_
          refine z_aload_n (pc := 32) 0 (zdg D_X12_undo 19 (32, .aload_n 0, 1) rfl) rfl rfl ?_
          refine z_getR (pc := 33) (g := 3) (j := 0) lf_X12_16 rfl rfl rfl (zdg D_X12_undo 20 (33, .getfield 16, 3) rfl) ?_
          refine z_bipush (pc := 36) (v := 30) (zdg D_X12_undo 21 (36, .bipush 30, 2) rfl) rfl ?_
          refine z_aload_n (pc := 38) 0 (zdg D_X12_undo 22 (38, .aload_n 0, 1) rfl) rfl rfl ?_
          refine z_getI (pc := 39) lf_X12_61 rfl rfl (zdg D_X12_undo 23 (39, .getfield 61, 3) rfl) ?_
          refine z_imul (pc := 42) (zdg D_X12_undo 24 (42, .imul, 1) rfl) ?_
          refine z_iload_n (pc := 43) 1 (zdg D_X12_undo 25 (43, .iload_n 1, 1) rfl) rfl rfl ?_
          refine z_iadd (pc := 44) (zdg D_X12_undo 26 (44, .iadd, 1) rfl) ?_
          refine z_iald (pc := 45) rfl (fun _ => rfl) (zdg D_X12_undo 27 (45, .iaload, 1) rfl) hn hf (fun hf => ?_)
          refine z_iast (pc := 46) rfl (fun _ => rfl) (zdg D_X12_undo 28 (46, .iastore, 1) rfl) hn hf (fun hf => ?_)
          refine z_nmS hf (fun s4 hf => ?_)
          refine z_iinc (pc := 47) (v0 := (v1_2 + 1)) (al' := [(1, zI (v1_2 + 1)), (0, zR 0 0)]) 1 (zdg D_X12_undo 29 (47, .iinc 1 1, 3) rfl) rfl rfl (by decide) rfl ?_
          refine z_goto (pc := 50) 21 (zdg D_X12_undo 30 (50, .goto (-29), 3) rfl) rfl ?_
          refine z_sub (al' := [(0, zR 0 0), (1, zI (v1_2 + 1))]) [1, 0] rfl ?_
          exact hi ((v1_2 + 1), s4) hf
    · refine z_iconst (pc := 7) (v := 0) (zdg D_X12_undo 3 (7, .iconst 0, 1) rfl) rfl ?_
      exact z_iret (pc := 8) rfl rfl (zdg D_X12_undo 4 (8, .ireturn, 1) rfl) (hP _ _ hf)

def L_X12_step : List (Nat × Instr × Nat) := [(0, .iload_n 1, 1), (1, .iconst 0, 1), (2, .aload_n 0, 1), (3, .getfield 7, 3), (6, .bipush 30, 2), (8, .iaload, 1), (9, .aload_n 0, 1), (10, .getfield 7, 3), (13, .bipush 32, 2), (15, .iaload, 1), (16, .isub, 1), (17, .invokestatic 64, 3), (20, .ifCond .eq 13, 3), (23, .iload_n 1, 1), (24, .aload_n 0, 1), (25, .getfield 7, 3), (28, .iconst 1, 1), (29, .iaload, 1), (30, .if_icmp .ne 5, 3), (33, .iconst 0, 1), (34, .ireturn, 1), (35, .aload_n 0, 1), (36, .invokevirtual 329, 3), (39, .aload_n 0, 1), (40, .getfield 7, 3), (43, .iconst 1, 1), (44, .iload_n 1, 1), (45, .iastore, 1), (46, .iconst 1, 1), (47, .ireturn, 1)]
set_option maxRecDepth 100000 in
theorem D_X12_step : zdecs cX12_step L_X12_step = true := by decide +kernel
noncomputable def f_X12_step (p1 : Int32) (σ : zG) : Option (Int32 × zG) :=
  if (f_X12_isIn p1 (0 : Int32) ((σ.1 1 0 30) - (σ.1 1 0 32))) = 0 then some ((0 : Int32), σ) else if p1 = (σ.1 1 0 1) then some ((0 : Int32), σ) else (f_X12_keeps σ).bind (fun q1 => zb (zwI q1 1 0 1 p1) (fun s2 => some ((1 : Int32), s2)))
set_option maxRecDepth 100000 in
set_option maxHeartbeats 4000000 in
theorem c_X12_step (l : Launch) (p1 : Int32) (σ : zG) (q : Int32 × zG) (hq : f_X12_step p1 σ = some q) : zMet l zsyM m_X12_step yX12_step [zR 0 0, zI p1] σ (some (zI q.1)) q.2 := by
  refine zEnter [(0, zR 0 0), (1, zI p1)] (by decide) rfl (fun _ => Nat.le_of_ble_eq_true rfl) (fun _ => rfl) (fun w h => ?_) (fun K hv hs => ?_)
  · exact zokm rfl h
  · have hP : ∀ x s, f_X12_step p1 σ = some (x, s) → zKv K = some (zI x) ∧ zKs K = s := fun x s h => by rw [hq] at h; cases h; exact ⟨hv, hs⟩
    have hn : f_X12_step p1 σ ≠ none := fun z => by rw [hq] at z; cases z
    have hf := f_X12_step.eq_1 p1 σ
    refine z_iload_n (pc := 0) 1 (zdg D_X12_step 0 (0, .iload_n 1, 1) rfl) rfl rfl ?_
    refine z_iconst (pc := 1) (v := 0) (zdg D_X12_step 1 (1, .iconst 0, 1) rfl) rfl ?_
    refine z_aload_n (pc := 2) 0 (zdg D_X12_step 2 (2, .aload_n 0, 1) rfl) rfl rfl ?_
    refine z_getR (pc := 3) (g := 1) (j := 0) lf_X12_7 rfl rfl rfl (zdg D_X12_step 3 (3, .getfield 7, 3) rfl) ?_
    refine z_bipush (pc := 6) (v := 30) (zdg D_X12_step 4 (6, .bipush 30, 2) rfl) rfl ?_
    refine z_ialdC (pc := 8) (j := 30) rfl (fun _ => rfl) (zdg D_X12_step 5 (8, .iaload, 1) rfl) rfl rfl ?_
    refine z_aload_n (pc := 9) 0 (zdg D_X12_step 6 (9, .aload_n 0, 1) rfl) rfl rfl ?_
    refine z_getR (pc := 10) (g := 1) (j := 0) lf_X12_7 rfl rfl rfl (zdg D_X12_step 7 (10, .getfield 7, 3) rfl) ?_
    refine z_bipush (pc := 13) (v := 32) (zdg D_X12_step 8 (13, .bipush 32, 2) rfl) rfl ?_
    refine z_ialdC (pc := 15) (j := 32) rfl (fun _ => rfl) (zdg D_X12_step 9 (15, .iaload, 1) rfl) rfl rfl ?_
    refine z_isub (pc := 16) (zdg D_X12_step 10 (16, .isub, 1) rfl) ?_
    refine z_callS (pc := 17) (rest := []) (st2 := [zI (f_X12_isIn p1 (0 : Int32) ((σ.1 1 0 30) - (σ.1 1 0 32)))]) (fun l => c_X12_isIn l p1 (0 : Int32) ((σ.1 1 0 30) - (σ.1 1 0 32)) σ) zs_X12_isIn lm_X12_64 rfl rfl rfl (Nat.le_of_ble_eq_true rfl) ⟨Nat.le_of_ble_eq_true rfl, Nat.le_of_ble_eq_true rfl⟩ (zdg D_X12_step 11 (17, .invokestatic 64, 3) rfl) ?_
    refine z_if_eq (pc := 20) 33 (zdg D_X12_step 12 (20, .ifCond .eq 13, 3) rfl) rfl hf (fun hf => ?_) (fun hf => ?_)
    · refine z_iconst (pc := 33) (v := 0) (zdg D_X12_step 19 (33, .iconst 0, 1) rfl) rfl ?_
      exact z_iret (pc := 34) rfl rfl (zdg D_X12_step 20 (34, .ireturn, 1) rfl) (hP _ _ hf)
    · refine z_iload_n (pc := 23) 1 (zdg D_X12_step 13 (23, .iload_n 1, 1) rfl) rfl rfl ?_
      refine z_aload_n (pc := 24) 0 (zdg D_X12_step 14 (24, .aload_n 0, 1) rfl) rfl rfl ?_
      refine z_getR (pc := 25) (g := 1) (j := 0) lf_X12_7 rfl rfl rfl (zdg D_X12_step 15 (25, .getfield 7, 3) rfl) ?_
      refine z_iconst (pc := 28) (v := 1) (zdg D_X12_step 16 (28, .iconst 1, 1) rfl) rfl ?_
      refine z_ialdC (pc := 29) (j := 1) rfl (fun _ => rfl) (zdg D_X12_step 17 (29, .iaload, 1) rfl) rfl rfl ?_
      refine z_icmp_ne (pc := 30) 35 (zdg D_X12_step 18 (30, .if_icmp .ne 5, 3) rfl) rfl hf (fun hf => ?_) (fun hf => ?_)
      · refine z_aload_n (pc := 35) 0 (zdg D_X12_step 21 (35, .aload_n 0, 1) rfl) rfl rfl ?_
        refine z_bind hn hf (fun q1 hq hf => ?_)
        refine z_callV (pc := 36) (rest := []) (st2 := []) (fun l => c_X12_keeps l σ q1 hq) zv_X12_keeps lm_X12_329 rfl rfl rfl rfl rfl rfl (Nat.le_of_ble_eq_true rfl) ⟨Nat.le_of_ble_eq_true rfl, Nat.le_of_ble_eq_true rfl⟩ (zdg D_X12_step 22 (36, .invokevirtual 329, 3) rfl) ?_
        refine z_aload_n (pc := 39) 0 (zdg D_X12_step 23 (39, .aload_n 0, 1) rfl) rfl rfl ?_
        refine z_getR (pc := 40) (g := 1) (j := 0) lf_X12_7 rfl rfl rfl (zdg D_X12_step 24 (40, .getfield 7, 3) rfl) ?_
        refine z_iconst (pc := 43) (v := 1) (zdg D_X12_step 25 (43, .iconst 1, 1) rfl) rfl ?_
        refine z_iload_n (pc := 44) 1 (zdg D_X12_step 26 (44, .iload_n 1, 1) rfl) rfl rfl ?_
        refine z_iastC (pc := 45) (j := 1) rfl (fun _ => rfl) (zdg D_X12_step 27 (45, .iastore, 1) rfl) rfl rfl ?_
        refine z_nmS hf (fun s2 hf => ?_)
        refine z_iconst (pc := 46) (v := 1) (zdg D_X12_step 28 (46, .iconst 1, 1) rfl) rfl ?_
        exact z_iret (pc := 47) rfl rfl (zdg D_X12_step 29 (47, .ireturn, 1) rfl) (hP _ _ hf)
      · refine z_iconst (pc := 33) (v := 0) (zdg D_X12_step 19 (33, .iconst 0, 1) rfl) rfl ?_
        exact z_iret (pc := 34) rfl rfl (zdg D_X12_step 20 (34, .ireturn, 1) rfl) (hP _ _ hf)
