/-! METHODS, by program: functions and contracts -/
def L_X1_worthOf : List (Nat × Instr × Nat) := [(0, .aload_n 0, 1), (1, .invokevirtual 145, 3), (4, .lstore_n 2, 1), (5, .aload_n 0, 1), (6, .iload_n 1, 1), (7, .invokevirtual 153, 3), (10, .lload_n 2, 1), (11, .land, 1), (12, .lstore 4, 2), (14, .aload_n 0, 1), (15, .aload_n 0, 1), (16, .getfield 70, 3), (19, .iconst 1, 1), (20, .invokevirtual 178, 3), (23, .aload_n 0, 1), (24, .aload_n 0, 1), (25, .getfield 70, 3), (28, .aload_n 0, 1), (29, .getfield 67, 3), (32, .iadd, 1), (33, .iconst 1, 1), (34, .isub, 1), (35, .iconst 1, 1), (36, .invokevirtual 178, 3), (39, .lor, 1), (40, .lstore 6, 2), (42, .lload 4, 2), (44, .invokestatic 213, 3), (47, .istore 8, 2), (49, .aload_n 0, 1), (50, .getfield 39, 3), (53, .getfield 203, 3), (56, .iconst 3, 1), (57, .iload_n 1, 1), (58, .iastore, 1), (59, .aload_n 0, 1), (60, .getfield 39, 3), (63, .getfield 203, 3), (66, .iconst 4, 1), (67, .iload 8, 2), (69, .iastore, 1), (70, .aload_n 0, 1), (71, .getfield 39, 3), (74, .getfield 203, 3), (77, .iconst 5, 1), (78, .lload 4, 2), (80, .lload 6, 2), (82, .land, 1), (83, .invokestatic 213, 3), (86, .iastore, 1), (87, .aload_n 0, 1), (88, .getfield 39, 3), (91, .getfield 203, 3), (94, .bipush 6, 2), (96, .aload_n 0, 1), (97, .getfield 70, 3), (100, .iastore, 1), (101, .aload_n 0, 1), (102, .getfield 39, 3), (105, .getfield 203, 3), (108, .bipush 7, 2), (110, .aload_n 0, 1), (111, .lload_n 2, 1), (112, .iload_n 1, 1), (113, .invokevirtual 219, 3), (116, .iastore, 1), (117, .aload_n 0, 1), (118, .getfield 39, 3), (121, .bipush 100, 2), (123, .iload 8, 2), (125, .isub, 1), (126, .invokevirtual 206, 3), (129, .sipush (-999), 3), (132, .sipush 999, 3), (135, .invokestatic 209, 3), (138, .ireturn, 1)]
set_option maxRecDepth 100000 in
theorem D_X1_worthOf : zdecs cX1_worthOf L_X1_worthOf = true := by decide +kernel
noncomputable def f_X1_worthOf (i : Nat) (p1 : Int32) (σ : zG) : Option (Int32 × zG) :=
  (f_X1_viewNow i σ).bind (fun q1 => (f_X1_coverIn i p1 σ).bind (fun q2 => (f_X1_columns i (σ.1 1 i 5) (1 : Int32) σ).bind (fun q3 => (f_X1_columns i (((σ.1 1 i 5) + (σ.1 1 i 4)) - (1 : Int32)) (1 : Int32) σ).bind (fun q4 => zb (zwI σ 27 (3 * i + 1) 3 p1) (fun s5 => zb (zwI s5 27 (3 * i + 1) 4 (f_J13_bitCount_95d88 (q2 &&& q1))) (fun s6 => zb (zwI s6 27 (3 * i + 1) 5 (f_J13_bitCount_95d88 ((q2 &&& q1) &&& (q3 ||| q4)))) (fun s7 => zb (zwI s7 27 (3 * i + 1) 6 (s7.1 1 i 5)) (fun s8 => (f_X1_peopleOn i q1 p1 s8).bind (fun q9 => zb (zwI s8 27 (3 * i + 1) 7 q9) (fun s10 => (f_X3_valueOr (3 * i + 1) ((100 : Int32) - (f_J13_bitCount_95d88 (q2 &&& q1))) s10).bind (fun q11 => some ((f_X11_held q11.1 (-999 : Int32) (999 : Int32)), q11.2))))))))))))
set_option maxRecDepth 100000 in
set_option maxHeartbeats 4000000 in
theorem c_X1_worthOf (l : Launch) (i : Nat) (p1 : Int32) (σ : zG) (q : Int32 × zG) (hq : f_X1_worthOf i p1 σ = some q) : zMet l zsyC m_X1_worthOf yX1_worthOf [zR 1 i, zI p1] σ (some (zI q.1)) q.2 := by
  refine zEnter [(0, zR 1 i), (1, zI p1)] (by decide) rfl (fun _ => Nat.le_of_ble_eq_true rfl) (fun _ => rfl) (fun w h => ?_) (fun K hv hs => ?_)
  · exact zokm rfl h
  · have hP : ∀ x s, f_X1_worthOf i p1 σ = some (x, s) → zKv K = some (zI x) ∧ zKs K = s := fun x s h => by rw [hq] at h; cases h; exact ⟨hv, hs⟩
    have hn : f_X1_worthOf i p1 σ ≠ none := fun z => by rw [hq] at z; cases z
    have hf := f_X1_worthOf.eq_1 i p1 σ
    refine z_aload_n (pc := 0) 0 (zdg D_X1_worthOf 0 (0, .aload_n 0, 1) rfl) rfl rfl ?_
    refine z_bind hn hf (fun q1 hq hf => ?_)
    refine z_callV (pc := 1) (rest := []) (st2 := [zL q1]) (fun l => c_X1_viewNow l i σ q1 hq) zv_X1_viewNow lm_X1_145 rfl rfl rfl rfl rfl rfl (Nat.le_of_ble_eq_true rfl) ⟨Nat.le_of_ble_eq_true rfl, Nat.le_of_ble_eq_true rfl⟩ (zdg D_X1_worthOf 1 (1, .invokevirtual 145, 3) rfl) ?_
    refine z_lstore_n (pc := 4) (al' := [(2, zL q1), (0, zR 1 i), (1, zI p1)]) (zdg D_X1_worthOf 2 (4, .lstore_n 2, 1) rfl) rfl (by decide) rfl ?_
    refine z_aload_n (pc := 5) 1 (zdg D_X1_worthOf 3 (5, .aload_n 0, 1) rfl) rfl rfl ?_
    refine z_iload_n (pc := 6) 2 (zdg D_X1_worthOf 4 (6, .iload_n 1, 1) rfl) rfl rfl ?_
    refine z_bind hn hf (fun q2 hq hf => ?_)
    refine z_callV (pc := 7) (rest := []) (st2 := [zL q2]) (fun l => c_X1_coverIn l i p1 σ q2 hq) zv_X1_coverIn lm_X1_153 rfl rfl rfl rfl rfl rfl (Nat.le_of_ble_eq_true rfl) ⟨Nat.le_of_ble_eq_true rfl, Nat.le_of_ble_eq_true rfl⟩ (zdg D_X1_worthOf 5 (7, .invokevirtual 153, 3) rfl) ?_
    refine z_lload_n (pc := 10) 0 (zdg D_X1_worthOf 6 (10, .lload_n 2, 1) rfl) rfl rfl ?_
    refine z_land (pc := 11) (zdg D_X1_worthOf 7 (11, .land, 1) rfl) ?_
    refine z_lstore (pc := 12) (al' := [(4, zL (q2 &&& q1)), (2, zL q1), (0, zR 1 i), (1, zI p1)]) (zdg D_X1_worthOf 8 (12, .lstore 4, 2) rfl) (by decide) rfl ?_
    refine z_aload_n (pc := 14) 2 (zdg D_X1_worthOf 9 (14, .aload_n 0, 1) rfl) rfl rfl ?_
    refine z_aload_n (pc := 15) 2 (zdg D_X1_worthOf 10 (15, .aload_n 0, 1) rfl) rfl rfl ?_
    refine z_getI (pc := 16) lf_X1_70 rfl rfl (zdg D_X1_worthOf 11 (16, .getfield 70, 3) rfl) ?_
    refine z_iconst (pc := 19) (v := 1) (zdg D_X1_worthOf 12 (19, .iconst 1, 1) rfl) rfl ?_
    refine z_bind hn hf (fun q3 hq hf => ?_)
    refine z_callV (pc := 20) (rest := []) (st2 := [zL q3]) (fun l => c_X1_columns l i (σ.1 1 i 5) (1 : Int32) σ q3 hq) zv_X1_columns lm_X1_178 rfl rfl rfl rfl rfl rfl (Nat.le_of_ble_eq_true rfl) ⟨Nat.le_of_ble_eq_true rfl, Nat.le_of_ble_eq_true rfl⟩ (zdg D_X1_worthOf 13 (20, .invokevirtual 178, 3) rfl) ?_
    refine z_aload_n (pc := 23) 2 (zdg D_X1_worthOf 14 (23, .aload_n 0, 1) rfl) rfl rfl ?_
    refine z_aload_n (pc := 24) 2 (zdg D_X1_worthOf 15 (24, .aload_n 0, 1) rfl) rfl rfl ?_
    refine z_getI (pc := 25) lf_X1_70 rfl rfl (zdg D_X1_worthOf 16 (25, .getfield 70, 3) rfl) ?_
    refine z_aload_n (pc := 28) 2 (zdg D_X1_worthOf 17 (28, .aload_n 0, 1) rfl) rfl rfl ?_
    refine z_getI (pc := 29) lf_X1_67 rfl rfl (zdg D_X1_worthOf 18 (29, .getfield 67, 3) rfl) ?_
    refine z_iadd (pc := 32) (zdg D_X1_worthOf 19 (32, .iadd, 1) rfl) ?_
    refine z_iconst (pc := 33) (v := 1) (zdg D_X1_worthOf 20 (33, .iconst 1, 1) rfl) rfl ?_
    refine z_isub (pc := 34) (zdg D_X1_worthOf 21 (34, .isub, 1) rfl) ?_
    refine z_iconst (pc := 35) (v := 1) (zdg D_X1_worthOf 22 (35, .iconst 1, 1) rfl) rfl ?_
    refine z_bind hn hf (fun q4 hq hf => ?_)
    refine z_callV (pc := 36) (rest := [zL q3]) (st2 := [zL q4, zL q3]) (fun l => c_X1_columns l i (((σ.1 1 i 5) + (σ.1 1 i 4)) - (1 : Int32)) (1 : Int32) σ q4 hq) zv_X1_columns lm_X1_178 rfl rfl rfl rfl rfl rfl (Nat.le_of_ble_eq_true rfl) ⟨Nat.le_of_ble_eq_true rfl, Nat.le_of_ble_eq_true rfl⟩ (zdg D_X1_worthOf 23 (36, .invokevirtual 178, 3) rfl) ?_
    refine z_lor (pc := 39) (zdg D_X1_worthOf 24 (39, .lor, 1) rfl) ?_
    refine z_lstore (pc := 40) (al' := [(6, zL (q3 ||| q4)), (4, zL (q2 &&& q1)), (2, zL q1), (0, zR 1 i), (1, zI p1)]) (zdg D_X1_worthOf 25 (40, .lstore 6, 2) rfl) (by decide) rfl ?_
    refine z_lload (pc := 42) 1 (zdg D_X1_worthOf 26 (42, .lload 4, 2) rfl) rfl ?_
    refine z_callS (pc := 44) (rest := []) (st2 := [zI (f_J13_bitCount_95d88 (q2 &&& q1))]) (fun l => c_J13_bitCount_95d88 l zsyC (q2 &&& q1) σ) zs_J13_bitCount_95d88 lm_X1_213 rfl rfl rfl (Nat.le_of_ble_eq_true rfl) ⟨Nat.le_of_ble_eq_true rfl, Nat.le_of_ble_eq_true rfl⟩ (zdg D_X1_worthOf 27 (44, .invokestatic 213, 3) rfl) ?_
    refine z_istore (pc := 47) (al' := [(8, zI (f_J13_bitCount_95d88 (q2 &&& q1))), (6, zL (q3 ||| q4)), (4, zL (q2 &&& q1)), (2, zL q1), (0, zR 1 i), (1, zI p1)]) (zdg D_X1_worthOf 28 (47, .istore 8, 2) rfl) (by decide) rfl ?_
    refine z_aload_n (pc := 49) 4 (zdg D_X1_worthOf 29 (49, .aload_n 0, 1) rfl) rfl rfl ?_
    refine z_getR (pc := 50) (g := 10) (j := 3 * i + 1) lf_X1_39 rfl rfl rfl (zdg D_X1_worthOf 30 (50, .getfield 39, 3) rfl) ?_
    refine z_getR (pc := 53) (g := 27) (j := (3 * i + 1)) lf_X1_203 rfl rfl rfl (zdg D_X1_worthOf 31 (53, .getfield 203, 3) rfl) ?_
    refine z_iconst (pc := 56) (v := 3) (zdg D_X1_worthOf 32 (56, .iconst 3, 1) rfl) rfl ?_
    refine z_iload_n (pc := 57) 5 (zdg D_X1_worthOf 33 (57, .iload_n 1, 1) rfl) rfl rfl ?_
    refine z_iastC (pc := 58) (j := 3) rfl (fun _ => rfl) (zdg D_X1_worthOf 34 (58, .iastore, 1) rfl) rfl rfl ?_
    refine z_nmS hf (fun s5 hf => ?_)
    refine z_aload_n (pc := 59) 4 (zdg D_X1_worthOf 35 (59, .aload_n 0, 1) rfl) rfl rfl ?_
    refine z_getR (pc := 60) (g := 10) (j := 3 * i + 1) lf_X1_39 rfl rfl rfl (zdg D_X1_worthOf 36 (60, .getfield 39, 3) rfl) ?_
    refine z_getR (pc := 63) (g := 27) (j := (3 * i + 1)) lf_X1_203 rfl rfl rfl (zdg D_X1_worthOf 37 (63, .getfield 203, 3) rfl) ?_
    refine z_iconst (pc := 66) (v := 4) (zdg D_X1_worthOf 38 (66, .iconst 4, 1) rfl) rfl ?_
    refine z_iload (pc := 67) 0 (zdg D_X1_worthOf 39 (67, .iload 8, 2) rfl) rfl ?_
    refine z_iastC (pc := 69) (j := 4) rfl (fun _ => rfl) (zdg D_X1_worthOf 40 (69, .iastore, 1) rfl) rfl rfl ?_
    refine z_nmS hf (fun s6 hf => ?_)
    refine z_aload_n (pc := 70) 4 (zdg D_X1_worthOf 41 (70, .aload_n 0, 1) rfl) rfl rfl ?_
    refine z_getR (pc := 71) (g := 10) (j := 3 * i + 1) lf_X1_39 rfl rfl rfl (zdg D_X1_worthOf 42 (71, .getfield 39, 3) rfl) ?_
    refine z_getR (pc := 74) (g := 27) (j := (3 * i + 1)) lf_X1_203 rfl rfl rfl (zdg D_X1_worthOf 43 (74, .getfield 203, 3) rfl) ?_
    refine z_iconst (pc := 77) (v := 5) (zdg D_X1_worthOf 44 (77, .iconst 5, 1) rfl) rfl ?_
    refine z_lload (pc := 78) 2 (zdg D_X1_worthOf 45 (78, .lload 4, 2) rfl) rfl ?_
    refine z_lload (pc := 80) 1 (zdg D_X1_worthOf 46 (80, .lload 6, 2) rfl) rfl ?_
    refine z_land (pc := 82) (zdg D_X1_worthOf 47 (82, .land, 1) rfl) ?_
    refine z_callS (pc := 83) (rest := [zI (5 : Int32), zR 27 (3 * i + 1)]) (st2 := [zI (f_J13_bitCount_95d88 ((q2 &&& q1) &&& (q3 ||| q4))), zI (5 : Int32), zR 27 (3 * i + 1)]) (fun l => c_J13_bitCount_95d88 l zsyC ((q2 &&& q1) &&& (q3 ||| q4)) s6) zs_J13_bitCount_95d88 lm_X1_213 rfl rfl rfl (Nat.le_of_ble_eq_true rfl) ⟨Nat.le_of_ble_eq_true rfl, Nat.le_of_ble_eq_true rfl⟩ (zdg D_X1_worthOf 48 (83, .invokestatic 213, 3) rfl) ?_
    refine z_iastC (pc := 86) (j := 5) rfl (fun _ => rfl) (zdg D_X1_worthOf 49 (86, .iastore, 1) rfl) rfl rfl ?_
    refine z_nmS hf (fun s7 hf => ?_)
    refine z_aload_n (pc := 87) 4 (zdg D_X1_worthOf 50 (87, .aload_n 0, 1) rfl) rfl rfl ?_
    refine z_getR (pc := 88) (g := 10) (j := 3 * i + 1) lf_X1_39 rfl rfl rfl (zdg D_X1_worthOf 51 (88, .getfield 39, 3) rfl) ?_
    refine z_getR (pc := 91) (g := 27) (j := (3 * i + 1)) lf_X1_203 rfl rfl rfl (zdg D_X1_worthOf 52 (91, .getfield 203, 3) rfl) ?_
    refine z_bipush (pc := 94) (v := 6) (zdg D_X1_worthOf 53 (94, .bipush 6, 2) rfl) rfl ?_
    refine z_aload_n (pc := 96) 4 (zdg D_X1_worthOf 54 (96, .aload_n 0, 1) rfl) rfl rfl ?_
    refine z_getI (pc := 97) lf_X1_70 rfl rfl (zdg D_X1_worthOf 55 (97, .getfield 70, 3) rfl) ?_
    refine z_iastC (pc := 100) (j := 6) rfl (fun _ => rfl) (zdg D_X1_worthOf 56 (100, .iastore, 1) rfl) rfl rfl ?_
    refine z_nmS hf (fun s8 hf => ?_)
    refine z_aload_n (pc := 101) 4 (zdg D_X1_worthOf 57 (101, .aload_n 0, 1) rfl) rfl rfl ?_
    refine z_getR (pc := 102) (g := 10) (j := 3 * i + 1) lf_X1_39 rfl rfl rfl (zdg D_X1_worthOf 58 (102, .getfield 39, 3) rfl) ?_
    refine z_getR (pc := 105) (g := 27) (j := (3 * i + 1)) lf_X1_203 rfl rfl rfl (zdg D_X1_worthOf 59 (105, .getfield 203, 3) rfl) ?_
    refine z_bipush (pc := 108) (v := 7) (zdg D_X1_worthOf 60 (108, .bipush 7, 2) rfl) rfl ?_
    refine z_aload_n (pc := 110) 4 (zdg D_X1_worthOf 61 (110, .aload_n 0, 1) rfl) rfl rfl ?_
    refine z_lload_n (pc := 111) 3 (zdg D_X1_worthOf 62 (111, .lload_n 2, 1) rfl) rfl rfl ?_
    refine z_iload_n (pc := 112) 5 (zdg D_X1_worthOf 63 (112, .iload_n 1, 1) rfl) rfl rfl ?_
    refine z_bind hn hf (fun q9 hq hf => ?_)
    refine z_callV (pc := 113) (rest := [zI (7 : Int32), zR 27 (3 * i + 1)]) (st2 := [zI q9, zI (7 : Int32), zR 27 (3 * i + 1)]) (fun l => c_X1_peopleOn l i q1 p1 s8 q9 hq) zv_X1_peopleOn lm_X1_219 rfl rfl rfl rfl rfl rfl (Nat.le_of_ble_eq_true rfl) ⟨Nat.le_of_ble_eq_true rfl, Nat.le_of_ble_eq_true rfl⟩ (zdg D_X1_worthOf 64 (113, .invokevirtual 219, 3) rfl) ?_
    refine z_iastC (pc := 116) (j := 7) rfl (fun _ => rfl) (zdg D_X1_worthOf 65 (116, .iastore, 1) rfl) rfl rfl ?_
    refine z_nmS hf (fun s10 hf => ?_)
    refine z_aload_n (pc := 117) 4 (zdg D_X1_worthOf 66 (117, .aload_n 0, 1) rfl) rfl rfl ?_
    refine z_getR (pc := 118) (g := 10) (j := 3 * i + 1) lf_X1_39 rfl rfl rfl (zdg D_X1_worthOf 67 (118, .getfield 39, 3) rfl) ?_
    refine z_bipush (pc := 121) (v := 100) (zdg D_X1_worthOf 68 (121, .bipush 100, 2) rfl) rfl ?_
    refine z_iload (pc := 123) 0 (zdg D_X1_worthOf 69 (123, .iload 8, 2) rfl) rfl ?_
    refine z_isub (pc := 125) (zdg D_X1_worthOf 70 (125, .isub, 1) rfl) ?_
    refine z_bind hn hf (fun q11 hq hf => ?_)
    refine z_callV (pc := 126) (rest := []) (st2 := [zI q11.1]) (fun l => c_X3_valueOr l (3 * i + 1) ((100 : Int32) - (f_J13_bitCount_95d88 (q2 &&& q1))) s10 q11 hq) zv_X3_valueOr lm_X1_206 rfl rfl rfl rfl rfl rfl (Nat.le_of_ble_eq_true rfl) ⟨Nat.le_of_ble_eq_true rfl, Nat.le_of_ble_eq_true rfl⟩ (zdg D_X1_worthOf 71 (126, .invokevirtual 206, 3) rfl) ?_
    refine z_sipush (pc := 129) (v := -999) (zdg D_X1_worthOf 72 (129, .sipush (-999), 3) rfl) rfl ?_
    refine z_sipush (pc := 132) (v := 999) (zdg D_X1_worthOf 73 (132, .sipush 999, 3) rfl) rfl ?_
    refine z_callSN (pc := 135) (rest := []) (st2 := [zI (f_X11_held q11.1 (-999 : Int32) (999 : Int32))]) (host := "NobodyThere") (fun l => c_X11_held l q11.1 (-999 : Int32) (999 : Int32) q11.2) zs_X11_held (by decide +kernel) rfl rfl rfl (Nat.le_of_ble_eq_true rfl) ⟨Nat.le_of_ble_eq_true rfl, Nat.le_of_ble_eq_true rfl⟩ (zdg D_X1_worthOf 74 (135, .invokestatic 209, 3) rfl) ?_
    exact z_iret (pc := 138) rfl rfl (zdg D_X1_worthOf 75 (138, .ireturn, 1) rfl) (hP _ _ hf)

def L_X2_forget : List (Nat × Instr × Nat) := [(0, .aload_n 0, 1), (1, .iconst 0, 1), (2, .putfield 31, 3), (5, .return_, 1)]
set_option maxRecDepth 100000 in
theorem D_X2_forget : zdecs cX2_forget L_X2_forget = true := by decide +kernel
noncomputable def f_X2_forget (σ : zG) : zG :=
  zb (zwI σ 2 0 1 (0 : Int32)) (fun s1 => s1)
set_option maxRecDepth 100000 in
set_option maxHeartbeats 4000000 in
theorem c_X2_forget (l : Launch)  (σ : zG) : zMet l zsyC m_X2_forget yX2_forget [zR 2 0] σ none (f_X2_forget σ) := by
  refine zEnter [(0, zR 2 0)] (by decide) rfl (fun _ => Nat.le_of_ble_eq_true rfl) (fun _ => rfl) (fun w h => ?_) (fun K hv hs => ?_)
  · exact zokm rfl h
  · have hP : ∀ s, f_X2_forget σ = s → zKv K = none ∧ zKs K = s := fun s h => by rw [h] at hs; exact ⟨hv, hs⟩
    have hf := f_X2_forget.eq_1 σ
    refine z_aload_n (pc := 0) 0 (zdg D_X2_forget 0 (0, .aload_n 0, 1) rfl) rfl rfl ?_
    refine z_iconst (pc := 1) (v := 0) (zdg D_X2_forget 1 (1, .iconst 0, 1) rfl) rfl ?_
    refine z_putI (pc := 2) lw_X2_31 rfl rfl rfl rfl (zdg D_X2_forget 2 (2, .putfield 31, 3) rfl) ?_
    refine z_nmS hf (fun s1 hf => ?_)
    exact z_vret (pc := 5) rfl (zdg D_X2_forget 3 (5, .return_, 1) rfl) (hP _ hf)

def L_X2_keep : List (Nat × Instr × Nat) := [(0, .aload_n 0, 1), (1, .getfield 35, 3), (4, .aload_n 0, 1), (5, .getfield 31, 3), (8, .iadd, 1), (9, .bipush 6, 2), (11, .irem, 1), (12, .istore_n 2, 1), (13, .aload_n 0, 1), (14, .getfield 31, 3), (17, .bipush 6, 2), (19, .if_icmp .ge 16, 3), (22, .aload_n 0, 1), (23, .dup, 1), (24, .getfield 31, 3), (27, .iconst 1, 1), (28, .iadd, 1), (29, .putfield 31, 3), (32, .goto 16, 3), (35, .aload_n 0, 1), (36, .aload_n 0, 1), (37, .getfield 35, 3), (40, .iconst 1, 1), (41, .iadd, 1), (42, .bipush 6, 2), (44, .irem, 1), (45, .putfield 35, 3), (48, .aload_n 0, 1), (49, .getfield 9, 3), (52, .iload_n 2, 1), (53, .aload_n 1, 1), (54, .getfield 38, 3), (57, .iastore, 1), (58, .aload_n 0, 1), (59, .getfield 15, 3), (62, .iload_n 2, 1), (63, .aload_n 1, 1), (64, .getfield 42, 3), (67, .iastore, 1), (68, .aload_n 0, 1), (69, .getfield 18, 3), (72, .iload_n 2, 1), (73, .aload_n 1, 1), (74, .getfield 44, 3), (77, .iastore, 1), (78, .aload_n 0, 1), (79, .getfield 21, 3), (82, .iload_n 2, 1), (83, .aload_n 1, 1), (84, .getfield 46, 3), (87, .iastore, 1), (88, .aload_n 0, 1), (89, .getfield 26, 3), (92, .iload_n 2, 1), (93, .aaload, 1), (94, .aload_n 1, 1), (95, .getfield 48, 3), (98, .invokevirtual 51, 3), (101, .return_, 1)]
set_option maxRecDepth 100000 in
theorem D_X2_keep : zdecs cX2_keep L_X2_keep = true := by decide +kernel
noncomputable def j_X2_keep_48 (p1 : Nat) (w2_2 : Int32) (s3 : zG) : Option (zG) :=
  zg (zin w2_2 6) (zb (zwI s3 33 0 w2_2.toNatClampNeg (s3.1 1 p1 2)) (fun s4 => zg (zin w2_2 6) (zb (zwI s4 34 0 w2_2.toNatClampNeg (s4.1 1 p1 3)) (fun s5 => zg (zin w2_2 6) (zb (zwI s5 35 0 w2_2.toNatClampNeg (s5.1 1 p1 5)) (fun s6 => zg (zin w2_2 6) (zb (zwI s6 36 0 w2_2.toNatClampNeg (s6.1 1 p1 9)) (fun s7 => zg (zin w2_2 6) (zb (f_X7_copyFrom (1 + w2_2.toNatClampNeg) (7 * p1) s7) (fun s8 => some s8))))))))))
noncomputable def f_X2_keep (p1 : Nat) (σ : zG) : Option (zG) :=
  if (σ.1 2 0 1) < (6 : Int32) then zb (zwI σ 2 0 1 ((σ.1 2 0 1) + (1 : Int32))) (fun s9 => j_X2_keep_48 p1 (zrem ((σ.1 2 0 0) + (σ.1 2 0 1)) (6 : Int32)) s9) else zb (zwI σ 2 0 0 (zrem ((σ.1 2 0 0) + (1 : Int32)) (6 : Int32))) (fun s1 => j_X2_keep_48 p1 (zrem ((σ.1 2 0 0) + (σ.1 2 0 1)) (6 : Int32)) s1)
set_option maxRecDepth 100000 in
set_option maxHeartbeats 4000000 in
theorem c_X2_keep (l : Launch) (p1 : Nat) (σ : zG) (q : zG) (hq : f_X2_keep p1 σ = some q) : zMet l zsyC m_X2_keep yX2_keep [zR 2 0, zR 1 p1] σ none q := by
  refine zEnter [(0, zR 2 0), (1, zR 1 p1)] (by decide) rfl (fun _ => Nat.le_of_ble_eq_true rfl) (fun _ => rfl) (fun w h => ?_) (fun K hv hs => ?_)
  · exact zokm rfl h
  · have hP : ∀ s, f_X2_keep p1 σ = some s → zKv K = none ∧ zKs K = s := fun s h => by rw [hq] at h; cases h; exact ⟨hv, hs⟩
    have hn : f_X2_keep p1 σ ≠ none := fun z => by rw [hq] at z; cases z
    have hf := f_X2_keep.eq_1 p1 σ
    have t_48 : ∀ (w2_2 : Int32) (s3 : zG), f_X2_keep p1 σ = j_X2_keep_48 p1 w2_2 s3 → zX zsyC m_X2_keep K 48 [(0, zR 2 0), (1, zR 1 p1), (2, zI w2_2)] [] s3 := by
      intro w2_2 s3 hf
      replace hf := hf.trans (j_X2_keep_48.eq_1 p1 w2_2 s3)
      refine z_aload_n (pc := 48) 0 (zdg D_X2_keep 27 (48, .aload_n 0, 1) rfl) rfl rfl ?_
      refine z_getR (pc := 49) (g := 33) (j := 0) lf_X2_9 rfl rfl rfl (zdg D_X2_keep 28 (49, .getfield 9, 3) rfl) ?_
      refine z_iload_n (pc := 52) 2 (zdg D_X2_keep 29 (52, .iload_n 2, 1) rfl) rfl rfl ?_
      refine z_aload_n (pc := 53) 1 (zdg D_X2_keep 30 (53, .aload_n 1, 1) rfl) rfl rfl ?_
      refine z_getI (pc := 54) lf_X2_38 rfl rfl (zdg D_X2_keep 31 (54, .getfield 38, 3) rfl) ?_
      refine z_iast (pc := 57) rfl (fun _ => rfl) (zdg D_X2_keep 32 (57, .iastore, 1) rfl) hn hf (fun hf => ?_)
      refine z_nmS hf (fun s4 hf => ?_)
      refine z_aload_n (pc := 58) 0 (zdg D_X2_keep 33 (58, .aload_n 0, 1) rfl) rfl rfl ?_
      refine z_getR (pc := 59) (g := 34) (j := 0) lf_X2_15 rfl rfl rfl (zdg D_X2_keep 34 (59, .getfield 15, 3) rfl) ?_
      refine z_iload_n (pc := 62) 2 (zdg D_X2_keep 35 (62, .iload_n 2, 1) rfl) rfl rfl ?_
      refine z_aload_n (pc := 63) 1 (zdg D_X2_keep 36 (63, .aload_n 1, 1) rfl) rfl rfl ?_
      refine z_getI (pc := 64) lf_X2_42 rfl rfl (zdg D_X2_keep 37 (64, .getfield 42, 3) rfl) ?_
      refine z_iast (pc := 67) rfl (fun _ => rfl) (zdg D_X2_keep 38 (67, .iastore, 1) rfl) hn hf (fun hf => ?_)
      refine z_nmS hf (fun s5 hf => ?_)
      refine z_aload_n (pc := 68) 0 (zdg D_X2_keep 39 (68, .aload_n 0, 1) rfl) rfl rfl ?_
      refine z_getR (pc := 69) (g := 35) (j := 0) lf_X2_18 rfl rfl rfl (zdg D_X2_keep 40 (69, .getfield 18, 3) rfl) ?_
      refine z_iload_n (pc := 72) 2 (zdg D_X2_keep 41 (72, .iload_n 2, 1) rfl) rfl rfl ?_
      refine z_aload_n (pc := 73) 1 (zdg D_X2_keep 42 (73, .aload_n 1, 1) rfl) rfl rfl ?_
      refine z_getI (pc := 74) lf_X2_44 rfl rfl (zdg D_X2_keep 43 (74, .getfield 44, 3) rfl) ?_
      refine z_iast (pc := 77) rfl (fun _ => rfl) (zdg D_X2_keep 44 (77, .iastore, 1) rfl) hn hf (fun hf => ?_)
      refine z_nmS hf (fun s6 hf => ?_)
      refine z_aload_n (pc := 78) 0 (zdg D_X2_keep 45 (78, .aload_n 0, 1) rfl) rfl rfl ?_
      refine z_getR (pc := 79) (g := 36) (j := 0) lf_X2_21 rfl rfl rfl (zdg D_X2_keep 46 (79, .getfield 21, 3) rfl) ?_
      refine z_iload_n (pc := 82) 2 (zdg D_X2_keep 47 (82, .iload_n 2, 1) rfl) rfl rfl ?_
      refine z_aload_n (pc := 83) 1 (zdg D_X2_keep 48 (83, .aload_n 1, 1) rfl) rfl rfl ?_
      refine z_getI (pc := 84) lf_X2_46 rfl rfl (zdg D_X2_keep 49 (84, .getfield 46, 3) rfl) ?_
      refine z_iast (pc := 87) rfl (fun _ => rfl) (zdg D_X2_keep 50 (87, .iastore, 1) rfl) hn hf (fun hf => ?_)
      refine z_nmS hf (fun s7 hf => ?_)
      refine z_aload_n (pc := 88) 0 (zdg D_X2_keep 51 (88, .aload_n 0, 1) rfl) rfl rfl ?_
      refine z_getR (pc := 89) (g := 37) (j := 0) lf_X2_26 rfl rfl rfl (zdg D_X2_keep 52 (89, .getfield 26, 3) rfl) ?_
      refine z_iload_n (pc := 92) 2 (zdg D_X2_keep 53 (92, .iload_n 2, 1) rfl) rfl rfl ?_
      refine z_aald (pc := 93) (g := 7) (t := fun j => 1 + j) rfl (fun _ => rfl) (fun j h => by show (if j < 6 then some (7, 1 + j) else none) = _; rw [if_pos h]) (zdg D_X2_keep 54 (93, .aaload, 1) rfl) hn hf (fun hf => ?_)
      refine z_aload_n (pc := 94) 1 (zdg D_X2_keep 55 (94, .aload_n 1, 1) rfl) rfl rfl ?_
      refine z_getR (pc := 95) (g := 7) (j := 7 * p1) lf_X2_48 rfl rfl rfl (zdg D_X2_keep 56 (95, .getfield 48, 3) rfl) ?_
      refine z_callV (pc := 98) (rest := []) (st2 := []) (fun l => c_X7_copyFrom l (1 + w2_2.toNatClampNeg) (7 * p1) s7) zv_X7_copyFrom lm_X2_51 rfl rfl rfl rfl rfl rfl (Nat.le_of_ble_eq_true rfl) ⟨Nat.le_of_ble_eq_true rfl, Nat.le_of_ble_eq_true rfl⟩ (zdg D_X2_keep 57 (98, .invokevirtual 51, 3) rfl) ?_
      refine z_nmS hf (fun s8 hf => ?_)
      exact z_vret (pc := 101) rfl (zdg D_X2_keep 58 (101, .return_, 1) rfl) (hP _ hf)
    refine z_aload_n (pc := 0) 0 (zdg D_X2_keep 0 (0, .aload_n 0, 1) rfl) rfl rfl ?_
    refine z_getI (pc := 1) lf_X2_35 rfl rfl (zdg D_X2_keep 1 (1, .getfield 35, 3) rfl) ?_
    refine z_aload_n (pc := 4) 0 (zdg D_X2_keep 2 (4, .aload_n 0, 1) rfl) rfl rfl ?_
    refine z_getI (pc := 5) lf_X2_31 rfl rfl (zdg D_X2_keep 3 (5, .getfield 31, 3) rfl) ?_
    refine z_iadd (pc := 8) (zdg D_X2_keep 4 (8, .iadd, 1) rfl) ?_
    refine z_bipush (pc := 9) (v := 6) (zdg D_X2_keep 5 (9, .bipush 6, 2) rfl) rfl ?_
    refine z_iremK (pc := 11) (zdg D_X2_keep 6 (11, .irem, 1) rfl) rfl ?_
    refine z_istore_n (pc := 12) (al' := [(2, zI (zrem ((σ.1 2 0 0) + (σ.1 2 0 1)) (6 : Int32))), (0, zR 2 0), (1, zR 1 p1)]) (zdg D_X2_keep 7 (12, .istore_n 2, 1) rfl) rfl (by decide) rfl ?_
    refine z_aload_n (pc := 13) 1 (zdg D_X2_keep 8 (13, .aload_n 0, 1) rfl) rfl rfl ?_
    refine z_getI (pc := 14) lf_X2_31 rfl rfl (zdg D_X2_keep 9 (14, .getfield 31, 3) rfl) ?_
    refine z_bipush (pc := 17) (v := 6) (zdg D_X2_keep 10 (17, .bipush 6, 2) rfl) rfl ?_
    refine z_icmp_ge (pc := 19) 35 (zdg D_X2_keep 11 (19, .if_icmp .ge 16, 3) rfl) rfl hf (fun hf => ?_) (fun hf => ?_)
    · refine z_aload_n (pc := 35) 1 (zdg D_X2_keep 19 (35, .aload_n 0, 1) rfl) rfl rfl ?_
      refine z_aload_n (pc := 36) 1 (zdg D_X2_keep 20 (36, .aload_n 0, 1) rfl) rfl rfl ?_
      refine z_getI (pc := 37) lf_X2_35 rfl rfl (zdg D_X2_keep 21 (37, .getfield 35, 3) rfl) ?_
      refine z_iconst (pc := 40) (v := 1) (zdg D_X2_keep 22 (40, .iconst 1, 1) rfl) rfl ?_
      refine z_iadd (pc := 41) (zdg D_X2_keep 23 (41, .iadd, 1) rfl) ?_
      refine z_bipush (pc := 42) (v := 6) (zdg D_X2_keep 24 (42, .bipush 6, 2) rfl) rfl ?_
      refine z_iremK (pc := 44) (zdg D_X2_keep 25 (44, .irem, 1) rfl) rfl ?_
      refine z_putI (pc := 45) lw_X2_35 rfl rfl rfl rfl (zdg D_X2_keep 26 (45, .putfield 35, 3) rfl) ?_
      refine z_nmS hf (fun s1 hf => ?_)
      refine z_sub (al' := [(0, zR 2 0), (1, zR 1 p1), (2, zI (zrem ((σ.1 2 0 0) + (σ.1 2 0 1)) (6 : Int32)))]) [1, 2, 0] rfl ?_
      exact t_48 (zrem ((σ.1 2 0 0) + (σ.1 2 0 1)) (6 : Int32)) s1 hf
    · refine z_aload_n (pc := 22) 1 (zdg D_X2_keep 12 (22, .aload_n 0, 1) rfl) rfl rfl ?_
      refine z_dup (pc := 23) rfl (zdg D_X2_keep 13 (23, .dup, 1) rfl) ?_
      refine z_getI (pc := 24) lf_X2_31 rfl rfl (zdg D_X2_keep 14 (24, .getfield 31, 3) rfl) ?_
      refine z_iconst (pc := 27) (v := 1) (zdg D_X2_keep 15 (27, .iconst 1, 1) rfl) rfl ?_
      refine z_iadd (pc := 28) (zdg D_X2_keep 16 (28, .iadd, 1) rfl) ?_
      refine z_putI (pc := 29) lw_X2_31 rfl rfl rfl rfl (zdg D_X2_keep 17 (29, .putfield 31, 3) rfl) ?_
      refine z_nmS hf (fun s9 hf => ?_)
      refine z_goto (pc := 32) 48 (zdg D_X2_keep 18 (32, .goto 16, 3) rfl) rfl ?_
      refine z_sub (al' := [(0, zR 2 0), (1, zR 1 p1), (2, zI (zrem ((σ.1 2 0 0) + (σ.1 2 0 1)) (6 : Int32)))]) [1, 2, 0] rfl ?_
      exact t_48 (zrem ((σ.1 2 0 0) + (σ.1 2 0 1)) (6 : Int32)) s9 hf

def L_X2_goBack : List (Nat × Instr × Nat) := [(0, .aload_n 0, 1), (1, .getfield 31, 3), (4, .ifCond .ne 5, 3), (7, .iconst 0, 1), (8, .ireturn, 1), (9, .aload_n 0, 1), (10, .dup, 1), (11, .getfield 31, 3), (14, .iconst 1, 1), (15, .isub, 1), (16, .putfield 31, 3), (19, .aload_n 0, 1), (20, .getfield 35, 3), (23, .aload_n 0, 1), (24, .getfield 31, 3), (27, .iadd, 1), (28, .bipush 6, 2), (30, .irem, 1), (31, .istore_n 2, 1), (32, .aload_n 1, 1), (33, .aload_n 0, 1), (34, .getfield 9, 3), (37, .iload_n 2, 1), (38, .iaload, 1), (39, .putfield 38, 3), (42, .aload_n 1, 1), (43, .aload_n 0, 1), (44, .getfield 15, 3), (47, .iload_n 2, 1), (48, .iaload, 1), (49, .putfield 42, 3), (52, .aload_n 1, 1), (53, .aload_n 0, 1), (54, .getfield 18, 3), (57, .iload_n 2, 1), (58, .iaload, 1), (59, .putfield 44, 3), (62, .aload_n 1, 1), (63, .aload_n 0, 1), (64, .getfield 21, 3), (67, .iload_n 2, 1), (68, .iaload, 1), (69, .putfield 46, 3), (72, .aload_n 1, 1), (73, .getfield 48, 3), (76, .aload_n 0, 1), (77, .getfield 26, 3), (80, .iload_n 2, 1), (81, .aaload, 1), (82, .invokevirtual 51, 3), (85, .iconst 1, 1), (86, .ireturn, 1)]
set_option maxRecDepth 100000 in
theorem D_X2_goBack : zdecs cX2_goBack L_X2_goBack = true := by decide +kernel
noncomputable def f_X2_goBack (p1 : Nat) (σ : zG) : Option (Int32 × zG) :=
  if (σ.1 2 0 1) = 0 then some ((0 : Int32), σ) else zb (zwI σ 2 0 1 ((σ.1 2 0 1) - (1 : Int32))) (fun s1 => zg (zin (zrem ((s1.1 2 0 0) + (s1.1 2 0 1)) (6 : Int32)) 6) (zb (zwI s1 1 p1 2 (s1.1 33 0 (zrem ((s1.1 2 0 0) + (s1.1 2 0 1)) (6 : Int32)).toNatClampNeg)) (fun s2 => zg (zin (zrem ((s1.1 2 0 0) + (s1.1 2 0 1)) (6 : Int32)) 6) (zb (zwI s2 1 p1 3 (s2.1 34 0 (zrem ((s1.1 2 0 0) + (s1.1 2 0 1)) (6 : Int32)).toNatClampNeg)) (fun s3 => zg (zin (zrem ((s1.1 2 0 0) + (s1.1 2 0 1)) (6 : Int32)) 6) (zb (zwI s3 1 p1 5 (s3.1 35 0 (zrem ((s1.1 2 0 0) + (s1.1 2 0 1)) (6 : Int32)).toNatClampNeg)) (fun s4 => zg (zin (zrem ((s1.1 2 0 0) + (s1.1 2 0 1)) (6 : Int32)) 6) (zb (zwI s4 1 p1 9 (s4.1 36 0 (zrem ((s1.1 2 0 0) + (s1.1 2 0 1)) (6 : Int32)).toNatClampNeg)) (fun s5 => zg (zin (zrem ((s1.1 2 0 0) + (s1.1 2 0 1)) (6 : Int32)) 6) (zb (f_X7_copyFrom (7 * p1) (1 + (zrem ((s1.1 2 0 0) + (s1.1 2 0 1)) (6 : Int32)).toNatClampNeg) s5) (fun s6 => some ((1 : Int32), s6))))))))))))
set_option maxRecDepth 100000 in
set_option maxHeartbeats 4000000 in
theorem c_X2_goBack (l : Launch) (p1 : Nat) (σ : zG) (q : Int32 × zG) (hq : f_X2_goBack p1 σ = some q) : zMet l zsyC m_X2_goBack yX2_goBack [zR 2 0, zR 1 p1] σ (some (zI q.1)) q.2 := by
  refine zEnter [(0, zR 2 0), (1, zR 1 p1)] (by decide) rfl (fun _ => Nat.le_of_ble_eq_true rfl) (fun _ => rfl) (fun w h => ?_) (fun K hv hs => ?_)
  · exact zokm rfl h
  · have hP : ∀ x s, f_X2_goBack p1 σ = some (x, s) → zKv K = some (zI x) ∧ zKs K = s := fun x s h => by rw [hq] at h; cases h; exact ⟨hv, hs⟩
    have hn : f_X2_goBack p1 σ ≠ none := fun z => by rw [hq] at z; cases z
    have hf := f_X2_goBack.eq_1 p1 σ
    refine z_aload_n (pc := 0) 0 (zdg D_X2_goBack 0 (0, .aload_n 0, 1) rfl) rfl rfl ?_
    refine z_getI (pc := 1) lf_X2_31 rfl rfl (zdg D_X2_goBack 1 (1, .getfield 31, 3) rfl) ?_
    refine z_if_ne (pc := 4) 9 (zdg D_X2_goBack 2 (4, .ifCond .ne 5, 3) rfl) rfl hf (fun hf => ?_) (fun hf => ?_)
    · refine z_aload_n (pc := 9) 0 (zdg D_X2_goBack 5 (9, .aload_n 0, 1) rfl) rfl rfl ?_
      refine z_dup (pc := 10) rfl (zdg D_X2_goBack 6 (10, .dup, 1) rfl) ?_
      refine z_getI (pc := 11) lf_X2_31 rfl rfl (zdg D_X2_goBack 7 (11, .getfield 31, 3) rfl) ?_
      refine z_iconst (pc := 14) (v := 1) (zdg D_X2_goBack 8 (14, .iconst 1, 1) rfl) rfl ?_
      refine z_isub (pc := 15) (zdg D_X2_goBack 9 (15, .isub, 1) rfl) ?_
      refine z_putI (pc := 16) lw_X2_31 rfl rfl rfl rfl (zdg D_X2_goBack 10 (16, .putfield 31, 3) rfl) ?_
      refine z_nmS hf (fun s1 hf => ?_)
      refine z_aload_n (pc := 19) 0 (zdg D_X2_goBack 11 (19, .aload_n 0, 1) rfl) rfl rfl ?_
      refine z_getI (pc := 20) lf_X2_35 rfl rfl (zdg D_X2_goBack 12 (20, .getfield 35, 3) rfl) ?_
      refine z_aload_n (pc := 23) 0 (zdg D_X2_goBack 13 (23, .aload_n 0, 1) rfl) rfl rfl ?_
      refine z_getI (pc := 24) lf_X2_31 rfl rfl (zdg D_X2_goBack 14 (24, .getfield 31, 3) rfl) ?_
      refine z_iadd (pc := 27) (zdg D_X2_goBack 15 (27, .iadd, 1) rfl) ?_
      refine z_bipush (pc := 28) (v := 6) (zdg D_X2_goBack 16 (28, .bipush 6, 2) rfl) rfl ?_
      refine z_iremK (pc := 30) (zdg D_X2_goBack 17 (30, .irem, 1) rfl) rfl ?_
      refine z_istore_n (pc := 31) (al' := [(2, zI (zrem ((s1.1 2 0 0) + (s1.1 2 0 1)) (6 : Int32))), (0, zR 2 0), (1, zR 1 p1)]) (zdg D_X2_goBack 18 (31, .istore_n 2, 1) rfl) rfl (by decide) rfl ?_
      refine z_aload_n (pc := 32) 2 (zdg D_X2_goBack 19 (32, .aload_n 1, 1) rfl) rfl rfl ?_
      refine z_aload_n (pc := 33) 1 (zdg D_X2_goBack 20 (33, .aload_n 0, 1) rfl) rfl rfl ?_
      refine z_getR (pc := 34) (g := 33) (j := 0) lf_X2_9 rfl rfl rfl (zdg D_X2_goBack 21 (34, .getfield 9, 3) rfl) ?_
      refine z_iload_n (pc := 37) 0 (zdg D_X2_goBack 22 (37, .iload_n 2, 1) rfl) rfl rfl ?_
      refine z_iald (pc := 38) rfl (fun _ => rfl) (zdg D_X2_goBack 23 (38, .iaload, 1) rfl) hn hf (fun hf => ?_)
      refine z_putI (pc := 39) lw_X2_38 rfl rfl rfl rfl (zdg D_X2_goBack 24 (39, .putfield 38, 3) rfl) ?_
      refine z_nmS hf (fun s2 hf => ?_)
      refine z_aload_n (pc := 42) 2 (zdg D_X2_goBack 25 (42, .aload_n 1, 1) rfl) rfl rfl ?_
      refine z_aload_n (pc := 43) 1 (zdg D_X2_goBack 26 (43, .aload_n 0, 1) rfl) rfl rfl ?_
      refine z_getR (pc := 44) (g := 34) (j := 0) lf_X2_15 rfl rfl rfl (zdg D_X2_goBack 27 (44, .getfield 15, 3) rfl) ?_
      refine z_iload_n (pc := 47) 0 (zdg D_X2_goBack 28 (47, .iload_n 2, 1) rfl) rfl rfl ?_
      refine z_iald (pc := 48) rfl (fun _ => rfl) (zdg D_X2_goBack 29 (48, .iaload, 1) rfl) hn hf (fun hf => ?_)
      refine z_putI (pc := 49) lw_X2_42 rfl rfl rfl rfl (zdg D_X2_goBack 30 (49, .putfield 42, 3) rfl) ?_
      refine z_nmS hf (fun s3 hf => ?_)
      refine z_aload_n (pc := 52) 2 (zdg D_X2_goBack 31 (52, .aload_n 1, 1) rfl) rfl rfl ?_
      refine z_aload_n (pc := 53) 1 (zdg D_X2_goBack 32 (53, .aload_n 0, 1) rfl) rfl rfl ?_
      refine z_getR (pc := 54) (g := 35) (j := 0) lf_X2_18 rfl rfl rfl (zdg D_X2_goBack 33 (54, .getfield 18, 3) rfl) ?_
      refine z_iload_n (pc := 57) 0 (zdg D_X2_goBack 34 (57, .iload_n 2, 1) rfl) rfl rfl ?_
      refine z_iald (pc := 58) rfl (fun _ => rfl) (zdg D_X2_goBack 35 (58, .iaload, 1) rfl) hn hf (fun hf => ?_)
      refine z_putI (pc := 59) lw_X2_44 rfl rfl rfl rfl (zdg D_X2_goBack 36 (59, .putfield 44, 3) rfl) ?_
      refine z_nmS hf (fun s4 hf => ?_)
      refine z_aload_n (pc := 62) 2 (zdg D_X2_goBack 37 (62, .aload_n 1, 1) rfl) rfl rfl ?_
      refine z_aload_n (pc := 63) 1 (zdg D_X2_goBack 38 (63, .aload_n 0, 1) rfl) rfl rfl ?_
      refine z_getR (pc := 64) (g := 36) (j := 0) lf_X2_21 rfl rfl rfl (zdg D_X2_goBack 39 (64, .getfield 21, 3) rfl) ?_
      refine z_iload_n (pc := 67) 0 (zdg D_X2_goBack 40 (67, .iload_n 2, 1) rfl) rfl rfl ?_
      refine z_iald (pc := 68) rfl (fun _ => rfl) (zdg D_X2_goBack 41 (68, .iaload, 1) rfl) hn hf (fun hf => ?_)
      refine z_putI (pc := 69) lw_X2_46 rfl rfl rfl rfl (zdg D_X2_goBack 42 (69, .putfield 46, 3) rfl) ?_
      refine z_nmS hf (fun s5 hf => ?_)
      refine z_aload_n (pc := 72) 2 (zdg D_X2_goBack 43 (72, .aload_n 1, 1) rfl) rfl rfl ?_
      refine z_getR (pc := 73) (g := 7) (j := 7 * p1) lf_X2_48 rfl rfl rfl (zdg D_X2_goBack 44 (73, .getfield 48, 3) rfl) ?_
      refine z_aload_n (pc := 76) 1 (zdg D_X2_goBack 45 (76, .aload_n 0, 1) rfl) rfl rfl ?_
      refine z_getR (pc := 77) (g := 37) (j := 0) lf_X2_26 rfl rfl rfl (zdg D_X2_goBack 46 (77, .getfield 26, 3) rfl) ?_
      refine z_iload_n (pc := 80) 0 (zdg D_X2_goBack 47 (80, .iload_n 2, 1) rfl) rfl rfl ?_
      refine z_aald (pc := 81) (g := 7) (t := fun j => 1 + j) rfl (fun _ => rfl) (fun j h => by show (if j < 6 then some (7, 1 + j) else none) = _; rw [if_pos h]) (zdg D_X2_goBack 48 (81, .aaload, 1) rfl) hn hf (fun hf => ?_)
      refine z_callV (pc := 82) (rest := []) (st2 := []) (fun l => c_X7_copyFrom l (7 * p1) (1 + (zrem ((s1.1 2 0 0) + (s1.1 2 0 1)) (6 : Int32)).toNatClampNeg) s5) zv_X7_copyFrom lm_X2_51 rfl rfl rfl rfl rfl rfl (Nat.le_of_ble_eq_true rfl) ⟨Nat.le_of_ble_eq_true rfl, Nat.le_of_ble_eq_true rfl⟩ (zdg D_X2_goBack 49 (82, .invokevirtual 51, 3) rfl) ?_
      refine z_nmS hf (fun s6 hf => ?_)
      refine z_iconst (pc := 85) (v := 1) (zdg D_X2_goBack 50 (85, .iconst 1, 1) rfl) rfl ?_
      exact z_iret (pc := 86) rfl rfl (zdg D_X2_goBack 51 (86, .ireturn, 1) rfl) (hP _ _ hf)
    · refine z_iconst (pc := 7) (v := 0) (zdg D_X2_goBack 3 (7, .iconst 0, 1) rfl) rfl ?_
      exact z_iret (pc := 8) rfl rfl (zdg D_X2_goBack 4 (8, .ireturn, 1) rfl) (hP _ _ hf)

def L_X3_add : List (Nat × Instr × Nat) := [(0, .aload_n 0, 1), (1, .getfield 34, 3), (4, .sipush 400, 3), (7, .if_icmp .ge 31, 3), (10, .aload_n 0, 1), (11, .getfield 9, 3), (14, .aload_n 0, 1), (15, .getfield 34, 3), (18, .iload_n 1, 1), (19, .bipush 16, 2), (21, .ishl, 1), (22, .iload_n 2, 1), (23, .ldc 37, 2), (25, .iand, 1), (26, .ior, 1), (27, .iastore, 1), (28, .aload_n 0, 1), (29, .dup, 1), (30, .getfield 34, 3), (33, .iconst 1, 1), (34, .iadd, 1), (35, .putfield 34, 3), (38, .return_, 1)]
set_option maxRecDepth 100000 in
theorem D_X3_add : zdecs cX3_add L_X3_add = true := by decide +kernel
noncomputable def f_X3_add (i : Nat) (p1 : Int32) (p2 : Int32) (σ : zG) : Option (zG) :=
  if (σ.1 10 i 1) < (400 : Int32) then zg (zin (σ.1 10 i 1) 400) (zb (zwI σ 23 i (σ.1 10 i 1).toNatClampNeg ((zshl p1 (16 : Int32)) ||| (p2 &&& (65535 : Int32)))) (fun s1 => zb (zwI s1 10 i 1 ((s1.1 10 i 1) + (1 : Int32))) (fun s2 => some s2))) else some σ
set_option maxRecDepth 100000 in
set_option maxHeartbeats 4000000 in
theorem c_X3_add (l : Launch) (i : Nat) (p1 : Int32) (p2 : Int32) (σ : zG) (q : zG) (hq : f_X3_add i p1 p2 σ = some q) : zMet l zsyC m_X3_add yX3_add [zR 10 i, zI p1, zI p2] σ none q := by
  refine zEnter [(0, zR 10 i), (1, zI p1), (2, zI p2)] (by decide) rfl (fun _ => Nat.le_of_ble_eq_true rfl) (fun _ => rfl) (fun w h => ?_) (fun K hv hs => ?_)
  · exact zokm rfl h
  · have hP : ∀ s, f_X3_add i p1 p2 σ = some s → zKv K = none ∧ zKs K = s := fun s h => by rw [hq] at h; cases h; exact ⟨hv, hs⟩
    have hn : f_X3_add i p1 p2 σ ≠ none := fun z => by rw [hq] at z; cases z
    have hf := f_X3_add.eq_1 i p1 p2 σ
    refine z_aload_n (pc := 0) 0 (zdg D_X3_add 0 (0, .aload_n 0, 1) rfl) rfl rfl ?_
    refine z_getI (pc := 1) lf_X3_34 rfl rfl (zdg D_X3_add 1 (1, .getfield 34, 3) rfl) ?_
    refine z_sipush (pc := 4) (v := 400) (zdg D_X3_add 2 (4, .sipush 400, 3) rfl) rfl ?_
    refine z_icmp_ge (pc := 7) 38 (zdg D_X3_add 3 (7, .if_icmp .ge 31, 3) rfl) rfl hf (fun hf => ?_) (fun hf => ?_)
    · exact z_vret (pc := 38) rfl (zdg D_X3_add 22 (38, .return_, 1) rfl) (hP _ hf)
    · refine z_aload_n (pc := 10) 0 (zdg D_X3_add 4 (10, .aload_n 0, 1) rfl) rfl rfl ?_
      refine z_getR (pc := 11) (g := 23) (j := i) lf_X3_9 rfl rfl rfl (zdg D_X3_add 5 (11, .getfield 9, 3) rfl) ?_
      refine z_aload_n (pc := 14) 0 (zdg D_X3_add 6 (14, .aload_n 0, 1) rfl) rfl rfl ?_
      refine z_getI (pc := 15) lf_X3_34 rfl rfl (zdg D_X3_add 7 (15, .getfield 34, 3) rfl) ?_
      refine z_iload_n (pc := 18) 1 (zdg D_X3_add 8 (18, .iload_n 1, 1) rfl) rfl rfl ?_
      refine z_bipush (pc := 19) (v := 16) (zdg D_X3_add 9 (19, .bipush 16, 2) rfl) rfl ?_
      refine z_ishl (pc := 21) (zdg D_X3_add 10 (21, .ishl, 1) rfl) ?_
      refine z_iload_n (pc := 22) 2 (zdg D_X3_add 11 (22, .iload_n 2, 1) rfl) rfl rfl ?_
      refine z_ldc (pc := 23) lc_X3_37 (zdg D_X3_add 12 (23, .ldc 37, 2) rfl) ?_
      refine z_iand (pc := 25) (zdg D_X3_add 13 (25, .iand, 1) rfl) ?_
      refine z_ior (pc := 26) (zdg D_X3_add 14 (26, .ior, 1) rfl) ?_
      refine z_iast (pc := 27) rfl (fun _ => rfl) (zdg D_X3_add 15 (27, .iastore, 1) rfl) hn hf (fun hf => ?_)
      refine z_nmS hf (fun s1 hf => ?_)
      refine z_aload_n (pc := 28) 0 (zdg D_X3_add 16 (28, .aload_n 0, 1) rfl) rfl rfl ?_
      refine z_dup (pc := 29) rfl (zdg D_X3_add 17 (29, .dup, 1) rfl) ?_
      refine z_getI (pc := 30) lf_X3_34 rfl rfl (zdg D_X3_add 18 (30, .getfield 34, 3) rfl) ?_
      refine z_iconst (pc := 33) (v := 1) (zdg D_X3_add 19 (33, .iconst 1, 1) rfl) rfl ?_
      refine z_iadd (pc := 34) (zdg D_X3_add 20 (34, .iadd, 1) rfl) ?_
      refine z_putI (pc := 35) lw_X3_34 rfl rfl rfl rfl (zdg D_X3_add 21 (35, .putfield 34, 3) rfl) ?_
      refine z_nmS hf (fun s2 hf => ?_)
      exact z_vret (pc := 38) rfl (zdg D_X3_add 22 (38, .return_, 1) rfl) (hP _ hf)

def L_X3_addLine : List (Nat × Instr × Nat) := [(0, .aload_n 0, 1), (1, .getfield 30, 3), (4, .bipush 16, 2), (6, .if_icmp .ge 46, 3), (9, .aload_n 0, 1), (10, .getfield 15, 3), (13, .aload_n 0, 1), (14, .getfield 30, 3), (17, .iload_n 1, 1), (18, .iastore, 1), (19, .aload_n 0, 1), (20, .getfield 18, 3), (23, .aload_n 0, 1), (24, .getfield 30, 3), (27, .iload_n 2, 1), (28, .iastore, 1), (29, .aload_n 0, 1), (30, .getfield 21, 3), (33, .aload_n 0, 1), (34, .getfield 30, 3), (37, .aload_n 0, 1), (38, .getfield 34, 3), (41, .iastore, 1), (42, .aload_n 0, 1), (43, .dup, 1), (44, .getfield 30, 3), (47, .iconst 1, 1), (48, .iadd, 1), (49, .putfield 30, 3), (52, .return_, 1)]
set_option maxRecDepth 100000 in
theorem D_X3_addLine : zdecs cX3_addLine L_X3_addLine = true := by decide +kernel
noncomputable def f_X3_addLine (i : Nat) (p1 : Int32) (p2 : Int32) (σ : zG) : Option (zG) :=
  if (σ.1 10 i 0) < (16 : Int32) then zg (zin (σ.1 10 i 0) 16) (zb (zwI σ 24 i (σ.1 10 i 0).toNatClampNeg p1) (fun s1 => zg (zin (s1.1 10 i 0) 16) (zb (zwI s1 25 i (s1.1 10 i 0).toNatClampNeg p2) (fun s2 => zg (zin (s2.1 10 i 0) 16) (zb (zwI s2 26 i (s2.1 10 i 0).toNatClampNeg (s2.1 10 i 1)) (fun s3 => zb (zwI s3 10 i 0 ((s3.1 10 i 0) + (1 : Int32))) (fun s4 => some s4))))))) else some σ
set_option maxRecDepth 100000 in
set_option maxHeartbeats 4000000 in
theorem c_X3_addLine (l : Launch) (i : Nat) (p1 : Int32) (p2 : Int32) (σ : zG) (q : zG) (hq : f_X3_addLine i p1 p2 σ = some q) : zMet l zsyC m_X3_addLine yX3_addLine [zR 10 i, zI p1, zI p2] σ none q := by
  refine zEnter [(0, zR 10 i), (1, zI p1), (2, zI p2)] (by decide) rfl (fun _ => Nat.le_of_ble_eq_true rfl) (fun _ => rfl) (fun w h => ?_) (fun K hv hs => ?_)
  · exact zokm rfl h
  · have hP : ∀ s, f_X3_addLine i p1 p2 σ = some s → zKv K = none ∧ zKs K = s := fun s h => by rw [hq] at h; cases h; exact ⟨hv, hs⟩
    have hn : f_X3_addLine i p1 p2 σ ≠ none := fun z => by rw [hq] at z; cases z
    have hf := f_X3_addLine.eq_1 i p1 p2 σ
    refine z_aload_n (pc := 0) 0 (zdg D_X3_addLine 0 (0, .aload_n 0, 1) rfl) rfl rfl ?_
    refine z_getI (pc := 1) lf_X3_30 rfl rfl (zdg D_X3_addLine 1 (1, .getfield 30, 3) rfl) ?_
    refine z_bipush (pc := 4) (v := 16) (zdg D_X3_addLine 2 (4, .bipush 16, 2) rfl) rfl ?_
    refine z_icmp_ge (pc := 6) 52 (zdg D_X3_addLine 3 (6, .if_icmp .ge 46, 3) rfl) rfl hf (fun hf => ?_) (fun hf => ?_)
    · exact z_vret (pc := 52) rfl (zdg D_X3_addLine 29 (52, .return_, 1) rfl) (hP _ hf)
    · refine z_aload_n (pc := 9) 0 (zdg D_X3_addLine 4 (9, .aload_n 0, 1) rfl) rfl rfl ?_
      refine z_getR (pc := 10) (g := 24) (j := i) lf_X3_15 rfl rfl rfl (zdg D_X3_addLine 5 (10, .getfield 15, 3) rfl) ?_
      refine z_aload_n (pc := 13) 0 (zdg D_X3_addLine 6 (13, .aload_n 0, 1) rfl) rfl rfl ?_
      refine z_getI (pc := 14) lf_X3_30 rfl rfl (zdg D_X3_addLine 7 (14, .getfield 30, 3) rfl) ?_
      refine z_iload_n (pc := 17) 1 (zdg D_X3_addLine 8 (17, .iload_n 1, 1) rfl) rfl rfl ?_
      refine z_iast (pc := 18) rfl (fun _ => rfl) (zdg D_X3_addLine 9 (18, .iastore, 1) rfl) hn hf (fun hf => ?_)
      refine z_nmS hf (fun s1 hf => ?_)
      refine z_aload_n (pc := 19) 0 (zdg D_X3_addLine 10 (19, .aload_n 0, 1) rfl) rfl rfl ?_
      refine z_getR (pc := 20) (g := 25) (j := i) lf_X3_18 rfl rfl rfl (zdg D_X3_addLine 11 (20, .getfield 18, 3) rfl) ?_
      refine z_aload_n (pc := 23) 0 (zdg D_X3_addLine 12 (23, .aload_n 0, 1) rfl) rfl rfl ?_
      refine z_getI (pc := 24) lf_X3_30 rfl rfl (zdg D_X3_addLine 13 (24, .getfield 30, 3) rfl) ?_
      refine z_iload_n (pc := 27) 2 (zdg D_X3_addLine 14 (27, .iload_n 2, 1) rfl) rfl rfl ?_
      refine z_iast (pc := 28) rfl (fun _ => rfl) (zdg D_X3_addLine 15 (28, .iastore, 1) rfl) hn hf (fun hf => ?_)
      refine z_nmS hf (fun s2 hf => ?_)
      refine z_aload_n (pc := 29) 0 (zdg D_X3_addLine 16 (29, .aload_n 0, 1) rfl) rfl rfl ?_
      refine z_getR (pc := 30) (g := 26) (j := i) lf_X3_21 rfl rfl rfl (zdg D_X3_addLine 17 (30, .getfield 21, 3) rfl) ?_
      refine z_aload_n (pc := 33) 0 (zdg D_X3_addLine 18 (33, .aload_n 0, 1) rfl) rfl rfl ?_
      refine z_getI (pc := 34) lf_X3_30 rfl rfl (zdg D_X3_addLine 19 (34, .getfield 30, 3) rfl) ?_
      refine z_aload_n (pc := 37) 0 (zdg D_X3_addLine 20 (37, .aload_n 0, 1) rfl) rfl rfl ?_
      refine z_getI (pc := 38) lf_X3_34 rfl rfl (zdg D_X3_addLine 21 (38, .getfield 34, 3) rfl) ?_
      refine z_iast (pc := 41) rfl (fun _ => rfl) (zdg D_X3_addLine 22 (41, .iastore, 1) rfl) hn hf (fun hf => ?_)
      refine z_nmS hf (fun s3 hf => ?_)
      refine z_aload_n (pc := 42) 0 (zdg D_X3_addLine 23 (42, .aload_n 0, 1) rfl) rfl rfl ?_
      refine z_dup (pc := 43) rfl (zdg D_X3_addLine 24 (43, .dup, 1) rfl) ?_
      refine z_getI (pc := 44) lf_X3_30 rfl rfl (zdg D_X3_addLine 25 (44, .getfield 30, 3) rfl) ?_
      refine z_iconst (pc := 47) (v := 1) (zdg D_X3_addLine 26 (47, .iconst 1, 1) rfl) rfl ?_
      refine z_iadd (pc := 48) (zdg D_X3_addLine 27 (48, .iadd, 1) rfl) ?_
      refine z_putI (pc := 49) lw_X3_30 rfl rfl rfl rfl (zdg D_X3_addLine 28 (49, .putfield 30, 3) rfl) ?_
      refine z_nmS hf (fun s4 hf => ?_)
      exact z_vret (pc := 52) rfl (zdg D_X3_addLine 29 (52, .return_, 1) rfl) (hP _ hf)

def L_X8_skipBlanks : List (Nat × Instr × Nat) := [(0, .aload_n 0, 1), (1, .getfield 29, 3), (4, .aload_n 0, 1), (5, .getfield 25, 3), (8, .if_icmp .ge 44, 3), (11, .aload_n 0, 1), (12, .getfield 9, 3), (15, .aload_n 0, 1), (16, .getfield 29, 3), (19, .caload, 1), (20, .bipush 32, 2), (22, .if_icmp .eq 17, 3), (25, .aload_n 0, 1), (26, .getfield 9, 3), (29, .aload_n 0, 1), (30, .getfield 29, 3), (33, .caload, 1), (34, .bipush 10, 2), (36, .if_icmp .ne 16, 3), (39, .aload_n 0, 1), (40, .dup, 1), (41, .getfield 29, 3), (44, .iconst 1, 1), (45, .iadd, 1), (46, .putfield 29, 3), (49, .goto (-49), 3), (52, .aload_n 0, 1), (53, .getfield 29, 3), (56, .aload_n 0, 1), (57, .getfield 25, 3), (60, .if_icmp .ge 7, 3), (63, .iconst 1, 1), (64, .goto 4, 3), (67, .iconst 0, 1), (68, .ireturn, 1)]
set_option maxRecDepth 100000 in
theorem D_X8_skipBlanks : zdecs cX8_skipBlanks L_X8_skipBlanks = true := by decide +kernel
noncomputable def b_X8_skipBlanks_0  (s1 : zG) : Option ((zG) ⊕ (zG)) :=
  if (s1.1 3 0 6) < (s1.1 3 0 1) then zg (zin (s1.1 3 0 6) 400) (if (s1.1 38 0 (s1.1 3 0 6).toNatClampNeg) = (32 : Int32) then zb (zwI s1 3 0 6 ((s1.1 3 0 6) + (1 : Int32))) (fun s2 => some (Sum.inl s2)) else zg (zin (s1.1 3 0 6) 400) (if (s1.1 38 0 (s1.1 3 0 6).toNatClampNeg) = (10 : Int32) then zb (zwI s1 3 0 6 ((s1.1 3 0 6) + (1 : Int32))) (fun s3 => some (Sum.inl s3)) else some (Sum.inr s1))) else some (Sum.inr s1)
noncomputable def j_X8_skipBlanks_52 (s5 : zG) : Option (Int32 × zG) :=
  if (s5.1 3 0 6) < (s5.1 3 0 1) then some ((1 : Int32), s5) else some ((0 : Int32), s5)
noncomputable def f_X8_skipBlanks (σ : zG) : Option (Int32 × zG) :=
  (zlp (fun q : zG => b_X8_skipBlanks_0 q) σ).bind (fun e4 : zG => j_X8_skipBlanks_52 e4)
set_option maxRecDepth 100000 in
set_option maxHeartbeats 4000000 in
theorem c_X8_skipBlanks (l : Launch)  (σ : zG) (q : Int32 × zG) (hq : f_X8_skipBlanks σ = some q) : zMet l zsyC m_X8_skipBlanks yX8_skipBlanks [zR 3 0] σ (some (zI q.1)) q.2 := by
  refine zEnter [(0, zR 3 0)] (by decide) rfl (fun _ => Nat.le_of_ble_eq_true rfl) (fun _ => rfl) (fun w h => ?_) (fun K hv hs => ?_)
  · exact zokm rfl h
  · have hP : ∀ x s, f_X8_skipBlanks σ = some (x, s) → zKv K = some (zI x) ∧ zKs K = s := fun x s h => by rw [hq] at h; cases h; exact ⟨hv, hs⟩
    have hn : f_X8_skipBlanks σ ≠ none := fun z => by rw [hq] at z; cases z
    have hf := f_X8_skipBlanks.eq_1 σ
    have t_52 : ∀ (s5 : zG), f_X8_skipBlanks σ = j_X8_skipBlanks_52 s5 → zX zsyC m_X8_skipBlanks K 52 [(0, zR 3 0)] [] s5 := by
      intro s5 hf
      replace hf := hf.trans (j_X8_skipBlanks_52.eq_1 s5)
      refine z_aload_n (pc := 52) 0 (zdg D_X8_skipBlanks 26 (52, .aload_n 0, 1) rfl) rfl rfl ?_
      refine z_getI (pc := 53) lf_X8_29 rfl rfl (zdg D_X8_skipBlanks 27 (53, .getfield 29, 3) rfl) ?_
      refine z_aload_n (pc := 56) 0 (zdg D_X8_skipBlanks 28 (56, .aload_n 0, 1) rfl) rfl rfl ?_
      refine z_getI (pc := 57) lf_X8_25 rfl rfl (zdg D_X8_skipBlanks 29 (57, .getfield 25, 3) rfl) ?_
      refine z_icmp_ge (pc := 60) 67 (zdg D_X8_skipBlanks 30 (60, .if_icmp .ge 7, 3) rfl) rfl hf (fun hf => ?_) (fun hf => ?_)
      · refine z_iconst (pc := 67) (v := 0) (zdg D_X8_skipBlanks 33 (67, .iconst 0, 1) rfl) rfl ?_
        exact z_iret (pc := 68) rfl rfl (zdg D_X8_skipBlanks 34 (68, .ireturn, 1) rfl) (hP _ _ hf)
      · refine z_iconst (pc := 63) (v := 1) (zdg D_X8_skipBlanks 31 (63, .iconst 1, 1) rfl) rfl ?_
        refine z_goto (pc := 64) 68 (zdg D_X8_skipBlanks 32 (64, .goto 4, 3) rfl) rfl ?_
        exact z_iret (pc := 68) rfl rfl (zdg D_X8_skipBlanks 34 (68, .ireturn, 1) rfl) (hP _ _ hf)
    refine z_loop (f := (fun q : zG => b_X8_skipBlanks_0 q)) (a := σ) (fun q : zG => zX zsyC m_X8_skipBlanks K 0 [(0, zR 3 0)] [] q) (fun e4 : zG => zX zsyC m_X8_skipBlanks K 52 [(0, zR 3 0)] [] e4) hn hf ?_ ?_
    · intro e4 hf
      exact t_52 e4 hf
    · intro s1 hn hi hx
      have hf := b_X8_skipBlanks_0.eq_1  s1
      refine z_aload_n (pc := 0) 0 (zdg D_X8_skipBlanks 0 (0, .aload_n 0, 1) rfl) rfl rfl ?_
      refine z_getI (pc := 1) lf_X8_29 rfl rfl (zdg D_X8_skipBlanks 1 (1, .getfield 29, 3) rfl) ?_
      refine z_aload_n (pc := 4) 0 (zdg D_X8_skipBlanks 2 (4, .aload_n 0, 1) rfl) rfl rfl ?_
      refine z_getI (pc := 5) lf_X8_25 rfl rfl (zdg D_X8_skipBlanks 3 (5, .getfield 25, 3) rfl) ?_
      refine z_icmp_ge (pc := 8) 52 (zdg D_X8_skipBlanks 4 (8, .if_icmp .ge 44, 3) rfl) rfl hf (fun hf => ?_) (fun hf => ?_)
      · exact hx s1 hf
      · refine z_aload_n (pc := 11) 0 (zdg D_X8_skipBlanks 5 (11, .aload_n 0, 1) rfl) rfl rfl ?_
        refine z_getR (pc := 12) (g := 38) (j := 0) lf_X8_9 rfl rfl rfl (zdg D_X8_skipBlanks 6 (12, .getfield 9, 3) rfl) ?_
        refine z_aload_n (pc := 15) 0 (zdg D_X8_skipBlanks 7 (15, .aload_n 0, 1) rfl) rfl rfl ?_
        refine z_getI (pc := 16) lf_X8_29 rfl rfl (zdg D_X8_skipBlanks 8 (16, .getfield 29, 3) rfl) ?_
        refine z_cald (pc := 19) rfl (fun _ => rfl) (zdg D_X8_skipBlanks 9 (19, .caload, 1) rfl) hn hf (fun hf => ?_)
        refine z_bipush (pc := 20) (v := 32) (zdg D_X8_skipBlanks 10 (20, .bipush 32, 2) rfl) rfl ?_
        refine z_icmp_eq (pc := 22) 39 (zdg D_X8_skipBlanks 11 (22, .if_icmp .eq 17, 3) rfl) rfl hf (fun hf => ?_) (fun hf => ?_)
        · refine z_aload_n (pc := 39) 0 (zdg D_X8_skipBlanks 19 (39, .aload_n 0, 1) rfl) rfl rfl ?_
          refine z_dup (pc := 40) rfl (zdg D_X8_skipBlanks 20 (40, .dup, 1) rfl) ?_
          refine z_getI (pc := 41) lf_X8_29 rfl rfl (zdg D_X8_skipBlanks 21 (41, .getfield 29, 3) rfl) ?_
          refine z_iconst (pc := 44) (v := 1) (zdg D_X8_skipBlanks 22 (44, .iconst 1, 1) rfl) rfl ?_
          refine z_iadd (pc := 45) (zdg D_X8_skipBlanks 23 (45, .iadd, 1) rfl) ?_
          refine z_putI (pc := 46) lw_X8_29 rfl rfl rfl rfl (zdg D_X8_skipBlanks 24 (46, .putfield 29, 3) rfl) ?_
          refine z_nmS hf (fun s2 hf => ?_)
          refine z_goto (pc := 49) 0 (zdg D_X8_skipBlanks 25 (49, .goto (-49), 3) rfl) rfl ?_
          exact hi s2 hf
        · refine z_aload_n (pc := 25) 0 (zdg D_X8_skipBlanks 12 (25, .aload_n 0, 1) rfl) rfl rfl ?_
          refine z_getR (pc := 26) (g := 38) (j := 0) lf_X8_9 rfl rfl rfl (zdg D_X8_skipBlanks 13 (26, .getfield 9, 3) rfl) ?_
          refine z_aload_n (pc := 29) 0 (zdg D_X8_skipBlanks 14 (29, .aload_n 0, 1) rfl) rfl rfl ?_
          refine z_getI (pc := 30) lf_X8_29 rfl rfl (zdg D_X8_skipBlanks 15 (30, .getfield 29, 3) rfl) ?_
          refine z_cald (pc := 33) rfl (fun _ => rfl) (zdg D_X8_skipBlanks 16 (33, .caload, 1) rfl) hn hf (fun hf => ?_)
          refine z_bipush (pc := 34) (v := 10) (zdg D_X8_skipBlanks 17 (34, .bipush 10, 2) rfl) rfl ?_
          refine z_icmp_ne (pc := 36) 52 (zdg D_X8_skipBlanks 18 (36, .if_icmp .ne 16, 3) rfl) rfl hf (fun hf => ?_) (fun hf => ?_)
          · exact hx s1 hf
          · refine z_aload_n (pc := 39) 0 (zdg D_X8_skipBlanks 19 (39, .aload_n 0, 1) rfl) rfl rfl ?_
            refine z_dup (pc := 40) rfl (zdg D_X8_skipBlanks 20 (40, .dup, 1) rfl) ?_
            refine z_getI (pc := 41) lf_X8_29 rfl rfl (zdg D_X8_skipBlanks 21 (41, .getfield 29, 3) rfl) ?_
            refine z_iconst (pc := 44) (v := 1) (zdg D_X8_skipBlanks 22 (44, .iconst 1, 1) rfl) rfl ?_
            refine z_iadd (pc := 45) (zdg D_X8_skipBlanks 23 (45, .iadd, 1) rfl) ?_
            refine z_putI (pc := 46) lw_X8_29 rfl rfl rfl rfl (zdg D_X8_skipBlanks 24 (46, .putfield 29, 3) rfl) ?_
            refine z_nmS hf (fun s3 hf => ?_)
            refine z_goto (pc := 49) 0 (zdg D_X8_skipBlanks 25 (49, .goto (-49), 3) rfl) rfl ?_
            exact hi s3 hf

def L_X8_isDigit : List (Nat × Instr × Nat) := [(0, .iload_n 0, 1), (1, .bipush 48, 2), (3, .if_icmp .lt 13, 3), (6, .iload_n 0, 1), (7, .bipush 57, 2), (9, .if_icmp .gt 7, 3), (12, .iconst 1, 1), (13, .goto 4, 3), (16, .iconst 0, 1), (17, .ireturn, 1)]
set_option maxRecDepth 100000 in
theorem D_X8_isDigit : zdecs cX8_isDigit L_X8_isDigit = true := by decide +kernel
noncomputable def f_X8_isDigit (p1 : Int32) : Int32 :=
  if (48 : Int32) ≤ p1 then if p1 ≤ (57 : Int32) then (1 : Int32) else (0 : Int32) else (0 : Int32)
set_option maxRecDepth 100000 in
set_option maxHeartbeats 4000000 in
theorem c_X8_isDigit (l : Launch) (p1 : Int32) (σ : zG) : zMet l zsyC m_X8_isDigit yX8_isDigit [zI p1] σ (some (zI (f_X8_isDigit p1))) σ := by
  refine zEnter [(0, zI p1)] (by decide) rfl (fun _ => Nat.le_of_ble_eq_true rfl) (fun _ => rfl) (fun w h => ?_) (fun K hv hs => ?_)
  · exact zokm rfl h
  · have hP : ∀ x, f_X8_isDigit p1 = x → zKv K = some (zI x) ∧ zKs K = σ := fun x h => by rw [h] at hv; exact ⟨hv, hs⟩
    have hf := f_X8_isDigit.eq_1 p1
    refine z_iload_n (pc := 0) 0 (zdg D_X8_isDigit 0 (0, .iload_n 0, 1) rfl) rfl rfl ?_
    refine z_bipush (pc := 1) (v := 48) (zdg D_X8_isDigit 1 (1, .bipush 48, 2) rfl) rfl ?_
    refine z_icmp_lt (pc := 3) 16 (zdg D_X8_isDigit 2 (3, .if_icmp .lt 13, 3) rfl) rfl hf (fun hf => ?_) (fun hf => ?_)
    · refine z_iconst (pc := 16) (v := 0) (zdg D_X8_isDigit 8 (16, .iconst 0, 1) rfl) rfl ?_
      exact z_iret (pc := 17) rfl rfl (zdg D_X8_isDigit 9 (17, .ireturn, 1) rfl) (hP _ hf)
    · refine z_iload_n (pc := 6) 0 (zdg D_X8_isDigit 3 (6, .iload_n 0, 1) rfl) rfl rfl ?_
      refine z_bipush (pc := 7) (v := 57) (zdg D_X8_isDigit 4 (7, .bipush 57, 2) rfl) rfl ?_
      refine z_icmp_gt (pc := 9) 16 (zdg D_X8_isDigit 5 (9, .if_icmp .gt 7, 3) rfl) rfl hf (fun hf => ?_) (fun hf => ?_)
      · refine z_iconst (pc := 16) (v := 0) (zdg D_X8_isDigit 8 (16, .iconst 0, 1) rfl) rfl ?_
        exact z_iret (pc := 17) rfl rfl (zdg D_X8_isDigit 9 (17, .ireturn, 1) rfl) (hP _ hf)
      · refine z_iconst (pc := 12) (v := 1) (zdg D_X8_isDigit 6 (12, .iconst 1, 1) rfl) rfl ?_
        refine z_goto (pc := 13) 17 (zdg D_X8_isDigit 7 (13, .goto 4, 3) rfl) rfl ?_
        exact z_iret (pc := 17) rfl rfl (zdg D_X8_isDigit 9 (17, .ireturn, 1) rfl) (hP _ hf)

def L_X8_isLetter : List (Nat × Instr × Nat) := [(0, .iload_n 0, 1), (1, .bipush 97, 2), (3, .if_icmp .lt 9, 3), (6, .iload_n 0, 1), (7, .bipush 122, 2), (9, .if_icmp .le 15, 3), (12, .iload_n 0, 1), (13, .bipush 65, 2), (15, .if_icmp .lt 13, 3), (18, .iload_n 0, 1), (19, .bipush 90, 2), (21, .if_icmp .gt 7, 3), (24, .iconst 1, 1), (25, .goto 4, 3), (28, .iconst 0, 1), (29, .ireturn, 1)]
set_option maxRecDepth 100000 in
theorem D_X8_isLetter : zdecs cX8_isLetter L_X8_isLetter = true := by decide +kernel
noncomputable def j_X8_isLetter_12 (p1 : Int32) : Int32 :=
  if (65 : Int32) ≤ p1 then if p1 ≤ (90 : Int32) then (1 : Int32) else (0 : Int32) else (0 : Int32)
noncomputable def f_X8_isLetter (p1 : Int32) : Int32 :=
  if (97 : Int32) ≤ p1 then if (122 : Int32) < p1 then j_X8_isLetter_12 p1 else (1 : Int32) else j_X8_isLetter_12 p1
set_option maxRecDepth 100000 in
set_option maxHeartbeats 4000000 in
theorem c_X8_isLetter (l : Launch) (p1 : Int32) (σ : zG) : zMet l zsyC m_X8_isLetter yX8_isLetter [zI p1] σ (some (zI (f_X8_isLetter p1))) σ := by
  refine zEnter [(0, zI p1)] (by decide) rfl (fun _ => Nat.le_of_ble_eq_true rfl) (fun _ => rfl) (fun w h => ?_) (fun K hv hs => ?_)
  · exact zokm rfl h
  · have hP : ∀ x, f_X8_isLetter p1 = x → zKv K = some (zI x) ∧ zKs K = σ := fun x h => by rw [h] at hv; exact ⟨hv, hs⟩
    have hf := f_X8_isLetter.eq_1 p1
    have t_12 : f_X8_isLetter p1 = j_X8_isLetter_12 p1 → zX zsyC m_X8_isLetter K 12 [(0, zI p1)] [] σ := by
      intro  hf
      replace hf := hf.trans (j_X8_isLetter_12.eq_1 p1)
      refine z_iload_n (pc := 12) 0 (zdg D_X8_isLetter 6 (12, .iload_n 0, 1) rfl) rfl rfl ?_
      refine z_bipush (pc := 13) (v := 65) (zdg D_X8_isLetter 7 (13, .bipush 65, 2) rfl) rfl ?_
      refine z_icmp_lt (pc := 15) 28 (zdg D_X8_isLetter 8 (15, .if_icmp .lt 13, 3) rfl) rfl hf (fun hf => ?_) (fun hf => ?_)
      · refine z_iconst (pc := 28) (v := 0) (zdg D_X8_isLetter 14 (28, .iconst 0, 1) rfl) rfl ?_
        exact z_iret (pc := 29) rfl rfl (zdg D_X8_isLetter 15 (29, .ireturn, 1) rfl) (hP _ hf)
      · refine z_iload_n (pc := 18) 0 (zdg D_X8_isLetter 9 (18, .iload_n 0, 1) rfl) rfl rfl ?_
        refine z_bipush (pc := 19) (v := 90) (zdg D_X8_isLetter 10 (19, .bipush 90, 2) rfl) rfl ?_
        refine z_icmp_gt (pc := 21) 28 (zdg D_X8_isLetter 11 (21, .if_icmp .gt 7, 3) rfl) rfl hf (fun hf => ?_) (fun hf => ?_)
        · refine z_iconst (pc := 28) (v := 0) (zdg D_X8_isLetter 14 (28, .iconst 0, 1) rfl) rfl ?_
          exact z_iret (pc := 29) rfl rfl (zdg D_X8_isLetter 15 (29, .ireturn, 1) rfl) (hP _ hf)
        · refine z_iconst (pc := 24) (v := 1) (zdg D_X8_isLetter 12 (24, .iconst 1, 1) rfl) rfl ?_
          refine z_goto (pc := 25) 29 (zdg D_X8_isLetter 13 (25, .goto 4, 3) rfl) rfl ?_
          exact z_iret (pc := 29) rfl rfl (zdg D_X8_isLetter 15 (29, .ireturn, 1) rfl) (hP _ hf)
    refine z_iload_n (pc := 0) 0 (zdg D_X8_isLetter 0 (0, .iload_n 0, 1) rfl) rfl rfl ?_
    refine z_bipush (pc := 1) (v := 97) (zdg D_X8_isLetter 1 (1, .bipush 97, 2) rfl) rfl ?_
    refine z_icmp_lt (pc := 3) 12 (zdg D_X8_isLetter 2 (3, .if_icmp .lt 9, 3) rfl) rfl hf (fun hf => ?_) (fun hf => ?_)
    · exact t_12  hf
    · refine z_iload_n (pc := 6) 0 (zdg D_X8_isLetter 3 (6, .iload_n 0, 1) rfl) rfl rfl ?_
      refine z_bipush (pc := 7) (v := 122) (zdg D_X8_isLetter 4 (7, .bipush 122, 2) rfl) rfl ?_
      refine z_icmp_le (pc := 9) 24 (zdg D_X8_isLetter 5 (9, .if_icmp .le 15, 3) rfl) rfl hf (fun hf => ?_) (fun hf => ?_)
      · refine z_iconst (pc := 24) (v := 1) (zdg D_X8_isLetter 12 (24, .iconst 1, 1) rfl) rfl ?_
        refine z_goto (pc := 25) 29 (zdg D_X8_isLetter 13 (25, .goto 4, 3) rfl) rfl ?_
        exact z_iret (pc := 29) rfl rfl (zdg D_X8_isLetter 15 (29, .ireturn, 1) rfl) (hP _ hf)
      · exact t_12  hf

def L_X8_wordText : List (Nat × Instr × Nat) := [(0, .iload_n 0, 1), (1, .tableswitch 169 0 21 #[103, 106, 109, 112, 115, 118, 121, 124, 127, 130, 133, 136, 139, 142, 145, 148, 151, 154, 157, 160, 163, 166], 103), (104, .ldc 80, 2), (106, .areturn, 1), (107, .ldc 82, 2), (109, .areturn, 1), (110, .ldc 84, 2), (112, .areturn, 1), (113, .ldc 86, 2), (115, .areturn, 1), (116, .ldc 88, 2), (118, .areturn, 1), (119, .ldc 90, 2), (121, .areturn, 1), (122, .ldc 92, 2), (124, .areturn, 1), (125, .ldc 94, 2), (127, .areturn, 1), (128, .ldc 96, 2), (130, .areturn, 1), (131, .ldc 98, 2), (133, .areturn, 1), (134, .ldc 100, 2), (136, .areturn, 1), (137, .ldc 102, 2), (139, .areturn, 1), (140, .ldc 104, 2), (142, .areturn, 1), (143, .ldc 106, 2), (145, .areturn, 1), (146, .ldc 108, 2), (148, .areturn, 1), (149, .ldc 110, 2), (151, .areturn, 1), (152, .ldc 112, 2), (154, .areturn, 1), (155, .ldc 114, 2), (157, .areturn, 1), (158, .ldc 116, 2), (160, .areturn, 1), (161, .ldc 118, 2), (163, .areturn, 1), (164, .ldc 120, 2), (166, .areturn, 1), (167, .ldc 122, 2), (169, .areturn, 1), (170, .ldc 124, 2), (172, .areturn, 1)]
set_option maxRecDepth 100000 in
theorem D_X8_wordText : zdecs cX8_wordText L_X8_wordText = true := by decide +kernel
noncomputable def f_X8_wordText (p1 : Int32) : Nat :=
  if p1 = 0 then 0 else if p1 = 1 then 1 else if p1 = 2 then 2 else if p1 = 3 then 3 else if p1 = 4 then 4 else if p1 = 5 then 5 else if p1 = 6 then 6 else if p1 = 7 then 7 else if p1 = 8 then 8 else if p1 = 9 then 9 else if p1 = 10 then 10 else if p1 = 11 then 11 else if p1 = 12 then 12 else if p1 = 13 then 13 else if p1 = 14 then 14 else if p1 = 15 then 15 else if p1 = 16 then 16 else if p1 = 17 then 17 else if p1 = 18 then 18 else if p1 = 19 then 19 else if p1 = 20 then 20 else if p1 = 21 then 21 else 22
set_option maxRecDepth 100000 in
set_option maxHeartbeats 4000000 in
theorem c_X8_wordText (l : Launch) (p1 : Int32) (σ : zG) : zMet l zsyC m_X8_wordText yX8_wordText [zI p1] σ (some (zS (f_X8_wordText p1))) σ := by
  refine zEnter [(0, zI p1)] (by decide) rfl (fun _ => Nat.le_of_ble_eq_true rfl) (fun _ => rfl) (fun w h => ?_) (fun K hv hs => ?_)
  · exact zokm rfl h
  · have hP : ∀ x, f_X8_wordText p1 = x → zKv K = some (zS x) ∧ zKs K = σ := fun x h => by rw [h] at hv; exact ⟨hv, hs⟩
    have hf := f_X8_wordText.eq_1 p1
    refine z_iload_n (pc := 0) 0 (zdg D_X8_wordText 0 (0, .iload_n 0, 1) rfl) rfl rfl ?_
    refine zif hf (fun hc0 hf => ?_) (fun hc0 hf => ?_)
    · refine z_tsIn (pc := 1) (c := 0) (j := 0) 104 (zdg D_X8_wordText 1 (1, .tableswitch 169 0 21 #[103, 106, 109, 112, 115, 118, 121, 124, 127, 130, 133, 136, 139, 142, 145, 148, 151, 154, 157, 160, 163, 166], 103) rfl) hc0 (by decide) (by decide) rfl rfl rfl ?_
      refine z_ldcS (pc := 104) (j := 0) (tx := "walker") (by decide +kernel) (zdg D_X8_wordText 2 (104, .ldc 80, 2) rfl) ?_
      exact z_sret (pc := 106) rfl (zdg D_X8_wordText 3 (106, .areturn, 1) rfl) (hP _ hf)
    · skip
      refine zif hf (fun hc1 hf => ?_) (fun hc1 hf => ?_)
      · refine z_tsIn (pc := 1) (c := 1) (j := 1) 107 (zdg D_X8_wordText 1 (1, .tableswitch 169 0 21 #[103, 106, 109, 112, 115, 118, 121, 124, 127, 130, 133, 136, 139, 142, 145, 148, 151, 154, 157, 160, 163, 166], 103) rfl) hc1 (by decide) (by decide) rfl rfl rfl ?_
        refine z_ldcS (pc := 107) (j := 1) (tx := "comes") (by decide +kernel) (zdg D_X8_wordText 4 (107, .ldc 82, 2) rfl) ?_
        exact z_sret (pc := 109) rfl (zdg D_X8_wordText 5 (109, .areturn, 1) rfl) (hP _ hf)
      · skip
        refine zif hf (fun hc2 hf => ?_) (fun hc2 hf => ?_)
        · refine z_tsIn (pc := 1) (c := 2) (j := 2) 110 (zdg D_X8_wordText 1 (1, .tableswitch 169 0 21 #[103, 106, 109, 112, 115, 118, 121, 124, 127, 130, 133, 136, 139, 142, 145, 148, 151, 154, 157, 160, 163, 166], 103) rfl) hc2 (by decide) (by decide) rfl rfl rfl ?_
          refine z_ldcS (pc := 110) (j := 2) (tx := "at") (by decide +kernel) (zdg D_X8_wordText 6 (110, .ldc 84, 2) rfl) ?_
          exact z_sret (pc := 112) rfl (zdg D_X8_wordText 7 (112, .areturn, 1) rfl) (hP _ hf)
        · skip
          refine zif hf (fun hc3 hf => ?_) (fun hc3 hf => ?_)
          · refine z_tsIn (pc := 1) (c := 3) (j := 3) 113 (zdg D_X8_wordText 1 (1, .tableswitch 169 0 21 #[103, 106, 109, 112, 115, 118, 121, 124, 127, 130, 133, 136, 139, 142, 145, 148, 151, 154, 157, 160, 163, 166], 103) rfl) hc3 (by decide) (by decide) rfl rfl rfl ?_
            refine z_ldcS (pc := 113) (j := 3) (tx := "stand") (by decide +kernel) (zdg D_X8_wordText 8 (113, .ldc 86, 2) rfl) ?_
            exact z_sret (pc := 115) rfl (zdg D_X8_wordText 9 (115, .areturn, 1) rfl) (hP _ hf)
          · skip
            refine zif hf (fun hc4 hf => ?_) (fun hc4 hf => ?_)
            · refine z_tsIn (pc := 1) (c := 4) (j := 4) 116 (zdg D_X8_wordText 1 (1, .tableswitch 169 0 21 #[103, 106, 109, 112, 115, 118, 121, 124, 127, 130, 133, 136, 139, 142, 145, 148, 151, 154, 157, 160, 163, 166], 103) rfl) hc4 (by decide) (by decide) rfl rfl rfl ?_
              refine z_ldcS (pc := 116) (j := 4) (tx := "north") (by decide +kernel) (zdg D_X8_wordText 10 (116, .ldc 88, 2) rfl) ?_
              exact z_sret (pc := 118) rfl (zdg D_X8_wordText 11 (118, .areturn, 1) rfl) (hP _ hf)
            · skip
              refine zif hf (fun hc5 hf => ?_) (fun hc5 hf => ?_)
              · refine z_tsIn (pc := 1) (c := 5) (j := 5) 119 (zdg D_X8_wordText 1 (1, .tableswitch 169 0 21 #[103, 106, 109, 112, 115, 118, 121, 124, 127, 130, 133, 136, 139, 142, 145, 148, 151, 154, 157, 160, 163, 166], 103) rfl) hc5 (by decide) (by decide) rfl rfl rfl ?_
                refine z_ldcS (pc := 119) (j := 5) (tx := "east") (by decide +kernel) (zdg D_X8_wordText 12 (119, .ldc 90, 2) rfl) ?_
                exact z_sret (pc := 121) rfl (zdg D_X8_wordText 13 (121, .areturn, 1) rfl) (hP _ hf)
              · skip
                refine zif hf (fun hc6 hf => ?_) (fun hc6 hf => ?_)
                · refine z_tsIn (pc := 1) (c := 6) (j := 6) 122 (zdg D_X8_wordText 1 (1, .tableswitch 169 0 21 #[103, 106, 109, 112, 115, 118, 121, 124, 127, 130, 133, 136, 139, 142, 145, 148, 151, 154, 157, 160, 163, 166], 103) rfl) hc6 (by decide) (by decide) rfl rfl rfl ?_
                  refine z_ldcS (pc := 122) (j := 6) (tx := "south") (by decide +kernel) (zdg D_X8_wordText 14 (122, .ldc 92, 2) rfl) ?_
                  exact z_sret (pc := 124) rfl (zdg D_X8_wordText 15 (124, .areturn, 1) rfl) (hP _ hf)
                · skip
                  refine zif hf (fun hc7 hf => ?_) (fun hc7 hf => ?_)
                  · refine z_tsIn (pc := 1) (c := 7) (j := 7) 125 (zdg D_X8_wordText 1 (1, .tableswitch 169 0 21 #[103, 106, 109, 112, 115, 118, 121, 124, 127, 130, 133, 136, 139, 142, 145, 148, 151, 154, 157, 160, 163, 166], 103) rfl) hc7 (by decide) (by decide) rfl rfl rfl ?_
                    refine z_ldcS (pc := 125) (j := 7) (tx := "west") (by decide +kernel) (zdg D_X8_wordText 16 (125, .ldc 94, 2) rfl) ?_
                    exact z_sret (pc := 127) rfl (zdg D_X8_wordText 17 (127, .areturn, 1) rfl) (hP _ hf)
                  · skip
                    refine zif hf (fun hc8 hf => ?_) (fun hc8 hf => ?_)
                    · refine z_tsIn (pc := 1) (c := 8) (j := 8) 128 (zdg D_X8_wordText 1 (1, .tableswitch 169 0 21 #[103, 106, 109, 112, 115, 118, 121, 124, 127, 130, 133, 136, 139, 142, 145, 148, 151, 154, 157, 160, 163, 166], 103) rfl) hc8 (by decide) (by decide) rfl rfl rfl ?_
                      refine z_ldcS (pc := 128) (j := 8) (tx := "shade") (by decide +kernel) (zdg D_X8_wordText 18 (128, .ldc 96, 2) rfl) ?_
                      exact z_sret (pc := 130) rfl (zdg D_X8_wordText 19 (130, .areturn, 1) rfl) (hP _ hf)
                    · skip
                      refine zif hf (fun hc9 hf => ?_) (fun hc9 hf => ?_)
                      · refine z_tsIn (pc := 1) (c := 9) (j := 9) 131 (zdg D_X8_wordText 1 (1, .tableswitch 169 0 21 #[103, 106, 109, 112, 115, 118, 121, 124, 127, 130, 133, 136, 139, 142, 145, 148, 151, 154, 157, 160, 163, 166], 103) rfl) hc9 (by decide) (by decide) rfl rfl rfl ?_
                        refine z_ldcS (pc := 131) (j := 9) (tx := "worth") (by decide +kernel) (zdg D_X8_wordText 20 (131, .ldc 98, 2) rfl) ?_
                        exact z_sret (pc := 133) rfl (zdg D_X8_wordText 21 (133, .areturn, 1) rfl) (hP _ hf)
                      · skip
                        refine zif hf (fun hc10 hf => ?_) (fun hc10 hf => ?_)
                        · refine z_tsIn (pc := 1) (c := 10) (j := 10) 134 (zdg D_X8_wordText 1 (1, .tableswitch 169 0 21 #[103, 106, 109, 112, 115, 118, 121, 124, 127, 130, 133, 136, 139, 142, 145, 148, 151, 154, 157, 160, 163, 166], 103) rfl) hc10 (by decide) (by decide) rfl rfl rfl ?_
                          refine z_ldcS (pc := 134) (j := 10) (tx := "when") (by decide +kernel) (zdg D_X8_wordText 22 (134, .ldc 100, 2) rfl) ?_
                          exact z_sret (pc := 136) rfl (zdg D_X8_wordText 23 (136, .areturn, 1) rfl) (hP _ hf)
                        · skip
                          refine zif hf (fun hc11 hf => ?_) (fun hc11 hf => ?_)
                          · refine z_tsIn (pc := 1) (c := 11) (j := 11) 137 (zdg D_X8_wordText 1 (1, .tableswitch 169 0 21 #[103, 106, 109, 112, 115, 118, 121, 124, 127, 130, 133, 136, 139, 142, 145, 148, 151, 154, 157, 160, 163, 166], 103) rfl) hc11 (by decide) (by decide) rfl rfl rfl ?_
                            refine z_ldcS (pc := 137) (j := 11) (tx := "or") (by decide +kernel) (zdg D_X8_wordText 24 (137, .ldc 102, 2) rfl) ?_
                            exact z_sret (pc := 139) rfl (zdg D_X8_wordText 25 (139, .areturn, 1) rfl) (hP _ hf)
                          · skip
                            refine zif hf (fun hc12 hf => ?_) (fun hc12 hf => ?_)
                            · refine z_tsIn (pc := 1) (c := 12) (j := 12) 140 (zdg D_X8_wordText 1 (1, .tableswitch 169 0 21 #[103, 106, 109, 112, 115, 118, 121, 124, 127, 130, 133, 136, 139, 142, 145, 148, 151, 154, 157, 160, 163, 166], 103) rfl) hc12 (by decide) (by decide) rfl rfl rfl ?_
                              refine z_ldcS (pc := 140) (j := 12) (tx := "and") (by decide +kernel) (zdg D_X8_wordText 26 (140, .ldc 104, 2) rfl) ?_
                              exact z_sret (pc := 142) rfl (zdg D_X8_wordText 27 (142, .areturn, 1) rfl) (hP _ hf)
                            · skip
                              refine zif hf (fun hc13 hf => ?_) (fun hc13 hf => ?_)
                              · refine z_tsIn (pc := 1) (c := 13) (j := 13) 143 (zdg D_X8_wordText 1 (1, .tableswitch 169 0 21 #[103, 106, 109, 112, 115, 118, 121, 124, 127, 130, 133, 136, 139, 142, 145, 148, 151, 154, 157, 160, 163, 166], 103) rfl) hc13 (by decide) (by decide) rfl rfl rfl ?_
                                refine z_ldcS (pc := 143) (j := 13) (tx := "not") (by decide +kernel) (zdg D_X8_wordText 28 (143, .ldc 106, 2) rfl) ?_
                                exact z_sret (pc := 145) rfl (zdg D_X8_wordText 29 (145, .areturn, 1) rfl) (hP _ hf)
                              · skip
                                refine zif hf (fun hc14 hf => ?_) (fun hc14 hf => ?_)
                                · refine z_tsIn (pc := 1) (c := 14) (j := 14) 146 (zdg D_X8_wordText 1 (1, .tableswitch 169 0 21 #[103, 106, 109, 112, 115, 118, 121, 124, 127, 130, 133, 136, 139, 142, 145, 148, 151, 154, 157, 160, 163, 166], 103) rfl) hc14 (by decide) (by decide) rfl rfl rfl ?_
                                  refine z_ldcS (pc := 146) (j := 14) (tx := "x") (by decide +kernel) (zdg D_X8_wordText 30 (146, .ldc 108, 2) rfl) ?_
                                  exact z_sret (pc := 148) rfl (zdg D_X8_wordText 31 (148, .areturn, 1) rfl) (hP _ hf)
                                · skip
                                  refine zif hf (fun hc15 hf => ?_) (fun hc15 hf => ?_)
                                  · refine z_tsIn (pc := 1) (c := 15) (j := 15) 149 (zdg D_X8_wordText 1 (1, .tableswitch 169 0 21 #[103, 106, 109, 112, 115, 118, 121, 124, 127, 130, 133, 136, 139, 142, 145, 148, 151, 154, 157, 160, 163, 166], 103) rfl) hc15 (by decide) (by decide) rfl rfl rfl ?_
                                    refine z_ldcS (pc := 149) (j := 15) (tx := "y") (by decide +kernel) (zdg D_X8_wordText 32 (149, .ldc 110, 2) rfl) ?_
                                    exact z_sret (pc := 151) rfl (zdg D_X8_wordText 33 (151, .areturn, 1) rfl) (hP _ hf)
                                  · skip
                                    refine zif hf (fun hc16 hf => ?_) (fun hc16 hf => ?_)
                                    · refine z_tsIn (pc := 1) (c := 16) (j := 16) 152 (zdg D_X8_wordText 1 (1, .tableswitch 169 0 21 #[103, 106, 109, 112, 115, 118, 121, 124, 127, 130, 133, 136, 139, 142, 145, 148, 151, 154, 157, 160, 163, 166], 103) rfl) hc16 (by decide) (by decide) rfl rfl rfl ?_
                                      refine z_ldcS (pc := 152) (j := 16) (tx := "edge") (by decide +kernel) (zdg D_X8_wordText 34 (152, .ldc 112, 2) rfl) ?_
                                      exact z_sret (pc := 154) rfl (zdg D_X8_wordText 35 (154, .areturn, 1) rfl) (hP _ hf)
                                    · skip
                                      refine zif hf (fun hc17 hf => ?_) (fun hc17 hf => ?_)
                                      · refine z_tsIn (pc := 1) (c := 17) (j := 17) 155 (zdg D_X8_wordText 1 (1, .tableswitch 169 0 21 #[103, 106, 109, 112, 115, 118, 121, 124, 127, 130, 133, 136, 139, 142, 145, 148, 151, 154, 157, 160, 163, 166], 103) rfl) hc17 (by decide) (by decide) rfl rfl rfl ?_
                                        refine z_ldcS (pc := 155) (j := 17) (tx := "minute") (by decide +kernel) (zdg D_X8_wordText 36 (155, .ldc 114, 2) rfl) ?_
                                        exact z_sret (pc := 157) rfl (zdg D_X8_wordText 37 (157, .areturn, 1) rfl) (hP _ hf)
                                      · skip
                                        refine zif hf (fun hc18 hf => ?_) (fun hc18 hf => ?_)
                                        · refine z_tsIn (pc := 1) (c := 18) (j := 18) 158 (zdg D_X8_wordText 1 (1, .tableswitch 169 0 21 #[103, 106, 109, 112, 115, 118, 121, 124, 127, 130, 133, 136, 139, 142, 145, 148, 151, 154, 157, 160, 163, 166], 103) rfl) hc18 (by decide) (by decide) rfl rfl rfl ?_
                                          refine z_ldcS (pc := 158) (j := 18) (tx := "covered") (by decide +kernel) (zdg D_X8_wordText 38 (158, .ldc 116, 2) rfl) ?_
                                          exact z_sret (pc := 160) rfl (zdg D_X8_wordText 39 (160, .areturn, 1) rfl) (hP _ hf)
                                        · skip
                                          refine zif hf (fun hc19 hf => ?_) (fun hc19 hf => ?_)
                                          · refine z_tsIn (pc := 1) (c := 19) (j := 19) 161 (zdg D_X8_wordText 1 (1, .tableswitch 169 0 21 #[103, 106, 109, 112, 115, 118, 121, 124, 127, 130, 133, 136, 139, 142, 145, 148, 151, 154, 157, 160, 163, 166], 103) rfl) hc19 (by decide) (by decide) rfl rfl rfl ?_
                                            refine z_ldcS (pc := 161) (j := 19) (tx := "edges") (by decide +kernel) (zdg D_X8_wordText 40 (161, .ldc 118, 2) rfl) ?_
                                            exact z_sret (pc := 163) rfl (zdg D_X8_wordText 41 (163, .areturn, 1) rfl) (hP _ hf)
                                          · skip
                                            refine zif hf (fun hc20 hf => ?_) (fun hc20 hf => ?_)
                                            · refine z_tsIn (pc := 1) (c := 20) (j := 20) 164 (zdg D_X8_wordText 1 (1, .tableswitch 169 0 21 #[103, 106, 109, 112, 115, 118, 121, 124, 127, 130, 133, 136, 139, 142, 145, 148, 151, 154, 157, 160, 163, 166], 103) rfl) hc20 (by decide) (by decide) rfl rfl rfl ?_
                                              refine z_ldcS (pc := 164) (j := 20) (tx := "step") (by decide +kernel) (zdg D_X8_wordText 42 (164, .ldc 120, 2) rfl) ?_
                                              exact z_sret (pc := 166) rfl (zdg D_X8_wordText 43 (166, .areturn, 1) rfl) (hP _ hf)
                                            · skip
                                              refine zif hf (fun hc21 hf => ?_) (fun hc21 hf => ?_)
                                              · refine z_tsIn (pc := 1) (c := 21) (j := 21) 167 (zdg D_X8_wordText 1 (1, .tableswitch 169 0 21 #[103, 106, 109, 112, 115, 118, 121, 124, 127, 130, 133, 136, 139, 142, 145, 148, 151, 154, 157, 160, 163, 166], 103) rfl) hc21 (by decide) (by decide) rfl rfl rfl ?_
                                                refine z_ldcS (pc := 167) (j := 21) (tx := "people") (by decide +kernel) (zdg D_X8_wordText 44 (167, .ldc 122, 2) rfl) ?_
                                                exact z_sret (pc := 169) rfl (zdg D_X8_wordText 45 (169, .areturn, 1) rfl) (hP _ hf)
                                              · skip
                                                refine z_tsOut (pc := 1) 170 (zdg D_X8_wordText 1 (1, .tableswitch 169 0 21 #[103, 106, 109, 112, 115, 118, 121, 124, 127, 130, 133, 136, 139, 142, 145, 148, 151, 154, 157, 160, 163, 166], 103) rfl) (by have e0 := lv_neT hc0 (k := 0) (a := 0) rfl; have e1 := lv_neT hc1 (k := 1) (a := 1) rfl; have e2 := lv_neT hc2 (k := 2) (a := 2) rfl; have e3 := lv_neT hc3 (k := 3) (a := 3) rfl; have e4 := lv_neT hc4 (k := 4) (a := 4) rfl; have e5 := lv_neT hc5 (k := 5) (a := 5) rfl; have e6 := lv_neT hc6 (k := 6) (a := 6) rfl; have e7 := lv_neT hc7 (k := 7) (a := 7) rfl; have e8 := lv_neT hc8 (k := 8) (a := 8) rfl; have e9 := lv_neT hc9 (k := 9) (a := 9) rfl; have e10 := lv_neT hc10 (k := 10) (a := 10) rfl; have e11 := lv_neT hc11 (k := 11) (a := 11) rfl; have e12 := lv_neT hc12 (k := 12) (a := 12) rfl; have e13 := lv_neT hc13 (k := 13) (a := 13) rfl; have e14 := lv_neT hc14 (k := 14) (a := 14) rfl; have e15 := lv_neT hc15 (k := 15) (a := 15) rfl; have e16 := lv_neT hc16 (k := 16) (a := 16) rfl; have e17 := lv_neT hc17 (k := 17) (a := 17) rfl; have e18 := lv_neT hc18 (k := 18) (a := 18) rfl; have e19 := lv_neT hc19 (k := 19) (a := 19) rfl; have e20 := lv_neT hc20 (k := 20) (a := 20) rfl; have e21 := lv_neT hc21 (k := 21) (a := 21) rfl; omega) rfl ?_
                                                refine z_ldcS (pc := 170) (j := 22) (tx := "") (by decide +kernel) (zdg D_X8_wordText 46 (170, .ldc 124, 2) rfl) ?_
                                                exact z_sret (pc := 172) rfl (zdg D_X8_wordText 47 (172, .areturn, 1) rfl) (hP _ hf)

def L_X8_spells : List (Nat × Instr × Nat) := [(0, .aload_n 1, 1), (1, .invokevirtual 72, 3), (4, .aload_n 0, 1), (5, .getfield 29, 3), (8, .iload_n 2, 1), (9, .isub, 1), (10, .if_icmp .ne 14, 3), (13, .aload_n 0, 1), (14, .getfield 29, 3), (17, .aload_n 0, 1), (18, .getfield 25, 3), (21, .if_icmp .le 5, 3), (24, .iconst 0, 1), (25, .ireturn, 1), (26, .iconst 0, 1), (27, .istore_n 3, 1), (28, .iload_n 3, 1), (29, .aload_n 1, 1), (30, .invokevirtual 72, 3), (33, .if_icmp .ge 27, 3), (36, .aload_n 1, 1), (37, .iload_n 3, 1), (38, .invokevirtual 76, 3), (41, .aload_n 0, 1), (42, .getfield 9, 3), (45, .iload_n 2, 1), (46, .iload_n 3, 1), (47, .iadd, 1), (48, .caload, 1), (49, .if_icmp .eq 5, 3), (52, .iconst 0, 1), (53, .ireturn, 1), (54, .iinc 3 1, 3), (57, .goto (-29), 3), (60, .iconst 1, 1), (61, .ireturn, 1)]
set_option maxRecDepth 100000 in
theorem D_X8_spells : zdecs cX8_spells L_X8_spells = true := by decide +kernel
noncomputable def b_X8_spells_28 (p1 : Nat) (p2 : Int32) (σ : zG) (v3_1 : Int32) : Option ((Int32) ⊕ ((Unit) ⊕ (Unit))) :=
  zg (decide (p1 < zstrC.length)) (if v3_1 < (zsl zstrC p1) then zg (zin v3_1 (zsn zstrC p1)) (zg (zin (p2 + v3_1) 400) (if (zsc zstrC p1 v3_1.toNatClampNeg) = (σ.1 38 0 (p2 + v3_1).toNatClampNeg) then some (Sum.inl (v3_1 + 1)) else some (Sum.inr (Sum.inl ())))) else some (Sum.inr (Sum.inr ())))
noncomputable def f_X8_spells (p1 : Nat) (p2 : Int32) (σ : zG) : Option (Int32) :=
  zg (decide (p1 < zstrC.length)) (if (zsl zstrC p1) = ((σ.1 3 0 6) - p2) then if (σ.1 3 0 1) < (σ.1 3 0 6) then some (0 : Int32) else (zlp (fun q : Int32 => b_X8_spells_28 p1 p2 σ q) (0 : Int32)).bind (Sum.elim (fun e2 : Unit => some (0 : Int32)) (fun e3 : Unit => some (1 : Int32))) else some (0 : Int32))
set_option maxRecDepth 100000 in
set_option maxHeartbeats 4000000 in
theorem c_X8_spells (l : Launch) (p1 : Nat) (p2 : Int32) (σ : zG) (q : Int32) (hq : f_X8_spells p1 p2 σ = some q) : zMet l zsyC m_X8_spells yX8_spells [zR 3 0, zS p1, zI p2] σ (some (zI q)) σ := by
  refine zEnter [(0, zR 3 0), (1, zS p1), (2, zI p2)] (by decide) rfl (fun _ => Nat.le_of_ble_eq_true rfl) (fun _ => rfl) (fun w h => ?_) (fun K hv hs => ?_)
  · exact zokm rfl h
  · have hP : ∀ x, f_X8_spells p1 p2 σ = some x → zKv K = some (zI x) ∧ zKs K = σ := fun x h => by rw [hq] at h; cases h; exact ⟨hv, hs⟩
    have hn : f_X8_spells p1 p2 σ ≠ none := fun z => by rw [hq] at z; cases z
    have hf := f_X8_spells.eq_1 p1 p2 σ
    refine z_sload_n (pc := 0) 1 (zdg D_X8_spells 0 (0, .aload_n 1, 1) rfl) rfl rfl ?_
    refine z_slen (pc := 1) lm_X8_72 (Nat.le_of_ble_eq_true rfl) (Nat.le_of_ble_eq_true rfl) (zdg D_X8_spells 1 (1, .invokevirtual 72, 3) rfl) hn hf (fun hf => ?_)
    refine z_aload_n (pc := 4) 0 (zdg D_X8_spells 2 (4, .aload_n 0, 1) rfl) rfl rfl ?_
    refine z_getI (pc := 5) lf_X8_29 rfl rfl (zdg D_X8_spells 3 (5, .getfield 29, 3) rfl) ?_
    refine z_iload_n (pc := 8) 2 (zdg D_X8_spells 4 (8, .iload_n 2, 1) rfl) rfl rfl ?_
    refine z_isub (pc := 9) (zdg D_X8_spells 5 (9, .isub, 1) rfl) ?_
    refine z_icmp_ne (pc := 10) 24 (zdg D_X8_spells 6 (10, .if_icmp .ne 14, 3) rfl) rfl hf (fun hf => ?_) (fun hf => ?_)
    · refine z_iconst (pc := 24) (v := 0) (zdg D_X8_spells 12 (24, .iconst 0, 1) rfl) rfl ?_
      exact z_iret (pc := 25) rfl rfl (zdg D_X8_spells 13 (25, .ireturn, 1) rfl) (hP _ hf)
    · refine z_aload_n (pc := 13) 0 (zdg D_X8_spells 7 (13, .aload_n 0, 1) rfl) rfl rfl ?_
      refine z_getI (pc := 14) lf_X8_29 rfl rfl (zdg D_X8_spells 8 (14, .getfield 29, 3) rfl) ?_
      refine z_aload_n (pc := 17) 0 (zdg D_X8_spells 9 (17, .aload_n 0, 1) rfl) rfl rfl ?_
      refine z_getI (pc := 18) lf_X8_25 rfl rfl (zdg D_X8_spells 10 (18, .getfield 25, 3) rfl) ?_
      refine z_icmp_le (pc := 21) 26 (zdg D_X8_spells 11 (21, .if_icmp .le 5, 3) rfl) rfl hf (fun hf => ?_) (fun hf => ?_)
      · refine z_iconst (pc := 26) (v := 0) (zdg D_X8_spells 14 (26, .iconst 0, 1) rfl) rfl ?_
        refine z_istore_n (pc := 27) (al' := [(3, zI (0 : Int32)), (0, zR 3 0), (1, zS p1), (2, zI p2)]) (zdg D_X8_spells 15 (27, .istore_n 3, 1) rfl) rfl (by decide) rfl ?_
        refine z_sub (al' := [(0, zR 3 0), (1, zS p1), (2, zI p2), (3, zI (0 : Int32))]) [1, 2, 3, 0] rfl ?_
        refine z_loop (f := (fun q : Int32 => b_X8_spells_28 p1 p2 σ q)) (a := (0 : Int32)) (fun q : Int32 => zX zsyC m_X8_spells K 28 [(0, zR 3 0), (1, zS p1), (2, zI p2), (3, zI q)] [] σ) (Sum.elim (fun e2 : Unit => zX zsyC m_X8_spells K 52 [] [] σ) (fun e3 : Unit => zX zsyC m_X8_spells K 60 [] [] σ)) hn hf ?_ ?_
        · intro b hf
          cases b with
          | inl e2 =>
            refine z_iconst (pc := 52) (v := 0) (zdg D_X8_spells 30 (52, .iconst 0, 1) rfl) rfl ?_
            exact z_iret (pc := 53) rfl rfl (zdg D_X8_spells 31 (53, .ireturn, 1) rfl) (hP _ hf)
          | inr b =>
            revert hf
            revert b
            intro e3 hf
            refine z_iconst (pc := 60) (v := 1) (zdg D_X8_spells 34 (60, .iconst 1, 1) rfl) rfl ?_
            exact z_iret (pc := 61) rfl rfl (zdg D_X8_spells 35 (61, .ireturn, 1) rfl) (hP _ hf)
        · intro v3_1 hn hi hx
          have hf := b_X8_spells_28.eq_1 p1 p2 σ v3_1
          refine z_iload_n (pc := 28) 3 (zdg D_X8_spells 16 (28, .iload_n 3, 1) rfl) rfl rfl ?_
          refine z_sload_n (pc := 29) 1 (zdg D_X8_spells 17 (29, .aload_n 1, 1) rfl) rfl rfl ?_
          refine z_slen (pc := 30) lm_X8_72 (Nat.le_of_ble_eq_true rfl) (Nat.le_of_ble_eq_true rfl) (zdg D_X8_spells 18 (30, .invokevirtual 72, 3) rfl) hn hf (fun hf => ?_)
          refine z_icmp_ge (pc := 33) 60 (zdg D_X8_spells 19 (33, .if_icmp .ge 27, 3) rfl) rfl hf (fun hf => ?_) (fun hf => ?_)
          · refine z_sub (al' := []) [] rfl ?_
            exact hx (Sum.inr ()) hf
          · refine z_sload_n (pc := 36) 1 (zdg D_X8_spells 20 (36, .aload_n 1, 1) rfl) rfl rfl ?_
            refine z_iload_n (pc := 37) 3 (zdg D_X8_spells 21 (37, .iload_n 3, 1) rfl) rfl rfl ?_
            refine z_schar (pc := 38) (by decide) lm_X8_76 (Nat.le_of_ble_eq_true rfl) (Nat.le_of_ble_eq_true rfl) (zdg D_X8_spells 22 (38, .invokevirtual 76, 3) rfl) hn hf (fun hf => ?_)
            refine z_aload_n (pc := 41) 0 (zdg D_X8_spells 23 (41, .aload_n 0, 1) rfl) rfl rfl ?_
            refine z_getR (pc := 42) (g := 38) (j := 0) lf_X8_9 rfl rfl rfl (zdg D_X8_spells 24 (42, .getfield 9, 3) rfl) ?_
            refine z_iload_n (pc := 45) 2 (zdg D_X8_spells 25 (45, .iload_n 2, 1) rfl) rfl rfl ?_
            refine z_iload_n (pc := 46) 3 (zdg D_X8_spells 26 (46, .iload_n 3, 1) rfl) rfl rfl ?_
            refine z_iadd (pc := 47) (zdg D_X8_spells 27 (47, .iadd, 1) rfl) ?_
            refine z_cald (pc := 48) rfl (fun _ => rfl) (zdg D_X8_spells 28 (48, .caload, 1) rfl) hn hf (fun hf => ?_)
            refine z_icmp_eq (pc := 49) 54 (zdg D_X8_spells 29 (49, .if_icmp .eq 5, 3) rfl) rfl hf (fun hf => ?_) (fun hf => ?_)
            · refine z_iinc (pc := 54) (v0 := (v3_1 + 1)) (al' := [(3, zI (v3_1 + 1)), (0, zR 3 0), (1, zS p1), (2, zI p2)]) 3 (zdg D_X8_spells 32 (54, .iinc 3 1, 3) rfl) rfl rfl (by decide) rfl ?_
              refine z_goto (pc := 57) 28 (zdg D_X8_spells 33 (57, .goto (-29), 3) rfl) rfl ?_
              refine z_sub (al' := [(0, zR 3 0), (1, zS p1), (2, zI p2), (3, zI (v3_1 + 1))]) [1, 2, 3, 0] rfl ?_
              exact hi (v3_1 + 1) hf
            · refine z_sub (al' := []) [] rfl ?_
              exact hx (Sum.inl ()) hf
      · refine z_iconst (pc := 24) (v := 0) (zdg D_X8_spells 12 (24, .iconst 0, 1) rfl) rfl ?_
        exact z_iret (pc := 25) rfl rfl (zdg D_X8_spells 13 (25, .ireturn, 1) rfl) (hP _ hf)

def L_X8_wordFrom : List (Nat × Instr × Nat) := [(0, .iconst 0, 1), (1, .istore_n 2, 1), (2, .iload_n 2, 1), (3, .bipush 22, 2), (5, .if_icmp .ge 26, 3), (8, .aload_n 0, 1), (9, .iload_n 2, 1), (10, .invokestatic 64, 3), (13, .iload_n 1, 1), (14, .invokevirtual 68, 3), (17, .ifCond .eq 8, 3), (20, .bipush 100, 2), (22, .iload_n 2, 1), (23, .iadd, 1), (24, .ireturn, 1), (25, .iinc 2 1, 3), (28, .goto (-26), 3), (31, .iconst 1, 1), (32, .ireturn, 1)]
set_option maxRecDepth 100000 in
theorem D_X8_wordFrom : zdecs cX8_wordFrom L_X8_wordFrom = true := by decide +kernel
noncomputable def b_X8_wordFrom_2 (p1 : Int32) (σ : zG) (v2_1 : Int32) : Option ((Int32) ⊕ ((Int32) ⊕ (Unit))) :=
  if v2_1 < (22 : Int32) then (f_X8_spells (f_X8_wordText v2_1) p1 σ).bind (fun q2 => if q2 = 0 then some (Sum.inl (v2_1 + 1)) else some (Sum.inr (Sum.inl v2_1))) else some (Sum.inr (Sum.inr ()))
noncomputable def f_X8_wordFrom (p1 : Int32) (σ : zG) : Option (Int32) :=
  (zlp (fun q : Int32 => b_X8_wordFrom_2 p1 σ q) (0 : Int32)).bind (Sum.elim (fun e3 : Int32 => some ((100 : Int32) + e3)) (fun e4 : Unit => some (1 : Int32)))
set_option maxRecDepth 100000 in
set_option maxHeartbeats 4000000 in
theorem c_X8_wordFrom (l : Launch) (p1 : Int32) (σ : zG) (q : Int32) (hq : f_X8_wordFrom p1 σ = some q) : zMet l zsyC m_X8_wordFrom yX8_wordFrom [zR 3 0, zI p1] σ (some (zI q)) σ := by
  refine zEnter [(0, zR 3 0), (1, zI p1)] (by decide) rfl (fun _ => Nat.le_of_ble_eq_true rfl) (fun _ => rfl) (fun w h => ?_) (fun K hv hs => ?_)
  · exact zokm rfl h
  · have hP : ∀ x, f_X8_wordFrom p1 σ = some x → zKv K = some (zI x) ∧ zKs K = σ := fun x h => by rw [hq] at h; cases h; exact ⟨hv, hs⟩
    have hn : f_X8_wordFrom p1 σ ≠ none := fun z => by rw [hq] at z; cases z
    have hf := f_X8_wordFrom.eq_1 p1 σ
    refine z_iconst (pc := 0) (v := 0) (zdg D_X8_wordFrom 0 (0, .iconst 0, 1) rfl) rfl ?_
    refine z_istore_n (pc := 1) (al' := [(2, zI (0 : Int32)), (0, zR 3 0), (1, zI p1)]) (zdg D_X8_wordFrom 1 (1, .istore_n 2, 1) rfl) rfl (by decide) rfl ?_
    refine z_sub (al' := [(0, zR 3 0), (1, zI p1), (2, zI (0 : Int32))]) [1, 2, 0] rfl ?_
    refine z_loop (f := (fun q : Int32 => b_X8_wordFrom_2 p1 σ q)) (a := (0 : Int32)) (fun q : Int32 => zX zsyC m_X8_wordFrom K 2 [(0, zR 3 0), (1, zI p1), (2, zI q)] [] σ) (Sum.elim (fun e3 : Int32 => zX zsyC m_X8_wordFrom K 20 [(2, zI e3)] [] σ) (fun e4 : Unit => zX zsyC m_X8_wordFrom K 31 [] [] σ)) hn hf ?_ ?_
    · intro b hf
      cases b with
      | inl e3 =>
        refine z_bipush (pc := 20) (v := 100) (zdg D_X8_wordFrom 11 (20, .bipush 100, 2) rfl) rfl ?_
        refine z_iload_n (pc := 22) 0 (zdg D_X8_wordFrom 12 (22, .iload_n 2, 1) rfl) rfl rfl ?_
        refine z_iadd (pc := 23) (zdg D_X8_wordFrom 13 (23, .iadd, 1) rfl) ?_
        exact z_iret (pc := 24) rfl rfl (zdg D_X8_wordFrom 14 (24, .ireturn, 1) rfl) (hP _ hf)
      | inr b =>
        revert hf
        revert b
        intro e4 hf
        refine z_iconst (pc := 31) (v := 1) (zdg D_X8_wordFrom 17 (31, .iconst 1, 1) rfl) rfl ?_
        exact z_iret (pc := 32) rfl rfl (zdg D_X8_wordFrom 18 (32, .ireturn, 1) rfl) (hP _ hf)
    · intro v2_1 hn hi hx
      have hf := b_X8_wordFrom_2.eq_1 p1 σ v2_1
      refine z_iload_n (pc := 2) 2 (zdg D_X8_wordFrom 2 (2, .iload_n 2, 1) rfl) rfl rfl ?_
      refine z_bipush (pc := 3) (v := 22) (zdg D_X8_wordFrom 3 (3, .bipush 22, 2) rfl) rfl ?_
      refine z_icmp_ge (pc := 5) 31 (zdg D_X8_wordFrom 4 (5, .if_icmp .ge 26, 3) rfl) rfl hf (fun hf => ?_) (fun hf => ?_)
      · refine z_sub (al' := []) [] rfl ?_
        exact hx (Sum.inr ()) hf
      · refine z_aload_n (pc := 8) 0 (zdg D_X8_wordFrom 5 (8, .aload_n 0, 1) rfl) rfl rfl ?_
        refine z_iload_n (pc := 9) 2 (zdg D_X8_wordFrom 6 (9, .iload_n 2, 1) rfl) rfl rfl ?_
        refine z_callS (pc := 10) (rest := [zR 3 0]) (st2 := [zS (f_X8_wordText v2_1), zR 3 0]) (fun l => c_X8_wordText l v2_1 σ) zs_X8_wordText lm_X8_64 rfl rfl rfl (Nat.le_of_ble_eq_true rfl) ⟨Nat.le_of_ble_eq_true rfl, Nat.le_of_ble_eq_true rfl⟩ (zdg D_X8_wordFrom 7 (10, .invokestatic 64, 3) rfl) ?_
        refine z_iload_n (pc := 13) 1 (zdg D_X8_wordFrom 8 (13, .iload_n 1, 1) rfl) rfl rfl ?_
        refine z_bind hn hf (fun q2 hq hf => ?_)
        refine z_callV (pc := 14) (rest := []) (st2 := [zI q2]) (fun l => c_X8_spells l (f_X8_wordText v2_1) p1 σ q2 hq) zv_X8_spells lm_X8_68 rfl rfl rfl rfl rfl rfl (Nat.le_of_ble_eq_true rfl) ⟨Nat.le_of_ble_eq_true rfl, Nat.le_of_ble_eq_true rfl⟩ (zdg D_X8_wordFrom 9 (14, .invokevirtual 68, 3) rfl) ?_
        refine z_if_eq (pc := 17) 25 (zdg D_X8_wordFrom 10 (17, .ifCond .eq 8, 3) rfl) rfl hf (fun hf => ?_) (fun hf => ?_)
        · refine z_iinc (pc := 25) (v0 := (v2_1 + 1)) (al' := [(2, zI (v2_1 + 1)), (0, zR 3 0), (1, zI p1)]) 2 (zdg D_X8_wordFrom 15 (25, .iinc 2 1, 3) rfl) rfl rfl (by decide) rfl ?_
          refine z_goto (pc := 28) 2 (zdg D_X8_wordFrom 16 (28, .goto (-26), 3) rfl) rfl ?_
          refine z_sub (al' := [(0, zR 3 0), (1, zI p1), (2, zI (v2_1 + 1))]) [1, 2, 0] rfl ?_
          exact hi (v2_1 + 1) hf
        · refine z_sub (al' := [(2, zI v2_1)]) [2] rfl ?_
          exact hx (Sum.inl v2_1) hf

def L_X8_isSign : List (Nat × Instr × Nat) := [(0, .iload_n 0, 1), (1, .bipush 59, 2), (3, .if_icmp .eq 57, 3), (6, .iload_n 0, 1), (7, .bipush 43, 2), (9, .if_icmp .eq 51, 3), (12, .iload_n 0, 1), (13, .bipush 45, 2), (15, .if_icmp .eq 45, 3), (18, .iload_n 0, 1), (19, .bipush 42, 2), (21, .if_icmp .eq 39, 3), (24, .iload_n 0, 1), (25, .bipush 47, 2), (27, .if_icmp .eq 33, 3), (30, .iload_n 0, 1), (31, .bipush 40, 2), (33, .if_icmp .eq 27, 3), (36, .iload_n 0, 1), (37, .bipush 41, 2), (39, .if_icmp .eq 21, 3), (42, .iload_n 0, 1), (43, .bipush 60, 2), (45, .if_icmp .eq 15, 3), (48, .iload_n 0, 1), (49, .bipush 61, 2), (51, .if_icmp .eq 9, 3), (54, .iload_n 0, 1), (55, .bipush 62, 2), (57, .if_icmp .ne 7, 3), (60, .iconst 1, 1), (61, .goto 4, 3), (64, .iconst 0, 1), (65, .ireturn, 1)]
set_option maxRecDepth 100000 in
theorem D_X8_isSign : zdecs cX8_isSign L_X8_isSign = true := by decide +kernel
noncomputable def f_X8_isSign (p1 : Int32) : Int32 :=
  if p1 = (59 : Int32) then (1 : Int32) else if p1 = (43 : Int32) then (1 : Int32) else if p1 = (45 : Int32) then (1 : Int32) else if p1 = (42 : Int32) then (1 : Int32) else if p1 = (47 : Int32) then (1 : Int32) else if p1 = (40 : Int32) then (1 : Int32) else if p1 = (41 : Int32) then (1 : Int32) else if p1 = (60 : Int32) then (1 : Int32) else if p1 = (61 : Int32) then (1 : Int32) else if p1 = (62 : Int32) then (1 : Int32) else (0 : Int32)
set_option maxRecDepth 100000 in
set_option maxHeartbeats 4000000 in
theorem c_X8_isSign (l : Launch) (p1 : Int32) (σ : zG) : zMet l zsyC m_X8_isSign yX8_isSign [zI p1] σ (some (zI (f_X8_isSign p1))) σ := by
  refine zEnter [(0, zI p1)] (by decide) rfl (fun _ => Nat.le_of_ble_eq_true rfl) (fun _ => rfl) (fun w h => ?_) (fun K hv hs => ?_)
  · exact zokm rfl h
  · have hP : ∀ x, f_X8_isSign p1 = x → zKv K = some (zI x) ∧ zKs K = σ := fun x h => by rw [h] at hv; exact ⟨hv, hs⟩
    have hf := f_X8_isSign.eq_1 p1
    refine z_iload_n (pc := 0) 0 (zdg D_X8_isSign 0 (0, .iload_n 0, 1) rfl) rfl rfl ?_
    refine z_bipush (pc := 1) (v := 59) (zdg D_X8_isSign 1 (1, .bipush 59, 2) rfl) rfl ?_
    refine z_icmp_eq (pc := 3) 60 (zdg D_X8_isSign 2 (3, .if_icmp .eq 57, 3) rfl) rfl hf (fun hf => ?_) (fun hf => ?_)
    · refine z_iconst (pc := 60) (v := 1) (zdg D_X8_isSign 30 (60, .iconst 1, 1) rfl) rfl ?_
      refine z_goto (pc := 61) 65 (zdg D_X8_isSign 31 (61, .goto 4, 3) rfl) rfl ?_
      exact z_iret (pc := 65) rfl rfl (zdg D_X8_isSign 33 (65, .ireturn, 1) rfl) (hP _ hf)
    · refine z_iload_n (pc := 6) 0 (zdg D_X8_isSign 3 (6, .iload_n 0, 1) rfl) rfl rfl ?_
      refine z_bipush (pc := 7) (v := 43) (zdg D_X8_isSign 4 (7, .bipush 43, 2) rfl) rfl ?_
      refine z_icmp_eq (pc := 9) 60 (zdg D_X8_isSign 5 (9, .if_icmp .eq 51, 3) rfl) rfl hf (fun hf => ?_) (fun hf => ?_)
      · refine z_iconst (pc := 60) (v := 1) (zdg D_X8_isSign 30 (60, .iconst 1, 1) rfl) rfl ?_
        refine z_goto (pc := 61) 65 (zdg D_X8_isSign 31 (61, .goto 4, 3) rfl) rfl ?_
        exact z_iret (pc := 65) rfl rfl (zdg D_X8_isSign 33 (65, .ireturn, 1) rfl) (hP _ hf)
      · refine z_iload_n (pc := 12) 0 (zdg D_X8_isSign 6 (12, .iload_n 0, 1) rfl) rfl rfl ?_
        refine z_bipush (pc := 13) (v := 45) (zdg D_X8_isSign 7 (13, .bipush 45, 2) rfl) rfl ?_
        refine z_icmp_eq (pc := 15) 60 (zdg D_X8_isSign 8 (15, .if_icmp .eq 45, 3) rfl) rfl hf (fun hf => ?_) (fun hf => ?_)
        · refine z_iconst (pc := 60) (v := 1) (zdg D_X8_isSign 30 (60, .iconst 1, 1) rfl) rfl ?_
          refine z_goto (pc := 61) 65 (zdg D_X8_isSign 31 (61, .goto 4, 3) rfl) rfl ?_
          exact z_iret (pc := 65) rfl rfl (zdg D_X8_isSign 33 (65, .ireturn, 1) rfl) (hP _ hf)
        · refine z_iload_n (pc := 18) 0 (zdg D_X8_isSign 9 (18, .iload_n 0, 1) rfl) rfl rfl ?_
          refine z_bipush (pc := 19) (v := 42) (zdg D_X8_isSign 10 (19, .bipush 42, 2) rfl) rfl ?_
          refine z_icmp_eq (pc := 21) 60 (zdg D_X8_isSign 11 (21, .if_icmp .eq 39, 3) rfl) rfl hf (fun hf => ?_) (fun hf => ?_)
          · refine z_iconst (pc := 60) (v := 1) (zdg D_X8_isSign 30 (60, .iconst 1, 1) rfl) rfl ?_
            refine z_goto (pc := 61) 65 (zdg D_X8_isSign 31 (61, .goto 4, 3) rfl) rfl ?_
            exact z_iret (pc := 65) rfl rfl (zdg D_X8_isSign 33 (65, .ireturn, 1) rfl) (hP _ hf)
          · refine z_iload_n (pc := 24) 0 (zdg D_X8_isSign 12 (24, .iload_n 0, 1) rfl) rfl rfl ?_
            refine z_bipush (pc := 25) (v := 47) (zdg D_X8_isSign 13 (25, .bipush 47, 2) rfl) rfl ?_
            refine z_icmp_eq (pc := 27) 60 (zdg D_X8_isSign 14 (27, .if_icmp .eq 33, 3) rfl) rfl hf (fun hf => ?_) (fun hf => ?_)
            · refine z_iconst (pc := 60) (v := 1) (zdg D_X8_isSign 30 (60, .iconst 1, 1) rfl) rfl ?_
              refine z_goto (pc := 61) 65 (zdg D_X8_isSign 31 (61, .goto 4, 3) rfl) rfl ?_
              exact z_iret (pc := 65) rfl rfl (zdg D_X8_isSign 33 (65, .ireturn, 1) rfl) (hP _ hf)
            · refine z_iload_n (pc := 30) 0 (zdg D_X8_isSign 15 (30, .iload_n 0, 1) rfl) rfl rfl ?_
              refine z_bipush (pc := 31) (v := 40) (zdg D_X8_isSign 16 (31, .bipush 40, 2) rfl) rfl ?_
              refine z_icmp_eq (pc := 33) 60 (zdg D_X8_isSign 17 (33, .if_icmp .eq 27, 3) rfl) rfl hf (fun hf => ?_) (fun hf => ?_)
              · refine z_iconst (pc := 60) (v := 1) (zdg D_X8_isSign 30 (60, .iconst 1, 1) rfl) rfl ?_
                refine z_goto (pc := 61) 65 (zdg D_X8_isSign 31 (61, .goto 4, 3) rfl) rfl ?_
                exact z_iret (pc := 65) rfl rfl (zdg D_X8_isSign 33 (65, .ireturn, 1) rfl) (hP _ hf)
              · refine z_iload_n (pc := 36) 0 (zdg D_X8_isSign 18 (36, .iload_n 0, 1) rfl) rfl rfl ?_
                refine z_bipush (pc := 37) (v := 41) (zdg D_X8_isSign 19 (37, .bipush 41, 2) rfl) rfl ?_
                refine z_icmp_eq (pc := 39) 60 (zdg D_X8_isSign 20 (39, .if_icmp .eq 21, 3) rfl) rfl hf (fun hf => ?_) (fun hf => ?_)
                · refine z_iconst (pc := 60) (v := 1) (zdg D_X8_isSign 30 (60, .iconst 1, 1) rfl) rfl ?_
                  refine z_goto (pc := 61) 65 (zdg D_X8_isSign 31 (61, .goto 4, 3) rfl) rfl ?_
                  exact z_iret (pc := 65) rfl rfl (zdg D_X8_isSign 33 (65, .ireturn, 1) rfl) (hP _ hf)
                · refine z_iload_n (pc := 42) 0 (zdg D_X8_isSign 21 (42, .iload_n 0, 1) rfl) rfl rfl ?_
                  refine z_bipush (pc := 43) (v := 60) (zdg D_X8_isSign 22 (43, .bipush 60, 2) rfl) rfl ?_
                  refine z_icmp_eq (pc := 45) 60 (zdg D_X8_isSign 23 (45, .if_icmp .eq 15, 3) rfl) rfl hf (fun hf => ?_) (fun hf => ?_)
                  · refine z_iconst (pc := 60) (v := 1) (zdg D_X8_isSign 30 (60, .iconst 1, 1) rfl) rfl ?_
                    refine z_goto (pc := 61) 65 (zdg D_X8_isSign 31 (61, .goto 4, 3) rfl) rfl ?_
                    exact z_iret (pc := 65) rfl rfl (zdg D_X8_isSign 33 (65, .ireturn, 1) rfl) (hP _ hf)
                  · refine z_iload_n (pc := 48) 0 (zdg D_X8_isSign 24 (48, .iload_n 0, 1) rfl) rfl rfl ?_
                    refine z_bipush (pc := 49) (v := 61) (zdg D_X8_isSign 25 (49, .bipush 61, 2) rfl) rfl ?_
                    refine z_icmp_eq (pc := 51) 60 (zdg D_X8_isSign 26 (51, .if_icmp .eq 9, 3) rfl) rfl hf (fun hf => ?_) (fun hf => ?_)
                    · refine z_iconst (pc := 60) (v := 1) (zdg D_X8_isSign 30 (60, .iconst 1, 1) rfl) rfl ?_
                      refine z_goto (pc := 61) 65 (zdg D_X8_isSign 31 (61, .goto 4, 3) rfl) rfl ?_
                      exact z_iret (pc := 65) rfl rfl (zdg D_X8_isSign 33 (65, .ireturn, 1) rfl) (hP _ hf)
                    · refine z_iload_n (pc := 54) 0 (zdg D_X8_isSign 27 (54, .iload_n 0, 1) rfl) rfl rfl ?_
                      refine z_bipush (pc := 55) (v := 62) (zdg D_X8_isSign 28 (55, .bipush 62, 2) rfl) rfl ?_
                      refine z_icmp_ne (pc := 57) 64 (zdg D_X8_isSign 29 (57, .if_icmp .ne 7, 3) rfl) rfl hf (fun hf => ?_) (fun hf => ?_)
                      · refine z_iconst (pc := 64) (v := 0) (zdg D_X8_isSign 32 (64, .iconst 0, 1) rfl) rfl ?_
                        exact z_iret (pc := 65) rfl rfl (zdg D_X8_isSign 33 (65, .ireturn, 1) rfl) (hP _ hf)
                      · refine z_iconst (pc := 60) (v := 1) (zdg D_X8_isSign 30 (60, .iconst 1, 1) rfl) rfl ?_
                        refine z_goto (pc := 61) 65 (zdg D_X8_isSign 31 (61, .goto 4, 3) rfl) rfl ?_
                        exact z_iret (pc := 65) rfl rfl (zdg D_X8_isSign 33 (65, .ireturn, 1) rfl) (hP _ hf)

def L_X8_kindAtHead : List (Nat × Instr × Nat) := [(0, .aload_n 0, 1), (1, .getfield 29, 3), (4, .istore_n 1, 1), (5, .aload_n 0, 1), (6, .getfield 29, 3), (9, .aload_n 0, 1), (10, .getfield 25, 3), (13, .if_icmp .ge 31, 3), (16, .aload_n 0, 1), (17, .getfield 9, 3), (20, .aload_n 0, 1), (21, .getfield 29, 3), (24, .caload, 1), (25, .invokestatic 51, 3), (28, .ifCond .eq 16, 3), (31, .aload_n 0, 1), (32, .dup, 1), (33, .getfield 29, 3), (36, .iconst 1, 1), (37, .iadd, 1), (38, .putfield 29, 3), (41, .goto (-36), 3), (44, .aload_n 0, 1), (45, .getfield 29, 3), (48, .iload_n 1, 1), (49, .if_icmp .le 19, 3), (52, .aload_n 0, 1), (53, .getfield 29, 3), (56, .iload_n 1, 1), (57, .isub, 1), (58, .iconst 4, 1), (59, .if_icmp .gt 7, 3), (62, .iconst 2, 1), (63, .goto 4, 3), (66, .iconst 1, 1), (67, .ireturn, 1), (68, .aload_n 0, 1), (69, .getfield 29, 3), (72, .aload_n 0, 1), (73, .getfield 25, 3), (76, .if_icmp .ge 31, 3), (79, .aload_n 0, 1), (80, .getfield 9, 3), (83, .aload_n 0, 1), (84, .getfield 29, 3), (87, .caload, 1), (88, .invokestatic 55, 3), (91, .ifCond .eq 16, 3), (94, .aload_n 0, 1), (95, .dup, 1), (96, .getfield 29, 3), (99, .iconst 1, 1), (100, .iadd, 1), (101, .putfield 29, 3), (104, .goto (-36), 3), (107, .aload_n 0, 1), (108, .getfield 29, 3), (111, .iload_n 1, 1), (112, .if_icmp .le 9, 3), (115, .aload_n 0, 1), (116, .iload_n 1, 1), (117, .invokevirtual 58, 3), (120, .ireturn, 1), (121, .aload_n 0, 1), (122, .dup, 1), (123, .getfield 29, 3), (126, .iconst 1, 1), (127, .iadd, 1), (128, .putfield 29, 3), (131, .iload_n 1, 1), (132, .aload_n 0, 1), (133, .getfield 25, 3), (136, .if_icmp .ge 24, 3), (139, .aload_n 0, 1), (140, .getfield 9, 3), (143, .iload_n 1, 1), (144, .caload, 1), (145, .invokestatic 61, 3), (148, .ifCond .eq 12, 3), (151, .aload_n 0, 1), (152, .getfield 9, 3), (155, .iload_n 1, 1), (156, .caload, 1), (157, .goto 4, 3), (160, .iconst 1, 1), (161, .ireturn, 1)]
set_option maxRecDepth 100000 in
theorem D_X8_kindAtHead : zdecs cX8_kindAtHead L_X8_kindAtHead = true := by decide +kernel
noncomputable def b_X8_kindAtHead_5  (s1 : zG) : Option ((zG) ⊕ (zG)) :=
  if (s1.1 3 0 6) < (s1.1 3 0 1) then zg (zin (s1.1 3 0 6) 400) (if (f_X8_isDigit (s1.1 38 0 (s1.1 3 0 6).toNatClampNeg)) = 0 then some (Sum.inr s1) else zb (zwI s1 3 0 6 ((s1.1 3 0 6) + (1 : Int32))) (fun s2 => some (Sum.inl s2))) else some (Sum.inr s1)
noncomputable def b_X8_kindAtHead_68  (s6 : zG) : Option ((zG) ⊕ (zG)) :=
  if (s6.1 3 0 6) < (s6.1 3 0 1) then zg (zin (s6.1 3 0 6) 400) (if (f_X8_isLetter (s6.1 38 0 (s6.1 3 0 6).toNatClampNeg)) = 0 then some (Sum.inr s6) else zb (zwI s6 3 0 6 ((s6.1 3 0 6) + (1 : Int32))) (fun s7 => some (Sum.inl s7))) else some (Sum.inr s6)
noncomputable def j_X8_kindAtHead_107 (w1_9 : Int32) (s10 : zG) : Option (Int32 × zG) :=
  if w1_9 < (s10.1 3 0 6) then (f_X8_wordFrom w1_9 s10).bind (fun q12 => some (q12, s10)) else zb (zwI s10 3 0 6 ((s10.1 3 0 6) + (1 : Int32))) (fun s11 => if w1_9 < (s11.1 3 0 1) then zg (zin w1_9 400) (if (f_X8_isSign (s11.1 38 0 w1_9.toNatClampNeg)) = 0 then some ((1 : Int32), s11) else zg (zin w1_9 400) (some ((s11.1 38 0 w1_9.toNatClampNeg), s11))) else some ((1 : Int32), s11))
noncomputable def j_X8_kindAtHead_44 (w1_4 : Int32) (s5 : zG) : Option (Int32 × zG) :=
  if w1_4 < (s5.1 3 0 6) then if ((s5.1 3 0 6) - w1_4) ≤ (4 : Int32) then some ((2 : Int32), s5) else some ((1 : Int32), s5) else (zlp (fun q : zG => b_X8_kindAtHead_68 q) s5).bind (fun e8 : zG => j_X8_kindAtHead_107 w1_4 e8)
noncomputable def f_X8_kindAtHead (σ : zG) : Option (Int32 × zG) :=
  (zlp (fun q : zG => b_X8_kindAtHead_5 q) σ).bind (fun e3 : zG => j_X8_kindAtHead_44 (σ.1 3 0 6) e3)
set_option maxRecDepth 100000 in
set_option maxHeartbeats 4000000 in
theorem c_X8_kindAtHead (l : Launch)  (σ : zG) (q : Int32 × zG) (hq : f_X8_kindAtHead σ = some q) : zMet l zsyC m_X8_kindAtHead yX8_kindAtHead [zR 3 0] σ (some (zI q.1)) q.2 := by
  refine zEnter [(0, zR 3 0)] (by decide) rfl (fun _ => Nat.le_of_ble_eq_true rfl) (fun _ => rfl) (fun w h => ?_) (fun K hv hs => ?_)
  · exact zokm rfl h
  · have hP : ∀ x s, f_X8_kindAtHead σ = some (x, s) → zKv K = some (zI x) ∧ zKs K = s := fun x s h => by rw [hq] at h; cases h; exact ⟨hv, hs⟩
    have hn : f_X8_kindAtHead σ ≠ none := fun z => by rw [hq] at z; cases z
    have hf := f_X8_kindAtHead.eq_1 σ
    have t_107 : ∀ (w1_9 : Int32) (s10 : zG), f_X8_kindAtHead σ = j_X8_kindAtHead_107 w1_9 s10 → zX zsyC m_X8_kindAtHead K 107 [(0, zR 3 0), (1, zI w1_9)] [] s10 := by
      intro w1_9 s10 hf
      replace hf := hf.trans (j_X8_kindAtHead_107.eq_1 w1_9 s10)
      refine z_aload_n (pc := 107) 0 (zdg D_X8_kindAtHead 55 (107, .aload_n 0, 1) rfl) rfl rfl ?_
      refine z_getI (pc := 108) lf_X8_29 rfl rfl (zdg D_X8_kindAtHead 56 (108, .getfield 29, 3) rfl) ?_
      refine z_iload_n (pc := 111) 1 (zdg D_X8_kindAtHead 57 (111, .iload_n 1, 1) rfl) rfl rfl ?_
      refine z_icmp_le (pc := 112) 121 (zdg D_X8_kindAtHead 58 (112, .if_icmp .le 9, 3) rfl) rfl hf (fun hf => ?_) (fun hf => ?_)
      · refine z_aload_n (pc := 121) 0 (zdg D_X8_kindAtHead 63 (121, .aload_n 0, 1) rfl) rfl rfl ?_
        refine z_dup (pc := 122) rfl (zdg D_X8_kindAtHead 64 (122, .dup, 1) rfl) ?_
        refine z_getI (pc := 123) lf_X8_29 rfl rfl (zdg D_X8_kindAtHead 65 (123, .getfield 29, 3) rfl) ?_
        refine z_iconst (pc := 126) (v := 1) (zdg D_X8_kindAtHead 66 (126, .iconst 1, 1) rfl) rfl ?_
        refine z_iadd (pc := 127) (zdg D_X8_kindAtHead 67 (127, .iadd, 1) rfl) ?_
        refine z_putI (pc := 128) lw_X8_29 rfl rfl rfl rfl (zdg D_X8_kindAtHead 68 (128, .putfield 29, 3) rfl) ?_
        refine z_nmS hf (fun s11 hf => ?_)
        refine z_iload_n (pc := 131) 1 (zdg D_X8_kindAtHead 69 (131, .iload_n 1, 1) rfl) rfl rfl ?_
        refine z_aload_n (pc := 132) 0 (zdg D_X8_kindAtHead 70 (132, .aload_n 0, 1) rfl) rfl rfl ?_
        refine z_getI (pc := 133) lf_X8_25 rfl rfl (zdg D_X8_kindAtHead 71 (133, .getfield 25, 3) rfl) ?_
        refine z_icmp_ge (pc := 136) 160 (zdg D_X8_kindAtHead 72 (136, .if_icmp .ge 24, 3) rfl) rfl hf (fun hf => ?_) (fun hf => ?_)
        · refine z_iconst (pc := 160) (v := 1) (zdg D_X8_kindAtHead 84 (160, .iconst 1, 1) rfl) rfl ?_
          exact z_iret (pc := 161) rfl rfl (zdg D_X8_kindAtHead 85 (161, .ireturn, 1) rfl) (hP _ _ hf)
        · refine z_aload_n (pc := 139) 0 (zdg D_X8_kindAtHead 73 (139, .aload_n 0, 1) rfl) rfl rfl ?_
          refine z_getR (pc := 140) (g := 38) (j := 0) lf_X8_9 rfl rfl rfl (zdg D_X8_kindAtHead 74 (140, .getfield 9, 3) rfl) ?_
          refine z_iload_n (pc := 143) 1 (zdg D_X8_kindAtHead 75 (143, .iload_n 1, 1) rfl) rfl rfl ?_
          refine z_cald (pc := 144) rfl (fun _ => rfl) (zdg D_X8_kindAtHead 76 (144, .caload, 1) rfl) hn hf (fun hf => ?_)
          refine z_callS (pc := 145) (rest := []) (st2 := [zI (f_X8_isSign (s11.1 38 0 w1_9.toNatClampNeg))]) (fun l => c_X8_isSign l (s11.1 38 0 w1_9.toNatClampNeg) s11) zs_X8_isSign lm_X8_61 rfl rfl rfl (Nat.le_of_ble_eq_true rfl) ⟨Nat.le_of_ble_eq_true rfl, Nat.le_of_ble_eq_true rfl⟩ (zdg D_X8_kindAtHead 77 (145, .invokestatic 61, 3) rfl) ?_
          refine z_if_eq (pc := 148) 160 (zdg D_X8_kindAtHead 78 (148, .ifCond .eq 12, 3) rfl) rfl hf (fun hf => ?_) (fun hf => ?_)
          · refine z_iconst (pc := 160) (v := 1) (zdg D_X8_kindAtHead 84 (160, .iconst 1, 1) rfl) rfl ?_
            exact z_iret (pc := 161) rfl rfl (zdg D_X8_kindAtHead 85 (161, .ireturn, 1) rfl) (hP _ _ hf)
          · refine z_aload_n (pc := 151) 0 (zdg D_X8_kindAtHead 79 (151, .aload_n 0, 1) rfl) rfl rfl ?_
            refine z_getR (pc := 152) (g := 38) (j := 0) lf_X8_9 rfl rfl rfl (zdg D_X8_kindAtHead 80 (152, .getfield 9, 3) rfl) ?_
            refine z_iload_n (pc := 155) 1 (zdg D_X8_kindAtHead 81 (155, .iload_n 1, 1) rfl) rfl rfl ?_
            refine z_cald (pc := 156) rfl (fun _ => rfl) (zdg D_X8_kindAtHead 82 (156, .caload, 1) rfl) hn hf (fun hf => ?_)
            refine z_goto (pc := 157) 161 (zdg D_X8_kindAtHead 83 (157, .goto 4, 3) rfl) rfl ?_
            exact z_iret (pc := 161) rfl rfl (zdg D_X8_kindAtHead 85 (161, .ireturn, 1) rfl) (hP _ _ hf)
      · refine z_aload_n (pc := 115) 0 (zdg D_X8_kindAtHead 59 (115, .aload_n 0, 1) rfl) rfl rfl ?_
        refine z_iload_n (pc := 116) 1 (zdg D_X8_kindAtHead 60 (116, .iload_n 1, 1) rfl) rfl rfl ?_
        refine z_bind hn hf (fun q12 hq hf => ?_)
        refine z_callV (pc := 117) (rest := []) (st2 := [zI q12]) (fun l => c_X8_wordFrom l w1_9 s10 q12 hq) zv_X8_wordFrom lm_X8_58 rfl rfl rfl rfl rfl rfl (Nat.le_of_ble_eq_true rfl) ⟨Nat.le_of_ble_eq_true rfl, Nat.le_of_ble_eq_true rfl⟩ (zdg D_X8_kindAtHead 61 (117, .invokevirtual 58, 3) rfl) ?_
        exact z_iret (pc := 120) rfl rfl (zdg D_X8_kindAtHead 62 (120, .ireturn, 1) rfl) (hP _ _ hf)
    have t_44 : ∀ (w1_4 : Int32) (s5 : zG), f_X8_kindAtHead σ = j_X8_kindAtHead_44 w1_4 s5 → zX zsyC m_X8_kindAtHead K 44 [(0, zR 3 0), (1, zI w1_4)] [] s5 := by
      intro w1_4 s5 hf
      replace hf := hf.trans (j_X8_kindAtHead_44.eq_1 w1_4 s5)
      refine z_aload_n (pc := 44) 0 (zdg D_X8_kindAtHead 22 (44, .aload_n 0, 1) rfl) rfl rfl ?_
      refine z_getI (pc := 45) lf_X8_29 rfl rfl (zdg D_X8_kindAtHead 23 (45, .getfield 29, 3) rfl) ?_
      refine z_iload_n (pc := 48) 1 (zdg D_X8_kindAtHead 24 (48, .iload_n 1, 1) rfl) rfl rfl ?_
      refine z_icmp_le (pc := 49) 68 (zdg D_X8_kindAtHead 25 (49, .if_icmp .le 19, 3) rfl) rfl hf (fun hf => ?_) (fun hf => ?_)
      · refine z_loop (f := (fun q : zG => b_X8_kindAtHead_68 q)) (a := s5) (fun q : zG => zX zsyC m_X8_kindAtHead K 68 [(0, zR 3 0), (1, zI w1_4)] [] q) (fun e8 : zG => zX zsyC m_X8_kindAtHead K 107 [(0, zR 3 0), (1, zI w1_4)] [] e8) hn hf ?_ ?_
        · intro e8 hf
          exact t_107 w1_4 e8 hf
        · intro s6 hn hi hx
          have hf := b_X8_kindAtHead_68.eq_1  s6
          refine z_aload_n (pc := 68) 0 (zdg D_X8_kindAtHead 36 (68, .aload_n 0, 1) rfl) rfl rfl ?_
          refine z_getI (pc := 69) lf_X8_29 rfl rfl (zdg D_X8_kindAtHead 37 (69, .getfield 29, 3) rfl) ?_
          refine z_aload_n (pc := 72) 0 (zdg D_X8_kindAtHead 38 (72, .aload_n 0, 1) rfl) rfl rfl ?_
          refine z_getI (pc := 73) lf_X8_25 rfl rfl (zdg D_X8_kindAtHead 39 (73, .getfield 25, 3) rfl) ?_
          refine z_icmp_ge (pc := 76) 107 (zdg D_X8_kindAtHead 40 (76, .if_icmp .ge 31, 3) rfl) rfl hf (fun hf => ?_) (fun hf => ?_)
          · exact hx s6 hf
          · refine z_aload_n (pc := 79) 0 (zdg D_X8_kindAtHead 41 (79, .aload_n 0, 1) rfl) rfl rfl ?_
            refine z_getR (pc := 80) (g := 38) (j := 0) lf_X8_9 rfl rfl rfl (zdg D_X8_kindAtHead 42 (80, .getfield 9, 3) rfl) ?_
            refine z_aload_n (pc := 83) 0 (zdg D_X8_kindAtHead 43 (83, .aload_n 0, 1) rfl) rfl rfl ?_
            refine z_getI (pc := 84) lf_X8_29 rfl rfl (zdg D_X8_kindAtHead 44 (84, .getfield 29, 3) rfl) ?_
            refine z_cald (pc := 87) rfl (fun _ => rfl) (zdg D_X8_kindAtHead 45 (87, .caload, 1) rfl) hn hf (fun hf => ?_)
            refine z_callS (pc := 88) (rest := []) (st2 := [zI (f_X8_isLetter (s6.1 38 0 (s6.1 3 0 6).toNatClampNeg))]) (fun l => c_X8_isLetter l (s6.1 38 0 (s6.1 3 0 6).toNatClampNeg) s6) zs_X8_isLetter lm_X8_55 rfl rfl rfl (Nat.le_of_ble_eq_true rfl) ⟨Nat.le_of_ble_eq_true rfl, Nat.le_of_ble_eq_true rfl⟩ (zdg D_X8_kindAtHead 46 (88, .invokestatic 55, 3) rfl) ?_
            refine z_if_eq (pc := 91) 107 (zdg D_X8_kindAtHead 47 (91, .ifCond .eq 16, 3) rfl) rfl hf (fun hf => ?_) (fun hf => ?_)
            · exact hx s6 hf
            · refine z_aload_n (pc := 94) 0 (zdg D_X8_kindAtHead 48 (94, .aload_n 0, 1) rfl) rfl rfl ?_
              refine z_dup (pc := 95) rfl (zdg D_X8_kindAtHead 49 (95, .dup, 1) rfl) ?_
              refine z_getI (pc := 96) lf_X8_29 rfl rfl (zdg D_X8_kindAtHead 50 (96, .getfield 29, 3) rfl) ?_
              refine z_iconst (pc := 99) (v := 1) (zdg D_X8_kindAtHead 51 (99, .iconst 1, 1) rfl) rfl ?_
              refine z_iadd (pc := 100) (zdg D_X8_kindAtHead 52 (100, .iadd, 1) rfl) ?_
              refine z_putI (pc := 101) lw_X8_29 rfl rfl rfl rfl (zdg D_X8_kindAtHead 53 (101, .putfield 29, 3) rfl) ?_
              refine z_nmS hf (fun s7 hf => ?_)
              refine z_goto (pc := 104) 68 (zdg D_X8_kindAtHead 54 (104, .goto (-36), 3) rfl) rfl ?_
              exact hi s7 hf
      · refine z_aload_n (pc := 52) 0 (zdg D_X8_kindAtHead 26 (52, .aload_n 0, 1) rfl) rfl rfl ?_
        refine z_getI (pc := 53) lf_X8_29 rfl rfl (zdg D_X8_kindAtHead 27 (53, .getfield 29, 3) rfl) ?_
        refine z_iload_n (pc := 56) 1 (zdg D_X8_kindAtHead 28 (56, .iload_n 1, 1) rfl) rfl rfl ?_
        refine z_isub (pc := 57) (zdg D_X8_kindAtHead 29 (57, .isub, 1) rfl) ?_
        refine z_iconst (pc := 58) (v := 4) (zdg D_X8_kindAtHead 30 (58, .iconst 4, 1) rfl) rfl ?_
        refine z_icmp_gt (pc := 59) 66 (zdg D_X8_kindAtHead 31 (59, .if_icmp .gt 7, 3) rfl) rfl hf (fun hf => ?_) (fun hf => ?_)
        · refine z_iconst (pc := 66) (v := 1) (zdg D_X8_kindAtHead 34 (66, .iconst 1, 1) rfl) rfl ?_
          exact z_iret (pc := 67) rfl rfl (zdg D_X8_kindAtHead 35 (67, .ireturn, 1) rfl) (hP _ _ hf)
        · refine z_iconst (pc := 62) (v := 2) (zdg D_X8_kindAtHead 32 (62, .iconst 2, 1) rfl) rfl ?_
          refine z_goto (pc := 63) 67 (zdg D_X8_kindAtHead 33 (63, .goto 4, 3) rfl) rfl ?_
          exact z_iret (pc := 67) rfl rfl (zdg D_X8_kindAtHead 35 (67, .ireturn, 1) rfl) (hP _ _ hf)
    refine z_aload_n (pc := 0) 0 (zdg D_X8_kindAtHead 0 (0, .aload_n 0, 1) rfl) rfl rfl ?_
    refine z_getI (pc := 1) lf_X8_29 rfl rfl (zdg D_X8_kindAtHead 1 (1, .getfield 29, 3) rfl) ?_
    refine z_istore_n (pc := 4) (al' := [(1, zI (σ.1 3 0 6)), (0, zR 3 0)]) (zdg D_X8_kindAtHead 2 (4, .istore_n 1, 1) rfl) rfl (by decide) rfl ?_
    refine z_sub (al' := [(0, zR 3 0), (1, zI (σ.1 3 0 6))]) [1, 0] rfl ?_
    refine z_loop (f := (fun q : zG => b_X8_kindAtHead_5 q)) (a := σ) (fun q : zG => zX zsyC m_X8_kindAtHead K 5 [(0, zR 3 0), (1, zI (σ.1 3 0 6))] [] q) (fun e3 : zG => zX zsyC m_X8_kindAtHead K 44 [(0, zR 3 0), (1, zI (σ.1 3 0 6))] [] e3) hn hf ?_ ?_
    · intro e3 hf
      exact t_44 (σ.1 3 0 6) e3 hf
    · intro s1 hn hi hx
      have hf := b_X8_kindAtHead_5.eq_1  s1
      refine z_aload_n (pc := 5) 0 (zdg D_X8_kindAtHead 3 (5, .aload_n 0, 1) rfl) rfl rfl ?_
      refine z_getI (pc := 6) lf_X8_29 rfl rfl (zdg D_X8_kindAtHead 4 (6, .getfield 29, 3) rfl) ?_
      refine z_aload_n (pc := 9) 0 (zdg D_X8_kindAtHead 5 (9, .aload_n 0, 1) rfl) rfl rfl ?_
      refine z_getI (pc := 10) lf_X8_25 rfl rfl (zdg D_X8_kindAtHead 6 (10, .getfield 25, 3) rfl) ?_
      refine z_icmp_ge (pc := 13) 44 (zdg D_X8_kindAtHead 7 (13, .if_icmp .ge 31, 3) rfl) rfl hf (fun hf => ?_) (fun hf => ?_)
      · exact hx s1 hf
      · refine z_aload_n (pc := 16) 0 (zdg D_X8_kindAtHead 8 (16, .aload_n 0, 1) rfl) rfl rfl ?_
        refine z_getR (pc := 17) (g := 38) (j := 0) lf_X8_9 rfl rfl rfl (zdg D_X8_kindAtHead 9 (17, .getfield 9, 3) rfl) ?_
        refine z_aload_n (pc := 20) 0 (zdg D_X8_kindAtHead 10 (20, .aload_n 0, 1) rfl) rfl rfl ?_
        refine z_getI (pc := 21) lf_X8_29 rfl rfl (zdg D_X8_kindAtHead 11 (21, .getfield 29, 3) rfl) ?_
        refine z_cald (pc := 24) rfl (fun _ => rfl) (zdg D_X8_kindAtHead 12 (24, .caload, 1) rfl) hn hf (fun hf => ?_)
        refine z_callS (pc := 25) (rest := []) (st2 := [zI (f_X8_isDigit (s1.1 38 0 (s1.1 3 0 6).toNatClampNeg))]) (fun l => c_X8_isDigit l (s1.1 38 0 (s1.1 3 0 6).toNatClampNeg) s1) zs_X8_isDigit lm_X8_51 rfl rfl rfl (Nat.le_of_ble_eq_true rfl) ⟨Nat.le_of_ble_eq_true rfl, Nat.le_of_ble_eq_true rfl⟩ (zdg D_X8_kindAtHead 13 (25, .invokestatic 51, 3) rfl) ?_
        refine z_if_eq (pc := 28) 44 (zdg D_X8_kindAtHead 14 (28, .ifCond .eq 16, 3) rfl) rfl hf (fun hf => ?_) (fun hf => ?_)
        · exact hx s1 hf
        · refine z_aload_n (pc := 31) 0 (zdg D_X8_kindAtHead 15 (31, .aload_n 0, 1) rfl) rfl rfl ?_
          refine z_dup (pc := 32) rfl (zdg D_X8_kindAtHead 16 (32, .dup, 1) rfl) ?_
          refine z_getI (pc := 33) lf_X8_29 rfl rfl (zdg D_X8_kindAtHead 17 (33, .getfield 29, 3) rfl) ?_
          refine z_iconst (pc := 36) (v := 1) (zdg D_X8_kindAtHead 18 (36, .iconst 1, 1) rfl) rfl ?_
          refine z_iadd (pc := 37) (zdg D_X8_kindAtHead 19 (37, .iadd, 1) rfl) ?_
          refine z_putI (pc := 38) lw_X8_29 rfl rfl rfl rfl (zdg D_X8_kindAtHead 20 (38, .putfield 29, 3) rfl) ?_
          refine z_nmS hf (fun s2 hf => ?_)
          refine z_goto (pc := 41) 5 (zdg D_X8_kindAtHead 21 (41, .goto (-36), 3) rfl) rfl ?_
          exact hi s2 hf

def L_X8_numberFrom : List (Nat × Instr × Nat) := [(0, .iconst 0, 1), (1, .istore_n 2, 1), (2, .iload_n 1, 1), (3, .istore_n 3, 1), (4, .iload_n 3, 1), (5, .aload_n 0, 1), (6, .getfield 29, 3), (9, .if_icmp .ge 32, 3), (12, .iload_n 3, 1), (13, .aload_n 0, 1), (14, .getfield 25, 3), (17, .if_icmp .ge 24, 3), (20, .iload_n 2, 1), (21, .bipush 10, 2), (23, .imul, 1), (24, .aload_n 0, 1), (25, .getfield 9, 3), (28, .iload_n 3, 1), (29, .caload, 1), (30, .bipush 48, 2), (32, .isub, 1), (33, .iadd, 1), (34, .istore_n 2, 1), (35, .iinc 3 1, 3), (38, .goto (-34), 3), (41, .iload_n 2, 1), (42, .ireturn, 1)]
set_option maxRecDepth 100000 in
theorem D_X8_numberFrom : zdecs cX8_numberFrom L_X8_numberFrom = true := by decide +kernel
noncomputable def b_X8_numberFrom_4 (σ : zG) (v2_1 : Int32) (v3_2 : Int32) : Option ((Int32 × Int32) ⊕ (Int32)) :=
  if v3_2 < (σ.1 3 0 6) then if v3_2 < (σ.1 3 0 1) then zg (zin v3_2 400) (zb ((v2_1 * (10 : Int32)) + ((σ.1 38 0 v3_2.toNatClampNeg) - (48 : Int32))) (fun x3 => some (Sum.inl (x3, (v3_2 + 1))))) else some (Sum.inr v2_1) else some (Sum.inr v2_1)
noncomputable def f_X8_numberFrom (p1 : Int32) (σ : zG) : Option (Int32) :=
  (zlp (fun q : Int32 × Int32 => b_X8_numberFrom_4 σ q.1 q.2) ((0 : Int32), p1)).bind (fun e4 : Int32 => some e4)
set_option maxRecDepth 100000 in
set_option maxHeartbeats 4000000 in
theorem c_X8_numberFrom (l : Launch) (p1 : Int32) (σ : zG) (q : Int32) (hq : f_X8_numberFrom p1 σ = some q) : zMet l zsyC m_X8_numberFrom yX8_numberFrom [zR 3 0, zI p1] σ (some (zI q)) σ := by
  refine zEnter [(0, zR 3 0), (1, zI p1)] (by decide) rfl (fun _ => Nat.le_of_ble_eq_true rfl) (fun _ => rfl) (fun w h => ?_) (fun K hv hs => ?_)
  · exact zokm rfl h
  · have hP : ∀ x, f_X8_numberFrom p1 σ = some x → zKv K = some (zI x) ∧ zKs K = σ := fun x h => by rw [hq] at h; cases h; exact ⟨hv, hs⟩
    have hn : f_X8_numberFrom p1 σ ≠ none := fun z => by rw [hq] at z; cases z
    have hf := f_X8_numberFrom.eq_1 p1 σ
    refine z_iconst (pc := 0) (v := 0) (zdg D_X8_numberFrom 0 (0, .iconst 0, 1) rfl) rfl ?_
    refine z_istore_n (pc := 1) (al' := [(2, zI (0 : Int32)), (0, zR 3 0), (1, zI p1)]) (zdg D_X8_numberFrom 1 (1, .istore_n 2, 1) rfl) rfl (by decide) rfl ?_
    refine z_iload_n (pc := 2) 2 (zdg D_X8_numberFrom 2 (2, .iload_n 1, 1) rfl) rfl rfl ?_
    refine z_istore_n (pc := 3) (al' := [(3, zI p1), (2, zI (0 : Int32)), (0, zR 3 0), (1, zI p1)]) (zdg D_X8_numberFrom 3 (3, .istore_n 3, 1) rfl) rfl (by decide) rfl ?_
    refine z_sub (al' := [(0, zR 3 0), (2, zI (0 : Int32)), (3, zI p1)]) [2, 1, 0] rfl ?_
    refine z_loop (f := (fun q : Int32 × Int32 => b_X8_numberFrom_4 σ q.1 q.2)) (a := ((0 : Int32), p1)) (fun q : Int32 × Int32 => zX zsyC m_X8_numberFrom K 4 [(0, zR 3 0), (2, zI q.1), (3, zI q.2)] [] σ) (fun e4 : Int32 => zX zsyC m_X8_numberFrom K 41 [(2, zI e4)] [] σ) hn hf ?_ ?_
    · intro e4 hf
      refine z_iload_n (pc := 41) 0 (zdg D_X8_numberFrom 25 (41, .iload_n 2, 1) rfl) rfl rfl ?_
      exact z_iret (pc := 42) rfl rfl (zdg D_X8_numberFrom 26 (42, .ireturn, 1) rfl) (hP _ hf)
    · rintro ⟨v2_1, v3_2⟩ hn hi hx
      have hf := b_X8_numberFrom_4.eq_1 σ v2_1 v3_2
      refine z_iload_n (pc := 4) 2 (zdg D_X8_numberFrom 4 (4, .iload_n 3, 1) rfl) rfl rfl ?_
      refine z_aload_n (pc := 5) 0 (zdg D_X8_numberFrom 5 (5, .aload_n 0, 1) rfl) rfl rfl ?_
      refine z_getI (pc := 6) lf_X8_29 rfl rfl (zdg D_X8_numberFrom 6 (6, .getfield 29, 3) rfl) ?_
      refine z_icmp_ge (pc := 9) 41 (zdg D_X8_numberFrom 7 (9, .if_icmp .ge 32, 3) rfl) rfl hf (fun hf => ?_) (fun hf => ?_)
      · refine z_sub (al' := [(2, zI v2_1)]) [1] rfl ?_
        exact hx v2_1 hf
      · refine z_iload_n (pc := 12) 2 (zdg D_X8_numberFrom 8 (12, .iload_n 3, 1) rfl) rfl rfl ?_
        refine z_aload_n (pc := 13) 0 (zdg D_X8_numberFrom 9 (13, .aload_n 0, 1) rfl) rfl rfl ?_
        refine z_getI (pc := 14) lf_X8_25 rfl rfl (zdg D_X8_numberFrom 10 (14, .getfield 25, 3) rfl) ?_
        refine z_icmp_ge (pc := 17) 41 (zdg D_X8_numberFrom 11 (17, .if_icmp .ge 24, 3) rfl) rfl hf (fun hf => ?_) (fun hf => ?_)
        · refine z_sub (al' := [(2, zI v2_1)]) [1] rfl ?_
          exact hx v2_1 hf
        · refine z_iload_n (pc := 20) 1 (zdg D_X8_numberFrom 12 (20, .iload_n 2, 1) rfl) rfl rfl ?_
          refine z_bipush (pc := 21) (v := 10) (zdg D_X8_numberFrom 13 (21, .bipush 10, 2) rfl) rfl ?_
          refine z_imul (pc := 23) (zdg D_X8_numberFrom 14 (23, .imul, 1) rfl) ?_
          refine z_aload_n (pc := 24) 0 (zdg D_X8_numberFrom 15 (24, .aload_n 0, 1) rfl) rfl rfl ?_
          refine z_getR (pc := 25) (g := 38) (j := 0) lf_X8_9 rfl rfl rfl (zdg D_X8_numberFrom 16 (25, .getfield 9, 3) rfl) ?_
          refine z_iload_n (pc := 28) 2 (zdg D_X8_numberFrom 17 (28, .iload_n 3, 1) rfl) rfl rfl ?_
          refine z_cald (pc := 29) rfl (fun _ => rfl) (zdg D_X8_numberFrom 18 (29, .caload, 1) rfl) hn hf (fun hf => ?_)
          refine z_bipush (pc := 30) (v := 48) (zdg D_X8_numberFrom 19 (30, .bipush 48, 2) rfl) rfl ?_
          refine z_isub (pc := 32) (zdg D_X8_numberFrom 20 (32, .isub, 1) rfl) ?_
          refine z_iadd (pc := 33) (zdg D_X8_numberFrom 21 (33, .iadd, 1) rfl) ?_
          refine z_nmI hf (fun x3 hf => ?_)
          refine z_istore_n (pc := 34) (al' := [(2, zI x3), (0, zR 3 0), (3, zI v3_2)]) (zdg D_X8_numberFrom 22 (34, .istore_n 2, 1) rfl) rfl (by decide) rfl ?_
          refine z_iinc (pc := 35) (v0 := (v3_2 + 1)) (al' := [(3, zI (v3_2 + 1)), (2, zI x3), (0, zR 3 0)]) 2 (zdg D_X8_numberFrom 23 (35, .iinc 3 1, 3) rfl) rfl rfl (by decide) rfl ?_
          refine z_goto (pc := 38) 4 (zdg D_X8_numberFrom 24 (38, .goto (-34), 3) rfl) rfl ?_
          refine z_sub (al' := [(0, zR 3 0), (2, zI x3), (3, zI (v3_2 + 1))]) [2, 1, 0] rfl ?_
          exact hi (x3, (v3_2 + 1)) hf

def L_X8_addToken : List (Nat × Instr × Nat) := [(0, .aload_n 0, 1), (1, .getfield 32, 3), (4, .sipush 400, 3), (7, .if_icmp .gt 43, 3), (10, .aload_n 0, 1), (11, .getfield 15, 3), (14, .aload_n 0, 1), (15, .getfield 32, 3), (18, .iload_n 1, 1), (19, .iastore, 1), (20, .aload_n 0, 1), (21, .getfield 19, 3), (24, .aload_n 0, 1), (25, .getfield 32, 3), (28, .iload_n 2, 1), (29, .iastore, 1), (30, .aload_n 0, 1), (31, .getfield 22, 3), (34, .aload_n 0, 1), (35, .getfield 32, 3), (38, .iload_n 3, 1), (39, .iastore, 1), (40, .aload_n 0, 1), (41, .dup, 1), (42, .getfield 32, 3), (45, .iconst 1, 1), (46, .iadd, 1), (47, .putfield 32, 3), (50, .return_, 1)]
set_option maxRecDepth 100000 in
theorem D_X8_addToken : zdecs cX8_addToken L_X8_addToken = true := by decide +kernel
noncomputable def f_X8_addToken (p1 : Int32) (p2 : Int32) (p3 : Int32) (σ : zG) : Option (zG) :=
  if (σ.1 3 0 5) ≤ (400 : Int32) then zg (zin (σ.1 3 0 5) 401) (zb (zwI σ 39 0 (σ.1 3 0 5).toNatClampNeg p1) (fun s1 => zg (zin (s1.1 3 0 5) 401) (zb (zwI s1 40 0 (s1.1 3 0 5).toNatClampNeg p2) (fun s2 => zg (zin (s2.1 3 0 5) 401) (zb (zwI s2 41 0 (s2.1 3 0 5).toNatClampNeg p3) (fun s3 => zb (zwI s3 3 0 5 ((s3.1 3 0 5) + (1 : Int32))) (fun s4 => some s4))))))) else some σ
set_option maxRecDepth 100000 in
set_option maxHeartbeats 4000000 in
theorem c_X8_addToken (l : Launch) (p1 : Int32) (p2 : Int32) (p3 : Int32) (σ : zG) (q : zG) (hq : f_X8_addToken p1 p2 p3 σ = some q) : zMet l zsyC m_X8_addToken yX8_addToken [zR 3 0, zI p1, zI p2, zI p3] σ none q := by
  refine zEnter [(0, zR 3 0), (1, zI p1), (2, zI p2), (3, zI p3)] (by decide) rfl (fun _ => Nat.le_of_ble_eq_true rfl) (fun _ => rfl) (fun w h => ?_) (fun K hv hs => ?_)
  · exact zokm rfl h
  · have hP : ∀ s, f_X8_addToken p1 p2 p3 σ = some s → zKv K = none ∧ zKs K = s := fun s h => by rw [hq] at h; cases h; exact ⟨hv, hs⟩
    have hn : f_X8_addToken p1 p2 p3 σ ≠ none := fun z => by rw [hq] at z; cases z
    have hf := f_X8_addToken.eq_1 p1 p2 p3 σ
    refine z_aload_n (pc := 0) 0 (zdg D_X8_addToken 0 (0, .aload_n 0, 1) rfl) rfl rfl ?_
    refine z_getI (pc := 1) lf_X8_32 rfl rfl (zdg D_X8_addToken 1 (1, .getfield 32, 3) rfl) ?_
    refine z_sipush (pc := 4) (v := 400) (zdg D_X8_addToken 2 (4, .sipush 400, 3) rfl) rfl ?_
    refine z_icmp_gt (pc := 7) 50 (zdg D_X8_addToken 3 (7, .if_icmp .gt 43, 3) rfl) rfl hf (fun hf => ?_) (fun hf => ?_)
    · exact z_vret (pc := 50) rfl (zdg D_X8_addToken 28 (50, .return_, 1) rfl) (hP _ hf)
    · refine z_aload_n (pc := 10) 0 (zdg D_X8_addToken 4 (10, .aload_n 0, 1) rfl) rfl rfl ?_
      refine z_getR (pc := 11) (g := 39) (j := 0) lf_X8_15 rfl rfl rfl (zdg D_X8_addToken 5 (11, .getfield 15, 3) rfl) ?_
      refine z_aload_n (pc := 14) 0 (zdg D_X8_addToken 6 (14, .aload_n 0, 1) rfl) rfl rfl ?_
      refine z_getI (pc := 15) lf_X8_32 rfl rfl (zdg D_X8_addToken 7 (15, .getfield 32, 3) rfl) ?_
      refine z_iload_n (pc := 18) 1 (zdg D_X8_addToken 8 (18, .iload_n 1, 1) rfl) rfl rfl ?_
      refine z_iast (pc := 19) rfl (fun _ => rfl) (zdg D_X8_addToken 9 (19, .iastore, 1) rfl) hn hf (fun hf => ?_)
      refine z_nmS hf (fun s1 hf => ?_)
      refine z_aload_n (pc := 20) 0 (zdg D_X8_addToken 10 (20, .aload_n 0, 1) rfl) rfl rfl ?_
      refine z_getR (pc := 21) (g := 40) (j := 0) lf_X8_19 rfl rfl rfl (zdg D_X8_addToken 11 (21, .getfield 19, 3) rfl) ?_
      refine z_aload_n (pc := 24) 0 (zdg D_X8_addToken 12 (24, .aload_n 0, 1) rfl) rfl rfl ?_
      refine z_getI (pc := 25) lf_X8_32 rfl rfl (zdg D_X8_addToken 13 (25, .getfield 32, 3) rfl) ?_
      refine z_iload_n (pc := 28) 2 (zdg D_X8_addToken 14 (28, .iload_n 2, 1) rfl) rfl rfl ?_
      refine z_iast (pc := 29) rfl (fun _ => rfl) (zdg D_X8_addToken 15 (29, .iastore, 1) rfl) hn hf (fun hf => ?_)
      refine z_nmS hf (fun s2 hf => ?_)
      refine z_aload_n (pc := 30) 0 (zdg D_X8_addToken 16 (30, .aload_n 0, 1) rfl) rfl rfl ?_
      refine z_getR (pc := 31) (g := 41) (j := 0) lf_X8_22 rfl rfl rfl (zdg D_X8_addToken 17 (31, .getfield 22, 3) rfl) ?_
      refine z_aload_n (pc := 34) 0 (zdg D_X8_addToken 18 (34, .aload_n 0, 1) rfl) rfl rfl ?_
      refine z_getI (pc := 35) lf_X8_32 rfl rfl (zdg D_X8_addToken 19 (35, .getfield 32, 3) rfl) ?_
      refine z_iload_n (pc := 38) 3 (zdg D_X8_addToken 20 (38, .iload_n 3, 1) rfl) rfl rfl ?_
      refine z_iast (pc := 39) rfl (fun _ => rfl) (zdg D_X8_addToken 21 (39, .iastore, 1) rfl) hn hf (fun hf => ?_)
      refine z_nmS hf (fun s3 hf => ?_)
      refine z_aload_n (pc := 40) 0 (zdg D_X8_addToken 22 (40, .aload_n 0, 1) rfl) rfl rfl ?_
      refine z_dup (pc := 41) rfl (zdg D_X8_addToken 23 (41, .dup, 1) rfl) ?_
      refine z_getI (pc := 42) lf_X8_32 rfl rfl (zdg D_X8_addToken 24 (42, .getfield 32, 3) rfl) ?_
      refine z_iconst (pc := 45) (v := 1) (zdg D_X8_addToken 25 (45, .iconst 1, 1) rfl) rfl ?_
      refine z_iadd (pc := 46) (zdg D_X8_addToken 26 (46, .iadd, 1) rfl) ?_
      refine z_putI (pc := 47) lw_X8_32 rfl rfl rfl rfl (zdg D_X8_addToken 27 (47, .putfield 32, 3) rfl) ?_
      refine z_nmS hf (fun s4 hf => ?_)
      exact z_vret (pc := 50) rfl (zdg D_X8_addToken 28 (50, .return_, 1) rfl) (hP _ hf)

def L_X8_tokenize : List (Nat × Instr × Nat) := [(0, .aload_n 0, 1), (1, .iconst 0, 1), (2, .putfield 29, 3), (5, .aload_n 0, 1), (6, .iconst 0, 1), (7, .putfield 32, 3), (10, .iconst 0, 1), (11, .istore_n 1, 1), (12, .iload_n 1, 1), (13, .sipush 400, 3), (16, .if_icmp .ge 46, 3), (19, .aload_n 0, 1), (20, .invokevirtual 35, 3), (23, .ifCond .eq 39, 3), (26, .aload_n 0, 1), (27, .getfield 29, 3), (30, .istore_n 2, 1), (31, .aload_n 0, 1), (32, .invokevirtual 39, 3), (35, .istore_n 3, 1), (36, .aload_n 0, 1), (37, .iload_n 3, 1), (38, .iload_n 3, 1), (39, .iconst 2, 1), (40, .if_icmp .ne 11, 3), (43, .aload_n 0, 1), (44, .iload_n 2, 1), (45, .invokevirtual 43, 3), (48, .goto 4, 3), (51, .iconst 0, 1), (52, .iload_n 2, 1), (53, .invokevirtual 47, 3), (56, .iinc 1 1, 3), (59, .goto (-47), 3), (62, .aload_n 0, 1), (63, .iconst 0, 1), (64, .iconst 0, 1), (65, .aload_n 0, 1), (66, .getfield 25, 3), (69, .invokevirtual 47, 3), (72, .return_, 1)]
set_option maxRecDepth 100000 in
theorem D_X8_tokenize : zdecs cX8_tokenize L_X8_tokenize = true := by decide +kernel
noncomputable def b_X8_tokenize_12  (v1_3 : Int32) (s4 : zG) : Option ((Int32 × zG) ⊕ (zG)) :=
  if v1_3 < (400 : Int32) then (f_X8_skipBlanks s4).bind (fun q5 => if q5.1 = 0 then some (Sum.inr q5.2) else (f_X8_kindAtHead q5.2).bind (fun q6 => if q6.1 = (2 : Int32) then (f_X8_numberFrom (q5.2.1 3 0 6) q6.2).bind (fun q8 => (f_X8_addToken q6.1 q8 (q5.2.1 3 0 6) q6.2).bind (fun q9 => some (Sum.inl ((v1_3 + 1), q9)))) else (f_X8_addToken q6.1 (0 : Int32) (q5.2.1 3 0 6) q6.2).bind (fun q7 => some (Sum.inl ((v1_3 + 1), q7))))) else some (Sum.inr s4)
noncomputable def f_X8_tokenize (σ : zG) : Option (zG) :=
  zb (zwI σ 3 0 6 (0 : Int32)) (fun s1 => zb (zwI s1 3 0 5 (0 : Int32)) (fun s2 => (zlp (fun q : Int32 × zG => b_X8_tokenize_12 q.1 q.2) ((0 : Int32), s2)).bind (fun e10 : zG => (f_X8_addToken (0 : Int32) (0 : Int32) (e10.1 3 0 1) e10).bind (fun q11 => some q11))))
set_option maxRecDepth 100000 in
set_option maxHeartbeats 4000000 in
theorem c_X8_tokenize (l : Launch)  (σ : zG) (q : zG) (hq : f_X8_tokenize σ = some q) : zMet l zsyC m_X8_tokenize yX8_tokenize [zR 3 0] σ none q := by
  refine zEnter [(0, zR 3 0)] (by decide) rfl (fun _ => Nat.le_of_ble_eq_true rfl) (fun _ => rfl) (fun w h => ?_) (fun K hv hs => ?_)
  · exact zokm rfl h
  · have hP : ∀ s, f_X8_tokenize σ = some s → zKv K = none ∧ zKs K = s := fun s h => by rw [hq] at h; cases h; exact ⟨hv, hs⟩
    have hn : f_X8_tokenize σ ≠ none := fun z => by rw [hq] at z; cases z
    have hf := f_X8_tokenize.eq_1 σ
    refine z_aload_n (pc := 0) 0 (zdg D_X8_tokenize 0 (0, .aload_n 0, 1) rfl) rfl rfl ?_
    refine z_iconst (pc := 1) (v := 0) (zdg D_X8_tokenize 1 (1, .iconst 0, 1) rfl) rfl ?_
    refine z_putI (pc := 2) lw_X8_29 rfl rfl rfl rfl (zdg D_X8_tokenize 2 (2, .putfield 29, 3) rfl) ?_
    refine z_nmS hf (fun s1 hf => ?_)
    refine z_aload_n (pc := 5) 0 (zdg D_X8_tokenize 3 (5, .aload_n 0, 1) rfl) rfl rfl ?_
    refine z_iconst (pc := 6) (v := 0) (zdg D_X8_tokenize 4 (6, .iconst 0, 1) rfl) rfl ?_
    refine z_putI (pc := 7) lw_X8_32 rfl rfl rfl rfl (zdg D_X8_tokenize 5 (7, .putfield 32, 3) rfl) ?_
    refine z_nmS hf (fun s2 hf => ?_)
    refine z_iconst (pc := 10) (v := 0) (zdg D_X8_tokenize 6 (10, .iconst 0, 1) rfl) rfl ?_
    refine z_istore_n (pc := 11) (al' := [(1, zI (0 : Int32)), (0, zR 3 0)]) (zdg D_X8_tokenize 7 (11, .istore_n 1, 1) rfl) rfl (by decide) rfl ?_
    refine z_sub (al' := [(0, zR 3 0), (1, zI (0 : Int32))]) [1, 0] rfl ?_
    refine z_loop (f := (fun q : Int32 × zG => b_X8_tokenize_12 q.1 q.2)) (a := ((0 : Int32), s2)) (fun q : Int32 × zG => zX zsyC m_X8_tokenize K 12 [(0, zR 3 0), (1, zI q.1)] [] q.2) (fun e10 : zG => zX zsyC m_X8_tokenize K 62 [(0, zR 3 0)] [] e10) hn hf ?_ ?_
    · intro e10 hf
      refine z_aload_n (pc := 62) 0 (zdg D_X8_tokenize 34 (62, .aload_n 0, 1) rfl) rfl rfl ?_
      refine z_iconst (pc := 63) (v := 0) (zdg D_X8_tokenize 35 (63, .iconst 0, 1) rfl) rfl ?_
      refine z_iconst (pc := 64) (v := 0) (zdg D_X8_tokenize 36 (64, .iconst 0, 1) rfl) rfl ?_
      refine z_aload_n (pc := 65) 0 (zdg D_X8_tokenize 37 (65, .aload_n 0, 1) rfl) rfl rfl ?_
      refine z_getI (pc := 66) lf_X8_25 rfl rfl (zdg D_X8_tokenize 38 (66, .getfield 25, 3) rfl) ?_
      refine z_bind hn hf (fun q11 hq hf => ?_)
      refine z_callV (pc := 69) (rest := []) (st2 := []) (fun l => c_X8_addToken l (0 : Int32) (0 : Int32) (e10.1 3 0 1) e10 q11 hq) zv_X8_addToken lm_X8_47 rfl rfl rfl rfl rfl rfl (Nat.le_of_ble_eq_true rfl) ⟨Nat.le_of_ble_eq_true rfl, Nat.le_of_ble_eq_true rfl⟩ (zdg D_X8_tokenize 39 (69, .invokevirtual 47, 3) rfl) ?_
      exact z_vret (pc := 72) rfl (zdg D_X8_tokenize 40 (72, .return_, 1) rfl) (hP _ hf)
    · rintro ⟨v1_3, s4⟩ hn hi hx
      have hf := b_X8_tokenize_12.eq_1  v1_3 s4
      refine z_iload_n (pc := 12) 1 (zdg D_X8_tokenize 8 (12, .iload_n 1, 1) rfl) rfl rfl ?_
      refine z_sipush (pc := 13) (v := 400) (zdg D_X8_tokenize 9 (13, .sipush 400, 3) rfl) rfl ?_
      refine z_icmp_ge (pc := 16) 62 (zdg D_X8_tokenize 10 (16, .if_icmp .ge 46, 3) rfl) rfl hf (fun hf => ?_) (fun hf => ?_)
      · refine z_sub (al' := [(0, zR 3 0)]) [0] rfl ?_
        exact hx s4 hf
      · refine z_aload_n (pc := 19) 0 (zdg D_X8_tokenize 11 (19, .aload_n 0, 1) rfl) rfl rfl ?_
        refine z_bind hn hf (fun q5 hq hf => ?_)
        refine z_callV (pc := 20) (rest := []) (st2 := [zI q5.1]) (fun l => c_X8_skipBlanks l s4 q5 hq) zv_X8_skipBlanks lm_X8_35 rfl rfl rfl rfl rfl rfl (Nat.le_of_ble_eq_true rfl) ⟨Nat.le_of_ble_eq_true rfl, Nat.le_of_ble_eq_true rfl⟩ (zdg D_X8_tokenize 12 (20, .invokevirtual 35, 3) rfl) ?_
        refine z_if_eq (pc := 23) 62 (zdg D_X8_tokenize 13 (23, .ifCond .eq 39, 3) rfl) rfl hf (fun hf => ?_) (fun hf => ?_)
        · refine z_sub (al' := [(0, zR 3 0)]) [0] rfl ?_
          exact hx q5.2 hf
        · refine z_aload_n (pc := 26) 0 (zdg D_X8_tokenize 14 (26, .aload_n 0, 1) rfl) rfl rfl ?_
          refine z_getI (pc := 27) lf_X8_29 rfl rfl (zdg D_X8_tokenize 15 (27, .getfield 29, 3) rfl) ?_
          refine z_istore_n (pc := 30) (al' := [(2, zI (q5.2.1 3 0 6)), (0, zR 3 0), (1, zI v1_3)]) (zdg D_X8_tokenize 16 (30, .istore_n 2, 1) rfl) rfl (by decide) rfl ?_
          refine z_aload_n (pc := 31) 1 (zdg D_X8_tokenize 17 (31, .aload_n 0, 1) rfl) rfl rfl ?_
          refine z_bind hn hf (fun q6 hq hf => ?_)
          refine z_callV (pc := 32) (rest := []) (st2 := [zI q6.1]) (fun l => c_X8_kindAtHead l q5.2 q6 hq) zv_X8_kindAtHead lm_X8_39 rfl rfl rfl rfl rfl rfl (Nat.le_of_ble_eq_true rfl) ⟨Nat.le_of_ble_eq_true rfl, Nat.le_of_ble_eq_true rfl⟩ (zdg D_X8_tokenize 18 (32, .invokevirtual 39, 3) rfl) ?_
          refine z_istore_n (pc := 35) (al' := [(3, zI q6.1), (2, zI (q5.2.1 3 0 6)), (0, zR 3 0), (1, zI v1_3)]) (zdg D_X8_tokenize 19 (35, .istore_n 3, 1) rfl) rfl (by decide) rfl ?_
          refine z_aload_n (pc := 36) 2 (zdg D_X8_tokenize 20 (36, .aload_n 0, 1) rfl) rfl rfl ?_
          refine z_iload_n (pc := 37) 0 (zdg D_X8_tokenize 21 (37, .iload_n 3, 1) rfl) rfl rfl ?_
          refine z_iload_n (pc := 38) 0 (zdg D_X8_tokenize 22 (38, .iload_n 3, 1) rfl) rfl rfl ?_
          refine z_iconst (pc := 39) (v := 2) (zdg D_X8_tokenize 23 (39, .iconst 2, 1) rfl) rfl ?_
          refine z_icmp_ne (pc := 40) 51 (zdg D_X8_tokenize 24 (40, .if_icmp .ne 11, 3) rfl) rfl hf (fun hf => ?_) (fun hf => ?_)
          · refine z_iconst (pc := 51) (v := 0) (zdg D_X8_tokenize 29 (51, .iconst 0, 1) rfl) rfl ?_
            refine z_iload_n (pc := 52) 1 (zdg D_X8_tokenize 30 (52, .iload_n 2, 1) rfl) rfl rfl ?_
            refine z_bind hn hf (fun q7 hq hf => ?_)
            refine z_callV (pc := 53) (rest := []) (st2 := []) (fun l => c_X8_addToken l q6.1 (0 : Int32) (q5.2.1 3 0 6) q6.2 q7 hq) zv_X8_addToken lm_X8_47 rfl rfl rfl rfl rfl rfl (Nat.le_of_ble_eq_true rfl) ⟨Nat.le_of_ble_eq_true rfl, Nat.le_of_ble_eq_true rfl⟩ (zdg D_X8_tokenize 31 (53, .invokevirtual 47, 3) rfl) ?_
            refine z_iinc (pc := 56) (v0 := (v1_3 + 1)) (al' := [(1, zI (v1_3 + 1)), (3, zI q6.1), (2, zI (q5.2.1 3 0 6)), (0, zR 3 0)]) 3 (zdg D_X8_tokenize 32 (56, .iinc 1 1, 3) rfl) rfl rfl (by decide) rfl ?_
            refine z_goto (pc := 59) 12 (zdg D_X8_tokenize 33 (59, .goto (-47), 3) rfl) rfl ?_
            refine z_sub (al' := [(0, zR 3 0), (1, zI (v1_3 + 1))]) [3, 0] rfl ?_
            exact hi ((v1_3 + 1), q7) hf
          · refine z_aload_n (pc := 43) 2 (zdg D_X8_tokenize 25 (43, .aload_n 0, 1) rfl) rfl rfl ?_
            refine z_iload_n (pc := 44) 1 (zdg D_X8_tokenize 26 (44, .iload_n 2, 1) rfl) rfl rfl ?_
            refine z_bind hn hf (fun q8 hq hf => ?_)
            refine z_callV (pc := 45) (rest := [zI q6.1, zR 3 0]) (st2 := [zI q8, zI q6.1, zR 3 0]) (fun l => c_X8_numberFrom l (q5.2.1 3 0 6) q6.2 q8 hq) zv_X8_numberFrom lm_X8_43 rfl rfl rfl rfl rfl rfl (Nat.le_of_ble_eq_true rfl) ⟨Nat.le_of_ble_eq_true rfl, Nat.le_of_ble_eq_true rfl⟩ (zdg D_X8_tokenize 27 (45, .invokevirtual 43, 3) rfl) ?_
            refine z_goto (pc := 48) 52 (zdg D_X8_tokenize 28 (48, .goto 4, 3) rfl) rfl ?_
            refine z_iload_n (pc := 52) 1 (zdg D_X8_tokenize 30 (52, .iload_n 2, 1) rfl) rfl rfl ?_
            refine z_bind hn hf (fun q9 hq hf => ?_)
            refine z_callV (pc := 53) (rest := []) (st2 := []) (fun l => c_X8_addToken l q6.1 q8 (q5.2.1 3 0 6) q6.2 q9 hq) zv_X8_addToken lm_X8_47 rfl rfl rfl rfl rfl rfl (Nat.le_of_ble_eq_true rfl) ⟨Nat.le_of_ble_eq_true rfl, Nat.le_of_ble_eq_true rfl⟩ (zdg D_X8_tokenize 31 (53, .invokevirtual 47, 3) rfl) ?_
            refine z_iinc (pc := 56) (v0 := (v1_3 + 1)) (al' := [(1, zI (v1_3 + 1)), (3, zI q6.1), (2, zI (q5.2.1 3 0 6)), (0, zR 3 0)]) 3 (zdg D_X8_tokenize 32 (56, .iinc 1 1, 3) rfl) rfl rfl (by decide) rfl ?_
            refine z_goto (pc := 59) 12 (zdg D_X8_tokenize 33 (59, .goto (-47), 3) rfl) rfl ?_
            refine z_sub (al' := [(0, zR 3 0), (1, zI (v1_3 + 1))]) [3, 0] rfl ?_
            exact hi ((v1_3 + 1), q9) hf

def L_X4_advance : List (Nat × Instr × Nat) := [(0, .aload_n 0, 1), (1, .getfield 41, 3), (4, .aload_n 0, 1), (5, .getfield 29, 3), (8, .getfield 47, 3), (11, .iconst 1, 1), (12, .isub, 1), (13, .if_icmp .ge 55, 3), (16, .aload_n 0, 1), (17, .getfield 41, 3), (20, .sipush 400, 3), (23, .if_icmp .ge 45, 3), (26, .aload_n 0, 1), (27, .dup, 1), (28, .getfield 41, 3), (31, .iconst 1, 1), (32, .iadd, 1), (33, .putfield 41, 3), (36, .aload_n 0, 1), (37, .aload_n 0, 1), (38, .getfield 29, 3), (41, .getfield 50, 3), (44, .aload_n 0, 1), (45, .getfield 41, 3), (48, .iaload, 1), (49, .putfield 54, 3), (52, .aload_n 0, 1), (53, .aload_n 0, 1), (54, .getfield 29, 3), (57, .getfield 57, 3), (60, .aload_n 0, 1), (61, .getfield 41, 3), (64, .iaload, 1), (65, .putfield 60, 3), (68, .return_, 1)]
set_option maxRecDepth 100000 in
theorem D_X4_advance : zdecs cX4_advance L_X4_advance = true := by decide +kernel
noncomputable def f_X4_advance (σ : zG) : Option (zG) :=
  if (σ.1 4 0 7) < ((σ.1 3 0 5) - (1 : Int32)) then if (σ.1 4 0 7) < (400 : Int32) then zb (zwI σ 4 0 7 ((σ.1 4 0 7) + (1 : Int32))) (fun s1 => zg (zin (s1.1 4 0 7) 401) (zb (zwI s1 4 0 8 (s1.1 39 0 (s1.1 4 0 7).toNatClampNeg)) (fun s2 => zg (zin (s2.1 4 0 7) 401) (zb (zwI s2 4 0 9 (s2.1 40 0 (s2.1 4 0 7).toNatClampNeg)) (fun s3 => some s3))))) else some σ else some σ
set_option maxRecDepth 100000 in
set_option maxHeartbeats 4000000 in
theorem c_X4_advance (l : Launch)  (σ : zG) (q : zG) (hq : f_X4_advance σ = some q) : zMet l zsyC m_X4_advance yX4_advance [zR 4 0] σ none q := by
  refine zEnter [(0, zR 4 0)] (by decide) rfl (fun _ => Nat.le_of_ble_eq_true rfl) (fun _ => rfl) (fun w h => ?_) (fun K hv hs => ?_)
  · exact zokm rfl h
  · have hP : ∀ s, f_X4_advance σ = some s → zKv K = none ∧ zKs K = s := fun s h => by rw [hq] at h; cases h; exact ⟨hv, hs⟩
    have hn : f_X4_advance σ ≠ none := fun z => by rw [hq] at z; cases z
    have hf := f_X4_advance.eq_1 σ
    refine z_aload_n (pc := 0) 0 (zdg D_X4_advance 0 (0, .aload_n 0, 1) rfl) rfl rfl ?_
    refine z_getI (pc := 1) lf_X4_41 rfl rfl (zdg D_X4_advance 1 (1, .getfield 41, 3) rfl) ?_
    refine z_aload_n (pc := 4) 0 (zdg D_X4_advance 2 (4, .aload_n 0, 1) rfl) rfl rfl ?_
    refine z_getR (pc := 5) (g := 3) (j := 0) lf_X4_29 rfl rfl rfl (zdg D_X4_advance 3 (5, .getfield 29, 3) rfl) ?_
    refine z_getI (pc := 8) lf_X4_47 rfl rfl (zdg D_X4_advance 4 (8, .getfield 47, 3) rfl) ?_
    refine z_iconst (pc := 11) (v := 1) (zdg D_X4_advance 5 (11, .iconst 1, 1) rfl) rfl ?_
    refine z_isub (pc := 12) (zdg D_X4_advance 6 (12, .isub, 1) rfl) ?_
    refine z_icmp_ge (pc := 13) 68 (zdg D_X4_advance 7 (13, .if_icmp .ge 55, 3) rfl) rfl hf (fun hf => ?_) (fun hf => ?_)
    · exact z_vret (pc := 68) rfl (zdg D_X4_advance 34 (68, .return_, 1) rfl) (hP _ hf)
    · refine z_aload_n (pc := 16) 0 (zdg D_X4_advance 8 (16, .aload_n 0, 1) rfl) rfl rfl ?_
      refine z_getI (pc := 17) lf_X4_41 rfl rfl (zdg D_X4_advance 9 (17, .getfield 41, 3) rfl) ?_
      refine z_sipush (pc := 20) (v := 400) (zdg D_X4_advance 10 (20, .sipush 400, 3) rfl) rfl ?_
      refine z_icmp_ge (pc := 23) 68 (zdg D_X4_advance 11 (23, .if_icmp .ge 45, 3) rfl) rfl hf (fun hf => ?_) (fun hf => ?_)
      · exact z_vret (pc := 68) rfl (zdg D_X4_advance 34 (68, .return_, 1) rfl) (hP _ hf)
      · refine z_aload_n (pc := 26) 0 (zdg D_X4_advance 12 (26, .aload_n 0, 1) rfl) rfl rfl ?_
        refine z_dup (pc := 27) rfl (zdg D_X4_advance 13 (27, .dup, 1) rfl) ?_
        refine z_getI (pc := 28) lf_X4_41 rfl rfl (zdg D_X4_advance 14 (28, .getfield 41, 3) rfl) ?_
        refine z_iconst (pc := 31) (v := 1) (zdg D_X4_advance 15 (31, .iconst 1, 1) rfl) rfl ?_
        refine z_iadd (pc := 32) (zdg D_X4_advance 16 (32, .iadd, 1) rfl) ?_
        refine z_putI (pc := 33) lw_X4_41 rfl rfl rfl rfl (zdg D_X4_advance 17 (33, .putfield 41, 3) rfl) ?_
        refine z_nmS hf (fun s1 hf => ?_)
        refine z_aload_n (pc := 36) 0 (zdg D_X4_advance 18 (36, .aload_n 0, 1) rfl) rfl rfl ?_
        refine z_aload_n (pc := 37) 0 (zdg D_X4_advance 19 (37, .aload_n 0, 1) rfl) rfl rfl ?_
        refine z_getR (pc := 38) (g := 3) (j := 0) lf_X4_29 rfl rfl rfl (zdg D_X4_advance 20 (38, .getfield 29, 3) rfl) ?_
        refine z_getR (pc := 41) (g := 39) (j := 0) lf_X4_50 rfl rfl rfl (zdg D_X4_advance 21 (41, .getfield 50, 3) rfl) ?_
        refine z_aload_n (pc := 44) 0 (zdg D_X4_advance 22 (44, .aload_n 0, 1) rfl) rfl rfl ?_
        refine z_getI (pc := 45) lf_X4_41 rfl rfl (zdg D_X4_advance 23 (45, .getfield 41, 3) rfl) ?_
        refine z_iald (pc := 48) rfl (fun _ => rfl) (zdg D_X4_advance 24 (48, .iaload, 1) rfl) hn hf (fun hf => ?_)
        refine z_putI (pc := 49) lw_X4_54 rfl rfl rfl rfl (zdg D_X4_advance 25 (49, .putfield 54, 3) rfl) ?_
        refine z_nmS hf (fun s2 hf => ?_)
        refine z_aload_n (pc := 52) 0 (zdg D_X4_advance 26 (52, .aload_n 0, 1) rfl) rfl rfl ?_
        refine z_aload_n (pc := 53) 0 (zdg D_X4_advance 27 (53, .aload_n 0, 1) rfl) rfl rfl ?_
        refine z_getR (pc := 54) (g := 3) (j := 0) lf_X4_29 rfl rfl rfl (zdg D_X4_advance 28 (54, .getfield 29, 3) rfl) ?_
        refine z_getR (pc := 57) (g := 40) (j := 0) lf_X4_57 rfl rfl rfl (zdg D_X4_advance 29 (57, .getfield 57, 3) rfl) ?_
        refine z_aload_n (pc := 60) 0 (zdg D_X4_advance 30 (60, .aload_n 0, 1) rfl) rfl rfl ?_
        refine z_getI (pc := 61) lf_X4_41 rfl rfl (zdg D_X4_advance 31 (61, .getfield 41, 3) rfl) ?_
        refine z_iald (pc := 64) rfl (fun _ => rfl) (zdg D_X4_advance 32 (64, .iaload, 1) rfl) hn hf (fun hf => ?_)
        refine z_putI (pc := 65) lw_X4_60 rfl rfl rfl rfl (zdg D_X4_advance 33 (65, .putfield 60, 3) rfl) ?_
        refine z_nmS hf (fun s3 hf => ?_)
        exact z_vret (pc := 68) rfl (zdg D_X4_advance 34 (68, .return_, 1) rfl) (hP _ hf)

def L_X4_start : List (Nat × Instr × Nat) := [(0, .aload_n 0, 1), (1, .iconst 0, 1), (2, .putfield 33, 3), (5, .aload_n 0, 1), (6, .iconst (-1), 1), (7, .putfield 25, 3), (10, .aload_n 0, 1), (11, .getfield 29, 3), (14, .invokevirtual 36, 3), (17, .aload_n 0, 1), (18, .iconst (-1), 1), (19, .putfield 41, 3), (22, .aload_n 0, 1), (23, .invokevirtual 44, 3), (26, .return_, 1)]
set_option maxRecDepth 100000 in
theorem D_X4_start : zdecs cX4_start L_X4_start = true := by decide +kernel
noncomputable def f_X4_start (σ : zG) : Option (zG) :=
  zb (zwI σ 4 0 3 (0 : Int32)) (fun s1 => zb (zwI s1 4 0 4 (-1 : Int32)) (fun s2 => (f_X8_tokenize s2).bind (fun q3 => zb (zwI q3 4 0 7 (-1 : Int32)) (fun s4 => (f_X4_advance s4).bind (fun q5 => some q5)))))
set_option maxRecDepth 100000 in
set_option maxHeartbeats 4000000 in
theorem c_X4_start (l : Launch)  (σ : zG) (q : zG) (hq : f_X4_start σ = some q) : zMet l zsyC m_X4_start yX4_start [zR 4 0] σ none q := by
  refine zEnter [(0, zR 4 0)] (by decide) rfl (fun _ => Nat.le_of_ble_eq_true rfl) (fun _ => rfl) (fun w h => ?_) (fun K hv hs => ?_)
  · exact zokm rfl h
  · have hP : ∀ s, f_X4_start σ = some s → zKv K = none ∧ zKs K = s := fun s h => by rw [hq] at h; cases h; exact ⟨hv, hs⟩
    have hn : f_X4_start σ ≠ none := fun z => by rw [hq] at z; cases z
    have hf := f_X4_start.eq_1 σ
    refine z_aload_n (pc := 0) 0 (zdg D_X4_start 0 (0, .aload_n 0, 1) rfl) rfl rfl ?_
    refine z_iconst (pc := 1) (v := 0) (zdg D_X4_start 1 (1, .iconst 0, 1) rfl) rfl ?_
    refine z_putI (pc := 2) lw_X4_33 rfl rfl rfl rfl (zdg D_X4_start 2 (2, .putfield 33, 3) rfl) ?_
    refine z_nmS hf (fun s1 hf => ?_)
    refine z_aload_n (pc := 5) 0 (zdg D_X4_start 3 (5, .aload_n 0, 1) rfl) rfl rfl ?_
    refine z_iconst (pc := 6) (v := -1) (zdg D_X4_start 4 (6, .iconst (-1), 1) rfl) rfl ?_
    refine z_putI (pc := 7) lw_X4_25 rfl rfl rfl rfl (zdg D_X4_start 5 (7, .putfield 25, 3) rfl) ?_
    refine z_nmS hf (fun s2 hf => ?_)
    refine z_aload_n (pc := 10) 0 (zdg D_X4_start 6 (10, .aload_n 0, 1) rfl) rfl rfl ?_
    refine z_getR (pc := 11) (g := 3) (j := 0) lf_X4_29 rfl rfl rfl (zdg D_X4_start 7 (11, .getfield 29, 3) rfl) ?_
    refine z_bind hn hf (fun q3 hq hf => ?_)
    refine z_callV (pc := 14) (rest := []) (st2 := []) (fun l => c_X8_tokenize l s2 q3 hq) zv_X8_tokenize lm_X4_36 rfl rfl rfl rfl rfl rfl (Nat.le_of_ble_eq_true rfl) ⟨Nat.le_of_ble_eq_true rfl, Nat.le_of_ble_eq_true rfl⟩ (zdg D_X4_start 8 (14, .invokevirtual 36, 3) rfl) ?_
    refine z_aload_n (pc := 17) 0 (zdg D_X4_start 9 (17, .aload_n 0, 1) rfl) rfl rfl ?_
    refine z_iconst (pc := 18) (v := -1) (zdg D_X4_start 10 (18, .iconst (-1), 1) rfl) rfl ?_
    refine z_putI (pc := 19) lw_X4_41 rfl rfl rfl rfl (zdg D_X4_start 11 (19, .putfield 41, 3) rfl) ?_
    refine z_nmS hf (fun s4 hf => ?_)
    refine z_aload_n (pc := 22) 0 (zdg D_X4_start 12 (22, .aload_n 0, 1) rfl) rfl rfl ?_
    refine z_bind hn hf (fun q5 hq hf => ?_)
    refine z_callV (pc := 23) (rest := []) (st2 := []) (fun l => c_X4_advance l s4 q5 hq) zv_X4_advance lm_X4_44 rfl rfl rfl rfl rfl rfl (Nat.le_of_ble_eq_true rfl) ⟨Nat.le_of_ble_eq_true rfl, Nat.le_of_ble_eq_true rfl⟩ (zdg D_X4_start 13 (23, .invokevirtual 44, 3) rfl) ?_
    exact z_vret (pc := 26) rfl (zdg D_X4_start 14 (26, .return_, 1) rfl) (hP _ hf)

def L_X4_fail : List (Nat × Instr × Nat) := [(0, .aload_n 0, 1), (1, .iload_n 1, 1), (2, .putfield 33, 3), (5, .aload_n 0, 1), (6, .aload_n 0, 1), (7, .getfield 41, 3), (10, .ifCond .lt 28, 3), (13, .aload_n 0, 1), (14, .getfield 41, 3), (17, .sipush 400, 3), (20, .if_icmp .gt 18, 3), (23, .aload_n 0, 1), (24, .getfield 29, 3), (27, .getfield 151, 3), (30, .aload_n 0, 1), (31, .getfield 41, 3), (34, .iaload, 1), (35, .goto 4, 3), (38, .iconst (-1), 1), (39, .putfield 25, 3), (42, .iconst 0, 1), (43, .ireturn, 1)]
set_option maxRecDepth 100000 in
theorem D_X4_fail : zdecs cX4_fail L_X4_fail = true := by decide +kernel
noncomputable def f_X4_fail (p1 : Int32) (σ : zG) : Option (Int32 × zG) :=
  zb (zwI σ 4 0 3 p1) (fun s1 => if 0 ≤ (s1.1 4 0 7) then if (s1.1 4 0 7) ≤ (400 : Int32) then zg (zin (s1.1 4 0 7) 401) (zb (zwI s1 4 0 4 (s1.1 41 0 (s1.1 4 0 7).toNatClampNeg)) (fun s4 => some ((0 : Int32), s4))) else zb (zwI s1 4 0 4 (-1 : Int32)) (fun s3 => some ((0 : Int32), s3)) else zb (zwI s1 4 0 4 (-1 : Int32)) (fun s2 => some ((0 : Int32), s2)))
set_option maxRecDepth 100000 in
set_option maxHeartbeats 4000000 in
theorem c_X4_fail (l : Launch) (p1 : Int32) (σ : zG) (q : Int32 × zG) (hq : f_X4_fail p1 σ = some q) : zMet l zsyC m_X4_fail yX4_fail [zR 4 0, zI p1] σ (some (zI q.1)) q.2 := by
  refine zEnter [(0, zR 4 0), (1, zI p1)] (by decide) rfl (fun _ => Nat.le_of_ble_eq_true rfl) (fun _ => rfl) (fun w h => ?_) (fun K hv hs => ?_)
  · exact zokm rfl h
  · have hP : ∀ x s, f_X4_fail p1 σ = some (x, s) → zKv K = some (zI x) ∧ zKs K = s := fun x s h => by rw [hq] at h; cases h; exact ⟨hv, hs⟩
    have hn : f_X4_fail p1 σ ≠ none := fun z => by rw [hq] at z; cases z
    have hf := f_X4_fail.eq_1 p1 σ
    refine z_aload_n (pc := 0) 0 (zdg D_X4_fail 0 (0, .aload_n 0, 1) rfl) rfl rfl ?_
    refine z_iload_n (pc := 1) 1 (zdg D_X4_fail 1 (1, .iload_n 1, 1) rfl) rfl rfl ?_
    refine z_putI (pc := 2) lw_X4_33 rfl rfl rfl rfl (zdg D_X4_fail 2 (2, .putfield 33, 3) rfl) ?_
    refine z_nmS hf (fun s1 hf => ?_)
    refine z_aload_n (pc := 5) 0 (zdg D_X4_fail 3 (5, .aload_n 0, 1) rfl) rfl rfl ?_
    refine z_aload_n (pc := 6) 0 (zdg D_X4_fail 4 (6, .aload_n 0, 1) rfl) rfl rfl ?_
    refine z_getI (pc := 7) lf_X4_41 rfl rfl (zdg D_X4_fail 5 (7, .getfield 41, 3) rfl) ?_
    refine z_if_lt (pc := 10) 38 (zdg D_X4_fail 6 (10, .ifCond .lt 28, 3) rfl) rfl hf (fun hf => ?_) (fun hf => ?_)
    · refine z_iconst (pc := 38) (v := -1) (zdg D_X4_fail 18 (38, .iconst (-1), 1) rfl) rfl ?_
      refine z_putI (pc := 39) lw_X4_25 rfl rfl rfl rfl (zdg D_X4_fail 19 (39, .putfield 25, 3) rfl) ?_
      refine z_nmS hf (fun s2 hf => ?_)
      refine z_iconst (pc := 42) (v := 0) (zdg D_X4_fail 20 (42, .iconst 0, 1) rfl) rfl ?_
      exact z_iret (pc := 43) rfl rfl (zdg D_X4_fail 21 (43, .ireturn, 1) rfl) (hP _ _ hf)
    · refine z_aload_n (pc := 13) 0 (zdg D_X4_fail 7 (13, .aload_n 0, 1) rfl) rfl rfl ?_
      refine z_getI (pc := 14) lf_X4_41 rfl rfl (zdg D_X4_fail 8 (14, .getfield 41, 3) rfl) ?_
      refine z_sipush (pc := 17) (v := 400) (zdg D_X4_fail 9 (17, .sipush 400, 3) rfl) rfl ?_
      refine z_icmp_gt (pc := 20) 38 (zdg D_X4_fail 10 (20, .if_icmp .gt 18, 3) rfl) rfl hf (fun hf => ?_) (fun hf => ?_)
      · refine z_iconst (pc := 38) (v := -1) (zdg D_X4_fail 18 (38, .iconst (-1), 1) rfl) rfl ?_
        refine z_putI (pc := 39) lw_X4_25 rfl rfl rfl rfl (zdg D_X4_fail 19 (39, .putfield 25, 3) rfl) ?_
        refine z_nmS hf (fun s3 hf => ?_)
        refine z_iconst (pc := 42) (v := 0) (zdg D_X4_fail 20 (42, .iconst 0, 1) rfl) rfl ?_
        exact z_iret (pc := 43) rfl rfl (zdg D_X4_fail 21 (43, .ireturn, 1) rfl) (hP _ _ hf)
      · refine z_aload_n (pc := 23) 0 (zdg D_X4_fail 11 (23, .aload_n 0, 1) rfl) rfl rfl ?_
        refine z_getR (pc := 24) (g := 3) (j := 0) lf_X4_29 rfl rfl rfl (zdg D_X4_fail 12 (24, .getfield 29, 3) rfl) ?_
        refine z_getR (pc := 27) (g := 41) (j := 0) lf_X4_151 rfl rfl rfl (zdg D_X4_fail 13 (27, .getfield 151, 3) rfl) ?_
        refine z_aload_n (pc := 30) 0 (zdg D_X4_fail 14 (30, .aload_n 0, 1) rfl) rfl rfl ?_
        refine z_getI (pc := 31) lf_X4_41 rfl rfl (zdg D_X4_fail 15 (31, .getfield 41, 3) rfl) ?_
        refine z_iald (pc := 34) rfl (fun _ => rfl) (zdg D_X4_fail 16 (34, .iaload, 1) rfl) hn hf (fun hf => ?_)
        refine z_goto (pc := 35) 39 (zdg D_X4_fail 17 (35, .goto 4, 3) rfl) rfl ?_
        refine z_putI (pc := 39) lw_X4_25 rfl rfl rfl rfl (zdg D_X4_fail 19 (39, .putfield 25, 3) rfl) ?_
        refine z_nmS hf (fun s4 hf => ?_)
        refine z_iconst (pc := 42) (v := 0) (zdg D_X4_fail 20 (42, .iconst 0, 1) rfl) rfl ?_
        exact z_iret (pc := 43) rfl rfl (zdg D_X4_fail 21 (43, .ireturn, 1) rfl) (hP _ _ hf)

def L_X4_readNumber : List (Nat × Instr × Nat) := [(0, .aload_n 0, 1), (1, .getfield 60, 3), (4, .istore_n 3, 1), (5, .aload_n 0, 1), (6, .getfield 54, 3), (9, .iconst 2, 1), (10, .if_icmp .eq 11, 3), (13, .aload_n 0, 1), (14, .iconst 1, 1), (15, .invokevirtual 70, 3), (18, .pop, 1), (19, .iconst (-1), 1), (20, .ireturn, 1), (21, .iload_n 3, 1), (22, .iload_n 1, 1), (23, .if_icmp .lt 8, 3), (26, .iload_n 3, 1), (27, .iload_n 2, 1), (28, .if_icmp .le 11, 3), (31, .aload_n 0, 1), (32, .iconst 2, 1), (33, .invokevirtual 70, 3), (36, .pop, 1), (37, .iconst (-1), 1), (38, .ireturn, 1), (39, .aload_n 0, 1), (40, .invokevirtual 44, 3), (43, .iload_n 3, 1), (44, .ireturn, 1)]
set_option maxRecDepth 100000 in
theorem D_X4_readNumber : zdecs cX4_readNumber L_X4_readNumber = true := by decide +kernel
noncomputable def f_X4_readNumber (p1 : Int32) (p2 : Int32) (σ : zG) : Option (Int32 × zG) :=
  if (σ.1 4 0 8) = (2 : Int32) then if p1 ≤ (σ.1 4 0 9) then if p2 < (σ.1 4 0 9) then (f_X4_fail (2 : Int32) σ).bind (fun q3 => some ((-1 : Int32), q3.2)) else (f_X4_advance σ).bind (fun q2 => some ((σ.1 4 0 9), q2)) else (f_X4_fail (2 : Int32) σ).bind (fun q1 => some ((-1 : Int32), q1.2)) else (f_X4_fail (1 : Int32) σ).bind (fun q4 => some ((-1 : Int32), q4.2))
set_option maxRecDepth 100000 in
set_option maxHeartbeats 4000000 in
theorem c_X4_readNumber (l : Launch) (p1 : Int32) (p2 : Int32) (σ : zG) (q : Int32 × zG) (hq : f_X4_readNumber p1 p2 σ = some q) : zMet l zsyC m_X4_readNumber yX4_readNumber [zR 4 0, zI p1, zI p2] σ (some (zI q.1)) q.2 := by
  refine zEnter [(0, zR 4 0), (1, zI p1), (2, zI p2)] (by decide) rfl (fun _ => Nat.le_of_ble_eq_true rfl) (fun _ => rfl) (fun w h => ?_) (fun K hv hs => ?_)
  · exact zokm rfl h
  · have hP : ∀ x s, f_X4_readNumber p1 p2 σ = some (x, s) → zKv K = some (zI x) ∧ zKs K = s := fun x s h => by rw [hq] at h; cases h; exact ⟨hv, hs⟩
    have hn : f_X4_readNumber p1 p2 σ ≠ none := fun z => by rw [hq] at z; cases z
    have hf := f_X4_readNumber.eq_1 p1 p2 σ
    refine z_aload_n (pc := 0) 0 (zdg D_X4_readNumber 0 (0, .aload_n 0, 1) rfl) rfl rfl ?_
    refine z_getI (pc := 1) lf_X4_60 rfl rfl (zdg D_X4_readNumber 1 (1, .getfield 60, 3) rfl) ?_
    refine z_istore_n (pc := 4) (al' := [(3, zI (σ.1 4 0 9)), (0, zR 4 0), (1, zI p1), (2, zI p2)]) (zdg D_X4_readNumber 2 (4, .istore_n 3, 1) rfl) rfl (by decide) rfl ?_
    refine z_aload_n (pc := 5) 1 (zdg D_X4_readNumber 3 (5, .aload_n 0, 1) rfl) rfl rfl ?_
    refine z_getI (pc := 6) lf_X4_54 rfl rfl (zdg D_X4_readNumber 4 (6, .getfield 54, 3) rfl) ?_
    refine z_iconst (pc := 9) (v := 2) (zdg D_X4_readNumber 5 (9, .iconst 2, 1) rfl) rfl ?_
    refine z_icmp_eq (pc := 10) 21 (zdg D_X4_readNumber 6 (10, .if_icmp .eq 11, 3) rfl) rfl hf (fun hf => ?_) (fun hf => ?_)
    · refine z_iload_n (pc := 21) 0 (zdg D_X4_readNumber 13 (21, .iload_n 3, 1) rfl) rfl rfl ?_
      refine z_iload_n (pc := 22) 2 (zdg D_X4_readNumber 14 (22, .iload_n 1, 1) rfl) rfl rfl ?_
      refine z_icmp_lt (pc := 23) 31 (zdg D_X4_readNumber 15 (23, .if_icmp .lt 8, 3) rfl) rfl hf (fun hf => ?_) (fun hf => ?_)
      · refine z_aload_n (pc := 31) 1 (zdg D_X4_readNumber 19 (31, .aload_n 0, 1) rfl) rfl rfl ?_
        refine z_iconst (pc := 32) (v := 2) (zdg D_X4_readNumber 20 (32, .iconst 2, 1) rfl) rfl ?_
        refine z_bind hn hf (fun q1 hq hf => ?_)
        refine z_callV (pc := 33) (rest := []) (st2 := [zI q1.1]) (fun l => c_X4_fail l (2 : Int32) σ q1 hq) zv_X4_fail lm_X4_70 rfl rfl rfl rfl rfl rfl (Nat.le_of_ble_eq_true rfl) ⟨Nat.le_of_ble_eq_true rfl, Nat.le_of_ble_eq_true rfl⟩ (zdg D_X4_readNumber 21 (33, .invokevirtual 70, 3) rfl) ?_
        refine z_pop (pc := 36) rfl (zdg D_X4_readNumber 22 (36, .pop, 1) rfl) ?_
        refine z_iconst (pc := 37) (v := -1) (zdg D_X4_readNumber 23 (37, .iconst (-1), 1) rfl) rfl ?_
        exact z_iret (pc := 38) rfl rfl (zdg D_X4_readNumber 24 (38, .ireturn, 1) rfl) (hP _ _ hf)
      · refine z_iload_n (pc := 26) 0 (zdg D_X4_readNumber 16 (26, .iload_n 3, 1) rfl) rfl rfl ?_
        refine z_iload_n (pc := 27) 3 (zdg D_X4_readNumber 17 (27, .iload_n 2, 1) rfl) rfl rfl ?_
        refine z_icmp_le (pc := 28) 39 (zdg D_X4_readNumber 18 (28, .if_icmp .le 11, 3) rfl) rfl hf (fun hf => ?_) (fun hf => ?_)
        · refine z_aload_n (pc := 39) 1 (zdg D_X4_readNumber 25 (39, .aload_n 0, 1) rfl) rfl rfl ?_
          refine z_bind hn hf (fun q2 hq hf => ?_)
          refine z_callV (pc := 40) (rest := []) (st2 := []) (fun l => c_X4_advance l σ q2 hq) zv_X4_advance lm_X4_44 rfl rfl rfl rfl rfl rfl (Nat.le_of_ble_eq_true rfl) ⟨Nat.le_of_ble_eq_true rfl, Nat.le_of_ble_eq_true rfl⟩ (zdg D_X4_readNumber 26 (40, .invokevirtual 44, 3) rfl) ?_
          refine z_iload_n (pc := 43) 0 (zdg D_X4_readNumber 27 (43, .iload_n 3, 1) rfl) rfl rfl ?_
          exact z_iret (pc := 44) rfl rfl (zdg D_X4_readNumber 28 (44, .ireturn, 1) rfl) (hP _ _ hf)
        · refine z_aload_n (pc := 31) 1 (zdg D_X4_readNumber 19 (31, .aload_n 0, 1) rfl) rfl rfl ?_
          refine z_iconst (pc := 32) (v := 2) (zdg D_X4_readNumber 20 (32, .iconst 2, 1) rfl) rfl ?_
          refine z_bind hn hf (fun q3 hq hf => ?_)
          refine z_callV (pc := 33) (rest := []) (st2 := [zI q3.1]) (fun l => c_X4_fail l (2 : Int32) σ q3 hq) zv_X4_fail lm_X4_70 rfl rfl rfl rfl rfl rfl (Nat.le_of_ble_eq_true rfl) ⟨Nat.le_of_ble_eq_true rfl, Nat.le_of_ble_eq_true rfl⟩ (zdg D_X4_readNumber 21 (33, .invokevirtual 70, 3) rfl) ?_
          refine z_pop (pc := 36) rfl (zdg D_X4_readNumber 22 (36, .pop, 1) rfl) ?_
          refine z_iconst (pc := 37) (v := -1) (zdg D_X4_readNumber 23 (37, .iconst (-1), 1) rfl) rfl ?_
          exact z_iret (pc := 38) rfl rfl (zdg D_X4_readNumber 24 (38, .ireturn, 1) rfl) (hP _ _ hf)
    · refine z_aload_n (pc := 13) 1 (zdg D_X4_readNumber 7 (13, .aload_n 0, 1) rfl) rfl rfl ?_
      refine z_iconst (pc := 14) (v := 1) (zdg D_X4_readNumber 8 (14, .iconst 1, 1) rfl) rfl ?_
      refine z_bind hn hf (fun q4 hq hf => ?_)
      refine z_callV (pc := 15) (rest := []) (st2 := [zI q4.1]) (fun l => c_X4_fail l (1 : Int32) σ q4 hq) zv_X4_fail lm_X4_70 rfl rfl rfl rfl rfl rfl (Nat.le_of_ble_eq_true rfl) ⟨Nat.le_of_ble_eq_true rfl, Nat.le_of_ble_eq_true rfl⟩ (zdg D_X4_readNumber 9 (15, .invokevirtual 70, 3) rfl) ?_
      refine z_pop (pc := 18) rfl (zdg D_X4_readNumber 10 (18, .pop, 1) rfl) ?_
      refine z_iconst (pc := 19) (v := -1) (zdg D_X4_readNumber 11 (19, .iconst (-1), 1) rfl) rfl ?_
      exact z_iret (pc := 20) rfl rfl (zdg D_X4_readNumber 12 (20, .ireturn, 1) rfl) (hP _ _ hf)

def L_X4_pass : List (Nat × Instr × Nat) := [(0, .aload_n 0, 1), (1, .getfield 54, 3), (4, .iload_n 1, 1), (5, .if_icmp .eq 9, 3), (8, .aload_n 0, 1), (9, .iconst 1, 1), (10, .invokevirtual 70, 3), (13, .ireturn, 1), (14, .aload_n 0, 1), (15, .invokevirtual 44, 3), (18, .iconst 1, 1), (19, .ireturn, 1)]
set_option maxRecDepth 100000 in
theorem D_X4_pass : zdecs cX4_pass L_X4_pass = true := by decide +kernel
noncomputable def f_X4_pass (p1 : Int32) (σ : zG) : Option (Int32 × zG) :=
  if (σ.1 4 0 8) = p1 then (f_X4_advance σ).bind (fun q1 => some ((1 : Int32), q1)) else (f_X4_fail (1 : Int32) σ).bind (fun q2 => zg (zbl q2.1) (some (q2.1, q2.2)))
set_option maxRecDepth 100000 in
set_option maxHeartbeats 4000000 in
theorem c_X4_pass (l : Launch) (p1 : Int32) (σ : zG) (q : Int32 × zG) (hq : f_X4_pass p1 σ = some q) : zMet l zsyC m_X4_pass yX4_pass [zR 4 0, zI p1] σ (some (zI q.1)) q.2 := by
  refine zEnter [(0, zR 4 0), (1, zI p1)] (by decide) rfl (fun _ => Nat.le_of_ble_eq_true rfl) (fun _ => rfl) (fun w h => ?_) (fun K hv hs => ?_)
  · exact zokm rfl h
  · have hP : ∀ x s, f_X4_pass p1 σ = some (x, s) → zKv K = some (zI x) ∧ zKs K = s := fun x s h => by rw [hq] at h; cases h; exact ⟨hv, hs⟩
    have hn : f_X4_pass p1 σ ≠ none := fun z => by rw [hq] at z; cases z
    have hf := f_X4_pass.eq_1 p1 σ
    refine z_aload_n (pc := 0) 0 (zdg D_X4_pass 0 (0, .aload_n 0, 1) rfl) rfl rfl ?_
    refine z_getI (pc := 1) lf_X4_54 rfl rfl (zdg D_X4_pass 1 (1, .getfield 54, 3) rfl) ?_
    refine z_iload_n (pc := 4) 1 (zdg D_X4_pass 2 (4, .iload_n 1, 1) rfl) rfl rfl ?_
    refine z_icmp_eq (pc := 5) 14 (zdg D_X4_pass 3 (5, .if_icmp .eq 9, 3) rfl) rfl hf (fun hf => ?_) (fun hf => ?_)
    · refine z_aload_n (pc := 14) 0 (zdg D_X4_pass 8 (14, .aload_n 0, 1) rfl) rfl rfl ?_
      refine z_bind hn hf (fun q1 hq hf => ?_)
      refine z_callV (pc := 15) (rest := []) (st2 := []) (fun l => c_X4_advance l σ q1 hq) zv_X4_advance lm_X4_44 rfl rfl rfl rfl rfl rfl (Nat.le_of_ble_eq_true rfl) ⟨Nat.le_of_ble_eq_true rfl, Nat.le_of_ble_eq_true rfl⟩ (zdg D_X4_pass 9 (15, .invokevirtual 44, 3) rfl) ?_
      refine z_iconst (pc := 18) (v := 1) (zdg D_X4_pass 10 (18, .iconst 1, 1) rfl) rfl ?_
      exact z_iret (pc := 19) rfl rfl (zdg D_X4_pass 11 (19, .ireturn, 1) rfl) (hP _ _ hf)
    · refine z_aload_n (pc := 8) 0 (zdg D_X4_pass 4 (8, .aload_n 0, 1) rfl) rfl rfl ?_
      refine z_iconst (pc := 9) (v := 1) (zdg D_X4_pass 5 (9, .iconst 1, 1) rfl) rfl ?_
      refine z_bind hn hf (fun q2 hq hf => ?_)
      refine z_callV (pc := 10) (rest := []) (st2 := [zI q2.1]) (fun l => c_X4_fail l (1 : Int32) σ q2 hq) zv_X4_fail lm_X4_70 rfl rfl rfl rfl rfl rfl (Nat.le_of_ble_eq_true rfl) ⟨Nat.le_of_ble_eq_true rfl, Nat.le_of_ble_eq_true rfl⟩ (zdg D_X4_pass 6 (10, .invokevirtual 70, 3) rfl) ?_
      exact z_zret (pc := 13) rfl (zdg D_X4_pass 7 (13, .ireturn, 1) rfl) hn hf (fun hf => (hP _ _ hf))

def L_X4_readSpot : List (Nat × Instr × Nat) := [(0, .aload_n 0, 1), (1, .getfield 60, 3), (4, .bipush 8, 2), (6, .irem, 1), (7, .iload_n 1, 1), (8, .if_icmp .ge 18, 3), (11, .aload_n 0, 1), (12, .getfield 60, 3), (15, .bipush 8, 2), (17, .idiv, 1), (18, .iload_n 2, 1), (19, .if_icmp .ge 7, 3), (22, .iconst 1, 1), (23, .goto 4, 3), (26, .iconst 0, 1), (27, .istore_n 3, 1), (28, .aload_n 0, 1), (29, .iconst 0, 1), (30, .iload_n 3, 1), (31, .ifCond .eq 9, 3), (34, .sipush 9999, 3), (37, .goto 4, 3), (40, .iconst (-1), 1), (41, .invokevirtual 80, 3), (44, .ireturn, 1)]
set_option maxRecDepth 100000 in
theorem D_X4_readSpot : zdecs cX4_readSpot L_X4_readSpot = true := by decide +kernel
noncomputable def j_X4_readSpot_27 (t2 : Int32) (s3 : zG) : Option (Int32 × zG) :=
  if t2 = 0 then (f_X4_readNumber (0 : Int32) (-1 : Int32) s3).bind (fun q4 => some (q4.1, q4.2)) else (f_X4_readNumber (0 : Int32) (9999 : Int32) s3).bind (fun q5 => some (q5.1, q5.2))
noncomputable def j_X4_readSpot_26 (s1 : zG) : Option (Int32 × zG) :=
  j_X4_readSpot_27 (0 : Int32) s1
noncomputable def f_X4_readSpot (p1 : Int32) (p2 : Int32) (σ : zG) : Option (Int32 × zG) :=
  if (zrem (σ.1 4 0 9) (8 : Int32)) < p1 then if ((σ.1 4 0 9) / (8 : Int32)) < p2 then j_X4_readSpot_27 (1 : Int32) σ else j_X4_readSpot_26 σ else j_X4_readSpot_26 σ
set_option maxRecDepth 100000 in
set_option maxHeartbeats 4000000 in
theorem c_X4_readSpot (l : Launch) (p1 : Int32) (p2 : Int32) (σ : zG) (q : Int32 × zG) (hq : f_X4_readSpot p1 p2 σ = some q) : zMet l zsyC m_X4_readSpot yX4_readSpot [zR 4 0, zI p1, zI p2] σ (some (zI q.1)) q.2 := by
  refine zEnter [(0, zR 4 0), (1, zI p1), (2, zI p2)] (by decide) rfl (fun _ => Nat.le_of_ble_eq_true rfl) (fun _ => rfl) (fun w h => ?_) (fun K hv hs => ?_)
  · exact zokm rfl h
  · have hP : ∀ x s, f_X4_readSpot p1 p2 σ = some (x, s) → zKv K = some (zI x) ∧ zKs K = s := fun x s h => by rw [hq] at h; cases h; exact ⟨hv, hs⟩
    have hn : f_X4_readSpot p1 p2 σ ≠ none := fun z => by rw [hq] at z; cases z
    have hf := f_X4_readSpot.eq_1 p1 p2 σ
    have t_27 : ∀ (t2 : Int32) (s3 : zG), f_X4_readSpot p1 p2 σ = j_X4_readSpot_27 t2 s3 → zX zsyC m_X4_readSpot K 27 [(0, zR 4 0)] [zI t2] s3 := by
      intro t2 s3 hf
      replace hf := hf.trans (j_X4_readSpot_27.eq_1 t2 s3)
      refine z_istore_n (pc := 27) (al' := [(3, zI t2), (0, zR 4 0)]) (zdg D_X4_readSpot 15 (27, .istore_n 3, 1) rfl) rfl (by decide) rfl ?_
      refine z_aload_n (pc := 28) 1 (zdg D_X4_readSpot 16 (28, .aload_n 0, 1) rfl) rfl rfl ?_
      refine z_iconst (pc := 29) (v := 0) (zdg D_X4_readSpot 17 (29, .iconst 0, 1) rfl) rfl ?_
      refine z_iload_n (pc := 30) 0 (zdg D_X4_readSpot 18 (30, .iload_n 3, 1) rfl) rfl rfl ?_
      refine z_if_eq (pc := 31) 40 (zdg D_X4_readSpot 19 (31, .ifCond .eq 9, 3) rfl) rfl hf (fun hf => ?_) (fun hf => ?_)
      · refine z_iconst (pc := 40) (v := -1) (zdg D_X4_readSpot 22 (40, .iconst (-1), 1) rfl) rfl ?_
        refine z_bind hn hf (fun q4 hq hf => ?_)
        refine z_callV (pc := 41) (rest := []) (st2 := [zI q4.1]) (fun l => c_X4_readNumber l (0 : Int32) (-1 : Int32) s3 q4 hq) zv_X4_readNumber lm_X4_80 rfl rfl rfl rfl rfl rfl (Nat.le_of_ble_eq_true rfl) ⟨Nat.le_of_ble_eq_true rfl, Nat.le_of_ble_eq_true rfl⟩ (zdg D_X4_readSpot 23 (41, .invokevirtual 80, 3) rfl) ?_
        exact z_iret (pc := 44) rfl rfl (zdg D_X4_readSpot 24 (44, .ireturn, 1) rfl) (hP _ _ hf)
      · refine z_sipush (pc := 34) (v := 9999) (zdg D_X4_readSpot 20 (34, .sipush 9999, 3) rfl) rfl ?_
        refine z_goto (pc := 37) 41 (zdg D_X4_readSpot 21 (37, .goto 4, 3) rfl) rfl ?_
        refine z_bind hn hf (fun q5 hq hf => ?_)
        refine z_callV (pc := 41) (rest := []) (st2 := [zI q5.1]) (fun l => c_X4_readNumber l (0 : Int32) (9999 : Int32) s3 q5 hq) zv_X4_readNumber lm_X4_80 rfl rfl rfl rfl rfl rfl (Nat.le_of_ble_eq_true rfl) ⟨Nat.le_of_ble_eq_true rfl, Nat.le_of_ble_eq_true rfl⟩ (zdg D_X4_readSpot 23 (41, .invokevirtual 80, 3) rfl) ?_
        exact z_iret (pc := 44) rfl rfl (zdg D_X4_readSpot 24 (44, .ireturn, 1) rfl) (hP _ _ hf)
    have t_26 : ∀ (s1 : zG), f_X4_readSpot p1 p2 σ = j_X4_readSpot_26 s1 → zX zsyC m_X4_readSpot K 26 [(0, zR 4 0)] [] s1 := by
      intro s1 hf
      replace hf := hf.trans (j_X4_readSpot_26.eq_1 s1)
      refine z_iconst (pc := 26) (v := 0) (zdg D_X4_readSpot 14 (26, .iconst 0, 1) rfl) rfl ?_
      exact t_27 (0 : Int32) s1 hf
    refine z_aload_n (pc := 0) 0 (zdg D_X4_readSpot 0 (0, .aload_n 0, 1) rfl) rfl rfl ?_
    refine z_getI (pc := 1) lf_X4_60 rfl rfl (zdg D_X4_readSpot 1 (1, .getfield 60, 3) rfl) ?_
    refine z_bipush (pc := 4) (v := 8) (zdg D_X4_readSpot 2 (4, .bipush 8, 2) rfl) rfl ?_
    refine z_iremK (pc := 6) (zdg D_X4_readSpot 3 (6, .irem, 1) rfl) rfl ?_
    refine z_iload_n (pc := 7) 1 (zdg D_X4_readSpot 4 (7, .iload_n 1, 1) rfl) rfl rfl ?_
    refine z_icmp_ge (pc := 8) 26 (zdg D_X4_readSpot 5 (8, .if_icmp .ge 18, 3) rfl) rfl hf (fun hf => ?_) (fun hf => ?_)
    · refine z_sub (al' := [(0, zR 4 0)]) [0] rfl ?_
      exact t_26 σ hf
    · refine z_aload_n (pc := 11) 0 (zdg D_X4_readSpot 6 (11, .aload_n 0, 1) rfl) rfl rfl ?_
      refine z_getI (pc := 12) lf_X4_60 rfl rfl (zdg D_X4_readSpot 7 (12, .getfield 60, 3) rfl) ?_
      refine z_bipush (pc := 15) (v := 8) (zdg D_X4_readSpot 8 (15, .bipush 8, 2) rfl) rfl ?_
      refine z_idivK (pc := 17) (zdg D_X4_readSpot 9 (17, .idiv, 1) rfl) rfl ?_
      refine z_iload_n (pc := 18) 2 (zdg D_X4_readSpot 10 (18, .iload_n 2, 1) rfl) rfl rfl ?_
      refine z_icmp_ge (pc := 19) 26 (zdg D_X4_readSpot 11 (19, .if_icmp .ge 7, 3) rfl) rfl hf (fun hf => ?_) (fun hf => ?_)
      · refine z_sub (al' := [(0, zR 4 0)]) [0] rfl ?_
        exact t_26 σ hf
      · refine z_iconst (pc := 22) (v := 1) (zdg D_X4_readSpot 12 (22, .iconst 1, 1) rfl) rfl ?_
        refine z_goto (pc := 23) 27 (zdg D_X4_readSpot 13 (23, .goto 4, 3) rfl) rfl ?_
        refine z_sub (al' := [(0, zR 4 0)]) [0] rfl ?_
        exact t_27 (1 : Int32) σ hf

def L_X10_addPart : List (Nat × Instr × Nat) := [(0, .iload_n 1, 1), (1, .ifCond .lt 59, 3), (4, .iload_n 1, 1), (5, .bipush 12, 2), (7, .if_icmp .ge 53, 3), (10, .aload_n 0, 1), (11, .getfield 21, 3), (14, .iload_n 1, 1), (15, .iaload, 1), (16, .bipush 8, 2), (18, .if_icmp .ge 42, 3), (21, .iload_n 1, 1), (22, .bipush 8, 2), (24, .imul, 1), (25, .aload_n 0, 1), (26, .getfield 21, 3), (29, .iload_n 1, 1), (30, .iaload, 1), (31, .iadd, 1), (32, .istore 4, 2), (34, .aload_n 0, 1), (35, .getfield 24, 3), (38, .iload 4, 2), (40, .iload_n 2, 1), (41, .iastore, 1), (42, .aload_n 0, 1), (43, .getfield 27, 3), (46, .iload 4, 2), (48, .iload_n 3, 1), (49, .iastore, 1), (50, .aload_n 0, 1), (51, .getfield 21, 3), (54, .iload_n 1, 1), (55, .dup2, 1), (56, .iaload, 1), (57, .iconst 1, 1), (58, .iadd, 1), (59, .iastore, 1), (60, .return_, 1)]
set_option maxRecDepth 100000 in
theorem D_X10_addPart : zdecs cX10_addPart L_X10_addPart = true := by decide +kernel
noncomputable def f_X10_addPart (i : Nat) (p1 : Int32) (p2 : Int32) (p3 : Int32) (σ : zG) : Option (zG) :=
  if 0 ≤ p1 then if p1 < (12 : Int32) then zg (zin p1 12) (if (σ.1 18 i p1.toNatClampNeg) < (8 : Int32) then zg (zin p1 12) (zg (zin ((p1 * (8 : Int32)) + (σ.1 18 i p1.toNatClampNeg)) 96) (zb (zwI σ 19 i ((p1 * (8 : Int32)) + (σ.1 18 i p1.toNatClampNeg)).toNatClampNeg p2) (fun s1 => zg (zin ((p1 * (8 : Int32)) + (σ.1 18 i p1.toNatClampNeg)) 96) (zb (zwI s1 20 i ((p1 * (8 : Int32)) + (σ.1 18 i p1.toNatClampNeg)).toNatClampNeg p3) (fun s2 => zg (zin p1 12) (zg (zin p1 12) (zb (zwI s2 18 i p1.toNatClampNeg ((s2.1 18 i p1.toNatClampNeg) + (1 : Int32))) (fun s3 => some s3)))))))) else some σ) else some σ else some σ
set_option maxRecDepth 100000 in
set_option maxHeartbeats 4000000 in
theorem c_X10_addPart (l : Launch) (i : Nat) (p1 : Int32) (p2 : Int32) (p3 : Int32) (σ : zG) (q : zG) (hq : f_X10_addPart i p1 p2 p3 σ = some q) : zMet l zsyC m_X10_addPart yX10_addPart [zR 8 i, zI p1, zI p2, zI p3] σ none q := by
  refine zEnter [(0, zR 8 i), (1, zI p1), (2, zI p2), (3, zI p3)] (by decide) rfl (fun _ => Nat.le_of_ble_eq_true rfl) (fun _ => rfl) (fun w h => ?_) (fun K hv hs => ?_)
  · exact zokm rfl h
  · have hP : ∀ s, f_X10_addPart i p1 p2 p3 σ = some s → zKv K = none ∧ zKs K = s := fun s h => by rw [hq] at h; cases h; exact ⟨hv, hs⟩
    have hn : f_X10_addPart i p1 p2 p3 σ ≠ none := fun z => by rw [hq] at z; cases z
    have hf := f_X10_addPart.eq_1 i p1 p2 p3 σ
    refine z_iload_n (pc := 0) 1 (zdg D_X10_addPart 0 (0, .iload_n 1, 1) rfl) rfl rfl ?_
    refine z_if_lt (pc := 1) 60 (zdg D_X10_addPart 1 (1, .ifCond .lt 59, 3) rfl) rfl hf (fun hf => ?_) (fun hf => ?_)
    · exact z_vret (pc := 60) rfl (zdg D_X10_addPart 38 (60, .return_, 1) rfl) (hP _ hf)
    · refine z_iload_n (pc := 4) 1 (zdg D_X10_addPart 2 (4, .iload_n 1, 1) rfl) rfl rfl ?_
      refine z_bipush (pc := 5) (v := 12) (zdg D_X10_addPart 3 (5, .bipush 12, 2) rfl) rfl ?_
      refine z_icmp_ge (pc := 7) 60 (zdg D_X10_addPart 4 (7, .if_icmp .ge 53, 3) rfl) rfl hf (fun hf => ?_) (fun hf => ?_)
      · exact z_vret (pc := 60) rfl (zdg D_X10_addPart 38 (60, .return_, 1) rfl) (hP _ hf)
      · refine z_aload_n (pc := 10) 0 (zdg D_X10_addPart 5 (10, .aload_n 0, 1) rfl) rfl rfl ?_
        refine z_getR (pc := 11) (g := 18) (j := i) lf_X10_21 rfl rfl rfl (zdg D_X10_addPart 6 (11, .getfield 21, 3) rfl) ?_
        refine z_iload_n (pc := 14) 1 (zdg D_X10_addPart 7 (14, .iload_n 1, 1) rfl) rfl rfl ?_
        refine z_iald (pc := 15) rfl (fun _ => rfl) (zdg D_X10_addPart 8 (15, .iaload, 1) rfl) hn hf (fun hf => ?_)
        refine z_bipush (pc := 16) (v := 8) (zdg D_X10_addPart 9 (16, .bipush 8, 2) rfl) rfl ?_
        refine z_icmp_ge (pc := 18) 60 (zdg D_X10_addPart 10 (18, .if_icmp .ge 42, 3) rfl) rfl hf (fun hf => ?_) (fun hf => ?_)
        · exact z_vret (pc := 60) rfl (zdg D_X10_addPart 38 (60, .return_, 1) rfl) (hP _ hf)
        · refine z_iload_n (pc := 21) 1 (zdg D_X10_addPart 11 (21, .iload_n 1, 1) rfl) rfl rfl ?_
          refine z_bipush (pc := 22) (v := 8) (zdg D_X10_addPart 12 (22, .bipush 8, 2) rfl) rfl ?_
          refine z_imul (pc := 24) (zdg D_X10_addPart 13 (24, .imul, 1) rfl) ?_
          refine z_aload_n (pc := 25) 0 (zdg D_X10_addPart 14 (25, .aload_n 0, 1) rfl) rfl rfl ?_
          refine z_getR (pc := 26) (g := 18) (j := i) lf_X10_21 rfl rfl rfl (zdg D_X10_addPart 15 (26, .getfield 21, 3) rfl) ?_
          refine z_iload_n (pc := 29) 1 (zdg D_X10_addPart 16 (29, .iload_n 1, 1) rfl) rfl rfl ?_
          refine z_iald (pc := 30) rfl (fun _ => rfl) (zdg D_X10_addPart 17 (30, .iaload, 1) rfl) hn hf (fun hf => ?_)
          refine z_iadd (pc := 31) (zdg D_X10_addPart 18 (31, .iadd, 1) rfl) ?_
          refine z_istore (pc := 32) (al' := [(4, zI ((p1 * (8 : Int32)) + (σ.1 18 i p1.toNatClampNeg))), (0, zR 8 i), (1, zI p1), (2, zI p2), (3, zI p3)]) (zdg D_X10_addPart 19 (32, .istore 4, 2) rfl) (by decide) rfl ?_
          refine z_aload_n (pc := 34) 1 (zdg D_X10_addPart 20 (34, .aload_n 0, 1) rfl) rfl rfl ?_
          refine z_getR (pc := 35) (g := 19) (j := i) lf_X10_24 rfl rfl rfl (zdg D_X10_addPart 21 (35, .getfield 24, 3) rfl) ?_
          refine z_iload (pc := 38) 0 (zdg D_X10_addPart 22 (38, .iload 4, 2) rfl) rfl ?_
          refine z_iload_n (pc := 40) 3 (zdg D_X10_addPart 23 (40, .iload_n 2, 1) rfl) rfl rfl ?_
          refine z_iast (pc := 41) rfl (fun _ => rfl) (zdg D_X10_addPart 24 (41, .iastore, 1) rfl) hn hf (fun hf => ?_)
          refine z_nmS hf (fun s1 hf => ?_)
          refine z_aload_n (pc := 42) 1 (zdg D_X10_addPart 25 (42, .aload_n 0, 1) rfl) rfl rfl ?_
          refine z_getR (pc := 43) (g := 20) (j := i) lf_X10_27 rfl rfl rfl (zdg D_X10_addPart 26 (43, .getfield 27, 3) rfl) ?_
          refine z_iload (pc := 46) 0 (zdg D_X10_addPart 27 (46, .iload 4, 2) rfl) rfl ?_
          refine z_iload_n (pc := 48) 4 (zdg D_X10_addPart 28 (48, .iload_n 3, 1) rfl) rfl rfl ?_
          refine z_iast (pc := 49) rfl (fun _ => rfl) (zdg D_X10_addPart 29 (49, .iastore, 1) rfl) hn hf (fun hf => ?_)
          refine z_nmS hf (fun s2 hf => ?_)
          refine z_aload_n (pc := 50) 1 (zdg D_X10_addPart 30 (50, .aload_n 0, 1) rfl) rfl rfl ?_
          refine z_getR (pc := 51) (g := 18) (j := i) lf_X10_21 rfl rfl rfl (zdg D_X10_addPart 31 (51, .getfield 21, 3) rfl) ?_
          refine z_iload_n (pc := 54) 2 (zdg D_X10_addPart 32 (54, .iload_n 1, 1) rfl) rfl rfl ?_
          refine z_dup2 (pc := 55) rfl rfl (zdg D_X10_addPart 33 (55, .dup2, 1) rfl) ?_
          refine z_iald (pc := 56) rfl (fun _ => rfl) (zdg D_X10_addPart 34 (56, .iaload, 1) rfl) hn hf (fun hf => ?_)
          refine z_iconst (pc := 57) (v := 1) (zdg D_X10_addPart 35 (57, .iconst 1, 1) rfl) rfl ?_
          refine z_iadd (pc := 58) (zdg D_X10_addPart 36 (58, .iadd, 1) rfl) ?_
          refine z_iast (pc := 59) rfl (fun _ => rfl) (zdg D_X10_addPart 37 (59, .iastore, 1) rfl) hn hf (fun hf => ?_)
          refine z_nmS hf (fun s3 hf => ?_)
          exact z_vret (pc := 60) rfl (zdg D_X10_addPart 38 (60, .return_, 1) rfl) (hP _ hf)

def L_X4_readWay : List (Nat × Instr × Nat) := [(0, .iconst 0, 1), (1, .istore_n 2, 1), (2, .iload_n 2, 1), (3, .bipush 8, 2), (5, .if_icmp .gt 76, 3), (8, .aload_n 0, 1), (9, .getfield 54, 3), (12, .bipush 103, 2), (14, .if_icmp .lt 67, 3), (17, .aload_n 0, 1), (18, .getfield 54, 3), (21, .bipush 107, 2), (23, .if_icmp .gt 58, 3), (26, .iload_n 2, 1), (27, .bipush 8, 2), (29, .if_icmp .ne 9, 3), (32, .aload_n 0, 1), (33, .iconst 3, 1), (34, .invokevirtual 70, 3), (37, .ireturn, 1), (38, .aload_n 0, 1), (39, .getfield 54, 3), (42, .istore_n 3, 1), (43, .aload_n 0, 1), (44, .invokevirtual 44, 3), (47, .aload_n 0, 1), (48, .iconst 1, 1), (49, .bipush 60, 2), (51, .invokevirtual 80, 3), (54, .istore 4, 2), (56, .iload 4, 2), (58, .iconst (-1), 1), (59, .if_icmp .ne 5, 3), (62, .iconst 0, 1), (63, .ireturn, 1), (64, .aload_n 0, 1), (65, .getfield 12, 3), (68, .iload_n 1, 1), (69, .iload_n 3, 1), (70, .iload 4, 2), (72, .invokevirtual 99, 3), (75, .iinc 2 1, 3), (78, .goto (-76), 3), (81, .iconst 1, 1), (82, .ireturn, 1)]
set_option maxRecDepth 100000 in
theorem D_X4_readWay : zdecs cX4_readWay L_X4_readWay = true := by decide +kernel
noncomputable def b_X4_readWay_2 (p1 : Int32) (v2_1 : Int32) (s2 : zG) : Option ((Int32 × zG) ⊕ ((zG) ⊕ ((zG) ⊕ (zG)))) :=
  if v2_1 ≤ (8 : Int32) then if (103 : Int32) ≤ (s2.1 4 0 8) then if (s2.1 4 0 8) ≤ (107 : Int32) then if v2_1 = (8 : Int32) then some (Sum.inr (Sum.inl s2)) else (f_X4_advance s2).bind (fun q3 => (f_X4_readNumber (1 : Int32) (60 : Int32) q3).bind (fun q4 => if q4.1 = (-1 : Int32) then some (Sum.inr (Sum.inr (Sum.inl q4.2))) else (f_X10_addPart 1 p1 (s2.1 4 0 8) q4.1 q4.2).bind (fun q5 => some (Sum.inl ((v2_1 + 1), q5))))) else some (Sum.inr (Sum.inr (Sum.inr s2))) else some (Sum.inr (Sum.inr (Sum.inr s2))) else some (Sum.inr (Sum.inr (Sum.inr s2)))
noncomputable def f_X4_readWay (p1 : Int32) (σ : zG) : Option (Int32 × zG) :=
  (zlp (fun q : Int32 × zG => b_X4_readWay_2 p1 q.1 q.2) ((0 : Int32), σ)).bind (Sum.elim (fun e6 : zG => (f_X4_fail (3 : Int32) e6).bind (fun q7 => zg (zbl q7.1) (some (q7.1, q7.2)))) (Sum.elim (fun e8 : zG => some ((0 : Int32), e8)) (fun e9 : zG => some ((1 : Int32), e9))))
set_option maxRecDepth 100000 in
set_option maxHeartbeats 4000000 in
theorem c_X4_readWay (l : Launch) (p1 : Int32) (σ : zG) (q : Int32 × zG) (hq : f_X4_readWay p1 σ = some q) : zMet l zsyC m_X4_readWay yX4_readWay [zR 4 0, zI p1] σ (some (zI q.1)) q.2 := by
  refine zEnter [(0, zR 4 0), (1, zI p1)] (by decide) rfl (fun _ => Nat.le_of_ble_eq_true rfl) (fun _ => rfl) (fun w h => ?_) (fun K hv hs => ?_)
  · exact zokm rfl h
  · have hP : ∀ x s, f_X4_readWay p1 σ = some (x, s) → zKv K = some (zI x) ∧ zKs K = s := fun x s h => by rw [hq] at h; cases h; exact ⟨hv, hs⟩
    have hn : f_X4_readWay p1 σ ≠ none := fun z => by rw [hq] at z; cases z
    have hf := f_X4_readWay.eq_1 p1 σ
    refine z_iconst (pc := 0) (v := 0) (zdg D_X4_readWay 0 (0, .iconst 0, 1) rfl) rfl ?_
    refine z_istore_n (pc := 1) (al' := [(2, zI (0 : Int32)), (0, zR 4 0), (1, zI p1)]) (zdg D_X4_readWay 1 (1, .istore_n 2, 1) rfl) rfl (by decide) rfl ?_
    refine z_sub (al' := [(0, zR 4 0), (1, zI p1), (2, zI (0 : Int32))]) [1, 2, 0] rfl ?_
    refine z_loop (f := (fun q : Int32 × zG => b_X4_readWay_2 p1 q.1 q.2)) (a := ((0 : Int32), σ)) (fun q : Int32 × zG => zX zsyC m_X4_readWay K 2 [(0, zR 4 0), (1, zI p1), (2, zI q.1)] [] q.2) (Sum.elim (fun e6 : zG => zX zsyC m_X4_readWay K 32 [(0, zR 4 0)] [] e6) (Sum.elim (fun e8 : zG => zX zsyC m_X4_readWay K 62 [] [] e8) (fun e9 : zG => zX zsyC m_X4_readWay K 81 [] [] e9))) hn hf ?_ ?_
    · intro b hf
      cases b with
      | inl e6 =>
        refine z_aload_n (pc := 32) 0 (zdg D_X4_readWay 16 (32, .aload_n 0, 1) rfl) rfl rfl ?_
        refine z_iconst (pc := 33) (v := 3) (zdg D_X4_readWay 17 (33, .iconst 3, 1) rfl) rfl ?_
        refine z_bind hn hf (fun q7 hq hf => ?_)
        refine z_callV (pc := 34) (rest := []) (st2 := [zI q7.1]) (fun l => c_X4_fail l (3 : Int32) e6 q7 hq) zv_X4_fail lm_X4_70 rfl rfl rfl rfl rfl rfl (Nat.le_of_ble_eq_true rfl) ⟨Nat.le_of_ble_eq_true rfl, Nat.le_of_ble_eq_true rfl⟩ (zdg D_X4_readWay 18 (34, .invokevirtual 70, 3) rfl) ?_
        exact z_zret (pc := 37) rfl (zdg D_X4_readWay 19 (37, .ireturn, 1) rfl) hn hf (fun hf => (hP _ _ hf))
      | inr b =>
        revert hf
        revert b
        intro b hf
        cases b with
        | inl e8 =>
          refine z_iconst (pc := 62) (v := 0) (zdg D_X4_readWay 33 (62, .iconst 0, 1) rfl) rfl ?_
          exact z_iret (pc := 63) rfl rfl (zdg D_X4_readWay 34 (63, .ireturn, 1) rfl) (hP _ _ hf)
        | inr b =>
          revert hf
          revert b
          intro e9 hf
          refine z_iconst (pc := 81) (v := 1) (zdg D_X4_readWay 43 (81, .iconst 1, 1) rfl) rfl ?_
          exact z_iret (pc := 82) rfl rfl (zdg D_X4_readWay 44 (82, .ireturn, 1) rfl) (hP _ _ hf)
    · rintro ⟨v2_1, s2⟩ hn hi hx
      have hf := b_X4_readWay_2.eq_1 p1 v2_1 s2
      refine z_iload_n (pc := 2) 2 (zdg D_X4_readWay 2 (2, .iload_n 2, 1) rfl) rfl rfl ?_
      refine z_bipush (pc := 3) (v := 8) (zdg D_X4_readWay 3 (3, .bipush 8, 2) rfl) rfl ?_
      refine z_icmp_gt (pc := 5) 81 (zdg D_X4_readWay 4 (5, .if_icmp .gt 76, 3) rfl) rfl hf (fun hf => ?_) (fun hf => ?_)
      · refine z_sub (al' := []) [] rfl ?_
        exact hx (Sum.inr (Sum.inr s2)) hf
      · refine z_aload_n (pc := 8) 0 (zdg D_X4_readWay 5 (8, .aload_n 0, 1) rfl) rfl rfl ?_
        refine z_getI (pc := 9) lf_X4_54 rfl rfl (zdg D_X4_readWay 6 (9, .getfield 54, 3) rfl) ?_
        refine z_bipush (pc := 12) (v := 103) (zdg D_X4_readWay 7 (12, .bipush 103, 2) rfl) rfl ?_
        refine z_icmp_lt (pc := 14) 81 (zdg D_X4_readWay 8 (14, .if_icmp .lt 67, 3) rfl) rfl hf (fun hf => ?_) (fun hf => ?_)
        · refine z_sub (al' := []) [] rfl ?_
          exact hx (Sum.inr (Sum.inr s2)) hf
        · refine z_aload_n (pc := 17) 0 (zdg D_X4_readWay 9 (17, .aload_n 0, 1) rfl) rfl rfl ?_
          refine z_getI (pc := 18) lf_X4_54 rfl rfl (zdg D_X4_readWay 10 (18, .getfield 54, 3) rfl) ?_
          refine z_bipush (pc := 21) (v := 107) (zdg D_X4_readWay 11 (21, .bipush 107, 2) rfl) rfl ?_
          refine z_icmp_gt (pc := 23) 81 (zdg D_X4_readWay 12 (23, .if_icmp .gt 58, 3) rfl) rfl hf (fun hf => ?_) (fun hf => ?_)
          · refine z_sub (al' := []) [] rfl ?_
            exact hx (Sum.inr (Sum.inr s2)) hf
          · refine z_iload_n (pc := 26) 2 (zdg D_X4_readWay 13 (26, .iload_n 2, 1) rfl) rfl rfl ?_
            refine z_bipush (pc := 27) (v := 8) (zdg D_X4_readWay 14 (27, .bipush 8, 2) rfl) rfl ?_
            refine z_icmp_ne (pc := 29) 38 (zdg D_X4_readWay 15 (29, .if_icmp .ne 9, 3) rfl) rfl hf (fun hf => ?_) (fun hf => ?_)
            · refine z_aload_n (pc := 38) 0 (zdg D_X4_readWay 20 (38, .aload_n 0, 1) rfl) rfl rfl ?_
              refine z_getI (pc := 39) lf_X4_54 rfl rfl (zdg D_X4_readWay 21 (39, .getfield 54, 3) rfl) ?_
              refine z_istore_n (pc := 42) (al' := [(3, zI (s2.1 4 0 8)), (0, zR 4 0), (1, zI p1), (2, zI v2_1)]) (zdg D_X4_readWay 22 (42, .istore_n 3, 1) rfl) rfl (by decide) rfl ?_
              refine z_aload_n (pc := 43) 1 (zdg D_X4_readWay 23 (43, .aload_n 0, 1) rfl) rfl rfl ?_
              refine z_bind hn hf (fun q3 hq hf => ?_)
              refine z_callV (pc := 44) (rest := []) (st2 := []) (fun l => c_X4_advance l s2 q3 hq) zv_X4_advance lm_X4_44 rfl rfl rfl rfl rfl rfl (Nat.le_of_ble_eq_true rfl) ⟨Nat.le_of_ble_eq_true rfl, Nat.le_of_ble_eq_true rfl⟩ (zdg D_X4_readWay 24 (44, .invokevirtual 44, 3) rfl) ?_
              refine z_aload_n (pc := 47) 1 (zdg D_X4_readWay 25 (47, .aload_n 0, 1) rfl) rfl rfl ?_
              refine z_iconst (pc := 48) (v := 1) (zdg D_X4_readWay 26 (48, .iconst 1, 1) rfl) rfl ?_
              refine z_bipush (pc := 49) (v := 60) (zdg D_X4_readWay 27 (49, .bipush 60, 2) rfl) rfl ?_
              refine z_bind hn hf (fun q4 hq hf => ?_)
              refine z_callV (pc := 51) (rest := []) (st2 := [zI q4.1]) (fun l => c_X4_readNumber l (1 : Int32) (60 : Int32) q3 q4 hq) zv_X4_readNumber lm_X4_80 rfl rfl rfl rfl rfl rfl (Nat.le_of_ble_eq_true rfl) ⟨Nat.le_of_ble_eq_true rfl, Nat.le_of_ble_eq_true rfl⟩ (zdg D_X4_readWay 28 (51, .invokevirtual 80, 3) rfl) ?_
              refine z_istore (pc := 54) (al' := [(4, zI q4.1), (3, zI (s2.1 4 0 8)), (0, zR 4 0), (1, zI p1), (2, zI v2_1)]) (zdg D_X4_readWay 29 (54, .istore 4, 2) rfl) (by decide) rfl ?_
              refine z_iload (pc := 56) 0 (zdg D_X4_readWay 30 (56, .iload 4, 2) rfl) rfl ?_
              refine z_iconst (pc := 58) (v := -1) (zdg D_X4_readWay 31 (58, .iconst (-1), 1) rfl) rfl ?_
              refine z_icmp_ne (pc := 59) 64 (zdg D_X4_readWay 32 (59, .if_icmp .ne 5, 3) rfl) rfl hf (fun hf => ?_) (fun hf => ?_)
              · refine z_aload_n (pc := 64) 2 (zdg D_X4_readWay 35 (64, .aload_n 0, 1) rfl) rfl rfl ?_
                refine z_getR (pc := 65) (g := 8) (j := 1) lf_X4_12 rfl rfl rfl (zdg D_X4_readWay 36 (65, .getfield 12, 3) rfl) ?_
                refine z_iload_n (pc := 68) 3 (zdg D_X4_readWay 37 (68, .iload_n 1, 1) rfl) rfl rfl ?_
                refine z_iload_n (pc := 69) 1 (zdg D_X4_readWay 38 (69, .iload_n 3, 1) rfl) rfl rfl ?_
                refine z_iload (pc := 70) 0 (zdg D_X4_readWay 39 (70, .iload 4, 2) rfl) rfl ?_
                refine z_bind hn hf (fun q5 hq hf => ?_)
                refine z_callV (pc := 72) (rest := []) (st2 := []) (fun l => c_X10_addPart l 1 p1 (s2.1 4 0 8) q4.1 q4.2 q5 hq) zv_X10_addPart lm_X4_99 rfl rfl rfl rfl rfl rfl (Nat.le_of_ble_eq_true rfl) ⟨Nat.le_of_ble_eq_true rfl, Nat.le_of_ble_eq_true rfl⟩ (zdg D_X4_readWay 40 (72, .invokevirtual 99, 3) rfl) ?_
                refine z_iinc (pc := 75) (v0 := (v2_1 + 1)) (al' := [(2, zI (v2_1 + 1)), (4, zI q4.1), (3, zI (s2.1 4 0 8)), (0, zR 4 0), (1, zI p1)]) 4 (zdg D_X4_readWay 41 (75, .iinc 2 1, 3) rfl) rfl rfl (by decide) rfl ?_
                refine z_goto (pc := 78) 2 (zdg D_X4_readWay 42 (78, .goto (-76), 3) rfl) rfl ?_
                refine z_sub (al' := [(0, zR 4 0), (1, zI p1), (2, zI (v2_1 + 1))]) [3, 4, 0] rfl ?_
                exact hi ((v2_1 + 1), q5) hf
              · refine z_sub (al' := []) [] rfl ?_
                exact hx (Sum.inr (Sum.inl q4.2)) hf
            · refine z_sub (al' := [(0, zR 4 0)]) [0] rfl ?_
              exact hx (Sum.inl s2) hf

def L_X4_readWalker : List (Nat × Instr × Nat) := [(0, .aload_n 0, 1), (1, .getfield 54, 3), (4, .bipush 100, 2), (6, .if_icmp .eq 9, 3), (9, .aload_n 0, 1), (10, .iconst 1, 1), (11, .invokevirtual 70, 3), (14, .ireturn, 1), (15, .aload_n 0, 1), (16, .getfield 12, 3), (19, .getfield 63, 3), (22, .istore_n 3, 1), (23, .iload_n 3, 1), (24, .bipush 12, 2), (26, .if_icmp .lt 9, 3), (29, .aload_n 0, 1), (30, .iconst 3, 1), (31, .invokevirtual 70, 3), (34, .ireturn, 1), (35, .aload_n 0, 1), (36, .invokevirtual 44, 3), (39, .aload_n 0, 1), (40, .getfield 12, 3), (43, .getfield 74, 3), (46, .iload_n 3, 1), (47, .iconst 0, 1), (48, .iastore, 1), (49, .aload_n 0, 1), (50, .getfield 12, 3), (53, .getfield 77, 3), (56, .iload_n 3, 1), (57, .aload_n 0, 1), (58, .iconst 0, 1), (59, .bipush 99, 2), (61, .invokevirtual 80, 3), (64, .iastore, 1), (65, .aload_n 0, 1), (66, .getfield 12, 3), (69, .getfield 77, 3), (72, .iload_n 3, 1), (73, .iaload, 1), (74, .iconst (-1), 1), (75, .if_icmp .eq 12, 3), (78, .aload_n 0, 1), (79, .bipush 101, 2), (81, .invokevirtual 84, 3), (84, .ifCond .ne 5, 3), (87, .iconst 0, 1), (88, .ireturn, 1), (89, .aload_n 0, 1), (90, .getfield 12, 3), (93, .getfield 87, 3), (96, .iload_n 3, 1), (97, .aload_n 0, 1), (98, .iconst 0, 1), (99, .sipush 500, 3), (102, .invokevirtual 80, 3), (105, .iastore, 1), (106, .aload_n 0, 1), (107, .getfield 12, 3), (110, .getfield 87, 3), (113, .iload_n 3, 1), (114, .iaload, 1), (115, .iconst (-1), 1), (116, .if_icmp .eq 12, 3), (119, .aload_n 0, 1), (120, .bipush 102, 2), (122, .invokevirtual 84, 3), (125, .ifCond .ne 5, 3), (128, .iconst 0, 1), (129, .ireturn, 1), (130, .aload_n 0, 1), (131, .getfield 12, 3), (134, .getfield 90, 3), (137, .iload_n 3, 1), (138, .aload_n 0, 1), (139, .iload_n 1, 1), (140, .iload_n 2, 1), (141, .invokevirtual 93, 3), (144, .iastore, 1), (145, .aload_n 0, 1), (146, .getfield 12, 3), (149, .getfield 90, 3), (152, .iload_n 3, 1), (153, .iaload, 1), (154, .iconst (-1), 1), (155, .if_icmp .eq 11, 3), (158, .aload_n 0, 1), (159, .iload_n 3, 1), (160, .invokevirtual 96, 3), (163, .ifCond .ne 5, 3), (166, .iconst 0, 1), (167, .ireturn, 1), (168, .aload_n 0, 1), (169, .getfield 12, 3), (172, .iload_n 3, 1), (173, .iconst 1, 1), (174, .iadd, 1), (175, .putfield 63, 3), (178, .aload_n 0, 1), (179, .bipush 59, 2), (181, .invokevirtual 84, 3), (184, .ireturn, 1)]
set_option maxRecDepth 100000 in
theorem D_X4_readWalker : zdecs cX4_readWalker L_X4_readWalker = true := by decide +kernel
noncomputable def f_X4_readWalker (p1 : Int32) (p2 : Int32) (σ : zG) : Option (Int32 × zG) :=
  if (σ.1 4 0 8) = (100 : Int32) then if (12 : Int32) ≤ (σ.1 8 1 0) then (f_X4_fail (3 : Int32) σ).bind (fun q14 => zg (zbl q14.1) (some (q14.1, q14.2))) else (f_X4_advance σ).bind (fun q1 => zg (zin (σ.1 8 1 0) 12) (zb (zwI q1 18 1 (σ.1 8 1 0).toNatClampNeg (0 : Int32)) (fun s2 => (f_X4_readNumber (0 : Int32) (99 : Int32) s2).bind (fun q3 => zg (zin (σ.1 8 1 0) 12) (zb (zwI q3.2 15 1 (σ.1 8 1 0).toNatClampNeg q3.1) (fun s4 => zg (zin (σ.1 8 1 0) 12) (if (s4.1 15 1 (σ.1 8 1 0).toNatClampNeg) = (-1 : Int32) then some ((0 : Int32), s4) else (f_X4_pass (101 : Int32) s4).bind (fun q5 => if q5.1 = 0 then some ((0 : Int32), q5.2) else (f_X4_readNumber (0 : Int32) (500 : Int32) q5.2).bind (fun q6 => zg (zin (σ.1 8 1 0) 12) (zb (zwI q6.2 16 1 (σ.1 8 1 0).toNatClampNeg q6.1) (fun s7 => zg (zin (σ.1 8 1 0) 12) (if (s7.1 16 1 (σ.1 8 1 0).toNatClampNeg) = (-1 : Int32) then some ((0 : Int32), s7) else (f_X4_pass (102 : Int32) s7).bind (fun q8 => if q8.1 = 0 then some ((0 : Int32), q8.2) else (f_X4_readSpot p1 p2 q8.2).bind (fun q9 => zg (zin (σ.1 8 1 0) 12) (zb (zwI q9.2 17 1 (σ.1 8 1 0).toNatClampNeg q9.1) (fun s10 => zg (zin (σ.1 8 1 0) 12) (if (s10.1 17 1 (σ.1 8 1 0).toNatClampNeg) = (-1 : Int32) then some ((0 : Int32), s10) else (f_X4_readWay (σ.1 8 1 0) s10).bind (fun q11 => if q11.1 = 0 then some ((0 : Int32), q11.2) else zb (zwI q11.2 8 1 0 ((σ.1 8 1 0) + (1 : Int32))) (fun s12 => (f_X4_pass (59 : Int32) s12).bind (fun q13 => zg (zbl q13.1) (some (q13.1, q13.2)))))))))))))))))))))) else (f_X4_fail (1 : Int32) σ).bind (fun q15 => zg (zbl q15.1) (some (q15.1, q15.2)))
set_option maxRecDepth 100000 in
set_option maxHeartbeats 4000000 in
theorem c_X4_readWalker (l : Launch) (p1 : Int32) (p2 : Int32) (σ : zG) (q : Int32 × zG) (hq : f_X4_readWalker p1 p2 σ = some q) : zMet l zsyC m_X4_readWalker yX4_readWalker [zR 4 0, zI p1, zI p2] σ (some (zI q.1)) q.2 := by
  refine zEnter [(0, zR 4 0), (1, zI p1), (2, zI p2)] (by decide) rfl (fun _ => Nat.le_of_ble_eq_true rfl) (fun _ => rfl) (fun w h => ?_) (fun K hv hs => ?_)
  · exact zokm rfl h
  · have hP : ∀ x s, f_X4_readWalker p1 p2 σ = some (x, s) → zKv K = some (zI x) ∧ zKs K = s := fun x s h => by rw [hq] at h; cases h; exact ⟨hv, hs⟩
    have hn : f_X4_readWalker p1 p2 σ ≠ none := fun z => by rw [hq] at z; cases z
    have hf := f_X4_readWalker.eq_1 p1 p2 σ
    refine z_aload_n (pc := 0) 0 (zdg D_X4_readWalker 0 (0, .aload_n 0, 1) rfl) rfl rfl ?_
    refine z_getI (pc := 1) lf_X4_54 rfl rfl (zdg D_X4_readWalker 1 (1, .getfield 54, 3) rfl) ?_
    refine z_bipush (pc := 4) (v := 100) (zdg D_X4_readWalker 2 (4, .bipush 100, 2) rfl) rfl ?_
    refine z_icmp_eq (pc := 6) 15 (zdg D_X4_readWalker 3 (6, .if_icmp .eq 9, 3) rfl) rfl hf (fun hf => ?_) (fun hf => ?_)
    · refine z_aload_n (pc := 15) 0 (zdg D_X4_readWalker 8 (15, .aload_n 0, 1) rfl) rfl rfl ?_
      refine z_getR (pc := 16) (g := 8) (j := 1) lf_X4_12 rfl rfl rfl (zdg D_X4_readWalker 9 (16, .getfield 12, 3) rfl) ?_
      refine z_getI (pc := 19) lf_X4_63 rfl rfl (zdg D_X4_readWalker 10 (19, .getfield 63, 3) rfl) ?_
      refine z_istore_n (pc := 22) (al' := [(3, zI (σ.1 8 1 0)), (0, zR 4 0), (1, zI p1), (2, zI p2)]) (zdg D_X4_readWalker 11 (22, .istore_n 3, 1) rfl) rfl (by decide) rfl ?_
      refine z_iload_n (pc := 23) 0 (zdg D_X4_readWalker 12 (23, .iload_n 3, 1) rfl) rfl rfl ?_
      refine z_bipush (pc := 24) (v := 12) (zdg D_X4_readWalker 13 (24, .bipush 12, 2) rfl) rfl ?_
      refine z_icmp_lt (pc := 26) 35 (zdg D_X4_readWalker 14 (26, .if_icmp .lt 9, 3) rfl) rfl hf (fun hf => ?_) (fun hf => ?_)
      · refine z_aload_n (pc := 35) 1 (zdg D_X4_readWalker 19 (35, .aload_n 0, 1) rfl) rfl rfl ?_
        refine z_bind hn hf (fun q1 hq hf => ?_)
        refine z_callV (pc := 36) (rest := []) (st2 := []) (fun l => c_X4_advance l σ q1 hq) zv_X4_advance lm_X4_44 rfl rfl rfl rfl rfl rfl (Nat.le_of_ble_eq_true rfl) ⟨Nat.le_of_ble_eq_true rfl, Nat.le_of_ble_eq_true rfl⟩ (zdg D_X4_readWalker 20 (36, .invokevirtual 44, 3) rfl) ?_
        refine z_aload_n (pc := 39) 1 (zdg D_X4_readWalker 21 (39, .aload_n 0, 1) rfl) rfl rfl ?_
        refine z_getR (pc := 40) (g := 8) (j := 1) lf_X4_12 rfl rfl rfl (zdg D_X4_readWalker 22 (40, .getfield 12, 3) rfl) ?_
        refine z_getR (pc := 43) (g := 18) (j := 1) lf_X4_74 rfl rfl rfl (zdg D_X4_readWalker 23 (43, .getfield 74, 3) rfl) ?_
        refine z_iload_n (pc := 46) 0 (zdg D_X4_readWalker 24 (46, .iload_n 3, 1) rfl) rfl rfl ?_
        refine z_iconst (pc := 47) (v := 0) (zdg D_X4_readWalker 25 (47, .iconst 0, 1) rfl) rfl ?_
        refine z_iast (pc := 48) rfl (fun _ => rfl) (zdg D_X4_readWalker 26 (48, .iastore, 1) rfl) hn hf (fun hf => ?_)
        refine z_nmS hf (fun s2 hf => ?_)
        refine z_aload_n (pc := 49) 1 (zdg D_X4_readWalker 27 (49, .aload_n 0, 1) rfl) rfl rfl ?_
        refine z_getR (pc := 50) (g := 8) (j := 1) lf_X4_12 rfl rfl rfl (zdg D_X4_readWalker 28 (50, .getfield 12, 3) rfl) ?_
        refine z_getR (pc := 53) (g := 15) (j := 1) lf_X4_77 rfl rfl rfl (zdg D_X4_readWalker 29 (53, .getfield 77, 3) rfl) ?_
        refine z_iload_n (pc := 56) 0 (zdg D_X4_readWalker 30 (56, .iload_n 3, 1) rfl) rfl rfl ?_
        refine z_aload_n (pc := 57) 1 (zdg D_X4_readWalker 31 (57, .aload_n 0, 1) rfl) rfl rfl ?_
        refine z_iconst (pc := 58) (v := 0) (zdg D_X4_readWalker 32 (58, .iconst 0, 1) rfl) rfl ?_
        refine z_bipush (pc := 59) (v := 99) (zdg D_X4_readWalker 33 (59, .bipush 99, 2) rfl) rfl ?_
        refine z_bind hn hf (fun q3 hq hf => ?_)
        refine z_callV (pc := 61) (rest := [zI (σ.1 8 1 0), zR 15 1]) (st2 := [zI q3.1, zI (σ.1 8 1 0), zR 15 1]) (fun l => c_X4_readNumber l (0 : Int32) (99 : Int32) s2 q3 hq) zv_X4_readNumber lm_X4_80 rfl rfl rfl rfl rfl rfl (Nat.le_of_ble_eq_true rfl) ⟨Nat.le_of_ble_eq_true rfl, Nat.le_of_ble_eq_true rfl⟩ (zdg D_X4_readWalker 34 (61, .invokevirtual 80, 3) rfl) ?_
        refine z_iast (pc := 64) rfl (fun _ => rfl) (zdg D_X4_readWalker 35 (64, .iastore, 1) rfl) hn hf (fun hf => ?_)
        refine z_nmS hf (fun s4 hf => ?_)
        refine z_aload_n (pc := 65) 1 (zdg D_X4_readWalker 36 (65, .aload_n 0, 1) rfl) rfl rfl ?_
        refine z_getR (pc := 66) (g := 8) (j := 1) lf_X4_12 rfl rfl rfl (zdg D_X4_readWalker 37 (66, .getfield 12, 3) rfl) ?_
        refine z_getR (pc := 69) (g := 15) (j := 1) lf_X4_77 rfl rfl rfl (zdg D_X4_readWalker 38 (69, .getfield 77, 3) rfl) ?_
        refine z_iload_n (pc := 72) 0 (zdg D_X4_readWalker 39 (72, .iload_n 3, 1) rfl) rfl rfl ?_
        refine z_iald (pc := 73) rfl (fun _ => rfl) (zdg D_X4_readWalker 40 (73, .iaload, 1) rfl) hn hf (fun hf => ?_)
        refine z_iconst (pc := 74) (v := -1) (zdg D_X4_readWalker 41 (74, .iconst (-1), 1) rfl) rfl ?_
        refine z_icmp_eq (pc := 75) 87 (zdg D_X4_readWalker 42 (75, .if_icmp .eq 12, 3) rfl) rfl hf (fun hf => ?_) (fun hf => ?_)
        · refine z_iconst (pc := 87) (v := 0) (zdg D_X4_readWalker 47 (87, .iconst 0, 1) rfl) rfl ?_
          exact z_iret (pc := 88) rfl rfl (zdg D_X4_readWalker 48 (88, .ireturn, 1) rfl) (hP _ _ hf)
        · refine z_aload_n (pc := 78) 1 (zdg D_X4_readWalker 43 (78, .aload_n 0, 1) rfl) rfl rfl ?_
          refine z_bipush (pc := 79) (v := 101) (zdg D_X4_readWalker 44 (79, .bipush 101, 2) rfl) rfl ?_
          refine z_bind hn hf (fun q5 hq hf => ?_)
          refine z_callV (pc := 81) (rest := []) (st2 := [zI q5.1]) (fun l => c_X4_pass l (101 : Int32) s4 q5 hq) zv_X4_pass lm_X4_84 rfl rfl rfl rfl rfl rfl (Nat.le_of_ble_eq_true rfl) ⟨Nat.le_of_ble_eq_true rfl, Nat.le_of_ble_eq_true rfl⟩ (zdg D_X4_readWalker 45 (81, .invokevirtual 84, 3) rfl) ?_
          refine z_if_ne (pc := 84) 89 (zdg D_X4_readWalker 46 (84, .ifCond .ne 5, 3) rfl) rfl hf (fun hf => ?_) (fun hf => ?_)
          · refine z_aload_n (pc := 89) 1 (zdg D_X4_readWalker 49 (89, .aload_n 0, 1) rfl) rfl rfl ?_
            refine z_getR (pc := 90) (g := 8) (j := 1) lf_X4_12 rfl rfl rfl (zdg D_X4_readWalker 50 (90, .getfield 12, 3) rfl) ?_
            refine z_getR (pc := 93) (g := 16) (j := 1) lf_X4_87 rfl rfl rfl (zdg D_X4_readWalker 51 (93, .getfield 87, 3) rfl) ?_
            refine z_iload_n (pc := 96) 0 (zdg D_X4_readWalker 52 (96, .iload_n 3, 1) rfl) rfl rfl ?_
            refine z_aload_n (pc := 97) 1 (zdg D_X4_readWalker 53 (97, .aload_n 0, 1) rfl) rfl rfl ?_
            refine z_iconst (pc := 98) (v := 0) (zdg D_X4_readWalker 54 (98, .iconst 0, 1) rfl) rfl ?_
            refine z_sipush (pc := 99) (v := 500) (zdg D_X4_readWalker 55 (99, .sipush 500, 3) rfl) rfl ?_
            refine z_bind hn hf (fun q6 hq hf => ?_)
            refine z_callV (pc := 102) (rest := [zI (σ.1 8 1 0), zR 16 1]) (st2 := [zI q6.1, zI (σ.1 8 1 0), zR 16 1]) (fun l => c_X4_readNumber l (0 : Int32) (500 : Int32) q5.2 q6 hq) zv_X4_readNumber lm_X4_80 rfl rfl rfl rfl rfl rfl (Nat.le_of_ble_eq_true rfl) ⟨Nat.le_of_ble_eq_true rfl, Nat.le_of_ble_eq_true rfl⟩ (zdg D_X4_readWalker 56 (102, .invokevirtual 80, 3) rfl) ?_
            refine z_iast (pc := 105) rfl (fun _ => rfl) (zdg D_X4_readWalker 57 (105, .iastore, 1) rfl) hn hf (fun hf => ?_)
            refine z_nmS hf (fun s7 hf => ?_)
            refine z_aload_n (pc := 106) 1 (zdg D_X4_readWalker 58 (106, .aload_n 0, 1) rfl) rfl rfl ?_
            refine z_getR (pc := 107) (g := 8) (j := 1) lf_X4_12 rfl rfl rfl (zdg D_X4_readWalker 59 (107, .getfield 12, 3) rfl) ?_
            refine z_getR (pc := 110) (g := 16) (j := 1) lf_X4_87 rfl rfl rfl (zdg D_X4_readWalker 60 (110, .getfield 87, 3) rfl) ?_
            refine z_iload_n (pc := 113) 0 (zdg D_X4_readWalker 61 (113, .iload_n 3, 1) rfl) rfl rfl ?_
            refine z_iald (pc := 114) rfl (fun _ => rfl) (zdg D_X4_readWalker 62 (114, .iaload, 1) rfl) hn hf (fun hf => ?_)
            refine z_iconst (pc := 115) (v := -1) (zdg D_X4_readWalker 63 (115, .iconst (-1), 1) rfl) rfl ?_
            refine z_icmp_eq (pc := 116) 128 (zdg D_X4_readWalker 64 (116, .if_icmp .eq 12, 3) rfl) rfl hf (fun hf => ?_) (fun hf => ?_)
            · refine z_iconst (pc := 128) (v := 0) (zdg D_X4_readWalker 69 (128, .iconst 0, 1) rfl) rfl ?_
              exact z_iret (pc := 129) rfl rfl (zdg D_X4_readWalker 70 (129, .ireturn, 1) rfl) (hP _ _ hf)
            · refine z_aload_n (pc := 119) 1 (zdg D_X4_readWalker 65 (119, .aload_n 0, 1) rfl) rfl rfl ?_
              refine z_bipush (pc := 120) (v := 102) (zdg D_X4_readWalker 66 (120, .bipush 102, 2) rfl) rfl ?_
              refine z_bind hn hf (fun q8 hq hf => ?_)
              refine z_callV (pc := 122) (rest := []) (st2 := [zI q8.1]) (fun l => c_X4_pass l (102 : Int32) s7 q8 hq) zv_X4_pass lm_X4_84 rfl rfl rfl rfl rfl rfl (Nat.le_of_ble_eq_true rfl) ⟨Nat.le_of_ble_eq_true rfl, Nat.le_of_ble_eq_true rfl⟩ (zdg D_X4_readWalker 67 (122, .invokevirtual 84, 3) rfl) ?_
              refine z_if_ne (pc := 125) 130 (zdg D_X4_readWalker 68 (125, .ifCond .ne 5, 3) rfl) rfl hf (fun hf => ?_) (fun hf => ?_)
              · refine z_aload_n (pc := 130) 1 (zdg D_X4_readWalker 71 (130, .aload_n 0, 1) rfl) rfl rfl ?_
                refine z_getR (pc := 131) (g := 8) (j := 1) lf_X4_12 rfl rfl rfl (zdg D_X4_readWalker 72 (131, .getfield 12, 3) rfl) ?_
                refine z_getR (pc := 134) (g := 17) (j := 1) lf_X4_90 rfl rfl rfl (zdg D_X4_readWalker 73 (134, .getfield 90, 3) rfl) ?_
                refine z_iload_n (pc := 137) 0 (zdg D_X4_readWalker 74 (137, .iload_n 3, 1) rfl) rfl rfl ?_
                refine z_aload_n (pc := 138) 1 (zdg D_X4_readWalker 75 (138, .aload_n 0, 1) rfl) rfl rfl ?_
                refine z_iload_n (pc := 139) 2 (zdg D_X4_readWalker 76 (139, .iload_n 1, 1) rfl) rfl rfl ?_
                refine z_iload_n (pc := 140) 3 (zdg D_X4_readWalker 77 (140, .iload_n 2, 1) rfl) rfl rfl ?_
                refine z_bind hn hf (fun q9 hq hf => ?_)
                refine z_callV (pc := 141) (rest := [zI (σ.1 8 1 0), zR 17 1]) (st2 := [zI q9.1, zI (σ.1 8 1 0), zR 17 1]) (fun l => c_X4_readSpot l p1 p2 q8.2 q9 hq) zv_X4_readSpot lm_X4_93 rfl rfl rfl rfl rfl rfl (Nat.le_of_ble_eq_true rfl) ⟨Nat.le_of_ble_eq_true rfl, Nat.le_of_ble_eq_true rfl⟩ (zdg D_X4_readWalker 78 (141, .invokevirtual 93, 3) rfl) ?_
                refine z_iast (pc := 144) rfl (fun _ => rfl) (zdg D_X4_readWalker 79 (144, .iastore, 1) rfl) hn hf (fun hf => ?_)
                refine z_nmS hf (fun s10 hf => ?_)
                refine z_aload_n (pc := 145) 1 (zdg D_X4_readWalker 80 (145, .aload_n 0, 1) rfl) rfl rfl ?_
                refine z_getR (pc := 146) (g := 8) (j := 1) lf_X4_12 rfl rfl rfl (zdg D_X4_readWalker 81 (146, .getfield 12, 3) rfl) ?_
                refine z_getR (pc := 149) (g := 17) (j := 1) lf_X4_90 rfl rfl rfl (zdg D_X4_readWalker 82 (149, .getfield 90, 3) rfl) ?_
                refine z_iload_n (pc := 152) 0 (zdg D_X4_readWalker 83 (152, .iload_n 3, 1) rfl) rfl rfl ?_
                refine z_iald (pc := 153) rfl (fun _ => rfl) (zdg D_X4_readWalker 84 (153, .iaload, 1) rfl) hn hf (fun hf => ?_)
                refine z_iconst (pc := 154) (v := -1) (zdg D_X4_readWalker 85 (154, .iconst (-1), 1) rfl) rfl ?_
                refine z_icmp_eq (pc := 155) 166 (zdg D_X4_readWalker 86 (155, .if_icmp .eq 11, 3) rfl) rfl hf (fun hf => ?_) (fun hf => ?_)
                · refine z_iconst (pc := 166) (v := 0) (zdg D_X4_readWalker 91 (166, .iconst 0, 1) rfl) rfl ?_
                  exact z_iret (pc := 167) rfl rfl (zdg D_X4_readWalker 92 (167, .ireturn, 1) rfl) (hP _ _ hf)
                · refine z_aload_n (pc := 158) 1 (zdg D_X4_readWalker 87 (158, .aload_n 0, 1) rfl) rfl rfl ?_
                  refine z_iload_n (pc := 159) 0 (zdg D_X4_readWalker 88 (159, .iload_n 3, 1) rfl) rfl rfl ?_
                  refine z_bind hn hf (fun q11 hq hf => ?_)
                  refine z_callV (pc := 160) (rest := []) (st2 := [zI q11.1]) (fun l => c_X4_readWay l (σ.1 8 1 0) s10 q11 hq) zv_X4_readWay lm_X4_96 rfl rfl rfl rfl rfl rfl (Nat.le_of_ble_eq_true rfl) ⟨Nat.le_of_ble_eq_true rfl, Nat.le_of_ble_eq_true rfl⟩ (zdg D_X4_readWalker 89 (160, .invokevirtual 96, 3) rfl) ?_
                  refine z_if_ne (pc := 163) 168 (zdg D_X4_readWalker 90 (163, .ifCond .ne 5, 3) rfl) rfl hf (fun hf => ?_) (fun hf => ?_)
                  · refine z_aload_n (pc := 168) 1 (zdg D_X4_readWalker 93 (168, .aload_n 0, 1) rfl) rfl rfl ?_
                    refine z_getR (pc := 169) (g := 8) (j := 1) lf_X4_12 rfl rfl rfl (zdg D_X4_readWalker 94 (169, .getfield 12, 3) rfl) ?_
                    refine z_iload_n (pc := 172) 0 (zdg D_X4_readWalker 95 (172, .iload_n 3, 1) rfl) rfl rfl ?_
                    refine z_iconst (pc := 173) (v := 1) (zdg D_X4_readWalker 96 (173, .iconst 1, 1) rfl) rfl ?_
                    refine z_iadd (pc := 174) (zdg D_X4_readWalker 97 (174, .iadd, 1) rfl) ?_
                    refine z_putI (pc := 175) lw_X4_63 rfl rfl rfl rfl (zdg D_X4_readWalker 98 (175, .putfield 63, 3) rfl) ?_
                    refine z_nmS hf (fun s12 hf => ?_)
                    refine z_aload_n (pc := 178) 1 (zdg D_X4_readWalker 99 (178, .aload_n 0, 1) rfl) rfl rfl ?_
                    refine z_bipush (pc := 179) (v := 59) (zdg D_X4_readWalker 100 (179, .bipush 59, 2) rfl) rfl ?_
                    refine z_bind hn hf (fun q13 hq hf => ?_)
                    refine z_callV (pc := 181) (rest := []) (st2 := [zI q13.1]) (fun l => c_X4_pass l (59 : Int32) s12 q13 hq) zv_X4_pass lm_X4_84 rfl rfl rfl rfl rfl rfl (Nat.le_of_ble_eq_true rfl) ⟨Nat.le_of_ble_eq_true rfl, Nat.le_of_ble_eq_true rfl⟩ (zdg D_X4_readWalker 101 (181, .invokevirtual 84, 3) rfl) ?_
                    exact z_zret (pc := 184) rfl (zdg D_X4_readWalker 102 (184, .ireturn, 1) rfl) hn hf (fun hf => (hP _ _ hf))
                  · refine z_iconst (pc := 166) (v := 0) (zdg D_X4_readWalker 91 (166, .iconst 0, 1) rfl) rfl ?_
                    exact z_iret (pc := 167) rfl rfl (zdg D_X4_readWalker 92 (167, .ireturn, 1) rfl) (hP _ _ hf)
              · refine z_iconst (pc := 128) (v := 0) (zdg D_X4_readWalker 69 (128, .iconst 0, 1) rfl) rfl ?_
                exact z_iret (pc := 129) rfl rfl (zdg D_X4_readWalker 70 (129, .ireturn, 1) rfl) (hP _ _ hf)
          · refine z_iconst (pc := 87) (v := 0) (zdg D_X4_readWalker 47 (87, .iconst 0, 1) rfl) rfl ?_
            exact z_iret (pc := 88) rfl rfl (zdg D_X4_readWalker 48 (88, .ireturn, 1) rfl) (hP _ _ hf)
      · refine z_aload_n (pc := 29) 1 (zdg D_X4_readWalker 15 (29, .aload_n 0, 1) rfl) rfl rfl ?_
        refine z_iconst (pc := 30) (v := 3) (zdg D_X4_readWalker 16 (30, .iconst 3, 1) rfl) rfl ?_
        refine z_bind hn hf (fun q14 hq hf => ?_)
        refine z_callV (pc := 31) (rest := []) (st2 := [zI q14.1]) (fun l => c_X4_fail l (3 : Int32) σ q14 hq) zv_X4_fail lm_X4_70 rfl rfl rfl rfl rfl rfl (Nat.le_of_ble_eq_true rfl) ⟨Nat.le_of_ble_eq_true rfl, Nat.le_of_ble_eq_true rfl⟩ (zdg D_X4_readWalker 17 (31, .invokevirtual 70, 3) rfl) ?_
        exact z_zret (pc := 34) rfl (zdg D_X4_readWalker 18 (34, .ireturn, 1) rfl) hn hf (fun hf => (hP _ _ hf))
    · refine z_aload_n (pc := 9) 0 (zdg D_X4_readWalker 4 (9, .aload_n 0, 1) rfl) rfl rfl ?_
      refine z_iconst (pc := 10) (v := 1) (zdg D_X4_readWalker 5 (10, .iconst 1, 1) rfl) rfl ?_
      refine z_bind hn hf (fun q15 hq hf => ?_)
      refine z_callV (pc := 11) (rest := []) (st2 := [zI q15.1]) (fun l => c_X4_fail l (1 : Int32) σ q15 hq) zv_X4_fail lm_X4_70 rfl rfl rfl rfl rfl rfl (Nat.le_of_ble_eq_true rfl) ⟨Nat.le_of_ble_eq_true rfl, Nat.le_of_ble_eq_true rfl⟩ (zdg D_X4_readWalker 6 (11, .invokevirtual 70, 3) rfl) ?_
      exact z_zret (pc := 14) rfl (zdg D_X4_readWalker 7 (14, .ireturn, 1) rfl) hn hf (fun hf => (hP _ _ hf))

def L_X4_readWalkers : List (Nat × Instr × Nat) := [(0, .aload_n 0, 1), (1, .getfield 12, 3), (4, .iconst 0, 1), (5, .putfield 63, 3), (8, .iconst 0, 1), (9, .istore_n 3, 1), (10, .iload_n 3, 1), (11, .sipush 400, 3), (14, .if_icmp .gt 27, 3), (17, .aload_n 0, 1), (18, .getfield 54, 3), (21, .ifCond .eq 20, 3), (24, .aload_n 0, 1), (25, .iload_n 1, 1), (26, .iload_n 2, 1), (27, .invokevirtual 66, 3), (30, .ifCond .ne 5, 3), (33, .iconst 0, 1), (34, .ireturn, 1), (35, .iinc 3 1, 3), (38, .goto (-28), 3), (41, .iconst 1, 1), (42, .ireturn, 1)]
set_option maxRecDepth 100000 in
theorem D_X4_readWalkers : zdecs cX4_readWalkers L_X4_readWalkers = true := by decide +kernel
noncomputable def b_X4_readWalkers_10 (p1 : Int32) (p2 : Int32) (v3_2 : Int32) (s3 : zG) : Option ((Int32 × zG) ⊕ ((zG) ⊕ (zG))) :=
  if v3_2 ≤ (400 : Int32) then if (s3.1 4 0 8) = 0 then some (Sum.inr (Sum.inr s3)) else (f_X4_readWalker p1 p2 s3).bind (fun q4 => if q4.1 = 0 then some (Sum.inr (Sum.inl q4.2)) else some (Sum.inl ((v3_2 + 1), q4.2))) else some (Sum.inr (Sum.inr s3))
noncomputable def f_X4_readWalkers (p1 : Int32) (p2 : Int32) (σ : zG) : Option (Int32 × zG) :=
  zb (zwI σ 8 1 0 (0 : Int32)) (fun s1 => (zlp (fun q : Int32 × zG => b_X4_readWalkers_10 p1 p2 q.1 q.2) ((0 : Int32), s1)).bind (Sum.elim (fun e5 : zG => some ((0 : Int32), e5)) (fun e6 : zG => some ((1 : Int32), e6))))
set_option maxRecDepth 100000 in
set_option maxHeartbeats 4000000 in
theorem c_X4_readWalkers (l : Launch) (p1 : Int32) (p2 : Int32) (σ : zG) (q : Int32 × zG) (hq : f_X4_readWalkers p1 p2 σ = some q) : zMet l zsyC m_X4_readWalkers yX4_readWalkers [zR 4 0, zI p1, zI p2] σ (some (zI q.1)) q.2 := by
  refine zEnter [(0, zR 4 0), (1, zI p1), (2, zI p2)] (by decide) rfl (fun _ => Nat.le_of_ble_eq_true rfl) (fun _ => rfl) (fun w h => ?_) (fun K hv hs => ?_)
  · exact zokm rfl h
  · have hP : ∀ x s, f_X4_readWalkers p1 p2 σ = some (x, s) → zKv K = some (zI x) ∧ zKs K = s := fun x s h => by rw [hq] at h; cases h; exact ⟨hv, hs⟩
    have hn : f_X4_readWalkers p1 p2 σ ≠ none := fun z => by rw [hq] at z; cases z
    have hf := f_X4_readWalkers.eq_1 p1 p2 σ
    refine z_aload_n (pc := 0) 0 (zdg D_X4_readWalkers 0 (0, .aload_n 0, 1) rfl) rfl rfl ?_
    refine z_getR (pc := 1) (g := 8) (j := 1) lf_X4_12 rfl rfl rfl (zdg D_X4_readWalkers 1 (1, .getfield 12, 3) rfl) ?_
    refine z_iconst (pc := 4) (v := 0) (zdg D_X4_readWalkers 2 (4, .iconst 0, 1) rfl) rfl ?_
    refine z_putI (pc := 5) lw_X4_63 rfl rfl rfl rfl (zdg D_X4_readWalkers 3 (5, .putfield 63, 3) rfl) ?_
    refine z_nmS hf (fun s1 hf => ?_)
    refine z_iconst (pc := 8) (v := 0) (zdg D_X4_readWalkers 4 (8, .iconst 0, 1) rfl) rfl ?_
    refine z_istore_n (pc := 9) (al' := [(3, zI (0 : Int32)), (0, zR 4 0), (1, zI p1), (2, zI p2)]) (zdg D_X4_readWalkers 5 (9, .istore_n 3, 1) rfl) rfl (by decide) rfl ?_
    refine z_sub (al' := [(0, zR 4 0), (1, zI p1), (2, zI p2), (3, zI (0 : Int32))]) [1, 2, 3, 0] rfl ?_
    refine z_loop (f := (fun q : Int32 × zG => b_X4_readWalkers_10 p1 p2 q.1 q.2)) (a := ((0 : Int32), s1)) (fun q : Int32 × zG => zX zsyC m_X4_readWalkers K 10 [(0, zR 4 0), (1, zI p1), (2, zI p2), (3, zI q.1)] [] q.2) (Sum.elim (fun e5 : zG => zX zsyC m_X4_readWalkers K 33 [] [] e5) (fun e6 : zG => zX zsyC m_X4_readWalkers K 41 [] [] e6)) hn hf ?_ ?_
    · intro b hf
      cases b with
      | inl e5 =>
        refine z_iconst (pc := 33) (v := 0) (zdg D_X4_readWalkers 17 (33, .iconst 0, 1) rfl) rfl ?_
        exact z_iret (pc := 34) rfl rfl (zdg D_X4_readWalkers 18 (34, .ireturn, 1) rfl) (hP _ _ hf)
      | inr b =>
        revert hf
        revert b
        intro e6 hf
        refine z_iconst (pc := 41) (v := 1) (zdg D_X4_readWalkers 21 (41, .iconst 1, 1) rfl) rfl ?_
        exact z_iret (pc := 42) rfl rfl (zdg D_X4_readWalkers 22 (42, .ireturn, 1) rfl) (hP _ _ hf)
    · rintro ⟨v3_2, s3⟩ hn hi hx
      have hf := b_X4_readWalkers_10.eq_1 p1 p2 v3_2 s3
      refine z_iload_n (pc := 10) 3 (zdg D_X4_readWalkers 6 (10, .iload_n 3, 1) rfl) rfl rfl ?_
      refine z_sipush (pc := 11) (v := 400) (zdg D_X4_readWalkers 7 (11, .sipush 400, 3) rfl) rfl ?_
      refine z_icmp_gt (pc := 14) 41 (zdg D_X4_readWalkers 8 (14, .if_icmp .gt 27, 3) rfl) rfl hf (fun hf => ?_) (fun hf => ?_)
      · refine z_sub (al' := []) [] rfl ?_
        exact hx (Sum.inr s3) hf
      · refine z_aload_n (pc := 17) 0 (zdg D_X4_readWalkers 9 (17, .aload_n 0, 1) rfl) rfl rfl ?_
        refine z_getI (pc := 18) lf_X4_54 rfl rfl (zdg D_X4_readWalkers 10 (18, .getfield 54, 3) rfl) ?_
        refine z_if_eq (pc := 21) 41 (zdg D_X4_readWalkers 11 (21, .ifCond .eq 20, 3) rfl) rfl hf (fun hf => ?_) (fun hf => ?_)
        · refine z_sub (al' := []) [] rfl ?_
          exact hx (Sum.inr s3) hf
        · refine z_aload_n (pc := 24) 0 (zdg D_X4_readWalkers 12 (24, .aload_n 0, 1) rfl) rfl rfl ?_
          refine z_iload_n (pc := 25) 1 (zdg D_X4_readWalkers 13 (25, .iload_n 1, 1) rfl) rfl rfl ?_
          refine z_iload_n (pc := 26) 2 (zdg D_X4_readWalkers 14 (26, .iload_n 2, 1) rfl) rfl rfl ?_
          refine z_bind hn hf (fun q4 hq hf => ?_)
          refine z_callV (pc := 27) (rest := []) (st2 := [zI q4.1]) (fun l => c_X4_readWalker l p1 p2 s3 q4 hq) zv_X4_readWalker lm_X4_66 rfl rfl rfl rfl rfl rfl (Nat.le_of_ble_eq_true rfl) ⟨Nat.le_of_ble_eq_true rfl, Nat.le_of_ble_eq_true rfl⟩ (zdg D_X4_readWalkers 15 (27, .invokevirtual 66, 3) rfl) ?_
          refine z_if_ne (pc := 30) 35 (zdg D_X4_readWalkers 16 (30, .ifCond .ne 5, 3) rfl) rfl hf (fun hf => ?_) (fun hf => ?_)
          · refine z_iinc (pc := 35) (v0 := (v3_2 + 1)) (al' := [(3, zI (v3_2 + 1)), (0, zR 4 0), (1, zI p1), (2, zI p2)]) 3 (zdg D_X4_readWalkers 19 (35, .iinc 3 1, 3) rfl) rfl rfl (by decide) rfl ?_
            refine z_goto (pc := 38) 10 (zdg D_X4_readWalkers 20 (38, .goto (-28), 3) rfl) rfl ?_
            refine z_sub (al' := [(0, zR 4 0), (1, zI p1), (2, zI p2), (3, zI (v3_2 + 1))]) [1, 2, 3, 0] rfl ?_
            exact hi ((v3_2 + 1), q4.2) hf
          · refine z_sub (al' := []) [] rfl ?_
            exact hx (Sum.inl q4.2) hf

def L_X4_readUnit : List (Nat × Instr × Nat) := [(0, .aload_n 0, 1), (1, .getfield 54, 3), (4, .iconst 2, 1), (5, .if_icmp .ne 18, 3), (8, .aload_n 0, 1), (9, .getfield 21, 3), (12, .iconst 2, 1), (13, .aload_n 0, 1), (14, .getfield 60, 3), (17, .invokevirtual 135, 3), (20, .goto 50, 3), (23, .aload_n 0, 1), (24, .getfield 54, 3), (27, .aload_n 0, 1), (28, .getfield 103, 3), (31, .if_icmp .lt 33, 3), (34, .aload_n 0, 1), (35, .getfield 54, 3), (38, .aload_n 0, 1), (39, .getfield 106, 3), (42, .if_icmp .gt 22, 3), (45, .aload_n 0, 1), (46, .getfield 21, 3), (49, .bipush 114, 2), (51, .aload_n 0, 1), (52, .getfield 54, 3), (55, .bipush 114, 2), (57, .isub, 1), (58, .invokevirtual 135, 3), (61, .goto 9, 3), (64, .aload_n 0, 1), (65, .iconst 1, 1), (66, .invokevirtual 70, 3), (69, .ireturn, 1), (70, .aload_n 0, 1), (71, .invokevirtual 44, 3), (74, .iconst 1, 1), (75, .ireturn, 1)]
set_option maxRecDepth 100000 in
theorem D_X4_readUnit : zdecs cX4_readUnit L_X4_readUnit = true := by decide +kernel
noncomputable def f_X4_readUnit (σ : zG) : Option (Int32 × zG) :=
  if (σ.1 4 0 8) = (2 : Int32) then (f_X3_add 2 (2 : Int32) (σ.1 4 0 9) σ).bind (fun q5 => (f_X4_advance q5).bind (fun q6 => some ((1 : Int32), q6))) else if (σ.1 4 0 5) ≤ (σ.1 4 0 8) then if (σ.1 4 0 8) ≤ (σ.1 4 0 6) then (f_X3_add 2 (114 : Int32) ((σ.1 4 0 8) - (114 : Int32)) σ).bind (fun q3 => (f_X4_advance q3).bind (fun q4 => some ((1 : Int32), q4))) else (f_X4_fail (1 : Int32) σ).bind (fun q2 => zg (zbl q2.1) (some (q2.1, q2.2))) else (f_X4_fail (1 : Int32) σ).bind (fun q1 => zg (zbl q1.1) (some (q1.1, q1.2)))
set_option maxRecDepth 100000 in
set_option maxHeartbeats 4000000 in
theorem c_X4_readUnit (l : Launch)  (σ : zG) (q : Int32 × zG) (hq : f_X4_readUnit σ = some q) : zMet l zsyC m_X4_readUnit yX4_readUnit [zR 4 0] σ (some (zI q.1)) q.2 := by
  refine zEnter [(0, zR 4 0)] (by decide) rfl (fun _ => Nat.le_of_ble_eq_true rfl) (fun _ => rfl) (fun w h => ?_) (fun K hv hs => ?_)
  · exact zokm rfl h
  · have hP : ∀ x s, f_X4_readUnit σ = some (x, s) → zKv K = some (zI x) ∧ zKs K = s := fun x s h => by rw [hq] at h; cases h; exact ⟨hv, hs⟩
    have hn : f_X4_readUnit σ ≠ none := fun z => by rw [hq] at z; cases z
    have hf := f_X4_readUnit.eq_1 σ
    refine z_aload_n (pc := 0) 0 (zdg D_X4_readUnit 0 (0, .aload_n 0, 1) rfl) rfl rfl ?_
    refine z_getI (pc := 1) lf_X4_54 rfl rfl (zdg D_X4_readUnit 1 (1, .getfield 54, 3) rfl) ?_
    refine z_iconst (pc := 4) (v := 2) (zdg D_X4_readUnit 2 (4, .iconst 2, 1) rfl) rfl ?_
    refine z_icmp_ne (pc := 5) 23 (zdg D_X4_readUnit 3 (5, .if_icmp .ne 18, 3) rfl) rfl hf (fun hf => ?_) (fun hf => ?_)
    · refine z_aload_n (pc := 23) 0 (zdg D_X4_readUnit 11 (23, .aload_n 0, 1) rfl) rfl rfl ?_
      refine z_getI (pc := 24) lf_X4_54 rfl rfl (zdg D_X4_readUnit 12 (24, .getfield 54, 3) rfl) ?_
      refine z_aload_n (pc := 27) 0 (zdg D_X4_readUnit 13 (27, .aload_n 0, 1) rfl) rfl rfl ?_
      refine z_getI (pc := 28) lf_X4_103 rfl rfl (zdg D_X4_readUnit 14 (28, .getfield 103, 3) rfl) ?_
      refine z_icmp_lt (pc := 31) 64 (zdg D_X4_readUnit 15 (31, .if_icmp .lt 33, 3) rfl) rfl hf (fun hf => ?_) (fun hf => ?_)
      · refine z_aload_n (pc := 64) 0 (zdg D_X4_readUnit 30 (64, .aload_n 0, 1) rfl) rfl rfl ?_
        refine z_iconst (pc := 65) (v := 1) (zdg D_X4_readUnit 31 (65, .iconst 1, 1) rfl) rfl ?_
        refine z_bind hn hf (fun q1 hq hf => ?_)
        refine z_callV (pc := 66) (rest := []) (st2 := [zI q1.1]) (fun l => c_X4_fail l (1 : Int32) σ q1 hq) zv_X4_fail lm_X4_70 rfl rfl rfl rfl rfl rfl (Nat.le_of_ble_eq_true rfl) ⟨Nat.le_of_ble_eq_true rfl, Nat.le_of_ble_eq_true rfl⟩ (zdg D_X4_readUnit 32 (66, .invokevirtual 70, 3) rfl) ?_
        exact z_zret (pc := 69) rfl (zdg D_X4_readUnit 33 (69, .ireturn, 1) rfl) hn hf (fun hf => (hP _ _ hf))
      · refine z_aload_n (pc := 34) 0 (zdg D_X4_readUnit 16 (34, .aload_n 0, 1) rfl) rfl rfl ?_
        refine z_getI (pc := 35) lf_X4_54 rfl rfl (zdg D_X4_readUnit 17 (35, .getfield 54, 3) rfl) ?_
        refine z_aload_n (pc := 38) 0 (zdg D_X4_readUnit 18 (38, .aload_n 0, 1) rfl) rfl rfl ?_
        refine z_getI (pc := 39) lf_X4_106 rfl rfl (zdg D_X4_readUnit 19 (39, .getfield 106, 3) rfl) ?_
        refine z_icmp_gt (pc := 42) 64 (zdg D_X4_readUnit 20 (42, .if_icmp .gt 22, 3) rfl) rfl hf (fun hf => ?_) (fun hf => ?_)
        · refine z_aload_n (pc := 64) 0 (zdg D_X4_readUnit 30 (64, .aload_n 0, 1) rfl) rfl rfl ?_
          refine z_iconst (pc := 65) (v := 1) (zdg D_X4_readUnit 31 (65, .iconst 1, 1) rfl) rfl ?_
          refine z_bind hn hf (fun q2 hq hf => ?_)
          refine z_callV (pc := 66) (rest := []) (st2 := [zI q2.1]) (fun l => c_X4_fail l (1 : Int32) σ q2 hq) zv_X4_fail lm_X4_70 rfl rfl rfl rfl rfl rfl (Nat.le_of_ble_eq_true rfl) ⟨Nat.le_of_ble_eq_true rfl, Nat.le_of_ble_eq_true rfl⟩ (zdg D_X4_readUnit 32 (66, .invokevirtual 70, 3) rfl) ?_
          exact z_zret (pc := 69) rfl (zdg D_X4_readUnit 33 (69, .ireturn, 1) rfl) hn hf (fun hf => (hP _ _ hf))
        · refine z_aload_n (pc := 45) 0 (zdg D_X4_readUnit 21 (45, .aload_n 0, 1) rfl) rfl rfl ?_
          refine z_getR (pc := 46) (g := 10) (j := 2) lf_X4_21 rfl rfl rfl (zdg D_X4_readUnit 22 (46, .getfield 21, 3) rfl) ?_
          refine z_bipush (pc := 49) (v := 114) (zdg D_X4_readUnit 23 (49, .bipush 114, 2) rfl) rfl ?_
          refine z_aload_n (pc := 51) 0 (zdg D_X4_readUnit 24 (51, .aload_n 0, 1) rfl) rfl rfl ?_
          refine z_getI (pc := 52) lf_X4_54 rfl rfl (zdg D_X4_readUnit 25 (52, .getfield 54, 3) rfl) ?_
          refine z_bipush (pc := 55) (v := 114) (zdg D_X4_readUnit 26 (55, .bipush 114, 2) rfl) rfl ?_
          refine z_isub (pc := 57) (zdg D_X4_readUnit 27 (57, .isub, 1) rfl) ?_
          refine z_bind hn hf (fun q3 hq hf => ?_)
          refine z_callV (pc := 58) (rest := []) (st2 := []) (fun l => c_X3_add l 2 (114 : Int32) ((σ.1 4 0 8) - (114 : Int32)) σ q3 hq) zv_X3_add lm_X4_135 rfl rfl rfl rfl rfl rfl (Nat.le_of_ble_eq_true rfl) ⟨Nat.le_of_ble_eq_true rfl, Nat.le_of_ble_eq_true rfl⟩ (zdg D_X4_readUnit 28 (58, .invokevirtual 135, 3) rfl) ?_
          refine z_goto (pc := 61) 70 (zdg D_X4_readUnit 29 (61, .goto 9, 3) rfl) rfl ?_
          refine z_aload_n (pc := 70) 0 (zdg D_X4_readUnit 34 (70, .aload_n 0, 1) rfl) rfl rfl ?_
          refine z_bind hn hf (fun q4 hq hf => ?_)
          refine z_callV (pc := 71) (rest := []) (st2 := []) (fun l => c_X4_advance l q3 q4 hq) zv_X4_advance lm_X4_44 rfl rfl rfl rfl rfl rfl (Nat.le_of_ble_eq_true rfl) ⟨Nat.le_of_ble_eq_true rfl, Nat.le_of_ble_eq_true rfl⟩ (zdg D_X4_readUnit 35 (71, .invokevirtual 44, 3) rfl) ?_
          refine z_iconst (pc := 74) (v := 1) (zdg D_X4_readUnit 36 (74, .iconst 1, 1) rfl) rfl ?_
          exact z_iret (pc := 75) rfl rfl (zdg D_X4_readUnit 37 (75, .ireturn, 1) rfl) (hP _ _ hf)
    · refine z_aload_n (pc := 8) 0 (zdg D_X4_readUnit 4 (8, .aload_n 0, 1) rfl) rfl rfl ?_
      refine z_getR (pc := 9) (g := 10) (j := 2) lf_X4_21 rfl rfl rfl (zdg D_X4_readUnit 5 (9, .getfield 21, 3) rfl) ?_
      refine z_iconst (pc := 12) (v := 2) (zdg D_X4_readUnit 6 (12, .iconst 2, 1) rfl) rfl ?_
      refine z_aload_n (pc := 13) 0 (zdg D_X4_readUnit 7 (13, .aload_n 0, 1) rfl) rfl rfl ?_
      refine z_getI (pc := 14) lf_X4_60 rfl rfl (zdg D_X4_readUnit 8 (14, .getfield 60, 3) rfl) ?_
      refine z_bind hn hf (fun q5 hq hf => ?_)
      refine z_callV (pc := 17) (rest := []) (st2 := []) (fun l => c_X3_add l 2 (2 : Int32) (σ.1 4 0 9) σ q5 hq) zv_X3_add lm_X4_135 rfl rfl rfl rfl rfl rfl (Nat.le_of_ble_eq_true rfl) ⟨Nat.le_of_ble_eq_true rfl, Nat.le_of_ble_eq_true rfl⟩ (zdg D_X4_readUnit 9 (17, .invokevirtual 135, 3) rfl) ?_
      refine z_goto (pc := 20) 70 (zdg D_X4_readUnit 10 (20, .goto 50, 3) rfl) rfl ?_
      refine z_aload_n (pc := 70) 0 (zdg D_X4_readUnit 34 (70, .aload_n 0, 1) rfl) rfl rfl ?_
      refine z_bind hn hf (fun q6 hq hf => ?_)
      refine z_callV (pc := 71) (rest := []) (st2 := []) (fun l => c_X4_advance l q5 q6 hq) zv_X4_advance lm_X4_44 rfl rfl rfl rfl rfl rfl (Nat.le_of_ble_eq_true rfl) ⟨Nat.le_of_ble_eq_true rfl, Nat.le_of_ble_eq_true rfl⟩ (zdg D_X4_readUnit 35 (71, .invokevirtual 44, 3) rfl) ?_
      refine z_iconst (pc := 74) (v := 1) (zdg D_X4_readUnit 36 (74, .iconst 1, 1) rfl) rfl ?_
      exact z_iret (pc := 75) rfl rfl (zdg D_X4_readUnit 37 (75, .ireturn, 1) rfl) (hP _ _ hf)

def L_X4_isReckoning : List (Nat × Instr × Nat) := [(0, .iload_n 0, 1), (1, .bipush 43, 2), (3, .if_icmp .eq 21, 3), (6, .iload_n 0, 1), (7, .bipush 45, 2), (9, .if_icmp .eq 15, 3), (12, .iload_n 0, 1), (13, .bipush 42, 2), (15, .if_icmp .eq 9, 3), (18, .iload_n 0, 1), (19, .bipush 47, 2), (21, .if_icmp .ne 7, 3), (24, .iconst 1, 1), (25, .goto 4, 3), (28, .iconst 0, 1), (29, .ireturn, 1)]
set_option maxRecDepth 100000 in
theorem D_X4_isReckoning : zdecs cX4_isReckoning L_X4_isReckoning = true := by decide +kernel
noncomputable def f_X4_isReckoning (p1 : Int32) : Int32 :=
  if p1 = (43 : Int32) then (1 : Int32) else if p1 = (45 : Int32) then (1 : Int32) else if p1 = (42 : Int32) then (1 : Int32) else if p1 = (47 : Int32) then (1 : Int32) else (0 : Int32)
set_option maxRecDepth 100000 in
set_option maxHeartbeats 4000000 in
theorem c_X4_isReckoning (l : Launch) (p1 : Int32) (σ : zG) : zMet l zsyC m_X4_isReckoning yX4_isReckoning [zI p1] σ (some (zI (f_X4_isReckoning p1))) σ := by
  refine zEnter [(0, zI p1)] (by decide) rfl (fun _ => Nat.le_of_ble_eq_true rfl) (fun _ => rfl) (fun w h => ?_) (fun K hv hs => ?_)
  · exact zokm rfl h
  · have hP : ∀ x, f_X4_isReckoning p1 = x → zKv K = some (zI x) ∧ zKs K = σ := fun x h => by rw [h] at hv; exact ⟨hv, hs⟩
    have hf := f_X4_isReckoning.eq_1 p1
    refine z_iload_n (pc := 0) 0 (zdg D_X4_isReckoning 0 (0, .iload_n 0, 1) rfl) rfl rfl ?_
    refine z_bipush (pc := 1) (v := 43) (zdg D_X4_isReckoning 1 (1, .bipush 43, 2) rfl) rfl ?_
    refine z_icmp_eq (pc := 3) 24 (zdg D_X4_isReckoning 2 (3, .if_icmp .eq 21, 3) rfl) rfl hf (fun hf => ?_) (fun hf => ?_)
    · refine z_iconst (pc := 24) (v := 1) (zdg D_X4_isReckoning 12 (24, .iconst 1, 1) rfl) rfl ?_
      refine z_goto (pc := 25) 29 (zdg D_X4_isReckoning 13 (25, .goto 4, 3) rfl) rfl ?_
      exact z_iret (pc := 29) rfl rfl (zdg D_X4_isReckoning 15 (29, .ireturn, 1) rfl) (hP _ hf)
    · refine z_iload_n (pc := 6) 0 (zdg D_X4_isReckoning 3 (6, .iload_n 0, 1) rfl) rfl rfl ?_
      refine z_bipush (pc := 7) (v := 45) (zdg D_X4_isReckoning 4 (7, .bipush 45, 2) rfl) rfl ?_
      refine z_icmp_eq (pc := 9) 24 (zdg D_X4_isReckoning 5 (9, .if_icmp .eq 15, 3) rfl) rfl hf (fun hf => ?_) (fun hf => ?_)
      · refine z_iconst (pc := 24) (v := 1) (zdg D_X4_isReckoning 12 (24, .iconst 1, 1) rfl) rfl ?_
        refine z_goto (pc := 25) 29 (zdg D_X4_isReckoning 13 (25, .goto 4, 3) rfl) rfl ?_
        exact z_iret (pc := 29) rfl rfl (zdg D_X4_isReckoning 15 (29, .ireturn, 1) rfl) (hP _ hf)
      · refine z_iload_n (pc := 12) 0 (zdg D_X4_isReckoning 6 (12, .iload_n 0, 1) rfl) rfl rfl ?_
        refine z_bipush (pc := 13) (v := 42) (zdg D_X4_isReckoning 7 (13, .bipush 42, 2) rfl) rfl ?_
        refine z_icmp_eq (pc := 15) 24 (zdg D_X4_isReckoning 8 (15, .if_icmp .eq 9, 3) rfl) rfl hf (fun hf => ?_) (fun hf => ?_)
        · refine z_iconst (pc := 24) (v := 1) (zdg D_X4_isReckoning 12 (24, .iconst 1, 1) rfl) rfl ?_
          refine z_goto (pc := 25) 29 (zdg D_X4_isReckoning 13 (25, .goto 4, 3) rfl) rfl ?_
          exact z_iret (pc := 29) rfl rfl (zdg D_X4_isReckoning 15 (29, .ireturn, 1) rfl) (hP _ hf)
        · refine z_iload_n (pc := 18) 0 (zdg D_X4_isReckoning 9 (18, .iload_n 0, 1) rfl) rfl rfl ?_
          refine z_bipush (pc := 19) (v := 47) (zdg D_X4_isReckoning 10 (19, .bipush 47, 2) rfl) rfl ?_
          refine z_icmp_ne (pc := 21) 28 (zdg D_X4_isReckoning 11 (21, .if_icmp .ne 7, 3) rfl) rfl hf (fun hf => ?_) (fun hf => ?_)
          · refine z_iconst (pc := 28) (v := 0) (zdg D_X4_isReckoning 14 (28, .iconst 0, 1) rfl) rfl ?_
            exact z_iret (pc := 29) rfl rfl (zdg D_X4_isReckoning 15 (29, .ireturn, 1) rfl) (hP _ hf)
          · refine z_iconst (pc := 24) (v := 1) (zdg D_X4_isReckoning 12 (24, .iconst 1, 1) rfl) rfl ?_
            refine z_goto (pc := 25) 29 (zdg D_X4_isReckoning 13 (25, .goto 4, 3) rfl) rfl ?_
            exact z_iret (pc := 29) rfl rfl (zdg D_X4_isReckoning 15 (29, .ireturn, 1) rfl) (hP _ hf)
