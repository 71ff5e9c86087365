/-! METHODS, by program: functions and contracts -/
def L_X12_walkWord : List (Nat × Instr × Nat) := [(0, .aload_n 0, 1), (1, .ldc 96, 2), (3, .invokevirtual 98, 3), (6, .ifCond .eq 6, 3), (9, .bipush 8, 2), (11, .ireturn, 1), (12, .aload_n 0, 1), (13, .ldc 102, 2), (15, .invokevirtual 98, 3), (18, .ifCond .eq 6, 3), (21, .bipush 9, 2), (23, .ireturn, 1), (24, .aload_n 0, 1), (25, .ldc 104, 2), (27, .invokevirtual 98, 3), (30, .ifCond .eq 6, 3), (33, .bipush 10, 2), (35, .ireturn, 1), (36, .aload_n 0, 1), (37, .ldc 105, 2), (39, .invokevirtual 98, 3), (42, .ifCond .eq 6, 3), (45, .bipush 11, 2), (47, .ireturn, 1), (48, .aload_n 0, 1), (49, .ldc 107, 2), (51, .invokevirtual 98, 3), (54, .ifCond .eq 6, 3), (57, .bipush 12, 2), (59, .ireturn, 1), (60, .aload_n 0, 1), (61, .ldc 109, 2), (63, .invokevirtual 98, 3), (66, .ifCond .eq 6, 3), (69, .bipush 13, 2), (71, .ireturn, 1), (72, .aload_n 0, 1), (73, .ldc 111, 2), (75, .invokevirtual 98, 3), (78, .ifCond .eq 6, 3), (81, .bipush 14, 2), (83, .ireturn, 1), (84, .aload_n 0, 1), (85, .ldc 113, 2), (87, .invokevirtual 98, 3), (90, .ifCond .eq 8, 3), (93, .bipush 15, 2), (95, .goto 4, 3), (98, .iconst 1, 1), (99, .ireturn, 1)]
set_option maxRecDepth 100000 in
theorem D_X12_walkWord : zdecs cX12_walkWord L_X12_walkWord = true := by decide +kernel
noncomputable def f_X12_walkWord (σ : zG) : Option (Int32) :=
  (f_X12_is 0 σ).bind (fun q1 => if q1 = 0 then (f_X12_is 1 σ).bind (fun q2 => if q2 = 0 then (f_X12_is 2 σ).bind (fun q3 => if q3 = 0 then (f_X12_is 3 σ).bind (fun q4 => if q4 = 0 then (f_X12_is 4 σ).bind (fun q5 => if q5 = 0 then (f_X12_is 5 σ).bind (fun q6 => if q6 = 0 then (f_X12_is 6 σ).bind (fun q7 => if q7 = 0 then (f_X12_is 7 σ).bind (fun q8 => if q8 = 0 then some (1 : Int32) else some (15 : Int32)) else some (14 : Int32)) else some (13 : Int32)) else some (12 : Int32)) else some (11 : Int32)) else some (10 : Int32)) else some (9 : Int32)) else some (8 : Int32))
set_option maxRecDepth 100000 in
set_option maxHeartbeats 4000000 in
theorem c_X12_walkWord (l : Launch)  (σ : zG) (q : Int32) (hq : f_X12_walkWord σ = some q) : zMet l zsyM m_X12_walkWord yX12_walkWord [zR 0 0] σ (some (zI q)) σ := by
  refine zEnter [(0, zR 0 0)] (by decide) rfl (fun _ => Nat.le_of_ble_eq_true rfl) (fun _ => rfl) (fun w h => ?_) (fun K hv hs => ?_)
  · exact zokm rfl h
  · have hP : ∀ x, f_X12_walkWord σ = some x → zKv K = some (zI x) ∧ zKs K = σ := fun x h => by rw [hq] at h; cases h; exact ⟨hv, hs⟩
    have hn : f_X12_walkWord σ ≠ none := fun z => by rw [hq] at z; cases z
    have hf := f_X12_walkWord.eq_1 σ
    refine z_aload_n (pc := 0) 0 (zdg D_X12_walkWord 0 (0, .aload_n 0, 1) rfl) rfl rfl ?_
    refine z_ldcS (pc := 1) (j := 0) (tx := "walker") (by decide +kernel) (zdg D_X12_walkWord 1 (1, .ldc 96, 2) rfl) ?_
    refine z_bind hn hf (fun q1 hq hf => ?_)
    refine z_callV (pc := 3) (rest := []) (st2 := [zI q1]) (fun l => c_X12_is l 0 σ q1 hq) zv_X12_is lm_X12_98 rfl rfl rfl rfl rfl rfl (Nat.le_of_ble_eq_true rfl) ⟨Nat.le_of_ble_eq_true rfl, Nat.le_of_ble_eq_true rfl⟩ (zdg D_X12_walkWord 2 (3, .invokevirtual 98, 3) rfl) ?_
    refine z_if_eq (pc := 6) 12 (zdg D_X12_walkWord 3 (6, .ifCond .eq 6, 3) rfl) rfl hf (fun hf => ?_) (fun hf => ?_)
    · refine z_aload_n (pc := 12) 0 (zdg D_X12_walkWord 6 (12, .aload_n 0, 1) rfl) rfl rfl ?_
      refine z_ldcS (pc := 13) (j := 1) (tx := "comes") (by decide +kernel) (zdg D_X12_walkWord 7 (13, .ldc 102, 2) rfl) ?_
      refine z_bind hn hf (fun q2 hq hf => ?_)
      refine z_callV (pc := 15) (rest := []) (st2 := [zI q2]) (fun l => c_X12_is l 1 σ q2 hq) zv_X12_is lm_X12_98 rfl rfl rfl rfl rfl rfl (Nat.le_of_ble_eq_true rfl) ⟨Nat.le_of_ble_eq_true rfl, Nat.le_of_ble_eq_true rfl⟩ (zdg D_X12_walkWord 8 (15, .invokevirtual 98, 3) rfl) ?_
      refine z_if_eq (pc := 18) 24 (zdg D_X12_walkWord 9 (18, .ifCond .eq 6, 3) rfl) rfl hf (fun hf => ?_) (fun hf => ?_)
      · refine z_aload_n (pc := 24) 0 (zdg D_X12_walkWord 12 (24, .aload_n 0, 1) rfl) rfl rfl ?_
        refine z_ldcS (pc := 25) (j := 2) (tx := "at") (by decide +kernel) (zdg D_X12_walkWord 13 (25, .ldc 104, 2) rfl) ?_
        refine z_bind hn hf (fun q3 hq hf => ?_)
        refine z_callV (pc := 27) (rest := []) (st2 := [zI q3]) (fun l => c_X12_is l 2 σ q3 hq) zv_X12_is lm_X12_98 rfl rfl rfl rfl rfl rfl (Nat.le_of_ble_eq_true rfl) ⟨Nat.le_of_ble_eq_true rfl, Nat.le_of_ble_eq_true rfl⟩ (zdg D_X12_walkWord 14 (27, .invokevirtual 98, 3) rfl) ?_
        refine z_if_eq (pc := 30) 36 (zdg D_X12_walkWord 15 (30, .ifCond .eq 6, 3) rfl) rfl hf (fun hf => ?_) (fun hf => ?_)
        · refine z_aload_n (pc := 36) 0 (zdg D_X12_walkWord 18 (36, .aload_n 0, 1) rfl) rfl rfl ?_
          refine z_ldcS (pc := 37) (j := 3) (tx := "stand") (by decide +kernel) (zdg D_X12_walkWord 19 (37, .ldc 105, 2) rfl) ?_
          refine z_bind hn hf (fun q4 hq hf => ?_)
          refine z_callV (pc := 39) (rest := []) (st2 := [zI q4]) (fun l => c_X12_is l 3 σ q4 hq) zv_X12_is lm_X12_98 rfl rfl rfl rfl rfl rfl (Nat.le_of_ble_eq_true rfl) ⟨Nat.le_of_ble_eq_true rfl, Nat.le_of_ble_eq_true rfl⟩ (zdg D_X12_walkWord 20 (39, .invokevirtual 98, 3) rfl) ?_
          refine z_if_eq (pc := 42) 48 (zdg D_X12_walkWord 21 (42, .ifCond .eq 6, 3) rfl) rfl hf (fun hf => ?_) (fun hf => ?_)
          · refine z_aload_n (pc := 48) 0 (zdg D_X12_walkWord 24 (48, .aload_n 0, 1) rfl) rfl rfl ?_
            refine z_ldcS (pc := 49) (j := 4) (tx := "north") (by decide +kernel) (zdg D_X12_walkWord 25 (49, .ldc 107, 2) rfl) ?_
            refine z_bind hn hf (fun q5 hq hf => ?_)
            refine z_callV (pc := 51) (rest := []) (st2 := [zI q5]) (fun l => c_X12_is l 4 σ q5 hq) zv_X12_is lm_X12_98 rfl rfl rfl rfl rfl rfl (Nat.le_of_ble_eq_true rfl) ⟨Nat.le_of_ble_eq_true rfl, Nat.le_of_ble_eq_true rfl⟩ (zdg D_X12_walkWord 26 (51, .invokevirtual 98, 3) rfl) ?_
            refine z_if_eq (pc := 54) 60 (zdg D_X12_walkWord 27 (54, .ifCond .eq 6, 3) rfl) rfl hf (fun hf => ?_) (fun hf => ?_)
            · refine z_aload_n (pc := 60) 0 (zdg D_X12_walkWord 30 (60, .aload_n 0, 1) rfl) rfl rfl ?_
              refine z_ldcS (pc := 61) (j := 5) (tx := "east") (by decide +kernel) (zdg D_X12_walkWord 31 (61, .ldc 109, 2) rfl) ?_
              refine z_bind hn hf (fun q6 hq hf => ?_)
              refine z_callV (pc := 63) (rest := []) (st2 := [zI q6]) (fun l => c_X12_is l 5 σ q6 hq) zv_X12_is lm_X12_98 rfl rfl rfl rfl rfl rfl (Nat.le_of_ble_eq_true rfl) ⟨Nat.le_of_ble_eq_true rfl, Nat.le_of_ble_eq_true rfl⟩ (zdg D_X12_walkWord 32 (63, .invokevirtual 98, 3) rfl) ?_
              refine z_if_eq (pc := 66) 72 (zdg D_X12_walkWord 33 (66, .ifCond .eq 6, 3) rfl) rfl hf (fun hf => ?_) (fun hf => ?_)
              · refine z_aload_n (pc := 72) 0 (zdg D_X12_walkWord 36 (72, .aload_n 0, 1) rfl) rfl rfl ?_
                refine z_ldcS (pc := 73) (j := 6) (tx := "south") (by decide +kernel) (zdg D_X12_walkWord 37 (73, .ldc 111, 2) rfl) ?_
                refine z_bind hn hf (fun q7 hq hf => ?_)
                refine z_callV (pc := 75) (rest := []) (st2 := [zI q7]) (fun l => c_X12_is l 6 σ q7 hq) zv_X12_is lm_X12_98 rfl rfl rfl rfl rfl rfl (Nat.le_of_ble_eq_true rfl) ⟨Nat.le_of_ble_eq_true rfl, Nat.le_of_ble_eq_true rfl⟩ (zdg D_X12_walkWord 38 (75, .invokevirtual 98, 3) rfl) ?_
                refine z_if_eq (pc := 78) 84 (zdg D_X12_walkWord 39 (78, .ifCond .eq 6, 3) rfl) rfl hf (fun hf => ?_) (fun hf => ?_)
                · refine z_aload_n (pc := 84) 0 (zdg D_X12_walkWord 42 (84, .aload_n 0, 1) rfl) rfl rfl ?_
                  refine z_ldcS (pc := 85) (j := 7) (tx := "west") (by decide +kernel) (zdg D_X12_walkWord 43 (85, .ldc 113, 2) rfl) ?_
                  refine z_bind hn hf (fun q8 hq hf => ?_)
                  refine z_callV (pc := 87) (rest := []) (st2 := [zI q8]) (fun l => c_X12_is l 7 σ q8 hq) zv_X12_is lm_X12_98 rfl rfl rfl rfl rfl rfl (Nat.le_of_ble_eq_true rfl) ⟨Nat.le_of_ble_eq_true rfl, Nat.le_of_ble_eq_true rfl⟩ (zdg D_X12_walkWord 44 (87, .invokevirtual 98, 3) rfl) ?_
                  refine z_if_eq (pc := 90) 98 (zdg D_X12_walkWord 45 (90, .ifCond .eq 8, 3) rfl) rfl hf (fun hf => ?_) (fun hf => ?_)
                  · refine z_iconst (pc := 98) (v := 1) (zdg D_X12_walkWord 48 (98, .iconst 1, 1) rfl) rfl ?_
                    exact z_iret (pc := 99) rfl rfl (zdg D_X12_walkWord 49 (99, .ireturn, 1) rfl) (hP _ hf)
                  · refine z_bipush (pc := 93) (v := 15) (zdg D_X12_walkWord 46 (93, .bipush 15, 2) rfl) rfl ?_
                    refine z_goto (pc := 95) 99 (zdg D_X12_walkWord 47 (95, .goto 4, 3) rfl) rfl ?_
                    exact z_iret (pc := 99) rfl rfl (zdg D_X12_walkWord 49 (99, .ireturn, 1) rfl) (hP _ hf)
                · refine z_bipush (pc := 81) (v := 14) (zdg D_X12_walkWord 40 (81, .bipush 14, 2) rfl) rfl ?_
                  exact z_iret (pc := 83) rfl rfl (zdg D_X12_walkWord 41 (83, .ireturn, 1) rfl) (hP _ hf)
              · refine z_bipush (pc := 69) (v := 13) (zdg D_X12_walkWord 34 (69, .bipush 13, 2) rfl) rfl ?_
                exact z_iret (pc := 71) rfl rfl (zdg D_X12_walkWord 35 (71, .ireturn, 1) rfl) (hP _ hf)
            · refine z_bipush (pc := 57) (v := 12) (zdg D_X12_walkWord 28 (57, .bipush 12, 2) rfl) rfl ?_
              exact z_iret (pc := 59) rfl rfl (zdg D_X12_walkWord 29 (59, .ireturn, 1) rfl) (hP _ hf)
          · refine z_bipush (pc := 45) (v := 11) (zdg D_X12_walkWord 22 (45, .bipush 11, 2) rfl) rfl ?_
            exact z_iret (pc := 47) rfl rfl (zdg D_X12_walkWord 23 (47, .ireturn, 1) rfl) (hP _ hf)
        · refine z_bipush (pc := 33) (v := 10) (zdg D_X12_walkWord 16 (33, .bipush 10, 2) rfl) rfl ?_
          exact z_iret (pc := 35) rfl rfl (zdg D_X12_walkWord 17 (35, .ireturn, 1) rfl) (hP _ hf)
      · refine z_bipush (pc := 21) (v := 9) (zdg D_X12_walkWord 10 (21, .bipush 9, 2) rfl) rfl ?_
        exact z_iret (pc := 23) rfl rfl (zdg D_X12_walkWord 11 (23, .ireturn, 1) rfl) (hP _ hf)
    · refine z_bipush (pc := 9) (v := 8) (zdg D_X12_walkWord 4 (9, .bipush 8, 2) rfl) rfl ?_
      exact z_iret (pc := 11) rfl rfl (zdg D_X12_walkWord 5 (11, .ireturn, 1) rfl) (hP _ hf)

def L_X12_shadeName : List (Nat × Instr × Nat) := [(0, .aload_n 0, 1), (1, .ldc 115, 2), (3, .invokevirtual 98, 3), (6, .ifCond .eq 6, 3), (9, .bipush 7, 2), (11, .ireturn, 1), (12, .aload_n 0, 1), (13, .ldc 117, 2), (15, .invokevirtual 98, 3), (18, .ifCond .eq 6, 3), (21, .bipush 41, 2), (23, .ireturn, 1), (24, .aload_n 0, 1), (25, .ldc 119, 2), (27, .invokevirtual 98, 3), (30, .ifCond .eq 6, 3), (33, .bipush 42, 2), (35, .ireturn, 1), (36, .aload_n 0, 1), (37, .ldc 121, 2), (39, .invokevirtual 98, 3), (42, .ifCond .eq 6, 3), (45, .bipush 43, 2), (47, .ireturn, 1), (48, .aload_n 0, 1), (49, .ldc 123, 2), (51, .invokevirtual 98, 3), (54, .ifCond .eq 8, 3), (57, .bipush 44, 2), (59, .goto 4, 3), (62, .iconst 1, 1), (63, .ireturn, 1)]
set_option maxRecDepth 100000 in
theorem D_X12_shadeName : zdecs cX12_shadeName L_X12_shadeName = true := by decide +kernel
noncomputable def f_X12_shadeName (σ : zG) : Option (Int32) :=
  (f_X12_is 8 σ).bind (fun q1 => if q1 = 0 then (f_X12_is 9 σ).bind (fun q2 => if q2 = 0 then (f_X12_is 10 σ).bind (fun q3 => if q3 = 0 then (f_X12_is 11 σ).bind (fun q4 => if q4 = 0 then (f_X12_is 12 σ).bind (fun q5 => if q5 = 0 then some (1 : Int32) else some (44 : Int32)) else some (43 : Int32)) else some (42 : Int32)) else some (41 : Int32)) else some (7 : Int32))
set_option maxRecDepth 100000 in
set_option maxHeartbeats 4000000 in
theorem c_X12_shadeName (l : Launch)  (σ : zG) (q : Int32) (hq : f_X12_shadeName σ = some q) : zMet l zsyM m_X12_shadeName yX12_shadeName [zR 0 0] σ (some (zI q)) σ := by
  refine zEnter [(0, zR 0 0)] (by decide) rfl (fun _ => Nat.le_of_ble_eq_true rfl) (fun _ => rfl) (fun w h => ?_) (fun K hv hs => ?_)
  · exact zokm rfl h
  · have hP : ∀ x, f_X12_shadeName σ = some x → zKv K = some (zI x) ∧ zKs K = σ := fun x h => by rw [hq] at h; cases h; exact ⟨hv, hs⟩
    have hn : f_X12_shadeName σ ≠ none := fun z => by rw [hq] at z; cases z
    have hf := f_X12_shadeName.eq_1 σ
    refine z_aload_n (pc := 0) 0 (zdg D_X12_shadeName 0 (0, .aload_n 0, 1) rfl) rfl rfl ?_
    refine z_ldcS (pc := 1) (j := 8) (tx := "shade") (by decide +kernel) (zdg D_X12_shadeName 1 (1, .ldc 115, 2) rfl) ?_
    refine z_bind hn hf (fun q1 hq hf => ?_)
    refine z_callV (pc := 3) (rest := []) (st2 := [zI q1]) (fun l => c_X12_is l 8 σ q1 hq) zv_X12_is lm_X12_98 rfl rfl rfl rfl rfl rfl (Nat.le_of_ble_eq_true rfl) ⟨Nat.le_of_ble_eq_true rfl, Nat.le_of_ble_eq_true rfl⟩ (zdg D_X12_shadeName 2 (3, .invokevirtual 98, 3) rfl) ?_
    refine z_if_eq (pc := 6) 12 (zdg D_X12_shadeName 3 (6, .ifCond .eq 6, 3) rfl) rfl hf (fun hf => ?_) (fun hf => ?_)
    · refine z_aload_n (pc := 12) 0 (zdg D_X12_shadeName 6 (12, .aload_n 0, 1) rfl) rfl rfl ?_
      refine z_ldcS (pc := 13) (j := 9) (tx := "x") (by decide +kernel) (zdg D_X12_shadeName 7 (13, .ldc 117, 2) rfl) ?_
      refine z_bind hn hf (fun q2 hq hf => ?_)
      refine z_callV (pc := 15) (rest := []) (st2 := [zI q2]) (fun l => c_X12_is l 9 σ q2 hq) zv_X12_is lm_X12_98 rfl rfl rfl rfl rfl rfl (Nat.le_of_ble_eq_true rfl) ⟨Nat.le_of_ble_eq_true rfl, Nat.le_of_ble_eq_true rfl⟩ (zdg D_X12_shadeName 8 (15, .invokevirtual 98, 3) rfl) ?_
      refine z_if_eq (pc := 18) 24 (zdg D_X12_shadeName 9 (18, .ifCond .eq 6, 3) rfl) rfl hf (fun hf => ?_) (fun hf => ?_)
      · refine z_aload_n (pc := 24) 0 (zdg D_X12_shadeName 12 (24, .aload_n 0, 1) rfl) rfl rfl ?_
        refine z_ldcS (pc := 25) (j := 10) (tx := "y") (by decide +kernel) (zdg D_X12_shadeName 13 (25, .ldc 119, 2) rfl) ?_
        refine z_bind hn hf (fun q3 hq hf => ?_)
        refine z_callV (pc := 27) (rest := []) (st2 := [zI q3]) (fun l => c_X12_is l 10 σ q3 hq) zv_X12_is lm_X12_98 rfl rfl rfl rfl rfl rfl (Nat.le_of_ble_eq_true rfl) ⟨Nat.le_of_ble_eq_true rfl, Nat.le_of_ble_eq_true rfl⟩ (zdg D_X12_shadeName 14 (27, .invokevirtual 98, 3) rfl) ?_
        refine z_if_eq (pc := 30) 36 (zdg D_X12_shadeName 15 (30, .ifCond .eq 6, 3) rfl) rfl hf (fun hf => ?_) (fun hf => ?_)
        · refine z_aload_n (pc := 36) 0 (zdg D_X12_shadeName 18 (36, .aload_n 0, 1) rfl) rfl rfl ?_
          refine z_ldcS (pc := 37) (j := 11) (tx := "minute") (by decide +kernel) (zdg D_X12_shadeName 19 (37, .ldc 121, 2) rfl) ?_
          refine z_bind hn hf (fun q4 hq hf => ?_)
          refine z_callV (pc := 39) (rest := []) (st2 := [zI q4]) (fun l => c_X12_is l 11 σ q4 hq) zv_X12_is lm_X12_98 rfl rfl rfl rfl rfl rfl (Nat.le_of_ble_eq_true rfl) ⟨Nat.le_of_ble_eq_true rfl, Nat.le_of_ble_eq_true rfl⟩ (zdg D_X12_shadeName 20 (39, .invokevirtual 98, 3) rfl) ?_
          refine z_if_eq (pc := 42) 48 (zdg D_X12_shadeName 21 (42, .ifCond .eq 6, 3) rfl) rfl hf (fun hf => ?_) (fun hf => ?_)
          · refine z_aload_n (pc := 48) 0 (zdg D_X12_shadeName 24 (48, .aload_n 0, 1) rfl) rfl rfl ?_
            refine z_ldcS (pc := 49) (j := 12) (tx := "edge") (by decide +kernel) (zdg D_X12_shadeName 25 (49, .ldc 123, 2) rfl) ?_
            refine z_bind hn hf (fun q5 hq hf => ?_)
            refine z_callV (pc := 51) (rest := []) (st2 := [zI q5]) (fun l => c_X12_is l 12 σ q5 hq) zv_X12_is lm_X12_98 rfl rfl rfl rfl rfl rfl (Nat.le_of_ble_eq_true rfl) ⟨Nat.le_of_ble_eq_true rfl, Nat.le_of_ble_eq_true rfl⟩ (zdg D_X12_shadeName 26 (51, .invokevirtual 98, 3) rfl) ?_
            refine z_if_eq (pc := 54) 62 (zdg D_X12_shadeName 27 (54, .ifCond .eq 8, 3) rfl) rfl hf (fun hf => ?_) (fun hf => ?_)
            · refine z_iconst (pc := 62) (v := 1) (zdg D_X12_shadeName 30 (62, .iconst 1, 1) rfl) rfl ?_
              exact z_iret (pc := 63) rfl rfl (zdg D_X12_shadeName 31 (63, .ireturn, 1) rfl) (hP _ hf)
            · refine z_bipush (pc := 57) (v := 44) (zdg D_X12_shadeName 28 (57, .bipush 44, 2) rfl) rfl ?_
              refine z_goto (pc := 59) 63 (zdg D_X12_shadeName 29 (59, .goto 4, 3) rfl) rfl ?_
              exact z_iret (pc := 63) rfl rfl (zdg D_X12_shadeName 31 (63, .ireturn, 1) rfl) (hP _ hf)
          · refine z_bipush (pc := 45) (v := 43) (zdg D_X12_shadeName 22 (45, .bipush 43, 2) rfl) rfl ?_
            exact z_iret (pc := 47) rfl rfl (zdg D_X12_shadeName 23 (47, .ireturn, 1) rfl) (hP _ hf)
        · refine z_bipush (pc := 33) (v := 42) (zdg D_X12_shadeName 16 (33, .bipush 42, 2) rfl) rfl ?_
          exact z_iret (pc := 35) rfl rfl (zdg D_X12_shadeName 17 (35, .ireturn, 1) rfl) (hP _ hf)
      · refine z_bipush (pc := 21) (v := 41) (zdg D_X12_shadeName 10 (21, .bipush 41, 2) rfl) rfl ?_
        exact z_iret (pc := 23) rfl rfl (zdg D_X12_shadeName 11 (23, .ireturn, 1) rfl) (hP _ hf)
    · refine z_bipush (pc := 9) (v := 7) (zdg D_X12_shadeName 4 (9, .bipush 7, 2) rfl) rfl ?_
      exact z_iret (pc := 11) rfl rfl (zdg D_X12_shadeName 5 (11, .ireturn, 1) rfl) (hP _ hf)

def L_X12_worthName : List (Nat × Instr × Nat) := [(0, .aload_n 0, 1), (1, .ldc 125, 2), (3, .invokevirtual 98, 3), (6, .ifCond .eq 6, 3), (9, .bipush 7, 2), (11, .ireturn, 1), (12, .aload_n 0, 1), (13, .ldc 121, 2), (15, .invokevirtual 98, 3), (18, .ifCond .eq 6, 3), (21, .bipush 43, 2), (23, .ireturn, 1), (24, .aload_n 0, 1), (25, .ldc 127, 2), (27, .invokevirtual 98, 3), (30, .ifCond .eq 6, 3), (33, .bipush 45, 2), (35, .ireturn, 1), (36, .aload_n 0, 1), (37, .ldc 129, 2), (39, .invokevirtual 98, 3), (42, .ifCond .eq 6, 3), (45, .bipush 46, 2), (47, .ireturn, 1), (48, .aload_n 0, 1), (49, .ldc 131, 2), (51, .invokevirtual 98, 3), (54, .ifCond .eq 6, 3), (57, .bipush 47, 2), (59, .ireturn, 1), (60, .aload_n 0, 1), (61, .ldc 133, 2), (63, .invokevirtual 98, 3), (66, .ifCond .eq 8, 3), (69, .bipush 48, 2), (71, .goto 4, 3), (74, .iconst 1, 1), (75, .ireturn, 1)]
set_option maxRecDepth 100000 in
theorem D_X12_worthName : zdecs cX12_worthName L_X12_worthName = true := by decide +kernel
noncomputable def f_X12_worthName (σ : zG) : Option (Int32) :=
  (f_X12_is 13 σ).bind (fun q1 => if q1 = 0 then (f_X12_is 11 σ).bind (fun q2 => if q2 = 0 then (f_X12_is 14 σ).bind (fun q3 => if q3 = 0 then (f_X12_is 15 σ).bind (fun q4 => if q4 = 0 then (f_X12_is 16 σ).bind (fun q5 => if q5 = 0 then (f_X12_is 17 σ).bind (fun q6 => if q6 = 0 then some (1 : Int32) else some (48 : Int32)) else some (47 : Int32)) else some (46 : Int32)) else some (45 : Int32)) else some (43 : Int32)) else some (7 : Int32))
set_option maxRecDepth 100000 in
set_option maxHeartbeats 4000000 in
theorem c_X12_worthName (l : Launch)  (σ : zG) (q : Int32) (hq : f_X12_worthName σ = some q) : zMet l zsyM m_X12_worthName yX12_worthName [zR 0 0] σ (some (zI q)) σ := by
  refine zEnter [(0, zR 0 0)] (by decide) rfl (fun _ => Nat.le_of_ble_eq_true rfl) (fun _ => rfl) (fun w h => ?_) (fun K hv hs => ?_)
  · exact zokm rfl h
  · have hP : ∀ x, f_X12_worthName σ = some x → zKv K = some (zI x) ∧ zKs K = σ := fun x h => by rw [hq] at h; cases h; exact ⟨hv, hs⟩
    have hn : f_X12_worthName σ ≠ none := fun z => by rw [hq] at z; cases z
    have hf := f_X12_worthName.eq_1 σ
    refine z_aload_n (pc := 0) 0 (zdg D_X12_worthName 0 (0, .aload_n 0, 1) rfl) rfl rfl ?_
    refine z_ldcS (pc := 1) (j := 13) (tx := "worth") (by decide +kernel) (zdg D_X12_worthName 1 (1, .ldc 125, 2) rfl) ?_
    refine z_bind hn hf (fun q1 hq hf => ?_)
    refine z_callV (pc := 3) (rest := []) (st2 := [zI q1]) (fun l => c_X12_is l 13 σ q1 hq) zv_X12_is lm_X12_98 rfl rfl rfl rfl rfl rfl (Nat.le_of_ble_eq_true rfl) ⟨Nat.le_of_ble_eq_true rfl, Nat.le_of_ble_eq_true rfl⟩ (zdg D_X12_worthName 2 (3, .invokevirtual 98, 3) rfl) ?_
    refine z_if_eq (pc := 6) 12 (zdg D_X12_worthName 3 (6, .ifCond .eq 6, 3) rfl) rfl hf (fun hf => ?_) (fun hf => ?_)
    · refine z_aload_n (pc := 12) 0 (zdg D_X12_worthName 6 (12, .aload_n 0, 1) rfl) rfl rfl ?_
      refine z_ldcS (pc := 13) (j := 11) (tx := "minute") (by decide +kernel) (zdg D_X12_worthName 7 (13, .ldc 121, 2) rfl) ?_
      refine z_bind hn hf (fun q2 hq hf => ?_)
      refine z_callV (pc := 15) (rest := []) (st2 := [zI q2]) (fun l => c_X12_is l 11 σ q2 hq) zv_X12_is lm_X12_98 rfl rfl rfl rfl rfl rfl (Nat.le_of_ble_eq_true rfl) ⟨Nat.le_of_ble_eq_true rfl, Nat.le_of_ble_eq_true rfl⟩ (zdg D_X12_worthName 8 (15, .invokevirtual 98, 3) rfl) ?_
      refine z_if_eq (pc := 18) 24 (zdg D_X12_worthName 9 (18, .ifCond .eq 6, 3) rfl) rfl hf (fun hf => ?_) (fun hf => ?_)
      · refine z_aload_n (pc := 24) 0 (zdg D_X12_worthName 12 (24, .aload_n 0, 1) rfl) rfl rfl ?_
        refine z_ldcS (pc := 25) (j := 14) (tx := "covered") (by decide +kernel) (zdg D_X12_worthName 13 (25, .ldc 127, 2) rfl) ?_
        refine z_bind hn hf (fun q3 hq hf => ?_)
        refine z_callV (pc := 27) (rest := []) (st2 := [zI q3]) (fun l => c_X12_is l 14 σ q3 hq) zv_X12_is lm_X12_98 rfl rfl rfl rfl rfl rfl (Nat.le_of_ble_eq_true rfl) ⟨Nat.le_of_ble_eq_true rfl, Nat.le_of_ble_eq_true rfl⟩ (zdg D_X12_worthName 14 (27, .invokevirtual 98, 3) rfl) ?_
        refine z_if_eq (pc := 30) 36 (zdg D_X12_worthName 15 (30, .ifCond .eq 6, 3) rfl) rfl hf (fun hf => ?_) (fun hf => ?_)
        · refine z_aload_n (pc := 36) 0 (zdg D_X12_worthName 18 (36, .aload_n 0, 1) rfl) rfl rfl ?_
          refine z_ldcS (pc := 37) (j := 15) (tx := "edges") (by decide +kernel) (zdg D_X12_worthName 19 (37, .ldc 129, 2) rfl) ?_
          refine z_bind hn hf (fun q4 hq hf => ?_)
          refine z_callV (pc := 39) (rest := []) (st2 := [zI q4]) (fun l => c_X12_is l 15 σ q4 hq) zv_X12_is lm_X12_98 rfl rfl rfl rfl rfl rfl (Nat.le_of_ble_eq_true rfl) ⟨Nat.le_of_ble_eq_true rfl, Nat.le_of_ble_eq_true rfl⟩ (zdg D_X12_worthName 20 (39, .invokevirtual 98, 3) rfl) ?_
          refine z_if_eq (pc := 42) 48 (zdg D_X12_worthName 21 (42, .ifCond .eq 6, 3) rfl) rfl hf (fun hf => ?_) (fun hf => ?_)
          · refine z_aload_n (pc := 48) 0 (zdg D_X12_worthName 24 (48, .aload_n 0, 1) rfl) rfl rfl ?_
            refine z_ldcS (pc := 49) (j := 16) (tx := "step") (by decide +kernel) (zdg D_X12_worthName 25 (49, .ldc 131, 2) rfl) ?_
            refine z_bind hn hf (fun q5 hq hf => ?_)
            refine z_callV (pc := 51) (rest := []) (st2 := [zI q5]) (fun l => c_X12_is l 16 σ q5 hq) zv_X12_is lm_X12_98 rfl rfl rfl rfl rfl rfl (Nat.le_of_ble_eq_true rfl) ⟨Nat.le_of_ble_eq_true rfl, Nat.le_of_ble_eq_true rfl⟩ (zdg D_X12_worthName 26 (51, .invokevirtual 98, 3) rfl) ?_
            refine z_if_eq (pc := 54) 60 (zdg D_X12_worthName 27 (54, .ifCond .eq 6, 3) rfl) rfl hf (fun hf => ?_) (fun hf => ?_)
            · refine z_aload_n (pc := 60) 0 (zdg D_X12_worthName 30 (60, .aload_n 0, 1) rfl) rfl rfl ?_
              refine z_ldcS (pc := 61) (j := 17) (tx := "people") (by decide +kernel) (zdg D_X12_worthName 31 (61, .ldc 133, 2) rfl) ?_
              refine z_bind hn hf (fun q6 hq hf => ?_)
              refine z_callV (pc := 63) (rest := []) (st2 := [zI q6]) (fun l => c_X12_is l 17 σ q6 hq) zv_X12_is lm_X12_98 rfl rfl rfl rfl rfl rfl (Nat.le_of_ble_eq_true rfl) ⟨Nat.le_of_ble_eq_true rfl, Nat.le_of_ble_eq_true rfl⟩ (zdg D_X12_worthName 32 (63, .invokevirtual 98, 3) rfl) ?_
              refine z_if_eq (pc := 66) 74 (zdg D_X12_worthName 33 (66, .ifCond .eq 8, 3) rfl) rfl hf (fun hf => ?_) (fun hf => ?_)
              · refine z_iconst (pc := 74) (v := 1) (zdg D_X12_worthName 36 (74, .iconst 1, 1) rfl) rfl ?_
                exact z_iret (pc := 75) rfl rfl (zdg D_X12_worthName 37 (75, .ireturn, 1) rfl) (hP _ hf)
              · refine z_bipush (pc := 69) (v := 48) (zdg D_X12_worthName 34 (69, .bipush 48, 2) rfl) rfl ?_
                refine z_goto (pc := 71) 75 (zdg D_X12_worthName 35 (71, .goto 4, 3) rfl) rfl ?_
                exact z_iret (pc := 75) rfl rfl (zdg D_X12_worthName 37 (75, .ireturn, 1) rfl) (hP _ hf)
            · refine z_bipush (pc := 57) (v := 47) (zdg D_X12_worthName 28 (57, .bipush 47, 2) rfl) rfl ?_
              exact z_iret (pc := 59) rfl rfl (zdg D_X12_worthName 29 (59, .ireturn, 1) rfl) (hP _ hf)
          · refine z_bipush (pc := 45) (v := 46) (zdg D_X12_worthName 22 (45, .bipush 46, 2) rfl) rfl ?_
            exact z_iret (pc := 47) rfl rfl (zdg D_X12_worthName 23 (47, .ireturn, 1) rfl) (hP _ hf)
        · refine z_bipush (pc := 33) (v := 45) (zdg D_X12_worthName 16 (33, .bipush 45, 2) rfl) rfl ?_
          exact z_iret (pc := 35) rfl rfl (zdg D_X12_worthName 17 (35, .ireturn, 1) rfl) (hP _ hf)
      · refine z_bipush (pc := 21) (v := 43) (zdg D_X12_worthName 10 (21, .bipush 43, 2) rfl) rfl ?_
        exact z_iret (pc := 23) rfl rfl (zdg D_X12_worthName 11 (23, .ireturn, 1) rfl) (hP _ hf)
    · refine z_bipush (pc := 9) (v := 7) (zdg D_X12_worthName 4 (9, .bipush 7, 2) rfl) rfl ?_
      exact z_iret (pc := 11) rfl rfl (zdg D_X12_worthName 5 (11, .ireturn, 1) rfl) (hP _ hf)

def L_X12_word : List (Nat × Instr × Nat) := [(0, .aload_n 0, 1), (1, .getfield 135, 3), (4, .ifCond .ne 8, 3), (7, .aload_n 0, 1), (8, .invokevirtual 138, 3), (11, .ireturn, 1), (12, .aload_n 0, 1), (13, .ldc 141, 2), (15, .invokevirtual 98, 3), (18, .ifCond .eq 5, 3), (21, .iconst 3, 1), (22, .ireturn, 1), (23, .aload_n 0, 1), (24, .ldc 143, 2), (26, .invokevirtual 98, 3), (29, .ifCond .eq 5, 3), (32, .iconst 4, 1), (33, .ireturn, 1), (34, .aload_n 0, 1), (35, .ldc 145, 2), (37, .invokevirtual 98, 3), (40, .ifCond .eq 5, 3), (43, .iconst 5, 1), (44, .ireturn, 1), (45, .aload_n 0, 1), (46, .ldc 147, 2), (48, .invokevirtual 98, 3), (51, .ifCond .eq 6, 3), (54, .bipush 6, 2), (56, .ireturn, 1), (57, .aload_n 0, 1), (58, .getfield 135, 3), (61, .iconst 1, 1), (62, .if_icmp .ne 10, 3), (65, .aload_n 0, 1), (66, .invokevirtual 149, 3), (69, .goto 7, 3), (72, .aload_n 0, 1), (73, .invokevirtual 152, 3), (76, .ireturn, 1)]
set_option maxRecDepth 100000 in
theorem D_X12_word : zdecs cX12_word L_X12_word = true := by decide +kernel
noncomputable def f_X12_word (σ : zG) : Option (Int32) :=
  if (σ.1 0 0 12) = 0 then (f_X12_walkWord σ).bind (fun q7 => some q7) else (f_X12_is 18 σ).bind (fun q1 => if q1 = 0 then (f_X12_is 19 σ).bind (fun q2 => if q2 = 0 then (f_X12_is 20 σ).bind (fun q3 => if q3 = 0 then (f_X12_is 21 σ).bind (fun q4 => if q4 = 0 then if (σ.1 0 0 12) = (1 : Int32) then (f_X12_shadeName σ).bind (fun q6 => some q6) else (f_X12_worthName σ).bind (fun q5 => some q5) else some (6 : Int32)) else some (5 : Int32)) else some (4 : Int32)) else some (3 : Int32))
set_option maxRecDepth 100000 in
set_option maxHeartbeats 4000000 in
theorem c_X12_word (l : Launch)  (σ : zG) (q : Int32) (hq : f_X12_word σ = some q) : zMet l zsyM m_X12_word yX12_word [zR 0 0] σ (some (zI q)) σ := by
  refine zEnter [(0, zR 0 0)] (by decide) rfl (fun _ => Nat.le_of_ble_eq_true rfl) (fun _ => rfl) (fun w h => ?_) (fun K hv hs => ?_)
  · exact zokm rfl h
  · have hP : ∀ x, f_X12_word σ = some x → zKv K = some (zI x) ∧ zKs K = σ := fun x h => by rw [hq] at h; cases h; exact ⟨hv, hs⟩
    have hn : f_X12_word σ ≠ none := fun z => by rw [hq] at z; cases z
    have hf := f_X12_word.eq_1 σ
    refine z_aload_n (pc := 0) 0 (zdg D_X12_word 0 (0, .aload_n 0, 1) rfl) rfl rfl ?_
    refine z_getI (pc := 1) lf_X12_135 rfl rfl (zdg D_X12_word 1 (1, .getfield 135, 3) rfl) ?_
    refine z_if_ne (pc := 4) 12 (zdg D_X12_word 2 (4, .ifCond .ne 8, 3) rfl) rfl hf (fun hf => ?_) (fun hf => ?_)
    · refine z_aload_n (pc := 12) 0 (zdg D_X12_word 6 (12, .aload_n 0, 1) rfl) rfl rfl ?_
      refine z_ldcS (pc := 13) (j := 18) (tx := "when") (by decide +kernel) (zdg D_X12_word 7 (13, .ldc 141, 2) rfl) ?_
      refine z_bind hn hf (fun q1 hq hf => ?_)
      refine z_callV (pc := 15) (rest := []) (st2 := [zI q1]) (fun l => c_X12_is l 18 σ q1 hq) zv_X12_is lm_X12_98 rfl rfl rfl rfl rfl rfl (Nat.le_of_ble_eq_true rfl) ⟨Nat.le_of_ble_eq_true rfl, Nat.le_of_ble_eq_true rfl⟩ (zdg D_X12_word 8 (15, .invokevirtual 98, 3) rfl) ?_
      refine z_if_eq (pc := 18) 23 (zdg D_X12_word 9 (18, .ifCond .eq 5, 3) rfl) rfl hf (fun hf => ?_) (fun hf => ?_)
      · refine z_aload_n (pc := 23) 0 (zdg D_X12_word 12 (23, .aload_n 0, 1) rfl) rfl rfl ?_
        refine z_ldcS (pc := 24) (j := 19) (tx := "or") (by decide +kernel) (zdg D_X12_word 13 (24, .ldc 143, 2) rfl) ?_
        refine z_bind hn hf (fun q2 hq hf => ?_)
        refine z_callV (pc := 26) (rest := []) (st2 := [zI q2]) (fun l => c_X12_is l 19 σ q2 hq) zv_X12_is lm_X12_98 rfl rfl rfl rfl rfl rfl (Nat.le_of_ble_eq_true rfl) ⟨Nat.le_of_ble_eq_true rfl, Nat.le_of_ble_eq_true rfl⟩ (zdg D_X12_word 14 (26, .invokevirtual 98, 3) rfl) ?_
        refine z_if_eq (pc := 29) 34 (zdg D_X12_word 15 (29, .ifCond .eq 5, 3) rfl) rfl hf (fun hf => ?_) (fun hf => ?_)
        · refine z_aload_n (pc := 34) 0 (zdg D_X12_word 18 (34, .aload_n 0, 1) rfl) rfl rfl ?_
          refine z_ldcS (pc := 35) (j := 20) (tx := "and") (by decide +kernel) (zdg D_X12_word 19 (35, .ldc 145, 2) rfl) ?_
          refine z_bind hn hf (fun q3 hq hf => ?_)
          refine z_callV (pc := 37) (rest := []) (st2 := [zI q3]) (fun l => c_X12_is l 20 σ q3 hq) zv_X12_is lm_X12_98 rfl rfl rfl rfl rfl rfl (Nat.le_of_ble_eq_true rfl) ⟨Nat.le_of_ble_eq_true rfl, Nat.le_of_ble_eq_true rfl⟩ (zdg D_X12_word 20 (37, .invokevirtual 98, 3) rfl) ?_
          refine z_if_eq (pc := 40) 45 (zdg D_X12_word 21 (40, .ifCond .eq 5, 3) rfl) rfl hf (fun hf => ?_) (fun hf => ?_)
          · refine z_aload_n (pc := 45) 0 (zdg D_X12_word 24 (45, .aload_n 0, 1) rfl) rfl rfl ?_
            refine z_ldcS (pc := 46) (j := 21) (tx := "not") (by decide +kernel) (zdg D_X12_word 25 (46, .ldc 147, 2) rfl) ?_
            refine z_bind hn hf (fun q4 hq hf => ?_)
            refine z_callV (pc := 48) (rest := []) (st2 := [zI q4]) (fun l => c_X12_is l 21 σ q4 hq) zv_X12_is lm_X12_98 rfl rfl rfl rfl rfl rfl (Nat.le_of_ble_eq_true rfl) ⟨Nat.le_of_ble_eq_true rfl, Nat.le_of_ble_eq_true rfl⟩ (zdg D_X12_word 26 (48, .invokevirtual 98, 3) rfl) ?_
            refine z_if_eq (pc := 51) 57 (zdg D_X12_word 27 (51, .ifCond .eq 6, 3) rfl) rfl hf (fun hf => ?_) (fun hf => ?_)
            · refine z_aload_n (pc := 57) 0 (zdg D_X12_word 30 (57, .aload_n 0, 1) rfl) rfl rfl ?_
              refine z_getI (pc := 58) lf_X12_135 rfl rfl (zdg D_X12_word 31 (58, .getfield 135, 3) rfl) ?_
              refine z_iconst (pc := 61) (v := 1) (zdg D_X12_word 32 (61, .iconst 1, 1) rfl) rfl ?_
              refine z_icmp_ne (pc := 62) 72 (zdg D_X12_word 33 (62, .if_icmp .ne 10, 3) rfl) rfl hf (fun hf => ?_) (fun hf => ?_)
              · refine z_aload_n (pc := 72) 0 (zdg D_X12_word 37 (72, .aload_n 0, 1) rfl) rfl rfl ?_
                refine z_bind hn hf (fun q5 hq hf => ?_)
                refine z_callV (pc := 73) (rest := []) (st2 := [zI q5]) (fun l => c_X12_worthName l σ q5 hq) zv_X12_worthName lm_X12_152 rfl rfl rfl rfl rfl rfl (Nat.le_of_ble_eq_true rfl) ⟨Nat.le_of_ble_eq_true rfl, Nat.le_of_ble_eq_true rfl⟩ (zdg D_X12_word 38 (73, .invokevirtual 152, 3) rfl) ?_
                exact z_iret (pc := 76) rfl rfl (zdg D_X12_word 39 (76, .ireturn, 1) rfl) (hP _ hf)
              · refine z_aload_n (pc := 65) 0 (zdg D_X12_word 34 (65, .aload_n 0, 1) rfl) rfl rfl ?_
                refine z_bind hn hf (fun q6 hq hf => ?_)
                refine z_callV (pc := 66) (rest := []) (st2 := [zI q6]) (fun l => c_X12_shadeName l σ q6 hq) zv_X12_shadeName lm_X12_149 rfl rfl rfl rfl rfl rfl (Nat.le_of_ble_eq_true rfl) ⟨Nat.le_of_ble_eq_true rfl, Nat.le_of_ble_eq_true rfl⟩ (zdg D_X12_word 35 (66, .invokevirtual 149, 3) rfl) ?_
                refine z_goto (pc := 69) 76 (zdg D_X12_word 36 (69, .goto 7, 3) rfl) rfl ?_
                exact z_iret (pc := 76) rfl rfl (zdg D_X12_word 39 (76, .ireturn, 1) rfl) (hP _ hf)
            · refine z_bipush (pc := 54) (v := 6) (zdg D_X12_word 28 (54, .bipush 6, 2) rfl) rfl ?_
              exact z_iret (pc := 56) rfl rfl (zdg D_X12_word 29 (56, .ireturn, 1) rfl) (hP _ hf)
          · refine z_iconst (pc := 43) (v := 5) (zdg D_X12_word 22 (43, .iconst 5, 1) rfl) rfl ?_
            exact z_iret (pc := 44) rfl rfl (zdg D_X12_word 23 (44, .ireturn, 1) rfl) (hP _ hf)
        · refine z_iconst (pc := 32) (v := 4) (zdg D_X12_word 16 (32, .iconst 4, 1) rfl) rfl ?_
          exact z_iret (pc := 33) rfl rfl (zdg D_X12_word 17 (33, .ireturn, 1) rfl) (hP _ hf)
      · refine z_iconst (pc := 21) (v := 3) (zdg D_X12_word 10 (21, .iconst 3, 1) rfl) rfl ?_
        exact z_iret (pc := 22) rfl rfl (zdg D_X12_word 11 (22, .ireturn, 1) rfl) (hP _ hf)
    · refine z_aload_n (pc := 7) 0 (zdg D_X12_word 3 (7, .aload_n 0, 1) rfl) rfl rfl ?_
      refine z_bind hn hf (fun q7 hq hf => ?_)
      refine z_callV (pc := 8) (rest := []) (st2 := [zI q7]) (fun l => c_X12_walkWord l σ q7 hq) zv_X12_walkWord lm_X12_138 rfl rfl rfl rfl rfl rfl (Nat.le_of_ble_eq_true rfl) ⟨Nat.le_of_ble_eq_true rfl, Nat.le_of_ble_eq_true rfl⟩ (zdg D_X12_word 4 (8, .invokevirtual 138, 3) rfl) ?_
      exact z_iret (pc := 11) rfl rfl (zdg D_X12_word 5 (11, .ireturn, 1) rfl) (hP _ hf)

def L_X12_next0 : List (Nat × Instr × Nat) := [(0, .aload_n 0, 1), (1, .aload_n 0, 1), (2, .getfield 80, 3), (5, .invokevirtual 155, 3), (8, .bipush 32, 2), (10, .if_icmp .eq 16, 3), (13, .aload_n 0, 1), (14, .aload_n 0, 1), (15, .getfield 80, 3), (18, .invokevirtual 155, 3), (21, .bipush 10, 2), (23, .if_icmp .ne 16, 3), (26, .aload_n 0, 1), (27, .dup, 1), (28, .getfield 80, 3), (31, .iconst 1, 1), (32, .iadd, 1), (33, .putfield 80, 3), (36, .goto (-36), 3), (39, .aload_n 0, 1), (40, .aload_n 0, 1), (41, .getfield 80, 3), (44, .putfield 83, 3), (47, .aload_n 0, 1), (48, .aload_n 0, 1), (49, .getfield 80, 3), (52, .invokevirtual 155, 3), (55, .istore_n 1, 1), (56, .iload_n 1, 1), (57, .iconst (-1), 1), (58, .if_icmp .ne 11, 3), (61, .aload_n 0, 1), (62, .iconst 0, 1), (63, .putfield 159, 3), (66, .goto 240, 3), (69, .iload_n 1, 1), (70, .invokestatic 162, 3), (73, .ifCond .eq 41, 3), (76, .aload_n 0, 1), (77, .aload_n 0, 1), (78, .getfield 80, 3), (81, .invokevirtual 155, 3), (84, .invokestatic 162, 3), (87, .ifCond .eq 16, 3), (90, .aload_n 0, 1), (91, .dup, 1), (92, .getfield 80, 3), (95, .iconst 1, 1), (96, .iadd, 1), (97, .putfield 80, 3), (100, .goto (-24), 3), (103, .aload_n 0, 1), (104, .aload_n 0, 1), (105, .invokevirtual 166, 3), (108, .putfield 159, 3), (111, .goto 195, 3), (114, .iload_n 1, 1), (115, .invokestatic 169, 3), (118, .ifCond .eq 96, 3), (121, .aload_n 0, 1), (122, .iconst 0, 1), (123, .putfield 172, 3), (126, .aload_n 0, 1), (127, .aload_n 0, 1), (128, .getfield 80, 3), (131, .invokevirtual 155, 3), (134, .invokestatic 169, 3), (137, .ifCond .eq 52, 3), (140, .aload_n 0, 1), (141, .getfield 80, 3), (144, .aload_n 0, 1), (145, .getfield 83, 3), (148, .iconst 4, 1), (149, .iadd, 1), (150, .if_icmp .ge 26, 3), (153, .aload_n 0, 1), (154, .bipush 10, 2), (156, .aload_n 0, 1), (157, .getfield 172, 3), (160, .imul, 1), (161, .aload_n 0, 1), (162, .aload_n 0, 1), (163, .getfield 80, 3), (166, .invokevirtual 155, 3), (169, .iadd, 1), (170, .bipush 48, 2), (172, .isub, 1), (173, .putfield 172, 3), (176, .aload_n 0, 1), (177, .dup, 1), (178, .getfield 80, 3), (181, .iconst 1, 1), (182, .iadd, 1), (183, .putfield 80, 3), (186, .goto (-60), 3), (189, .aload_n 0, 1), (190, .aload_n 0, 1), (191, .getfield 80, 3), (194, .aload_n 0, 1), (195, .getfield 83, 3), (198, .isub, 1), (199, .iconst 5, 1), (200, .if_icmp .ge 7, 3), (203, .iconst 2, 1), (204, .goto 4, 3), (207, .iconst 1, 1), (208, .putfield 159, 3), (211, .goto 95, 3), (214, .aload_n 0, 1), (215, .dup, 1), (216, .getfield 80, 3), (219, .iconst 1, 1), (220, .iadd, 1), (221, .putfield 80, 3), (224, .iload_n 1, 1), (225, .bipush 59, 2), (227, .if_icmp .eq 57, 3), (230, .iload_n 1, 1), (231, .bipush 43, 2), (233, .if_icmp .eq 51, 3), (236, .iload_n 1, 1), (237, .bipush 45, 2), (239, .if_icmp .eq 45, 3), (242, .iload_n 1, 1), (243, .bipush 42, 2), (245, .if_icmp .eq 39, 3), (248, .iload_n 1, 1), (249, .bipush 47, 2), (251, .if_icmp .eq 33, 3), (254, .iload_n 1, 1), (255, .bipush 40, 2), (257, .if_icmp .eq 27, 3), (260, .iload_n 1, 1), (261, .bipush 41, 2), (263, .if_icmp .eq 21, 3), (266, .iload_n 1, 1), (267, .bipush 60, 2), (269, .if_icmp .eq 15, 3), (272, .iload_n 1, 1), (273, .bipush 61, 2), (275, .if_icmp .eq 9, 3), (278, .iload_n 1, 1), (279, .bipush 62, 2), (281, .if_icmp .ne 7, 3), (284, .iconst 1, 1), (285, .goto 4, 3), (288, .iconst 0, 1), (289, .istore_n 2, 1), (290, .aload_n 0, 1), (291, .iload_n 2, 1), (292, .ifCond .eq 10, 3), (295, .bipush 100, 2), (297, .iload_n 1, 1), (298, .iadd, 1), (299, .goto 4, 3), (302, .iconst 1, 1), (303, .putfield 159, 3), (306, .return_, 1)]
set_option maxRecDepth 100000 in
theorem D_X12_next0 : zdecs cX12_next0 L_X12_next0 = true := by decide +kernel
noncomputable def b_X12_next0_0  (s1 : zG) : Option ((zG) ⊕ (zG)) :=
  (f_X12_see (s1.1 0 0 17) s1).bind (fun q2 => if q2 = (32 : Int32) then zb (zwI s1 0 0 17 ((s1.1 0 0 17) + (1 : Int32))) (fun s3 => some (Sum.inl s3)) else (f_X12_see (s1.1 0 0 17) s1).bind (fun q4 => if q4 = (10 : Int32) then zb (zwI s1 0 0 17 ((s1.1 0 0 17) + (1 : Int32))) (fun s5 => some (Sum.inl s5)) else some (Sum.inr s1)))
noncomputable def b_X12_next0_126  (s19 : zG) : Option ((zG) ⊕ (zG)) :=
  (f_X12_see (s19.1 0 0 17) s19).bind (fun q20 => (f_X12_isDigit q20).bind (fun q21 => if q21 = 0 then some (Sum.inr s19) else if (s19.1 0 0 17) < ((s19.1 0 0 19) + (4 : Int32)) then (f_X12_see (s19.1 0 0 17) s19).bind (fun q23 => zb (zwI s19 0 0 20 ((((10 : Int32) * (s19.1 0 0 20)) + q23) - (48 : Int32))) (fun s24 => zb (zwI s24 0 0 17 ((s24.1 0 0 17) + (1 : Int32))) (fun s25 => some (Sum.inl s25)))) else zb (zwI s19 0 0 17 ((s19.1 0 0 17) + (1 : Int32))) (fun s22 => some (Sum.inl s22))))
noncomputable def b_X12_next0_76  (s29 : zG) : Option ((zG) ⊕ (zG)) :=
  (f_X12_see (s29.1 0 0 17) s29).bind (fun q30 => if (f_X12_isLetter q30) = 0 then some (Sum.inr s29) else zb (zwI s29 0 0 17 ((s29.1 0 0 17) + (1 : Int32))) (fun s31 => some (Sum.inl s31)))
noncomputable def j_X12_next0_289 (w1_13 : Int32) (t14 : Int32) (s15 : zG) : Option (zG) :=
  if t14 = 0 then zb (zwI s15 0 0 18 (1 : Int32)) (fun s16 => some s16) else zb (zwI s15 0 0 18 ((100 : Int32) + w1_13)) (fun s17 => some s17)
noncomputable def j_X12_next0_284 (w1_11 : Int32) (s12 : zG) : Option (zG) :=
  j_X12_next0_289 w1_11 (1 : Int32) s12
noncomputable def f_X12_next0 (σ : zG) : Option (zG) :=
  (zlp (fun q : zG => b_X12_next0_0 q) σ).bind (fun e6 : zG => zb (zwI e6 0 0 19 (e6.1 0 0 17)) (fun s7 => (f_X12_see (s7.1 0 0 17) s7).bind (fun q8 => if q8 = (-1 : Int32) then zb (zwI s7 0 0 18 (0 : Int32)) (fun s35 => some s35) else if (f_X12_isLetter q8) = 0 then (f_X12_isDigit q8).bind (fun q9 => if q9 = 0 then zb (zwI s7 0 0 17 ((s7.1 0 0 17) + (1 : Int32))) (fun s10 => if q8 = (59 : Int32) then j_X12_next0_284 q8 s10 else if q8 = (43 : Int32) then j_X12_next0_284 q8 s10 else if q8 = (45 : Int32) then j_X12_next0_284 q8 s10 else if q8 = (42 : Int32) then j_X12_next0_284 q8 s10 else if q8 = (47 : Int32) then j_X12_next0_284 q8 s10 else if q8 = (40 : Int32) then j_X12_next0_284 q8 s10 else if q8 = (41 : Int32) then j_X12_next0_284 q8 s10 else if q8 = (60 : Int32) then j_X12_next0_284 q8 s10 else if q8 = (61 : Int32) then j_X12_next0_284 q8 s10 else if q8 = (62 : Int32) then j_X12_next0_284 q8 s10 else j_X12_next0_289 q8 (0 : Int32) s10) else zb (zwI s7 0 0 20 (0 : Int32)) (fun s18 => (zlp (fun q : zG => b_X12_next0_126 q) s18).bind (fun e26 : zG => if ((e26.1 0 0 17) - (e26.1 0 0 19)) < (5 : Int32) then zb (zwI e26 0 0 18 (2 : Int32)) (fun s28 => some s28) else zb (zwI e26 0 0 18 (1 : Int32)) (fun s27 => some s27)))) else (zlp (fun q : zG => b_X12_next0_76 q) s7).bind (fun e32 : zG => (f_X12_word e32).bind (fun q33 => zb (zwI e32 0 0 18 q33) (fun s34 => some s34))))))
set_option maxRecDepth 100000 in
set_option maxHeartbeats 4000000 in
theorem c_X12_next0 (l : Launch)  (σ : zG) (q : zG) (hq : f_X12_next0 σ = some q) : zMet l zsyM m_X12_next0 yX12_next0 [zR 0 0] σ none q := by
  refine zEnter [(0, zR 0 0)] (by decide) rfl (fun _ => Nat.le_of_ble_eq_true rfl) (fun _ => rfl) (fun w h => ?_) (fun K hv hs => ?_)
  · exact zokm rfl h
  · have hP : ∀ s, f_X12_next0 σ = some s → zKv K = none ∧ zKs K = s := fun s h => by rw [hq] at h; cases h; exact ⟨hv, hs⟩
    have hn : f_X12_next0 σ ≠ none := fun z => by rw [hq] at z; cases z
    have hf := f_X12_next0.eq_1 σ
    have t_289 : ∀ (w1_13 : Int32) (t14 : Int32) (s15 : zG), f_X12_next0 σ = j_X12_next0_289 w1_13 t14 s15 → zX zsyM m_X12_next0 K 289 [(0, zR 0 0), (1, zI w1_13)] [zI t14] s15 := by
      intro w1_13 t14 s15 hf
      replace hf := hf.trans (j_X12_next0_289.eq_1 w1_13 t14 s15)
      refine z_istore_n (pc := 289) (al' := [(2, zI t14), (0, zR 0 0), (1, zI w1_13)]) (zdg D_X12_next0 147 (289, .istore_n 2, 1) rfl) rfl (by decide) rfl ?_
      refine z_aload_n (pc := 290) 1 (zdg D_X12_next0 148 (290, .aload_n 0, 1) rfl) rfl rfl ?_
      refine z_iload_n (pc := 291) 0 (zdg D_X12_next0 149 (291, .iload_n 2, 1) rfl) rfl rfl ?_
      refine z_if_eq (pc := 292) 302 (zdg D_X12_next0 150 (292, .ifCond .eq 10, 3) rfl) rfl hf (fun hf => ?_) (fun hf => ?_)
      · refine z_iconst (pc := 302) (v := 1) (zdg D_X12_next0 155 (302, .iconst 1, 1) rfl) rfl ?_
        refine z_putI (pc := 303) lw_X12_159 rfl rfl rfl rfl (zdg D_X12_next0 156 (303, .putfield 159, 3) rfl) ?_
        refine z_nmS hf (fun s16 hf => ?_)
        exact z_vret (pc := 306) rfl (zdg D_X12_next0 157 (306, .return_, 1) rfl) (hP _ hf)
      · refine z_bipush (pc := 295) (v := 100) (zdg D_X12_next0 151 (295, .bipush 100, 2) rfl) rfl ?_
        refine z_iload_n (pc := 297) 2 (zdg D_X12_next0 152 (297, .iload_n 1, 1) rfl) rfl rfl ?_
        refine z_iadd (pc := 298) (zdg D_X12_next0 153 (298, .iadd, 1) rfl) ?_
        refine z_goto (pc := 299) 303 (zdg D_X12_next0 154 (299, .goto 4, 3) rfl) rfl ?_
        refine z_putI (pc := 303) lw_X12_159 rfl rfl rfl rfl (zdg D_X12_next0 156 (303, .putfield 159, 3) rfl) ?_
        refine z_nmS hf (fun s17 hf => ?_)
        exact z_vret (pc := 306) rfl (zdg D_X12_next0 157 (306, .return_, 1) rfl) (hP _ hf)
    have t_284 : ∀ (w1_11 : Int32) (s12 : zG), f_X12_next0 σ = j_X12_next0_284 w1_11 s12 → zX zsyM m_X12_next0 K 284 [(0, zR 0 0), (1, zI w1_11)] [] s12 := by
      intro w1_11 s12 hf
      replace hf := hf.trans (j_X12_next0_284.eq_1 w1_11 s12)
      refine z_iconst (pc := 284) (v := 1) (zdg D_X12_next0 144 (284, .iconst 1, 1) rfl) rfl ?_
      refine z_goto (pc := 285) 289 (zdg D_X12_next0 145 (285, .goto 4, 3) rfl) rfl ?_
      exact t_289 w1_11 (1 : Int32) s12 hf
    refine z_loop (f := (fun q : zG => b_X12_next0_0 q)) (a := σ) (fun q : zG => zX zsyM m_X12_next0 K 0 [(0, zR 0 0)] [] q) (fun e6 : zG => zX zsyM m_X12_next0 K 39 [(0, zR 0 0)] [] e6) hn hf ?_ ?_
    · intro e6 hf
      refine z_aload_n (pc := 39) 0 (zdg D_X12_next0 19 (39, .aload_n 0, 1) rfl) rfl rfl ?_
      refine z_aload_n (pc := 40) 0 (zdg D_X12_next0 20 (40, .aload_n 0, 1) rfl) rfl rfl ?_
      refine z_getI (pc := 41) lf_X12_80 rfl rfl (zdg D_X12_next0 21 (41, .getfield 80, 3) rfl) ?_
      refine z_putI (pc := 44) lw_X12_83 rfl rfl rfl rfl (zdg D_X12_next0 22 (44, .putfield 83, 3) rfl) ?_
      refine z_nmS hf (fun s7 hf => ?_)
      refine z_aload_n (pc := 47) 0 (zdg D_X12_next0 23 (47, .aload_n 0, 1) rfl) rfl rfl ?_
      refine z_aload_n (pc := 48) 0 (zdg D_X12_next0 24 (48, .aload_n 0, 1) rfl) rfl rfl ?_
      refine z_getI (pc := 49) lf_X12_80 rfl rfl (zdg D_X12_next0 25 (49, .getfield 80, 3) rfl) ?_
      refine z_bind hn hf (fun q8 hq hf => ?_)
      refine z_callV (pc := 52) (rest := []) (st2 := [zI q8]) (fun l => c_X12_see l (s7.1 0 0 17) s7 q8 hq) zv_X12_see lm_X12_155 rfl rfl rfl rfl rfl rfl (Nat.le_of_ble_eq_true rfl) ⟨Nat.le_of_ble_eq_true rfl, Nat.le_of_ble_eq_true rfl⟩ (zdg D_X12_next0 26 (52, .invokevirtual 155, 3) rfl) ?_
      refine z_istore_n (pc := 55) (al' := [(1, zI q8), (0, zR 0 0)]) (zdg D_X12_next0 27 (55, .istore_n 1, 1) rfl) rfl (by decide) rfl ?_
      refine z_iload_n (pc := 56) 0 (zdg D_X12_next0 28 (56, .iload_n 1, 1) rfl) rfl rfl ?_
      refine z_iconst (pc := 57) (v := -1) (zdg D_X12_next0 29 (57, .iconst (-1), 1) rfl) rfl ?_
      refine z_icmp_ne (pc := 58) 69 (zdg D_X12_next0 30 (58, .if_icmp .ne 11, 3) rfl) rfl hf (fun hf => ?_) (fun hf => ?_)
      · refine z_iload_n (pc := 69) 0 (zdg D_X12_next0 35 (69, .iload_n 1, 1) rfl) rfl rfl ?_
        refine z_callS (pc := 70) (rest := []) (st2 := [zI (f_X12_isLetter q8)]) (fun l => c_X12_isLetter l q8 s7) zs_X12_isLetter lm_X12_162 rfl rfl rfl (Nat.le_of_ble_eq_true rfl) ⟨Nat.le_of_ble_eq_true rfl, Nat.le_of_ble_eq_true rfl⟩ (zdg D_X12_next0 36 (70, .invokestatic 162, 3) rfl) ?_
        refine z_if_eq (pc := 73) 114 (zdg D_X12_next0 37 (73, .ifCond .eq 41, 3) rfl) rfl hf (fun hf => ?_) (fun hf => ?_)
        · refine z_iload_n (pc := 114) 0 (zdg D_X12_next0 56 (114, .iload_n 1, 1) rfl) rfl rfl ?_
          refine z_bind hn hf (fun q9 hq hf => ?_)
          refine z_callS (pc := 115) (rest := []) (st2 := [zI q9]) (fun l => c_X12_isDigit l q8 s7 q9 hq) zs_X12_isDigit lm_X12_169 rfl rfl rfl (Nat.le_of_ble_eq_true rfl) ⟨Nat.le_of_ble_eq_true rfl, Nat.le_of_ble_eq_true rfl⟩ (zdg D_X12_next0 57 (115, .invokestatic 169, 3) rfl) ?_
          refine z_if_eq (pc := 118) 214 (zdg D_X12_next0 58 (118, .ifCond .eq 96, 3) rfl) rfl hf (fun hf => ?_) (fun hf => ?_)
          · refine z_aload_n (pc := 214) 1 (zdg D_X12_next0 108 (214, .aload_n 0, 1) rfl) rfl rfl ?_
            refine z_dup (pc := 215) rfl (zdg D_X12_next0 109 (215, .dup, 1) rfl) ?_
            refine z_getI (pc := 216) lf_X12_80 rfl rfl (zdg D_X12_next0 110 (216, .getfield 80, 3) rfl) ?_
            refine z_iconst (pc := 219) (v := 1) (zdg D_X12_next0 111 (219, .iconst 1, 1) rfl) rfl ?_
            refine z_iadd (pc := 220) (zdg D_X12_next0 112 (220, .iadd, 1) rfl) ?_
            refine z_putI (pc := 221) lw_X12_80 rfl rfl rfl rfl (zdg D_X12_next0 113 (221, .putfield 80, 3) rfl) ?_
            refine z_nmS hf (fun s10 hf => ?_)
            refine z_iload_n (pc := 224) 0 (zdg D_X12_next0 114 (224, .iload_n 1, 1) rfl) rfl rfl ?_
            refine z_bipush (pc := 225) (v := 59) (zdg D_X12_next0 115 (225, .bipush 59, 2) rfl) rfl ?_
            refine z_icmp_eq (pc := 227) 284 (zdg D_X12_next0 116 (227, .if_icmp .eq 57, 3) rfl) rfl hf (fun hf => ?_) (fun hf => ?_)
            · refine z_sub (al' := [(0, zR 0 0), (1, zI q8)]) [1, 0] rfl ?_
              exact t_284 q8 s10 hf
            · refine z_iload_n (pc := 230) 0 (zdg D_X12_next0 117 (230, .iload_n 1, 1) rfl) rfl rfl ?_
              refine z_bipush (pc := 231) (v := 43) (zdg D_X12_next0 118 (231, .bipush 43, 2) rfl) rfl ?_
              refine z_icmp_eq (pc := 233) 284 (zdg D_X12_next0 119 (233, .if_icmp .eq 51, 3) rfl) rfl hf (fun hf => ?_) (fun hf => ?_)
              · refine z_sub (al' := [(0, zR 0 0), (1, zI q8)]) [1, 0] rfl ?_
                exact t_284 q8 s10 hf
              · refine z_iload_n (pc := 236) 0 (zdg D_X12_next0 120 (236, .iload_n 1, 1) rfl) rfl rfl ?_
                refine z_bipush (pc := 237) (v := 45) (zdg D_X12_next0 121 (237, .bipush 45, 2) rfl) rfl ?_
                refine z_icmp_eq (pc := 239) 284 (zdg D_X12_next0 122 (239, .if_icmp .eq 45, 3) rfl) rfl hf (fun hf => ?_) (fun hf => ?_)
                · refine z_sub (al' := [(0, zR 0 0), (1, zI q8)]) [1, 0] rfl ?_
                  exact t_284 q8 s10 hf
                · refine z_iload_n (pc := 242) 0 (zdg D_X12_next0 123 (242, .iload_n 1, 1) rfl) rfl rfl ?_
                  refine z_bipush (pc := 243) (v := 42) (zdg D_X12_next0 124 (243, .bipush 42, 2) rfl) rfl ?_
                  refine z_icmp_eq (pc := 245) 284 (zdg D_X12_next0 125 (245, .if_icmp .eq 39, 3) rfl) rfl hf (fun hf => ?_) (fun hf => ?_)
                  · refine z_sub (al' := [(0, zR 0 0), (1, zI q8)]) [1, 0] rfl ?_
                    exact t_284 q8 s10 hf
                  · refine z_iload_n (pc := 248) 0 (zdg D_X12_next0 126 (248, .iload_n 1, 1) rfl) rfl rfl ?_
                    refine z_bipush (pc := 249) (v := 47) (zdg D_X12_next0 127 (249, .bipush 47, 2) rfl) rfl ?_
                    refine z_icmp_eq (pc := 251) 284 (zdg D_X12_next0 128 (251, .if_icmp .eq 33, 3) rfl) rfl hf (fun hf => ?_) (fun hf => ?_)
                    · refine z_sub (al' := [(0, zR 0 0), (1, zI q8)]) [1, 0] rfl ?_
                      exact t_284 q8 s10 hf
                    · refine z_iload_n (pc := 254) 0 (zdg D_X12_next0 129 (254, .iload_n 1, 1) rfl) rfl rfl ?_
                      refine z_bipush (pc := 255) (v := 40) (zdg D_X12_next0 130 (255, .bipush 40, 2) rfl) rfl ?_
                      refine z_icmp_eq (pc := 257) 284 (zdg D_X12_next0 131 (257, .if_icmp .eq 27, 3) rfl) rfl hf (fun hf => ?_) (fun hf => ?_)
                      · refine z_sub (al' := [(0, zR 0 0), (1, zI q8)]) [1, 0] rfl ?_
                        exact t_284 q8 s10 hf
                      · refine z_iload_n (pc := 260) 0 (zdg D_X12_next0 132 (260, .iload_n 1, 1) rfl) rfl rfl ?_
                        refine z_bipush (pc := 261) (v := 41) (zdg D_X12_next0 133 (261, .bipush 41, 2) rfl) rfl ?_
                        refine z_icmp_eq (pc := 263) 284 (zdg D_X12_next0 134 (263, .if_icmp .eq 21, 3) rfl) rfl hf (fun hf => ?_) (fun hf => ?_)
                        · refine z_sub (al' := [(0, zR 0 0), (1, zI q8)]) [1, 0] rfl ?_
                          exact t_284 q8 s10 hf
                        · refine z_iload_n (pc := 266) 0 (zdg D_X12_next0 135 (266, .iload_n 1, 1) rfl) rfl rfl ?_
                          refine z_bipush (pc := 267) (v := 60) (zdg D_X12_next0 136 (267, .bipush 60, 2) rfl) rfl ?_
                          refine z_icmp_eq (pc := 269) 284 (zdg D_X12_next0 137 (269, .if_icmp .eq 15, 3) rfl) rfl hf (fun hf => ?_) (fun hf => ?_)
                          · refine z_sub (al' := [(0, zR 0 0), (1, zI q8)]) [1, 0] rfl ?_
                            exact t_284 q8 s10 hf
                          · refine z_iload_n (pc := 272) 0 (zdg D_X12_next0 138 (272, .iload_n 1, 1) rfl) rfl rfl ?_
                            refine z_bipush (pc := 273) (v := 61) (zdg D_X12_next0 139 (273, .bipush 61, 2) rfl) rfl ?_
                            refine z_icmp_eq (pc := 275) 284 (zdg D_X12_next0 140 (275, .if_icmp .eq 9, 3) rfl) rfl hf (fun hf => ?_) (fun hf => ?_)
                            · refine z_sub (al' := [(0, zR 0 0), (1, zI q8)]) [1, 0] rfl ?_
                              exact t_284 q8 s10 hf
                            · refine z_iload_n (pc := 278) 0 (zdg D_X12_next0 141 (278, .iload_n 1, 1) rfl) rfl rfl ?_
                              refine z_bipush (pc := 279) (v := 62) (zdg D_X12_next0 142 (279, .bipush 62, 2) rfl) rfl ?_
                              refine z_icmp_ne (pc := 281) 288 (zdg D_X12_next0 143 (281, .if_icmp .ne 7, 3) rfl) rfl hf (fun hf => ?_) (fun hf => ?_)
                              · refine z_iconst (pc := 288) (v := 0) (zdg D_X12_next0 146 (288, .iconst 0, 1) rfl) rfl ?_
                                refine z_sub (al' := [(0, zR 0 0), (1, zI q8)]) [1, 0] rfl ?_
                                exact t_289 q8 (0 : Int32) s10 hf
                              · refine z_sub (al' := [(0, zR 0 0), (1, zI q8)]) [1, 0] rfl ?_
                                exact t_284 q8 s10 hf
          · refine z_aload_n (pc := 121) 1 (zdg D_X12_next0 59 (121, .aload_n 0, 1) rfl) rfl rfl ?_
            refine z_iconst (pc := 122) (v := 0) (zdg D_X12_next0 60 (122, .iconst 0, 1) rfl) rfl ?_
            refine z_putI (pc := 123) lw_X12_172 rfl rfl rfl rfl (zdg D_X12_next0 61 (123, .putfield 172, 3) rfl) ?_
            refine z_nmS hf (fun s18 hf => ?_)
            refine z_sub (al' := [(0, zR 0 0)]) [1] rfl ?_
            refine z_loop (f := (fun q : zG => b_X12_next0_126 q)) (a := s18) (fun q : zG => zX zsyM m_X12_next0 K 126 [(0, zR 0 0)] [] q) (fun e26 : zG => zX zsyM m_X12_next0 K 189 [(0, zR 0 0)] [] e26) hn hf ?_ ?_
            · intro e26 hf
              refine z_aload_n (pc := 189) 0 (zdg D_X12_next0 95 (189, .aload_n 0, 1) rfl) rfl rfl ?_
              refine z_aload_n (pc := 190) 0 (zdg D_X12_next0 96 (190, .aload_n 0, 1) rfl) rfl rfl ?_
              refine z_getI (pc := 191) lf_X12_80 rfl rfl (zdg D_X12_next0 97 (191, .getfield 80, 3) rfl) ?_
              refine z_aload_n (pc := 194) 0 (zdg D_X12_next0 98 (194, .aload_n 0, 1) rfl) rfl rfl ?_
              refine z_getI (pc := 195) lf_X12_83 rfl rfl (zdg D_X12_next0 99 (195, .getfield 83, 3) rfl) ?_
              refine z_isub (pc := 198) (zdg D_X12_next0 100 (198, .isub, 1) rfl) ?_
              refine z_iconst (pc := 199) (v := 5) (zdg D_X12_next0 101 (199, .iconst 5, 1) rfl) rfl ?_
              refine z_icmp_ge (pc := 200) 207 (zdg D_X12_next0 102 (200, .if_icmp .ge 7, 3) rfl) rfl hf (fun hf => ?_) (fun hf => ?_)
              · refine z_iconst (pc := 207) (v := 1) (zdg D_X12_next0 105 (207, .iconst 1, 1) rfl) rfl ?_
                refine z_putI (pc := 208) lw_X12_159 rfl rfl rfl rfl (zdg D_X12_next0 106 (208, .putfield 159, 3) rfl) ?_
                refine z_nmS hf (fun s27 hf => ?_)
                refine z_goto (pc := 211) 306 (zdg D_X12_next0 107 (211, .goto 95, 3) rfl) rfl ?_
                exact z_vret (pc := 306) rfl (zdg D_X12_next0 157 (306, .return_, 1) rfl) (hP _ hf)
              · refine z_iconst (pc := 203) (v := 2) (zdg D_X12_next0 103 (203, .iconst 2, 1) rfl) rfl ?_
                refine z_goto (pc := 204) 208 (zdg D_X12_next0 104 (204, .goto 4, 3) rfl) rfl ?_
                refine z_putI (pc := 208) lw_X12_159 rfl rfl rfl rfl (zdg D_X12_next0 106 (208, .putfield 159, 3) rfl) ?_
                refine z_nmS hf (fun s28 hf => ?_)
                refine z_goto (pc := 211) 306 (zdg D_X12_next0 107 (211, .goto 95, 3) rfl) rfl ?_
                exact z_vret (pc := 306) rfl (zdg D_X12_next0 157 (306, .return_, 1) rfl) (hP _ hf)
            · intro s19 hn hi hx
              have hf := b_X12_next0_126.eq_1  s19
              refine z_aload_n (pc := 126) 0 (zdg D_X12_next0 62 (126, .aload_n 0, 1) rfl) rfl rfl ?_
              refine z_aload_n (pc := 127) 0 (zdg D_X12_next0 63 (127, .aload_n 0, 1) rfl) rfl rfl ?_
              refine z_getI (pc := 128) lf_X12_80 rfl rfl (zdg D_X12_next0 64 (128, .getfield 80, 3) rfl) ?_
              refine z_bind hn hf (fun q20 hq hf => ?_)
              refine z_callV (pc := 131) (rest := []) (st2 := [zI q20]) (fun l => c_X12_see l (s19.1 0 0 17) s19 q20 hq) zv_X12_see lm_X12_155 rfl rfl rfl rfl rfl rfl (Nat.le_of_ble_eq_true rfl) ⟨Nat.le_of_ble_eq_true rfl, Nat.le_of_ble_eq_true rfl⟩ (zdg D_X12_next0 65 (131, .invokevirtual 155, 3) rfl) ?_
              refine z_bind hn hf (fun q21 hq hf => ?_)
              refine z_callS (pc := 134) (rest := []) (st2 := [zI q21]) (fun l => c_X12_isDigit l q20 s19 q21 hq) zs_X12_isDigit lm_X12_169 rfl rfl rfl (Nat.le_of_ble_eq_true rfl) ⟨Nat.le_of_ble_eq_true rfl, Nat.le_of_ble_eq_true rfl⟩ (zdg D_X12_next0 66 (134, .invokestatic 169, 3) rfl) ?_
              refine z_if_eq (pc := 137) 189 (zdg D_X12_next0 67 (137, .ifCond .eq 52, 3) rfl) rfl hf (fun hf => ?_) (fun hf => ?_)
              · exact hx s19 hf
              · refine z_aload_n (pc := 140) 0 (zdg D_X12_next0 68 (140, .aload_n 0, 1) rfl) rfl rfl ?_
                refine z_getI (pc := 141) lf_X12_80 rfl rfl (zdg D_X12_next0 69 (141, .getfield 80, 3) rfl) ?_
                refine z_aload_n (pc := 144) 0 (zdg D_X12_next0 70 (144, .aload_n 0, 1) rfl) rfl rfl ?_
                refine z_getI (pc := 145) lf_X12_83 rfl rfl (zdg D_X12_next0 71 (145, .getfield 83, 3) rfl) ?_
                refine z_iconst (pc := 148) (v := 4) (zdg D_X12_next0 72 (148, .iconst 4, 1) rfl) rfl ?_
                refine z_iadd (pc := 149) (zdg D_X12_next0 73 (149, .iadd, 1) rfl) ?_
                refine z_icmp_ge (pc := 150) 176 (zdg D_X12_next0 74 (150, .if_icmp .ge 26, 3) rfl) rfl hf (fun hf => ?_) (fun hf => ?_)
                · refine z_aload_n (pc := 176) 0 (zdg D_X12_next0 88 (176, .aload_n 0, 1) rfl) rfl rfl ?_
                  refine z_dup (pc := 177) rfl (zdg D_X12_next0 89 (177, .dup, 1) rfl) ?_
                  refine z_getI (pc := 178) lf_X12_80 rfl rfl (zdg D_X12_next0 90 (178, .getfield 80, 3) rfl) ?_
                  refine z_iconst (pc := 181) (v := 1) (zdg D_X12_next0 91 (181, .iconst 1, 1) rfl) rfl ?_
                  refine z_iadd (pc := 182) (zdg D_X12_next0 92 (182, .iadd, 1) rfl) ?_
                  refine z_putI (pc := 183) lw_X12_80 rfl rfl rfl rfl (zdg D_X12_next0 93 (183, .putfield 80, 3) rfl) ?_
                  refine z_nmS hf (fun s22 hf => ?_)
                  refine z_goto (pc := 186) 126 (zdg D_X12_next0 94 (186, .goto (-60), 3) rfl) rfl ?_
                  exact hi s22 hf
                · refine z_aload_n (pc := 153) 0 (zdg D_X12_next0 75 (153, .aload_n 0, 1) rfl) rfl rfl ?_
                  refine z_bipush (pc := 154) (v := 10) (zdg D_X12_next0 76 (154, .bipush 10, 2) rfl) rfl ?_
                  refine z_aload_n (pc := 156) 0 (zdg D_X12_next0 77 (156, .aload_n 0, 1) rfl) rfl rfl ?_
                  refine z_getI (pc := 157) lf_X12_172 rfl rfl (zdg D_X12_next0 78 (157, .getfield 172, 3) rfl) ?_
                  refine z_imul (pc := 160) (zdg D_X12_next0 79 (160, .imul, 1) rfl) ?_
                  refine z_aload_n (pc := 161) 0 (zdg D_X12_next0 80 (161, .aload_n 0, 1) rfl) rfl rfl ?_
                  refine z_aload_n (pc := 162) 0 (zdg D_X12_next0 81 (162, .aload_n 0, 1) rfl) rfl rfl ?_
                  refine z_getI (pc := 163) lf_X12_80 rfl rfl (zdg D_X12_next0 82 (163, .getfield 80, 3) rfl) ?_
                  refine z_bind hn hf (fun q23 hq hf => ?_)
                  refine z_callV (pc := 166) (rest := [zI ((10 : Int32) * (s19.1 0 0 20)), zR 0 0]) (st2 := [zI q23, zI ((10 : Int32) * (s19.1 0 0 20)), zR 0 0]) (fun l => c_X12_see l (s19.1 0 0 17) s19 q23 hq) zv_X12_see lm_X12_155 rfl rfl rfl rfl rfl rfl (Nat.le_of_ble_eq_true rfl) ⟨Nat.le_of_ble_eq_true rfl, Nat.le_of_ble_eq_true rfl⟩ (zdg D_X12_next0 83 (166, .invokevirtual 155, 3) rfl) ?_
                  refine z_iadd (pc := 169) (zdg D_X12_next0 84 (169, .iadd, 1) rfl) ?_
                  refine z_bipush (pc := 170) (v := 48) (zdg D_X12_next0 85 (170, .bipush 48, 2) rfl) rfl ?_
                  refine z_isub (pc := 172) (zdg D_X12_next0 86 (172, .isub, 1) rfl) ?_
                  refine z_putI (pc := 173) lw_X12_172 rfl rfl rfl rfl (zdg D_X12_next0 87 (173, .putfield 172, 3) rfl) ?_
                  refine z_nmS hf (fun s24 hf => ?_)
                  refine z_aload_n (pc := 176) 0 (zdg D_X12_next0 88 (176, .aload_n 0, 1) rfl) rfl rfl ?_
                  refine z_dup (pc := 177) rfl (zdg D_X12_next0 89 (177, .dup, 1) rfl) ?_
                  refine z_getI (pc := 178) lf_X12_80 rfl rfl (zdg D_X12_next0 90 (178, .getfield 80, 3) rfl) ?_
                  refine z_iconst (pc := 181) (v := 1) (zdg D_X12_next0 91 (181, .iconst 1, 1) rfl) rfl ?_
                  refine z_iadd (pc := 182) (zdg D_X12_next0 92 (182, .iadd, 1) rfl) ?_
                  refine z_putI (pc := 183) lw_X12_80 rfl rfl rfl rfl (zdg D_X12_next0 93 (183, .putfield 80, 3) rfl) ?_
                  refine z_nmS hf (fun s25 hf => ?_)
                  refine z_goto (pc := 186) 126 (zdg D_X12_next0 94 (186, .goto (-60), 3) rfl) rfl ?_
                  exact hi s25 hf
        · refine z_sub (al' := [(0, zR 0 0)]) [1] rfl ?_
          refine z_loop (f := (fun q : zG => b_X12_next0_76 q)) (a := s7) (fun q : zG => zX zsyM m_X12_next0 K 76 [(0, zR 0 0)] [] q) (fun e32 : zG => zX zsyM m_X12_next0 K 103 [(0, zR 0 0)] [] e32) hn hf ?_ ?_
          · intro e32 hf
            refine z_aload_n (pc := 103) 0 (zdg D_X12_next0 51 (103, .aload_n 0, 1) rfl) rfl rfl ?_
            refine z_aload_n (pc := 104) 0 (zdg D_X12_next0 52 (104, .aload_n 0, 1) rfl) rfl rfl ?_
            refine z_bind hn hf (fun q33 hq hf => ?_)
            refine z_callV (pc := 105) (rest := [zR 0 0]) (st2 := [zI q33, zR 0 0]) (fun l => c_X12_word l e32 q33 hq) zv_X12_word lm_X12_166 rfl rfl rfl rfl rfl rfl (Nat.le_of_ble_eq_true rfl) ⟨Nat.le_of_ble_eq_true rfl, Nat.le_of_ble_eq_true rfl⟩ (zdg D_X12_next0 53 (105, .invokevirtual 166, 3) rfl) ?_
            refine z_putI (pc := 108) lw_X12_159 rfl rfl rfl rfl (zdg D_X12_next0 54 (108, .putfield 159, 3) rfl) ?_
            refine z_nmS hf (fun s34 hf => ?_)
            refine z_goto (pc := 111) 306 (zdg D_X12_next0 55 (111, .goto 195, 3) rfl) rfl ?_
            exact z_vret (pc := 306) rfl (zdg D_X12_next0 157 (306, .return_, 1) rfl) (hP _ hf)
          · intro s29 hn hi hx
            have hf := b_X12_next0_76.eq_1  s29
            refine z_aload_n (pc := 76) 0 (zdg D_X12_next0 38 (76, .aload_n 0, 1) rfl) rfl rfl ?_
            refine z_aload_n (pc := 77) 0 (zdg D_X12_next0 39 (77, .aload_n 0, 1) rfl) rfl rfl ?_
            refine z_getI (pc := 78) lf_X12_80 rfl rfl (zdg D_X12_next0 40 (78, .getfield 80, 3) rfl) ?_
            refine z_bind hn hf (fun q30 hq hf => ?_)
            refine z_callV (pc := 81) (rest := []) (st2 := [zI q30]) (fun l => c_X12_see l (s29.1 0 0 17) s29 q30 hq) zv_X12_see lm_X12_155 rfl rfl rfl rfl rfl rfl (Nat.le_of_ble_eq_true rfl) ⟨Nat.le_of_ble_eq_true rfl, Nat.le_of_ble_eq_true rfl⟩ (zdg D_X12_next0 41 (81, .invokevirtual 155, 3) rfl) ?_
            refine z_callS (pc := 84) (rest := []) (st2 := [zI (f_X12_isLetter q30)]) (fun l => c_X12_isLetter l q30 s29) zs_X12_isLetter lm_X12_162 rfl rfl rfl (Nat.le_of_ble_eq_true rfl) ⟨Nat.le_of_ble_eq_true rfl, Nat.le_of_ble_eq_true rfl⟩ (zdg D_X12_next0 42 (84, .invokestatic 162, 3) rfl) ?_
            refine z_if_eq (pc := 87) 103 (zdg D_X12_next0 43 (87, .ifCond .eq 16, 3) rfl) rfl hf (fun hf => ?_) (fun hf => ?_)
            · exact hx s29 hf
            · refine z_aload_n (pc := 90) 0 (zdg D_X12_next0 44 (90, .aload_n 0, 1) rfl) rfl rfl ?_
              refine z_dup (pc := 91) rfl (zdg D_X12_next0 45 (91, .dup, 1) rfl) ?_
              refine z_getI (pc := 92) lf_X12_80 rfl rfl (zdg D_X12_next0 46 (92, .getfield 80, 3) rfl) ?_
              refine z_iconst (pc := 95) (v := 1) (zdg D_X12_next0 47 (95, .iconst 1, 1) rfl) rfl ?_
              refine z_iadd (pc := 96) (zdg D_X12_next0 48 (96, .iadd, 1) rfl) ?_
              refine z_putI (pc := 97) lw_X12_80 rfl rfl rfl rfl (zdg D_X12_next0 49 (97, .putfield 80, 3) rfl) ?_
              refine z_nmS hf (fun s31 hf => ?_)
              refine z_goto (pc := 100) 76 (zdg D_X12_next0 50 (100, .goto (-24), 3) rfl) rfl ?_
              exact hi s31 hf
      · refine z_aload_n (pc := 61) 1 (zdg D_X12_next0 31 (61, .aload_n 0, 1) rfl) rfl rfl ?_
        refine z_iconst (pc := 62) (v := 0) (zdg D_X12_next0 32 (62, .iconst 0, 1) rfl) rfl ?_
        refine z_putI (pc := 63) lw_X12_159 rfl rfl rfl rfl (zdg D_X12_next0 33 (63, .putfield 159, 3) rfl) ?_
        refine z_nmS hf (fun s35 hf => ?_)
        refine z_goto (pc := 66) 306 (zdg D_X12_next0 34 (66, .goto 240, 3) rfl) rfl ?_
        exact z_vret (pc := 306) rfl (zdg D_X12_next0 157 (306, .return_, 1) rfl) (hP _ hf)
    · intro s1 hn hi hx
      have hf := b_X12_next0_0.eq_1  s1
      refine z_aload_n (pc := 0) 0 (zdg D_X12_next0 0 (0, .aload_n 0, 1) rfl) rfl rfl ?_
      refine z_aload_n (pc := 1) 0 (zdg D_X12_next0 1 (1, .aload_n 0, 1) rfl) rfl rfl ?_
      refine z_getI (pc := 2) lf_X12_80 rfl rfl (zdg D_X12_next0 2 (2, .getfield 80, 3) rfl) ?_
      refine z_bind hn hf (fun q2 hq hf => ?_)
      refine z_callV (pc := 5) (rest := []) (st2 := [zI q2]) (fun l => c_X12_see l (s1.1 0 0 17) s1 q2 hq) zv_X12_see lm_X12_155 rfl rfl rfl rfl rfl rfl (Nat.le_of_ble_eq_true rfl) ⟨Nat.le_of_ble_eq_true rfl, Nat.le_of_ble_eq_true rfl⟩ (zdg D_X12_next0 3 (5, .invokevirtual 155, 3) rfl) ?_
      refine z_bipush (pc := 8) (v := 32) (zdg D_X12_next0 4 (8, .bipush 32, 2) rfl) rfl ?_
      refine z_icmp_eq (pc := 10) 26 (zdg D_X12_next0 5 (10, .if_icmp .eq 16, 3) rfl) rfl hf (fun hf => ?_) (fun hf => ?_)
      · refine z_aload_n (pc := 26) 0 (zdg D_X12_next0 12 (26, .aload_n 0, 1) rfl) rfl rfl ?_
        refine z_dup (pc := 27) rfl (zdg D_X12_next0 13 (27, .dup, 1) rfl) ?_
        refine z_getI (pc := 28) lf_X12_80 rfl rfl (zdg D_X12_next0 14 (28, .getfield 80, 3) rfl) ?_
        refine z_iconst (pc := 31) (v := 1) (zdg D_X12_next0 15 (31, .iconst 1, 1) rfl) rfl ?_
        refine z_iadd (pc := 32) (zdg D_X12_next0 16 (32, .iadd, 1) rfl) ?_
        refine z_putI (pc := 33) lw_X12_80 rfl rfl rfl rfl (zdg D_X12_next0 17 (33, .putfield 80, 3) rfl) ?_
        refine z_nmS hf (fun s3 hf => ?_)
        refine z_goto (pc := 36) 0 (zdg D_X12_next0 18 (36, .goto (-36), 3) rfl) rfl ?_
        exact hi s3 hf
      · refine z_aload_n (pc := 13) 0 (zdg D_X12_next0 6 (13, .aload_n 0, 1) rfl) rfl rfl ?_
        refine z_aload_n (pc := 14) 0 (zdg D_X12_next0 7 (14, .aload_n 0, 1) rfl) rfl rfl ?_
        refine z_getI (pc := 15) lf_X12_80 rfl rfl (zdg D_X12_next0 8 (15, .getfield 80, 3) rfl) ?_
        refine z_bind hn hf (fun q4 hq hf => ?_)
        refine z_callV (pc := 18) (rest := []) (st2 := [zI q4]) (fun l => c_X12_see l (s1.1 0 0 17) s1 q4 hq) zv_X12_see lm_X12_155 rfl rfl rfl rfl rfl rfl (Nat.le_of_ble_eq_true rfl) ⟨Nat.le_of_ble_eq_true rfl, Nat.le_of_ble_eq_true rfl⟩ (zdg D_X12_next0 9 (18, .invokevirtual 155, 3) rfl) ?_
        refine z_bipush (pc := 21) (v := 10) (zdg D_X12_next0 10 (21, .bipush 10, 2) rfl) rfl ?_
        refine z_icmp_ne (pc := 23) 39 (zdg D_X12_next0 11 (23, .if_icmp .ne 16, 3) rfl) rfl hf (fun hf => ?_) (fun hf => ?_)
        · exact hx s1 hf
        · refine z_aload_n (pc := 26) 0 (zdg D_X12_next0 12 (26, .aload_n 0, 1) rfl) rfl rfl ?_
          refine z_dup (pc := 27) rfl (zdg D_X12_next0 13 (27, .dup, 1) rfl) ?_
          refine z_getI (pc := 28) lf_X12_80 rfl rfl (zdg D_X12_next0 14 (28, .getfield 80, 3) rfl) ?_
          refine z_iconst (pc := 31) (v := 1) (zdg D_X12_next0 15 (31, .iconst 1, 1) rfl) rfl ?_
          refine z_iadd (pc := 32) (zdg D_X12_next0 16 (32, .iadd, 1) rfl) ?_
          refine z_putI (pc := 33) lw_X12_80 rfl rfl rfl rfl (zdg D_X12_next0 17 (33, .putfield 80, 3) rfl) ?_
          refine z_nmS hf (fun s5 hf => ?_)
          refine z_goto (pc := 36) 0 (zdg D_X12_next0 18 (36, .goto (-36), 3) rfl) rfl ?_
          exact hi s5 hf

def L_X12_bad : List (Nat × Instr × Nat) := [(0, .aload_n 0, 1), (1, .iload_n 1, 1), (2, .putfield 175, 3), (5, .aload_n 0, 1), (6, .aload_n 0, 1), (7, .getfield 83, 3), (10, .putfield 178, 3), (13, .iconst 0, 1), (14, .ireturn, 1)]
set_option maxRecDepth 100000 in
theorem D_X12_bad : zdecs cX12_bad L_X12_bad = true := by decide +kernel
noncomputable def f_X12_bad (p1 : Int32) (σ : zG) : Int32 × zG :=
  zb (zwI σ 0 0 21 p1) (fun s1 => zb (zwI s1 0 0 22 (s1.1 0 0 19)) (fun s2 => ((0 : Int32), s2)))
set_option maxRecDepth 100000 in
set_option maxHeartbeats 4000000 in
theorem c_X12_bad (l : Launch) (p1 : Int32) (σ : zG) : zMet l zsyM m_X12_bad yX12_bad [zR 0 0, zI p1] σ (some (zI (f_X12_bad p1 σ).1)) (f_X12_bad p1 σ).2 := by
  refine zEnter [(0, zR 0 0), (1, zI p1)] (by decide) rfl (fun _ => Nat.le_of_ble_eq_true rfl) (fun _ => rfl) (fun w h => ?_) (fun K hv hs => ?_)
  · exact zokm rfl h
  · have hP : ∀ x s, f_X12_bad p1 σ = (x, s) → zKv K = some (zI x) ∧ zKs K = s := fun x s h => by rw [h] at hv hs; exact ⟨hv, hs⟩
    have hf := f_X12_bad.eq_1 p1 σ
    refine z_aload_n (pc := 0) 0 (zdg D_X12_bad 0 (0, .aload_n 0, 1) rfl) rfl rfl ?_
    refine z_iload_n (pc := 1) 1 (zdg D_X12_bad 1 (1, .iload_n 1, 1) rfl) rfl rfl ?_
    refine z_putI (pc := 2) lw_X12_175 rfl rfl rfl rfl (zdg D_X12_bad 2 (2, .putfield 175, 3) rfl) ?_
    refine z_nmS hf (fun s1 hf => ?_)
    refine z_aload_n (pc := 5) 0 (zdg D_X12_bad 3 (5, .aload_n 0, 1) rfl) rfl rfl ?_
    refine z_aload_n (pc := 6) 0 (zdg D_X12_bad 4 (6, .aload_n 0, 1) rfl) rfl rfl ?_
    refine z_getI (pc := 7) lf_X12_83 rfl rfl (zdg D_X12_bad 5 (7, .getfield 83, 3) rfl) ?_
    refine z_putI (pc := 10) lw_X12_178 rfl rfl rfl rfl (zdg D_X12_bad 6 (10, .putfield 178, 3) rfl) ?_
    refine z_nmS hf (fun s2 hf => ?_)
    refine z_iconst (pc := 13) (v := 0) (zdg D_X12_bad 7 (13, .iconst 0, 1) rfl) rfl ?_
    exact z_iret (pc := 14) rfl rfl (zdg D_X12_bad 8 (14, .ireturn, 1) rfl) (hP _ _ hf)

def L_X12_need : List (Nat × Instr × Nat) := [(0, .aload_n 0, 1), (1, .getfield 159, 3), (4, .iload_n 1, 1), (5, .if_icmp .eq 9, 3), (8, .aload_n 0, 1), (9, .iconst 1, 1), (10, .invokevirtual 181, 3), (13, .ireturn, 1), (14, .aload_n 0, 1), (15, .invokevirtual 184, 3), (18, .iconst 1, 1), (19, .ireturn, 1)]
set_option maxRecDepth 100000 in
theorem D_X12_need : zdecs cX12_need L_X12_need = true := by decide +kernel
noncomputable def f_X12_need (p1 : Int32) (σ : zG) : Option (Int32 × zG) :=
  if (σ.1 0 0 18) = p1 then (f_X12_next0 σ).bind (fun q1 => some ((1 : Int32), q1)) else zb (f_X12_bad (1 : Int32) σ) (fun q2 => zg (zbl q2.1) (some (q2.1, q2.2)))
set_option maxRecDepth 100000 in
set_option maxHeartbeats 4000000 in
theorem c_X12_need (l : Launch) (p1 : Int32) (σ : zG) (q : Int32 × zG) (hq : f_X12_need p1 σ = some q) : zMet l zsyM m_X12_need yX12_need [zR 0 0, zI p1] σ (some (zI q.1)) q.2 := by
  refine zEnter [(0, zR 0 0), (1, zI p1)] (by decide) rfl (fun _ => Nat.le_of_ble_eq_true rfl) (fun _ => rfl) (fun w h => ?_) (fun K hv hs => ?_)
  · exact zokm rfl h
  · have hP : ∀ x s, f_X12_need p1 σ = some (x, s) → zKv K = some (zI x) ∧ zKs K = s := fun x s h => by rw [hq] at h; cases h; exact ⟨hv, hs⟩
    have hn : f_X12_need p1 σ ≠ none := fun z => by rw [hq] at z; cases z
    have hf := f_X12_need.eq_1 p1 σ
    refine z_aload_n (pc := 0) 0 (zdg D_X12_need 0 (0, .aload_n 0, 1) rfl) rfl rfl ?_
    refine z_getI (pc := 1) lf_X12_159 rfl rfl (zdg D_X12_need 1 (1, .getfield 159, 3) rfl) ?_
    refine z_iload_n (pc := 4) 1 (zdg D_X12_need 2 (4, .iload_n 1, 1) rfl) rfl rfl ?_
    refine z_icmp_eq (pc := 5) 14 (zdg D_X12_need 3 (5, .if_icmp .eq 9, 3) rfl) rfl hf (fun hf => ?_) (fun hf => ?_)
    · refine z_aload_n (pc := 14) 0 (zdg D_X12_need 8 (14, .aload_n 0, 1) rfl) rfl rfl ?_
      refine z_bind hn hf (fun q1 hq hf => ?_)
      refine z_callV (pc := 15) (rest := []) (st2 := []) (fun l => c_X12_next0 l σ q1 hq) zv_X12_next0 lm_X12_184 rfl rfl rfl rfl rfl rfl (Nat.le_of_ble_eq_true rfl) ⟨Nat.le_of_ble_eq_true rfl, Nat.le_of_ble_eq_true rfl⟩ (zdg D_X12_need 9 (15, .invokevirtual 184, 3) rfl) ?_
      refine z_iconst (pc := 18) (v := 1) (zdg D_X12_need 10 (18, .iconst 1, 1) rfl) rfl ?_
      exact z_iret (pc := 19) rfl rfl (zdg D_X12_need 11 (19, .ireturn, 1) rfl) (hP _ _ hf)
    · refine z_aload_n (pc := 8) 0 (zdg D_X12_need 4 (8, .aload_n 0, 1) rfl) rfl rfl ?_
      refine z_iconst (pc := 9) (v := 1) (zdg D_X12_need 5 (9, .iconst 1, 1) rfl) rfl ?_
      refine z_callV (pc := 10) (rest := []) (st2 := [zI ((f_X12_bad (1 : Int32) σ).1)]) (fun l => c_X12_bad l (1 : Int32) σ) zv_X12_bad lm_X12_181 rfl rfl rfl rfl rfl rfl (Nat.le_of_ble_eq_true rfl) ⟨Nat.le_of_ble_eq_true rfl, Nat.le_of_ble_eq_true rfl⟩ (zdg D_X12_need 6 (10, .invokevirtual 181, 3) rfl) ?_
      refine z_nmWI hf (fun q2 hf => ?_)
      exact z_zret (pc := 13) rfl (zdg D_X12_need 7 (13, .ireturn, 1) rfl) hn hf (fun hf => (hP _ _ hf))

def L_X12_lay : List (Nat × Instr × Nat) := [(0, .aload_n 0, 1), (1, .getfield 22, 3), (4, .iconst 2, 1), (5, .aload_n 0, 1), (6, .getfield 187, 3), (9, .imul, 1), (10, .iload_n 1, 1), (11, .iastore, 1), (12, .aload_n 0, 1), (13, .getfield 22, 3), (16, .iconst 2, 1), (17, .aload_n 0, 1), (18, .getfield 187, 3), (21, .imul, 1), (22, .iconst 1, 1), (23, .iadd, 1), (24, .iload_n 2, 1), (25, .iastore, 1), (26, .aload_n 0, 1), (27, .dup, 1), (28, .getfield 187, 3), (31, .iconst 1, 1), (32, .iadd, 1), (33, .putfield 187, 3), (36, .return_, 1)]
set_option maxRecDepth 100000 in
theorem D_X12_lay : zdecs cX12_lay L_X12_lay = true := by decide +kernel
noncomputable def f_X12_lay (p1 : Int32) (p2 : Int32) (σ : zG) : Option (zG) :=
  zg (zin ((2 : Int32) * (σ.1 0 0 14)) 820) (zb (zwI σ 5 0 ((2 : Int32) * (σ.1 0 0 14)).toNatClampNeg p1) (fun s1 => zg (zin (((2 : Int32) * (s1.1 0 0 14)) + (1 : Int32)) 820) (zb (zwI s1 5 0 (((2 : Int32) * (s1.1 0 0 14)) + (1 : Int32)).toNatClampNeg p2) (fun s2 => zb (zwI s2 0 0 14 ((s2.1 0 0 14) + (1 : Int32))) (fun s3 => some s3)))))
set_option maxRecDepth 100000 in
set_option maxHeartbeats 4000000 in
theorem c_X12_lay (l : Launch) (p1 : Int32) (p2 : Int32) (σ : zG) (q : zG) (hq : f_X12_lay p1 p2 σ = some q) : zMet l zsyM m_X12_lay yX12_lay [zR 0 0, zI p1, zI p2] σ none q := by
  refine zEnter [(0, zR 0 0), (1, zI p1), (2, zI p2)] (by decide) rfl (fun _ => Nat.le_of_ble_eq_true rfl) (fun _ => rfl) (fun w h => ?_) (fun K hv hs => ?_)
  · exact zokm rfl h
  · have hP : ∀ s, f_X12_lay p1 p2 σ = some s → zKv K = none ∧ zKs K = s := fun s h => by rw [hq] at h; cases h; exact ⟨hv, hs⟩
    have hn : f_X12_lay p1 p2 σ ≠ none := fun z => by rw [hq] at z; cases z
    have hf := f_X12_lay.eq_1 p1 p2 σ
    refine z_aload_n (pc := 0) 0 (zdg D_X12_lay 0 (0, .aload_n 0, 1) rfl) rfl rfl ?_
    refine z_getR (pc := 1) (g := 5) (j := 0) lf_X12_22 rfl rfl rfl (zdg D_X12_lay 1 (1, .getfield 22, 3) rfl) ?_
    refine z_iconst (pc := 4) (v := 2) (zdg D_X12_lay 2 (4, .iconst 2, 1) rfl) rfl ?_
    refine z_aload_n (pc := 5) 0 (zdg D_X12_lay 3 (5, .aload_n 0, 1) rfl) rfl rfl ?_
    refine z_getI (pc := 6) lf_X12_187 rfl rfl (zdg D_X12_lay 4 (6, .getfield 187, 3) rfl) ?_
    refine z_imul (pc := 9) (zdg D_X12_lay 5 (9, .imul, 1) rfl) ?_
    refine z_iload_n (pc := 10) 1 (zdg D_X12_lay 6 (10, .iload_n 1, 1) rfl) rfl rfl ?_
    refine z_iast (pc := 11) rfl (fun _ => rfl) (zdg D_X12_lay 7 (11, .iastore, 1) rfl) hn hf (fun hf => ?_)
    refine z_nmS hf (fun s1 hf => ?_)
    refine z_aload_n (pc := 12) 0 (zdg D_X12_lay 8 (12, .aload_n 0, 1) rfl) rfl rfl ?_
    refine z_getR (pc := 13) (g := 5) (j := 0) lf_X12_22 rfl rfl rfl (zdg D_X12_lay 9 (13, .getfield 22, 3) rfl) ?_
    refine z_iconst (pc := 16) (v := 2) (zdg D_X12_lay 10 (16, .iconst 2, 1) rfl) rfl ?_
    refine z_aload_n (pc := 17) 0 (zdg D_X12_lay 11 (17, .aload_n 0, 1) rfl) rfl rfl ?_
    refine z_getI (pc := 18) lf_X12_187 rfl rfl (zdg D_X12_lay 12 (18, .getfield 187, 3) rfl) ?_
    refine z_imul (pc := 21) (zdg D_X12_lay 13 (21, .imul, 1) rfl) ?_
    refine z_iconst (pc := 22) (v := 1) (zdg D_X12_lay 14 (22, .iconst 1, 1) rfl) rfl ?_
    refine z_iadd (pc := 23) (zdg D_X12_lay 15 (23, .iadd, 1) rfl) ?_
    refine z_iload_n (pc := 24) 2 (zdg D_X12_lay 16 (24, .iload_n 2, 1) rfl) rfl rfl ?_
    refine z_iast (pc := 25) rfl (fun _ => rfl) (zdg D_X12_lay 17 (25, .iastore, 1) rfl) hn hf (fun hf => ?_)
    refine z_nmS hf (fun s2 hf => ?_)
    refine z_aload_n (pc := 26) 0 (zdg D_X12_lay 18 (26, .aload_n 0, 1) rfl) rfl rfl ?_
    refine z_dup (pc := 27) rfl (zdg D_X12_lay 19 (27, .dup, 1) rfl) ?_
    refine z_getI (pc := 28) lf_X12_187 rfl rfl (zdg D_X12_lay 20 (28, .getfield 187, 3) rfl) ?_
    refine z_iconst (pc := 31) (v := 1) (zdg D_X12_lay 21 (31, .iconst 1, 1) rfl) rfl ?_
    refine z_iadd (pc := 32) (zdg D_X12_lay 22 (32, .iadd, 1) rfl) ?_
    refine z_putI (pc := 33) lw_X12_187 rfl rfl rfl rfl (zdg D_X12_lay 23 (33, .putfield 187, 3) rfl) ?_
    refine z_nmS hf (fun s3 hf => ?_)
    exact z_vret (pc := 36) rfl (zdg D_X12_lay 24 (36, .return_, 1) rfl) (hP _ hf)

def L_X12_opens : List (Nat × Instr × Nat) := [(0, .aload_n 0, 1), (1, .getfield 190, 3), (4, .bipush 8, 2), (6, .if_icmp .ne 9, 3), (9, .aload_n 0, 1), (10, .iconst 3, 1), (11, .invokevirtual 181, 3), (14, .ireturn, 1), (15, .aload_n 0, 1), (16, .dup, 1), (17, .getfield 190, 3), (20, .iconst 1, 1), (21, .iadd, 1), (22, .putfield 190, 3), (25, .aload_n 0, 1), (26, .invokevirtual 184, 3), (29, .iconst 1, 1), (30, .ireturn, 1)]
set_option maxRecDepth 100000 in
theorem D_X12_opens : zdecs cX12_opens L_X12_opens = true := by decide +kernel
noncomputable def f_X12_opens (σ : zG) : Option (Int32 × zG) :=
  if (σ.1 0 0 24) = (8 : Int32) then zb (f_X12_bad (3 : Int32) σ) (fun q3 => zg (zbl q3.1) (some (q3.1, q3.2))) else zb (zwI σ 0 0 24 ((σ.1 0 0 24) + (1 : Int32))) (fun s1 => (f_X12_next0 s1).bind (fun q2 => some ((1 : Int32), q2)))
set_option maxRecDepth 100000 in
set_option maxHeartbeats 4000000 in
theorem c_X12_opens (l : Launch)  (σ : zG) (q : Int32 × zG) (hq : f_X12_opens σ = some q) : zMet l zsyM m_X12_opens yX12_opens [zR 0 0] σ (some (zI q.1)) q.2 := by
  refine zEnter [(0, zR 0 0)] (by decide) rfl (fun _ => Nat.le_of_ble_eq_true rfl) (fun _ => rfl) (fun w h => ?_) (fun K hv hs => ?_)
  · exact zokm rfl h
  · have hP : ∀ x s, f_X12_opens σ = some (x, s) → zKv K = some (zI x) ∧ zKs K = s := fun x s h => by rw [hq] at h; cases h; exact ⟨hv, hs⟩
    have hn : f_X12_opens σ ≠ none := fun z => by rw [hq] at z; cases z
    have hf := f_X12_opens.eq_1 σ
    refine z_aload_n (pc := 0) 0 (zdg D_X12_opens 0 (0, .aload_n 0, 1) rfl) rfl rfl ?_
    refine z_getI (pc := 1) lf_X12_190 rfl rfl (zdg D_X12_opens 1 (1, .getfield 190, 3) rfl) ?_
    refine z_bipush (pc := 4) (v := 8) (zdg D_X12_opens 2 (4, .bipush 8, 2) rfl) rfl ?_
    refine z_icmp_ne (pc := 6) 15 (zdg D_X12_opens 3 (6, .if_icmp .ne 9, 3) rfl) rfl hf (fun hf => ?_) (fun hf => ?_)
    · refine z_aload_n (pc := 15) 0 (zdg D_X12_opens 8 (15, .aload_n 0, 1) rfl) rfl rfl ?_
      refine z_dup (pc := 16) rfl (zdg D_X12_opens 9 (16, .dup, 1) rfl) ?_
      refine z_getI (pc := 17) lf_X12_190 rfl rfl (zdg D_X12_opens 10 (17, .getfield 190, 3) rfl) ?_
      refine z_iconst (pc := 20) (v := 1) (zdg D_X12_opens 11 (20, .iconst 1, 1) rfl) rfl ?_
      refine z_iadd (pc := 21) (zdg D_X12_opens 12 (21, .iadd, 1) rfl) ?_
      refine z_putI (pc := 22) lw_X12_190 rfl rfl rfl rfl (zdg D_X12_opens 13 (22, .putfield 190, 3) rfl) ?_
      refine z_nmS hf (fun s1 hf => ?_)
      refine z_aload_n (pc := 25) 0 (zdg D_X12_opens 14 (25, .aload_n 0, 1) rfl) rfl rfl ?_
      refine z_bind hn hf (fun q2 hq hf => ?_)
      refine z_callV (pc := 26) (rest := []) (st2 := []) (fun l => c_X12_next0 l s1 q2 hq) zv_X12_next0 lm_X12_184 rfl rfl rfl rfl rfl rfl (Nat.le_of_ble_eq_true rfl) ⟨Nat.le_of_ble_eq_true rfl, Nat.le_of_ble_eq_true rfl⟩ (zdg D_X12_opens 15 (26, .invokevirtual 184, 3) rfl) ?_
      refine z_iconst (pc := 29) (v := 1) (zdg D_X12_opens 16 (29, .iconst 1, 1) rfl) rfl ?_
      exact z_iret (pc := 30) rfl rfl (zdg D_X12_opens 17 (30, .ireturn, 1) rfl) (hP _ _ hf)
    · refine z_aload_n (pc := 9) 0 (zdg D_X12_opens 4 (9, .aload_n 0, 1) rfl) rfl rfl ?_
      refine z_iconst (pc := 10) (v := 3) (zdg D_X12_opens 5 (10, .iconst 3, 1) rfl) rfl ?_
      refine z_callV (pc := 11) (rest := []) (st2 := [zI ((f_X12_bad (3 : Int32) σ).1)]) (fun l => c_X12_bad l (3 : Int32) σ) zv_X12_bad lm_X12_181 rfl rfl rfl rfl rfl rfl (Nat.le_of_ble_eq_true rfl) ⟨Nat.le_of_ble_eq_true rfl, Nat.le_of_ble_eq_true rfl⟩ (zdg D_X12_opens 6 (11, .invokevirtual 181, 3) rfl) ?_
      refine z_nmWI hf (fun q3 hf => ?_)
      exact z_zret (pc := 14) rfl (zdg D_X12_opens 7 (14, .ireturn, 1) rfl) hn hf (fun hf => (hP _ _ hf))

def L_X12_unit : List (Nat × Instr × Nat) := [(0, .aload_n 0, 1), (1, .getfield 159, 3), (4, .bipush 41, 2), (6, .bipush 48, 2), (8, .invokestatic 64, 3), (11, .istore_n 1, 1), (12, .aload_n 0, 1), (13, .getfield 159, 3), (16, .iconst 2, 1), (17, .if_icmp .eq 13, 3), (20, .iload_n 1, 1), (21, .ifCond .ne 9, 3), (24, .aload_n 0, 1), (25, .iconst 1, 1), (26, .invokevirtual 181, 3), (29, .ireturn, 1), (30, .aload_n 0, 1), (31, .iload_n 1, 1), (32, .ifCond .eq 13, 3), (35, .aload_n 0, 1), (36, .getfield 159, 3), (39, .bipush 40, 2), (41, .isub, 1), (42, .goto 4, 3), (45, .iconst 0, 1), (46, .aload_n 0, 1), (47, .getfield 172, 3), (50, .invokevirtual 197, 3), (53, .aload_n 0, 1), (54, .invokevirtual 184, 3), (57, .iconst 1, 1), (58, .ireturn, 1)]
set_option maxRecDepth 100000 in
theorem D_X12_unit : zdecs cX12_unit L_X12_unit = true := by decide +kernel
noncomputable def j_X12_unit_30 (w1_1 : Int32) (s2 : zG) : Option (Int32 × zG) :=
  if w1_1 = 0 then (f_X12_lay (0 : Int32) (s2.1 0 0 20) s2).bind (fun q3 => (f_X12_next0 q3).bind (fun q4 => some ((1 : Int32), q4))) else (f_X12_lay ((s2.1 0 0 18) - (40 : Int32)) (s2.1 0 0 20) s2).bind (fun q5 => (f_X12_next0 q5).bind (fun q6 => some ((1 : Int32), q6)))
noncomputable def f_X12_unit (σ : zG) : Option (Int32 × zG) :=
  if (σ.1 0 0 18) = (2 : Int32) then j_X12_unit_30 (f_X12_isIn (σ.1 0 0 18) (41 : Int32) (48 : Int32)) σ else if (f_X12_isIn (σ.1 0 0 18) (41 : Int32) (48 : Int32)) = 0 then zb (f_X12_bad (1 : Int32) σ) (fun q7 => zg (zbl q7.1) (some (q7.1, q7.2))) else j_X12_unit_30 (f_X12_isIn (σ.1 0 0 18) (41 : Int32) (48 : Int32)) σ
set_option maxRecDepth 100000 in
set_option maxHeartbeats 4000000 in
theorem c_X12_unit (l : Launch)  (σ : zG) (q : Int32 × zG) (hq : f_X12_unit σ = some q) : zMet l zsyM m_X12_unit yX12_unit [zR 0 0] σ (some (zI q.1)) q.2 := by
  refine zEnter [(0, zR 0 0)] (by decide) rfl (fun _ => Nat.le_of_ble_eq_true rfl) (fun _ => rfl) (fun w h => ?_) (fun K hv hs => ?_)
  · exact zokm rfl h
  · have hP : ∀ x s, f_X12_unit σ = some (x, s) → zKv K = some (zI x) ∧ zKs K = s := fun x s h => by rw [hq] at h; cases h; exact ⟨hv, hs⟩
    have hn : f_X12_unit σ ≠ none := fun z => by rw [hq] at z; cases z
    have hf := f_X12_unit.eq_1 σ
    have t_30 : ∀ (w1_1 : Int32) (s2 : zG), f_X12_unit σ = j_X12_unit_30 w1_1 s2 → zX zsyM m_X12_unit K 30 [(0, zR 0 0), (1, zI w1_1)] [] s2 := by
      intro w1_1 s2 hf
      replace hf := hf.trans (j_X12_unit_30.eq_1 w1_1 s2)
      refine z_aload_n (pc := 30) 0 (zdg D_X12_unit 16 (30, .aload_n 0, 1) rfl) rfl rfl ?_
      refine z_iload_n (pc := 31) 1 (zdg D_X12_unit 17 (31, .iload_n 1, 1) rfl) rfl rfl ?_
      refine z_if_eq (pc := 32) 45 (zdg D_X12_unit 18 (32, .ifCond .eq 13, 3) rfl) rfl hf (fun hf => ?_) (fun hf => ?_)
      · refine z_iconst (pc := 45) (v := 0) (zdg D_X12_unit 24 (45, .iconst 0, 1) rfl) rfl ?_
        refine z_aload_n (pc := 46) 0 (zdg D_X12_unit 25 (46, .aload_n 0, 1) rfl) rfl rfl ?_
        refine z_getI (pc := 47) lf_X12_172 rfl rfl (zdg D_X12_unit 26 (47, .getfield 172, 3) rfl) ?_
        refine z_bind hn hf (fun q3 hq hf => ?_)
        refine z_callV (pc := 50) (rest := []) (st2 := []) (fun l => c_X12_lay l (0 : Int32) (s2.1 0 0 20) s2 q3 hq) zv_X12_lay lm_X12_197 rfl rfl rfl rfl rfl rfl (Nat.le_of_ble_eq_true rfl) ⟨Nat.le_of_ble_eq_true rfl, Nat.le_of_ble_eq_true rfl⟩ (zdg D_X12_unit 27 (50, .invokevirtual 197, 3) rfl) ?_
        refine z_aload_n (pc := 53) 0 (zdg D_X12_unit 28 (53, .aload_n 0, 1) rfl) rfl rfl ?_
        refine z_bind hn hf (fun q4 hq hf => ?_)
        refine z_callV (pc := 54) (rest := []) (st2 := []) (fun l => c_X12_next0 l q3 q4 hq) zv_X12_next0 lm_X12_184 rfl rfl rfl rfl rfl rfl (Nat.le_of_ble_eq_true rfl) ⟨Nat.le_of_ble_eq_true rfl, Nat.le_of_ble_eq_true rfl⟩ (zdg D_X12_unit 29 (54, .invokevirtual 184, 3) rfl) ?_
        refine z_iconst (pc := 57) (v := 1) (zdg D_X12_unit 30 (57, .iconst 1, 1) rfl) rfl ?_
        exact z_iret (pc := 58) rfl rfl (zdg D_X12_unit 31 (58, .ireturn, 1) rfl) (hP _ _ hf)
      · refine z_aload_n (pc := 35) 0 (zdg D_X12_unit 19 (35, .aload_n 0, 1) rfl) rfl rfl ?_
        refine z_getI (pc := 36) lf_X12_159 rfl rfl (zdg D_X12_unit 20 (36, .getfield 159, 3) rfl) ?_
        refine z_bipush (pc := 39) (v := 40) (zdg D_X12_unit 21 (39, .bipush 40, 2) rfl) rfl ?_
        refine z_isub (pc := 41) (zdg D_X12_unit 22 (41, .isub, 1) rfl) ?_
        refine z_goto (pc := 42) 46 (zdg D_X12_unit 23 (42, .goto 4, 3) rfl) rfl ?_
        refine z_aload_n (pc := 46) 0 (zdg D_X12_unit 25 (46, .aload_n 0, 1) rfl) rfl rfl ?_
        refine z_getI (pc := 47) lf_X12_172 rfl rfl (zdg D_X12_unit 26 (47, .getfield 172, 3) rfl) ?_
        refine z_bind hn hf (fun q5 hq hf => ?_)
        refine z_callV (pc := 50) (rest := []) (st2 := []) (fun l => c_X12_lay l ((s2.1 0 0 18) - (40 : Int32)) (s2.1 0 0 20) s2 q5 hq) zv_X12_lay lm_X12_197 rfl rfl rfl rfl rfl rfl (Nat.le_of_ble_eq_true rfl) ⟨Nat.le_of_ble_eq_true rfl, Nat.le_of_ble_eq_true rfl⟩ (zdg D_X12_unit 27 (50, .invokevirtual 197, 3) rfl) ?_
        refine z_aload_n (pc := 53) 0 (zdg D_X12_unit 28 (53, .aload_n 0, 1) rfl) rfl rfl ?_
        refine z_bind hn hf (fun q6 hq hf => ?_)
        refine z_callV (pc := 54) (rest := []) (st2 := []) (fun l => c_X12_next0 l q5 q6 hq) zv_X12_next0 lm_X12_184 rfl rfl rfl rfl rfl rfl (Nat.le_of_ble_eq_true rfl) ⟨Nat.le_of_ble_eq_true rfl, Nat.le_of_ble_eq_true rfl⟩ (zdg D_X12_unit 29 (54, .invokevirtual 184, 3) rfl) ?_
        refine z_iconst (pc := 57) (v := 1) (zdg D_X12_unit 30 (57, .iconst 1, 1) rfl) rfl ?_
        exact z_iret (pc := 58) rfl rfl (zdg D_X12_unit 31 (58, .ireturn, 1) rfl) (hP _ _ hf)
    refine z_aload_n (pc := 0) 0 (zdg D_X12_unit 0 (0, .aload_n 0, 1) rfl) rfl rfl ?_
    refine z_getI (pc := 1) lf_X12_159 rfl rfl (zdg D_X12_unit 1 (1, .getfield 159, 3) rfl) ?_
    refine z_bipush (pc := 4) (v := 41) (zdg D_X12_unit 2 (4, .bipush 41, 2) rfl) rfl ?_
    refine z_bipush (pc := 6) (v := 48) (zdg D_X12_unit 3 (6, .bipush 48, 2) rfl) rfl ?_
    refine z_callS (pc := 8) (rest := []) (st2 := [zI (f_X12_isIn (σ.1 0 0 18) (41 : Int32) (48 : Int32))]) (fun l => c_X12_isIn l (σ.1 0 0 18) (41 : Int32) (48 : Int32) σ) zs_X12_isIn lm_X12_64 rfl rfl rfl (Nat.le_of_ble_eq_true rfl) ⟨Nat.le_of_ble_eq_true rfl, Nat.le_of_ble_eq_true rfl⟩ (zdg D_X12_unit 4 (8, .invokestatic 64, 3) rfl) ?_
    refine z_istore_n (pc := 11) (al' := [(1, zI (f_X12_isIn (σ.1 0 0 18) (41 : Int32) (48 : Int32))), (0, zR 0 0)]) (zdg D_X12_unit 5 (11, .istore_n 1, 1) rfl) rfl (by decide) rfl ?_
    refine z_aload_n (pc := 12) 1 (zdg D_X12_unit 6 (12, .aload_n 0, 1) rfl) rfl rfl ?_
    refine z_getI (pc := 13) lf_X12_159 rfl rfl (zdg D_X12_unit 7 (13, .getfield 159, 3) rfl) ?_
    refine z_iconst (pc := 16) (v := 2) (zdg D_X12_unit 8 (16, .iconst 2, 1) rfl) rfl ?_
    refine z_icmp_eq (pc := 17) 30 (zdg D_X12_unit 9 (17, .if_icmp .eq 13, 3) rfl) rfl hf (fun hf => ?_) (fun hf => ?_)
    · refine z_sub (al' := [(0, zR 0 0), (1, zI (f_X12_isIn (σ.1 0 0 18) (41 : Int32) (48 : Int32)))]) [1, 0] rfl ?_
      exact t_30 (f_X12_isIn (σ.1 0 0 18) (41 : Int32) (48 : Int32)) σ hf
    · refine z_iload_n (pc := 20) 0 (zdg D_X12_unit 10 (20, .iload_n 1, 1) rfl) rfl rfl ?_
      refine z_if_ne (pc := 21) 30 (zdg D_X12_unit 11 (21, .ifCond .ne 9, 3) rfl) rfl hf (fun hf => ?_) (fun hf => ?_)
      · refine z_sub (al' := [(0, zR 0 0), (1, zI (f_X12_isIn (σ.1 0 0 18) (41 : Int32) (48 : Int32)))]) [1, 0] rfl ?_
        exact t_30 (f_X12_isIn (σ.1 0 0 18) (41 : Int32) (48 : Int32)) σ hf
      · refine z_aload_n (pc := 24) 1 (zdg D_X12_unit 12 (24, .aload_n 0, 1) rfl) rfl rfl ?_
        refine z_iconst (pc := 25) (v := 1) (zdg D_X12_unit 13 (25, .iconst 1, 1) rfl) rfl ?_
        refine z_callV (pc := 26) (rest := []) (st2 := [zI ((f_X12_bad (1 : Int32) σ).1)]) (fun l => c_X12_bad l (1 : Int32) σ) zv_X12_bad lm_X12_181 rfl rfl rfl rfl rfl rfl (Nat.le_of_ble_eq_true rfl) ⟨Nat.le_of_ble_eq_true rfl, Nat.le_of_ble_eq_true rfl⟩ (zdg D_X12_unit 14 (26, .invokevirtual 181, 3) rfl) ?_
        refine z_nmWI hf (fun q7 hf => ?_)
        exact z_zret (pc := 29) rfl (zdg D_X12_unit 15 (29, .ireturn, 1) rfl) hn hf (fun hf => (hP _ _ hf))

def L_X12_product : List (Nat × Instr × Nat) := [(0, .aload_n 0, 1), (1, .invokevirtual 200, 3), (4, .ifCond .ne 5, 3), (7, .iconst 0, 1), (8, .ireturn, 1), (9, .aload_n 0, 1), (10, .getfield 159, 3), (13, .sipush 142, 3), (16, .if_icmp .eq 13, 3), (19, .aload_n 0, 1), (20, .getfield 159, 3), (23, .sipush 147, 3), (26, .if_icmp .ne 89, 3), (29, .aload_n 0, 1), (30, .getfield 159, 3), (33, .sipush 147, 3), (36, .if_icmp .ne 7, 3), (39, .iconst 1, 1), (40, .goto 4, 3), (43, .iconst 0, 1), (44, .istore_n 1, 1), (45, .aload_n 0, 1), (46, .invokevirtual 184, 3), (49, .iload_n 1, 1), (50, .ifCond .eq 46, 3), (53, .aload_n 0, 1), (54, .getfield 172, 3), (57, .istore_n 2, 1), (58, .aload_n 0, 1), (59, .getfield 159, 3), (62, .iconst 2, 1), (63, .if_icmp .eq 9, 3), (66, .aload_n 0, 1), (67, .iconst 1, 1), (68, .invokevirtual 181, 3), (71, .ireturn, 1), (72, .iload_n 2, 1), (73, .ifCond .ne 9, 3), (76, .aload_n 0, 1), (77, .iconst 2, 1), (78, .invokevirtual 181, 3), (81, .ireturn, 1), (82, .aload_n 0, 1), (83, .invokevirtual 184, 3), (86, .aload_n 0, 1), (87, .bipush 26, 2), (89, .iload_n 2, 1), (90, .invokevirtual 197, 3), (93, .goto 19, 3), (96, .aload_n 0, 1), (97, .invokevirtual 200, 3), (100, .ifCond .ne 5, 3), (103, .iconst 0, 1), (104, .ireturn, 1), (105, .aload_n 0, 1), (106, .bipush 25, 2), (108, .iconst 0, 1), (109, .invokevirtual 197, 3), (112, .goto (-103), 3), (115, .iconst 1, 1), (116, .ireturn, 1)]
set_option maxRecDepth 100000 in
theorem D_X12_product : zdecs cX12_product L_X12_product = true := by decide +kernel
noncomputable def j_X12_product_44_9 (t4 : Int32) (s5 : zG) : Option ((zG) ⊕ ((zG) ⊕ ((zG) ⊕ ((zG) ⊕ (zG))))) :=
  (f_X12_next0 s5).bind (fun q6 => if t4 = 0 then (f_X12_unit q6).bind (fun q7 => if q7.1 = 0 then some (Sum.inr (Sum.inr (Sum.inr (Sum.inl q7.2)))) else (f_X12_lay (25 : Int32) (0 : Int32) q7.2).bind (fun q8 => some (Sum.inl q8))) else if (q6.1 0 0 18) = (2 : Int32) then if (q6.1 0 0 20) = 0 then some (Sum.inr (Sum.inr (Sum.inl q6))) else (f_X12_next0 q6).bind (fun q9 => (f_X12_lay (26 : Int32) (q6.1 0 0 20) q9).bind (fun q10 => some (Sum.inl q10))) else some (Sum.inr (Sum.inl q6)))
noncomputable def j_X12_product_29_9 (s3 : zG) : Option ((zG) ⊕ ((zG) ⊕ ((zG) ⊕ ((zG) ⊕ (zG))))) :=
  if (s3.1 0 0 18) = (147 : Int32) then j_X12_product_44_9 (1 : Int32) s3 else j_X12_product_44_9 (0 : Int32) s3
noncomputable def b_X12_product_9  (s2 : zG) : Option ((zG) ⊕ ((zG) ⊕ ((zG) ⊕ ((zG) ⊕ (zG))))) :=
  if (s2.1 0 0 18) = (142 : Int32) then j_X12_product_29_9 s2 else if (s2.1 0 0 18) = (147 : Int32) then j_X12_product_29_9 s2 else some (Sum.inr (Sum.inr (Sum.inr (Sum.inr s2))))
noncomputable def f_X12_product (σ : zG) : Option (Int32 × zG) :=
  (f_X12_unit σ).bind (fun q1 => if q1.1 = 0 then some ((0 : Int32), q1.2) else (zlp (fun q : zG => b_X12_product_9 q) q1.2).bind (Sum.elim (fun e11 : zG => zb (f_X12_bad (1 : Int32) e11) (fun q12 => zg (zbl q12.1) (some (q12.1, q12.2)))) (Sum.elim (fun e13 : zG => zb (f_X12_bad (2 : Int32) e13) (fun q14 => zg (zbl q14.1) (some (q14.1, q14.2)))) (Sum.elim (fun e15 : zG => some ((0 : Int32), e15)) (fun e16 : zG => some ((1 : Int32), e16))))))
set_option maxRecDepth 100000 in
set_option maxHeartbeats 4000000 in
theorem c_X12_product (l : Launch)  (σ : zG) (q : Int32 × zG) (hq : f_X12_product σ = some q) : zMet l zsyM m_X12_product yX12_product [zR 0 0] σ (some (zI q.1)) q.2 := by
  refine zEnter [(0, zR 0 0)] (by decide) rfl (fun _ => Nat.le_of_ble_eq_true rfl) (fun _ => rfl) (fun w h => ?_) (fun K hv hs => ?_)
  · exact zokm rfl h
  · have hP : ∀ x s, f_X12_product σ = some (x, s) → zKv K = some (zI x) ∧ zKs K = s := fun x s h => by rw [hq] at h; cases h; exact ⟨hv, hs⟩
    have hn : f_X12_product σ ≠ none := fun z => by rw [hq] at z; cases z
    have hf := f_X12_product.eq_1 σ
    refine z_aload_n (pc := 0) 0 (zdg D_X12_product 0 (0, .aload_n 0, 1) rfl) rfl rfl ?_
    refine z_bind hn hf (fun q1 hq hf => ?_)
    refine z_callV (pc := 1) (rest := []) (st2 := [zI q1.1]) (fun l => c_X12_unit l σ q1 hq) zv_X12_unit lm_X12_200 rfl rfl rfl rfl rfl rfl (Nat.le_of_ble_eq_true rfl) ⟨Nat.le_of_ble_eq_true rfl, Nat.le_of_ble_eq_true rfl⟩ (zdg D_X12_product 1 (1, .invokevirtual 200, 3) rfl) ?_
    refine z_if_ne (pc := 4) 9 (zdg D_X12_product 2 (4, .ifCond .ne 5, 3) rfl) rfl hf (fun hf => ?_) (fun hf => ?_)
    · refine z_loop (f := (fun q : zG => b_X12_product_9 q)) (a := q1.2) (fun q : zG => zX zsyM m_X12_product K 9 [(0, zR 0 0)] [] q) (Sum.elim (fun e11 : zG => zX zsyM m_X12_product K 66 [(0, zR 0 0)] [] e11) (Sum.elim (fun e13 : zG => zX zsyM m_X12_product K 76 [(0, zR 0 0)] [] e13) (Sum.elim (fun e15 : zG => zX zsyM m_X12_product K 103 [] [] e15) (fun e16 : zG => zX zsyM m_X12_product K 115 [] [] e16)))) hn hf ?_ ?_
      · intro b hf
        cases b with
        | inl e11 =>
          dsimp only [Sum.elim_inl, Sum.elim_inr] at hf ⊢
          refine z_aload_n (pc := 66) 0 (zdg D_X12_product 32 (66, .aload_n 0, 1) rfl) rfl rfl ?_
          refine z_iconst (pc := 67) (v := 1) (zdg D_X12_product 33 (67, .iconst 1, 1) rfl) rfl ?_
          refine z_callV (pc := 68) (rest := []) (st2 := [zI ((f_X12_bad (1 : Int32) e11).1)]) (fun l => c_X12_bad l (1 : Int32) e11) zv_X12_bad lm_X12_181 rfl rfl rfl rfl rfl rfl (Nat.le_of_ble_eq_true rfl) ⟨Nat.le_of_ble_eq_true rfl, Nat.le_of_ble_eq_true rfl⟩ (zdg D_X12_product 34 (68, .invokevirtual 181, 3) rfl) ?_
          refine z_nmWI hf (fun q12 hf => ?_)
          exact z_zret (pc := 71) rfl (zdg D_X12_product 35 (71, .ireturn, 1) rfl) hn hf (fun hf => (hP _ _ hf))
        | inr b =>
          dsimp only [Sum.elim_inl, Sum.elim_inr] at hf ⊢
          revert hf
          revert b
          intro b hf
          cases b with
          | inl e13 =>
            dsimp only [Sum.elim_inl, Sum.elim_inr] at hf ⊢
            refine z_aload_n (pc := 76) 0 (zdg D_X12_product 38 (76, .aload_n 0, 1) rfl) rfl rfl ?_
            refine z_iconst (pc := 77) (v := 2) (zdg D_X12_product 39 (77, .iconst 2, 1) rfl) rfl ?_
            refine z_callV (pc := 78) (rest := []) (st2 := [zI ((f_X12_bad (2 : Int32) e13).1)]) (fun l => c_X12_bad l (2 : Int32) e13) zv_X12_bad lm_X12_181 rfl rfl rfl rfl rfl rfl (Nat.le_of_ble_eq_true rfl) ⟨Nat.le_of_ble_eq_true rfl, Nat.le_of_ble_eq_true rfl⟩ (zdg D_X12_product 40 (78, .invokevirtual 181, 3) rfl) ?_
            refine z_nmWI hf (fun q14 hf => ?_)
            exact z_zret (pc := 81) rfl (zdg D_X12_product 41 (81, .ireturn, 1) rfl) hn hf (fun hf => (hP _ _ hf))
          | inr b =>
            dsimp only [Sum.elim_inl, Sum.elim_inr] at hf ⊢
            revert hf
            revert b
            intro b hf
            cases b with
            | inl e15 =>
              dsimp only [Sum.elim_inl, Sum.elim_inr] at hf ⊢
              refine z_iconst (pc := 103) (v := 0) (zdg D_X12_product 52 (103, .iconst 0, 1) rfl) rfl ?_
              exact z_iret (pc := 104) rfl rfl (zdg D_X12_product 53 (104, .ireturn, 1) rfl) (hP _ _ hf)
            | inr b =>
              dsimp only [Sum.elim_inl, Sum.elim_inr] at hf ⊢
              revert hf
              revert b
              intro e16 hf
              refine z_iconst (pc := 115) (v := 1) (zdg D_X12_product 59 (115, .iconst 1, 1) rfl) rfl ?_
              exact z_iret (pc := 116) rfl rfl (zdg D_X12_product 60 (116, .ireturn, 1) rfl) (hP _ _ hf)
      · intro s2 hn hi hx
        have hf := b_X12_product_9.eq_1  s2
        have t_44 : ∀ (t4 : Int32) (s5 : zG), b_X12_product_9  s2 = j_X12_product_44_9 t4 s5 → zX zsyM m_X12_product K 44 [(0, zR 0 0)] [zI t4] s5 := by
          intro t4 s5 hf
          replace hf := hf.trans (j_X12_product_44_9.eq_1 t4 s5)
          refine z_istore_n (pc := 44) (al' := [(1, zI t4), (0, zR 0 0)]) (zdg D_X12_product 20 (44, .istore_n 1, 1) rfl) rfl (by decide) rfl ?_
          refine z_aload_n (pc := 45) 1 (zdg D_X12_product 21 (45, .aload_n 0, 1) rfl) rfl rfl ?_
          refine z_bind hn hf (fun q6 hq hf => ?_)
          refine z_callV (pc := 46) (rest := []) (st2 := []) (fun l => c_X12_next0 l s5 q6 hq) zv_X12_next0 lm_X12_184 rfl rfl rfl rfl rfl rfl (Nat.le_of_ble_eq_true rfl) ⟨Nat.le_of_ble_eq_true rfl, Nat.le_of_ble_eq_true rfl⟩ (zdg D_X12_product 22 (46, .invokevirtual 184, 3) rfl) ?_
          refine z_iload_n (pc := 49) 0 (zdg D_X12_product 23 (49, .iload_n 1, 1) rfl) rfl rfl ?_
          refine z_if_eq (pc := 50) 96 (zdg D_X12_product 24 (50, .ifCond .eq 46, 3) rfl) rfl hf (fun hf => ?_) (fun hf => ?_)
          · refine z_aload_n (pc := 96) 1 (zdg D_X12_product 49 (96, .aload_n 0, 1) rfl) rfl rfl ?_
            refine z_bind hn hf (fun q7 hq hf => ?_)
            refine z_callV (pc := 97) (rest := []) (st2 := [zI q7.1]) (fun l => c_X12_unit l q6 q7 hq) zv_X12_unit lm_X12_200 rfl rfl rfl rfl rfl rfl (Nat.le_of_ble_eq_true rfl) ⟨Nat.le_of_ble_eq_true rfl, Nat.le_of_ble_eq_true rfl⟩ (zdg D_X12_product 50 (97, .invokevirtual 200, 3) rfl) ?_
            refine z_if_ne (pc := 100) 105 (zdg D_X12_product 51 (100, .ifCond .ne 5, 3) rfl) rfl hf (fun hf => ?_) (fun hf => ?_)
            · refine z_aload_n (pc := 105) 1 (zdg D_X12_product 54 (105, .aload_n 0, 1) rfl) rfl rfl ?_
              refine z_bipush (pc := 106) (v := 25) (zdg D_X12_product 55 (106, .bipush 25, 2) rfl) rfl ?_
              refine z_iconst (pc := 108) (v := 0) (zdg D_X12_product 56 (108, .iconst 0, 1) rfl) rfl ?_
              refine z_bind hn hf (fun q8 hq hf => ?_)
              refine z_callV (pc := 109) (rest := []) (st2 := []) (fun l => c_X12_lay l (25 : Int32) (0 : Int32) q7.2 q8 hq) zv_X12_lay lm_X12_197 rfl rfl rfl rfl rfl rfl (Nat.le_of_ble_eq_true rfl) ⟨Nat.le_of_ble_eq_true rfl, Nat.le_of_ble_eq_true rfl⟩ (zdg D_X12_product 57 (109, .invokevirtual 197, 3) rfl) ?_
              refine z_goto (pc := 112) 9 (zdg D_X12_product 58 (112, .goto (-103), 3) rfl) rfl ?_
              refine z_sub (al' := [(0, zR 0 0)]) [1] rfl ?_
              exact hi q8 hf
            · refine z_sub (al' := []) [] rfl ?_
              exact hx (Sum.inr (Sum.inr (Sum.inl q7.2))) hf
          · refine z_aload_n (pc := 53) 1 (zdg D_X12_product 25 (53, .aload_n 0, 1) rfl) rfl rfl ?_
            refine z_getI (pc := 54) lf_X12_172 rfl rfl (zdg D_X12_product 26 (54, .getfield 172, 3) rfl) ?_
            refine z_istore_n (pc := 57) (al' := [(2, zI (q6.1 0 0 20)), (1, zI t4), (0, zR 0 0)]) (zdg D_X12_product 27 (57, .istore_n 2, 1) rfl) rfl (by decide) rfl ?_
            refine z_aload_n (pc := 58) 2 (zdg D_X12_product 28 (58, .aload_n 0, 1) rfl) rfl rfl ?_
            refine z_getI (pc := 59) lf_X12_159 rfl rfl (zdg D_X12_product 29 (59, .getfield 159, 3) rfl) ?_
            refine z_iconst (pc := 62) (v := 2) (zdg D_X12_product 30 (62, .iconst 2, 1) rfl) rfl ?_
            refine z_icmp_eq (pc := 63) 72 (zdg D_X12_product 31 (63, .if_icmp .eq 9, 3) rfl) rfl hf (fun hf => ?_) (fun hf => ?_)
            · refine z_iload_n (pc := 72) 0 (zdg D_X12_product 36 (72, .iload_n 2, 1) rfl) rfl rfl ?_
              refine z_if_ne (pc := 73) 82 (zdg D_X12_product 37 (73, .ifCond .ne 9, 3) rfl) rfl hf (fun hf => ?_) (fun hf => ?_)
              · refine z_aload_n (pc := 82) 2 (zdg D_X12_product 42 (82, .aload_n 0, 1) rfl) rfl rfl ?_
                refine z_bind hn hf (fun q9 hq hf => ?_)
                refine z_callV (pc := 83) (rest := []) (st2 := []) (fun l => c_X12_next0 l q6 q9 hq) zv_X12_next0 lm_X12_184 rfl rfl rfl rfl rfl rfl (Nat.le_of_ble_eq_true rfl) ⟨Nat.le_of_ble_eq_true rfl, Nat.le_of_ble_eq_true rfl⟩ (zdg D_X12_product 43 (83, .invokevirtual 184, 3) rfl) ?_
                refine z_aload_n (pc := 86) 2 (zdg D_X12_product 44 (86, .aload_n 0, 1) rfl) rfl rfl ?_
                refine z_bipush (pc := 87) (v := 26) (zdg D_X12_product 45 (87, .bipush 26, 2) rfl) rfl ?_
                refine z_iload_n (pc := 89) 0 (zdg D_X12_product 46 (89, .iload_n 2, 1) rfl) rfl rfl ?_
                refine z_bind hn hf (fun q10 hq hf => ?_)
                refine z_callV (pc := 90) (rest := []) (st2 := []) (fun l => c_X12_lay l (26 : Int32) (q6.1 0 0 20) q9 q10 hq) zv_X12_lay lm_X12_197 rfl rfl rfl rfl rfl rfl (Nat.le_of_ble_eq_true rfl) ⟨Nat.le_of_ble_eq_true rfl, Nat.le_of_ble_eq_true rfl⟩ (zdg D_X12_product 47 (90, .invokevirtual 197, 3) rfl) ?_
                refine z_goto (pc := 93) 112 (zdg D_X12_product 48 (93, .goto 19, 3) rfl) rfl ?_
                refine z_goto (pc := 112) 9 (zdg D_X12_product 58 (112, .goto (-103), 3) rfl) rfl ?_
                refine z_sub (al' := [(0, zR 0 0)]) [2] rfl ?_
                exact hi q10 hf
              · refine z_sub (al' := [(0, zR 0 0)]) [2] rfl ?_
                exact hx (Sum.inr (Sum.inl q6)) hf
            · refine z_sub (al' := [(0, zR 0 0)]) [2] rfl ?_
              exact hx (Sum.inl q6) hf
        have t_29 : ∀ (s3 : zG), b_X12_product_9  s2 = j_X12_product_29_9 s3 → zX zsyM m_X12_product K 29 [(0, zR 0 0)] [] s3 := by
          intro s3 hf
          replace hf := hf.trans (j_X12_product_29_9.eq_1 s3)
          refine z_aload_n (pc := 29) 0 (zdg D_X12_product 13 (29, .aload_n 0, 1) rfl) rfl rfl ?_
          refine z_getI (pc := 30) lf_X12_159 rfl rfl (zdg D_X12_product 14 (30, .getfield 159, 3) rfl) ?_
          refine z_sipush (pc := 33) (v := 147) (zdg D_X12_product 15 (33, .sipush 147, 3) rfl) rfl ?_
          refine z_icmp_ne (pc := 36) 43 (zdg D_X12_product 16 (36, .if_icmp .ne 7, 3) rfl) rfl hf (fun hf => ?_) (fun hf => ?_)
          · refine z_iconst (pc := 43) (v := 0) (zdg D_X12_product 19 (43, .iconst 0, 1) rfl) rfl ?_
            exact t_44 (0 : Int32) s3 hf
          · refine z_iconst (pc := 39) (v := 1) (zdg D_X12_product 17 (39, .iconst 1, 1) rfl) rfl ?_
            refine z_goto (pc := 40) 44 (zdg D_X12_product 18 (40, .goto 4, 3) rfl) rfl ?_
            exact t_44 (1 : Int32) s3 hf
        refine z_aload_n (pc := 9) 0 (zdg D_X12_product 5 (9, .aload_n 0, 1) rfl) rfl rfl ?_
        refine z_getI (pc := 10) lf_X12_159 rfl rfl (zdg D_X12_product 6 (10, .getfield 159, 3) rfl) ?_
        refine z_sipush (pc := 13) (v := 142) (zdg D_X12_product 7 (13, .sipush 142, 3) rfl) rfl ?_
        refine z_icmp_eq (pc := 16) 29 (zdg D_X12_product 8 (16, .if_icmp .eq 13, 3) rfl) rfl hf (fun hf => ?_) (fun hf => ?_)
        · exact t_29 s2 hf
        · refine z_aload_n (pc := 19) 0 (zdg D_X12_product 9 (19, .aload_n 0, 1) rfl) rfl rfl ?_
          refine z_getI (pc := 20) lf_X12_159 rfl rfl (zdg D_X12_product 10 (20, .getfield 159, 3) rfl) ?_
          refine z_sipush (pc := 23) (v := 147) (zdg D_X12_product 11 (23, .sipush 147, 3) rfl) rfl ?_
          refine z_icmp_ne (pc := 26) 115 (zdg D_X12_product 12 (26, .if_icmp .ne 89, 3) rfl) rfl hf (fun hf => ?_) (fun hf => ?_)
          · refine z_sub (al' := []) [] rfl ?_
            exact hx (Sum.inr (Sum.inr (Sum.inr s2))) hf
          · exact t_29 s2 hf
    · refine z_iconst (pc := 7) (v := 0) (zdg D_X12_product 3 (7, .iconst 0, 1) rfl) rfl ?_
      exact z_iret (pc := 8) rfl rfl (zdg D_X12_product 4 (8, .ireturn, 1) rfl) (hP _ _ hf)

def L_X12_sumUp : List (Nat × Instr × Nat) := [(0, .aload_n 0, 1), (1, .invokevirtual 193, 3), (4, .ifCond .ne 5, 3), (7, .iconst 0, 1), (8, .ireturn, 1), (9, .aload_n 0, 1), (10, .getfield 159, 3), (13, .sipush 143, 3), (16, .if_icmp .eq 13, 3), (19, .aload_n 0, 1), (20, .getfield 159, 3), (23, .sipush 145, 3), (26, .if_icmp .ne 43, 3), (29, .aload_n 0, 1), (30, .getfield 159, 3), (33, .sipush 143, 3), (36, .if_icmp .ne 8, 3), (39, .bipush 23, 2), (41, .goto 5, 3), (44, .bipush 24, 2), (46, .istore_n 1, 1), (47, .aload_n 0, 1), (48, .invokevirtual 184, 3), (51, .aload_n 0, 1), (52, .invokevirtual 193, 3), (55, .ifCond .ne 5, 3), (58, .iconst 0, 1), (59, .ireturn, 1), (60, .aload_n 0, 1), (61, .iload_n 1, 1), (62, .iconst 0, 1), (63, .invokevirtual 197, 3), (66, .goto (-57), 3), (69, .iconst 1, 1), (70, .ireturn, 1)]
set_option maxRecDepth 100000 in
theorem D_X12_sumUp : zdecs cX12_sumUp L_X12_sumUp = true := by decide +kernel
noncomputable def j_X12_sumUp_46_9 (t4 : Int32) (s5 : zG) : Option ((zG) ⊕ ((zG) ⊕ (zG))) :=
  (f_X12_next0 s5).bind (fun q6 => (f_X12_product q6).bind (fun q7 => if q7.1 = 0 then some (Sum.inr (Sum.inl q7.2)) else (f_X12_lay t4 (0 : Int32) q7.2).bind (fun q8 => some (Sum.inl q8))))
noncomputable def j_X12_sumUp_29_9 (s3 : zG) : Option ((zG) ⊕ ((zG) ⊕ (zG))) :=
  if (s3.1 0 0 18) = (143 : Int32) then j_X12_sumUp_46_9 (23 : Int32) s3 else j_X12_sumUp_46_9 (24 : Int32) s3
noncomputable def b_X12_sumUp_9  (s2 : zG) : Option ((zG) ⊕ ((zG) ⊕ (zG))) :=
  if (s2.1 0 0 18) = (143 : Int32) then j_X12_sumUp_29_9 s2 else if (s2.1 0 0 18) = (145 : Int32) then j_X12_sumUp_29_9 s2 else some (Sum.inr (Sum.inr s2))
noncomputable def f_X12_sumUp (σ : zG) : Option (Int32 × zG) :=
  (f_X12_product σ).bind (fun q1 => if q1.1 = 0 then some ((0 : Int32), q1.2) else (zlp (fun q : zG => b_X12_sumUp_9 q) q1.2).bind (Sum.elim (fun e9 : zG => some ((0 : Int32), e9)) (fun e10 : zG => some ((1 : Int32), e10))))
set_option maxRecDepth 100000 in
set_option maxHeartbeats 4000000 in
theorem c_X12_sumUp (l : Launch)  (σ : zG) (q : Int32 × zG) (hq : f_X12_sumUp σ = some q) : zMet l zsyM m_X12_sumUp yX12_sumUp [zR 0 0] σ (some (zI q.1)) q.2 := by
  refine zEnter [(0, zR 0 0)] (by decide) rfl (fun _ => Nat.le_of_ble_eq_true rfl) (fun _ => rfl) (fun w h => ?_) (fun K hv hs => ?_)
  · exact zokm rfl h
  · have hP : ∀ x s, f_X12_sumUp σ = some (x, s) → zKv K = some (zI x) ∧ zKs K = s := fun x s h => by rw [hq] at h; cases h; exact ⟨hv, hs⟩
    have hn : f_X12_sumUp σ ≠ none := fun z => by rw [hq] at z; cases z
    have hf := f_X12_sumUp.eq_1 σ
    refine z_aload_n (pc := 0) 0 (zdg D_X12_sumUp 0 (0, .aload_n 0, 1) rfl) rfl rfl ?_
    refine z_bind hn hf (fun q1 hq hf => ?_)
    refine z_callV (pc := 1) (rest := []) (st2 := [zI q1.1]) (fun l => c_X12_product l σ q1 hq) zv_X12_product lm_X12_193 rfl rfl rfl rfl rfl rfl (Nat.le_of_ble_eq_true rfl) ⟨Nat.le_of_ble_eq_true rfl, Nat.le_of_ble_eq_true rfl⟩ (zdg D_X12_sumUp 1 (1, .invokevirtual 193, 3) rfl) ?_
    refine z_if_ne (pc := 4) 9 (zdg D_X12_sumUp 2 (4, .ifCond .ne 5, 3) rfl) rfl hf (fun hf => ?_) (fun hf => ?_)
    · refine z_loop (f := (fun q : zG => b_X12_sumUp_9 q)) (a := q1.2) (fun q : zG => zX zsyM m_X12_sumUp K 9 [(0, zR 0 0)] [] q) (Sum.elim (fun e9 : zG => zX zsyM m_X12_sumUp K 58 [] [] e9) (fun e10 : zG => zX zsyM m_X12_sumUp K 69 [] [] e10)) hn hf ?_ ?_
      · intro b hf
        cases b with
        | inl e9 =>
          refine z_iconst (pc := 58) (v := 0) (zdg D_X12_sumUp 26 (58, .iconst 0, 1) rfl) rfl ?_
          exact z_iret (pc := 59) rfl rfl (zdg D_X12_sumUp 27 (59, .ireturn, 1) rfl) (hP _ _ hf)
        | inr b =>
          revert hf
          revert b
          intro e10 hf
          refine z_iconst (pc := 69) (v := 1) (zdg D_X12_sumUp 33 (69, .iconst 1, 1) rfl) rfl ?_
          exact z_iret (pc := 70) rfl rfl (zdg D_X12_sumUp 34 (70, .ireturn, 1) rfl) (hP _ _ hf)
      · intro s2 hn hi hx
        have hf := b_X12_sumUp_9.eq_1  s2
        have t_46 : ∀ (t4 : Int32) (s5 : zG), b_X12_sumUp_9  s2 = j_X12_sumUp_46_9 t4 s5 → zX zsyM m_X12_sumUp K 46 [(0, zR 0 0)] [zI t4] s5 := by
          intro t4 s5 hf
          replace hf := hf.trans (j_X12_sumUp_46_9.eq_1 t4 s5)
          refine z_istore_n (pc := 46) (al' := [(1, zI t4), (0, zR 0 0)]) (zdg D_X12_sumUp 20 (46, .istore_n 1, 1) rfl) rfl (by decide) rfl ?_
          refine z_aload_n (pc := 47) 1 (zdg D_X12_sumUp 21 (47, .aload_n 0, 1) rfl) rfl rfl ?_
          refine z_bind hn hf (fun q6 hq hf => ?_)
          refine z_callV (pc := 48) (rest := []) (st2 := []) (fun l => c_X12_next0 l s5 q6 hq) zv_X12_next0 lm_X12_184 rfl rfl rfl rfl rfl rfl (Nat.le_of_ble_eq_true rfl) ⟨Nat.le_of_ble_eq_true rfl, Nat.le_of_ble_eq_true rfl⟩ (zdg D_X12_sumUp 22 (48, .invokevirtual 184, 3) rfl) ?_
          refine z_aload_n (pc := 51) 1 (zdg D_X12_sumUp 23 (51, .aload_n 0, 1) rfl) rfl rfl ?_
          refine z_bind hn hf (fun q7 hq hf => ?_)
          refine z_callV (pc := 52) (rest := []) (st2 := [zI q7.1]) (fun l => c_X12_product l q6 q7 hq) zv_X12_product lm_X12_193 rfl rfl rfl rfl rfl rfl (Nat.le_of_ble_eq_true rfl) ⟨Nat.le_of_ble_eq_true rfl, Nat.le_of_ble_eq_true rfl⟩ (zdg D_X12_sumUp 24 (52, .invokevirtual 193, 3) rfl) ?_
          refine z_if_ne (pc := 55) 60 (zdg D_X12_sumUp 25 (55, .ifCond .ne 5, 3) rfl) rfl hf (fun hf => ?_) (fun hf => ?_)
          · refine z_aload_n (pc := 60) 1 (zdg D_X12_sumUp 28 (60, .aload_n 0, 1) rfl) rfl rfl ?_
            refine z_iload_n (pc := 61) 0 (zdg D_X12_sumUp 29 (61, .iload_n 1, 1) rfl) rfl rfl ?_
            refine z_iconst (pc := 62) (v := 0) (zdg D_X12_sumUp 30 (62, .iconst 0, 1) rfl) rfl ?_
            refine z_bind hn hf (fun q8 hq hf => ?_)
            refine z_callV (pc := 63) (rest := []) (st2 := []) (fun l => c_X12_lay l t4 (0 : Int32) q7.2 q8 hq) zv_X12_lay lm_X12_197 rfl rfl rfl rfl rfl rfl (Nat.le_of_ble_eq_true rfl) ⟨Nat.le_of_ble_eq_true rfl, Nat.le_of_ble_eq_true rfl⟩ (zdg D_X12_sumUp 31 (63, .invokevirtual 197, 3) rfl) ?_
            refine z_goto (pc := 66) 9 (zdg D_X12_sumUp 32 (66, .goto (-57), 3) rfl) rfl ?_
            refine z_sub (al' := [(0, zR 0 0)]) [1] rfl ?_
            exact hi q8 hf
          · refine z_sub (al' := []) [] rfl ?_
            exact hx (Sum.inl q7.2) hf
        have t_29 : ∀ (s3 : zG), b_X12_sumUp_9  s2 = j_X12_sumUp_29_9 s3 → zX zsyM m_X12_sumUp K 29 [(0, zR 0 0)] [] s3 := by
          intro s3 hf
          replace hf := hf.trans (j_X12_sumUp_29_9.eq_1 s3)
          refine z_aload_n (pc := 29) 0 (zdg D_X12_sumUp 13 (29, .aload_n 0, 1) rfl) rfl rfl ?_
          refine z_getI (pc := 30) lf_X12_159 rfl rfl (zdg D_X12_sumUp 14 (30, .getfield 159, 3) rfl) ?_
          refine z_sipush (pc := 33) (v := 143) (zdg D_X12_sumUp 15 (33, .sipush 143, 3) rfl) rfl ?_
          refine z_icmp_ne (pc := 36) 44 (zdg D_X12_sumUp 16 (36, .if_icmp .ne 8, 3) rfl) rfl hf (fun hf => ?_) (fun hf => ?_)
          · refine z_bipush (pc := 44) (v := 24) (zdg D_X12_sumUp 19 (44, .bipush 24, 2) rfl) rfl ?_
            exact t_46 (24 : Int32) s3 hf
          · refine z_bipush (pc := 39) (v := 23) (zdg D_X12_sumUp 17 (39, .bipush 23, 2) rfl) rfl ?_
            refine z_goto (pc := 41) 46 (zdg D_X12_sumUp 18 (41, .goto 5, 3) rfl) rfl ?_
            exact t_46 (23 : Int32) s3 hf
        refine z_aload_n (pc := 9) 0 (zdg D_X12_sumUp 5 (9, .aload_n 0, 1) rfl) rfl rfl ?_
        refine z_getI (pc := 10) lf_X12_159 rfl rfl (zdg D_X12_sumUp 6 (10, .getfield 159, 3) rfl) ?_
        refine z_sipush (pc := 13) (v := 143) (zdg D_X12_sumUp 7 (13, .sipush 143, 3) rfl) rfl ?_
        refine z_icmp_eq (pc := 16) 29 (zdg D_X12_sumUp 8 (16, .if_icmp .eq 13, 3) rfl) rfl hf (fun hf => ?_) (fun hf => ?_)
        · exact t_29 s2 hf
        · refine z_aload_n (pc := 19) 0 (zdg D_X12_sumUp 9 (19, .aload_n 0, 1) rfl) rfl rfl ?_
          refine z_getI (pc := 20) lf_X12_159 rfl rfl (zdg D_X12_sumUp 10 (20, .getfield 159, 3) rfl) ?_
          refine z_sipush (pc := 23) (v := 145) (zdg D_X12_sumUp 11 (23, .sipush 145, 3) rfl) rfl ?_
          refine z_icmp_ne (pc := 26) 69 (zdg D_X12_sumUp 12 (26, .if_icmp .ne 43, 3) rfl) rfl hf (fun hf => ?_) (fun hf => ?_)
          · refine z_sub (al' := []) [] rfl ?_
            exact hx (Sum.inr s2) hf
          · exact t_29 s2 hf
    · refine z_iconst (pc := 7) (v := 0) (zdg D_X12_sumUp 3 (7, .iconst 0, 1) rfl) rfl ?_
      exact z_iret (pc := 8) rfl rfl (zdg D_X12_sumUp 4 (8, .ireturn, 1) rfl) (hP _ _ hf)

def L_X12_oneTest : List (Nat × Instr × Nat) := [(0, .aload_n 0, 1), (1, .getfield 159, 3), (4, .bipush 6, 2), (6, .if_icmp .ne 38, 3), (9, .aload_n 0, 1), (10, .invokevirtual 209, 3), (13, .ifCond .eq 10, 3), (16, .aload_n 0, 1), (17, .invokevirtual 206, 3), (20, .ifCond .ne 5, 3), (23, .iconst 0, 1), (24, .ireturn, 1), (25, .aload_n 0, 1), (26, .dup, 1), (27, .getfield 190, 3), (30, .iconst 1, 1), (31, .isub, 1), (32, .putfield 190, 3), (35, .aload_n 0, 1), (36, .bipush 30, 2), (38, .iconst 0, 1), (39, .invokevirtual 197, 3), (42, .iconst 1, 1), (43, .ireturn, 1), (44, .aload_n 0, 1), (45, .getfield 159, 3), (48, .sipush 140, 3), (51, .if_icmp .ne 41, 3), (54, .aload_n 0, 1), (55, .invokevirtual 209, 3), (58, .ifCond .eq 20, 3), (61, .aload_n 0, 1), (62, .invokevirtual 212, 3), (65, .ifCond .eq 13, 3), (68, .aload_n 0, 1), (69, .sipush 141, 3), (72, .invokevirtual 215, 3), (75, .ifCond .ne 5, 3), (78, .iconst 0, 1), (79, .ireturn, 1), (80, .aload_n 0, 1), (81, .dup, 1), (82, .getfield 190, 3), (85, .iconst 1, 1), (86, .isub, 1), (87, .putfield 190, 3), (90, .iconst 1, 1), (91, .ireturn, 1), (92, .aload_n 0, 1), (93, .invokevirtual 218, 3), (96, .ifCond .ne 5, 3), (99, .iconst 0, 1), (100, .ireturn, 1), (101, .aload_n 0, 1), (102, .getfield 159, 3), (105, .sipush 160, 3), (108, .if_icmp .ne 8, 3), (111, .bipush 27, 2), (113, .goto 34, 3), (116, .aload_n 0, 1), (117, .getfield 159, 3), (120, .sipush 161, 3), (123, .if_icmp .ne 8, 3), (126, .bipush 28, 2), (128, .goto 19, 3), (131, .aload_n 0, 1), (132, .getfield 159, 3), (135, .sipush 162, 3), (138, .if_icmp .ne 8, 3), (141, .bipush 29, 2), (143, .goto 4, 3), (146, .iconst (-1), 1), (147, .istore_n 1, 1), (148, .iload_n 1, 1), (149, .iconst (-1), 1), (150, .if_icmp .ne 9, 3), (153, .aload_n 0, 1), (154, .iconst 1, 1), (155, .invokevirtual 181, 3), (158, .ireturn, 1), (159, .aload_n 0, 1), (160, .invokevirtual 184, 3), (163, .aload_n 0, 1), (164, .invokevirtual 218, 3), (167, .ifCond .ne 5, 3), (170, .iconst 0, 1), (171, .ireturn, 1), (172, .aload_n 0, 1), (173, .iload_n 1, 1), (174, .iconst 0, 1), (175, .invokevirtual 197, 3), (178, .iconst 1, 1), (179, .ireturn, 1)]
set_option maxRecDepth 100000 in
theorem D_X12_oneTest : zdecs cX12_oneTest L_X12_oneTest = true := by decide +kernel
noncomputable def j_X12_oneTest_147 (t2 : Int32) (s3 : zG) : Option (Int32 × zG) :=
  if t2 = (-1 : Int32) then zb (f_X12_bad (1 : Int32) s3) (fun q7 => zg (zbl q7.1) (some (q7.1, q7.2))) else (f_X12_next0 s3).bind (fun q4 => (f_X12_sumUp q4).bind (fun q5 => if q5.1 = 0 then some ((0 : Int32), q5.2) else (f_X12_lay t2 (0 : Int32) q5.2).bind (fun q6 => some ((1 : Int32), q6))))
noncomputable def f_X12_oneTest (r_X12_oneTest : zG → Option (Int32 × zG)) (r_X12_any : zG → Option (Int32 × zG)) (σ : zG) : Option (Int32 × zG) :=
  if (σ.1 0 0 18) = (6 : Int32) then (f_X12_opens σ).bind (fun q12 => if q12.1 = 0 then some ((0 : Int32), q12.2) else (r_X12_oneTest q12.2).bind (fun q13 => if q13.1 = 0 then some ((0 : Int32), q13.2) else zb (zwI q13.2 0 0 24 ((q13.2.1 0 0 24) - (1 : Int32))) (fun s14 => (f_X12_lay (30 : Int32) (0 : Int32) s14).bind (fun q15 => some ((1 : Int32), q15))))) else if (σ.1 0 0 18) = (140 : Int32) then (f_X12_opens σ).bind (fun q8 => if q8.1 = 0 then some ((0 : Int32), q8.2) else (r_X12_any q8.2).bind (fun q9 => if q9.1 = 0 then some ((0 : Int32), q9.2) else (f_X12_need (141 : Int32) q9.2).bind (fun q10 => if q10.1 = 0 then some ((0 : Int32), q10.2) else zb (zwI q10.2 0 0 24 ((q10.2.1 0 0 24) - (1 : Int32))) (fun s11 => some ((1 : Int32), s11))))) else (f_X12_sumUp σ).bind (fun q1 => if q1.1 = 0 then some ((0 : Int32), q1.2) else if (q1.2.1 0 0 18) = (160 : Int32) then j_X12_oneTest_147 (27 : Int32) q1.2 else if (q1.2.1 0 0 18) = (161 : Int32) then j_X12_oneTest_147 (28 : Int32) q1.2 else if (q1.2.1 0 0 18) = (162 : Int32) then j_X12_oneTest_147 (29 : Int32) q1.2 else j_X12_oneTest_147 (-1 : Int32) q1.2)
set_option maxRecDepth 100000 in
set_option maxHeartbeats 4000000 in
theorem c_X12_oneTest (l : Launch) (n : Nat) (hB : 40 ≤ n) (r_X12_oneTest : zG → Option (Int32 × zG)) (n_X12_oneTest : Nat) (hl_X12_oneTest : n_X12_oneTest + 1 ≤ n) (hr_X12_oneTest : ∀ (l : Launch)  (σ : zG) (q : Int32 × zG), r_X12_oneTest  σ = some q → zMet l zsyM (m_X12_oneTest n_X12_oneTest) yX12_oneTest [zR 0 0] σ (some (zI q.1)) q.2) (r_X12_any : zG → Option (Int32 × zG)) (n_X12_any : Nat) (hl_X12_any : n_X12_any + 1 ≤ n) (hr_X12_any : ∀ (l : Launch)  (σ : zG) (q : Int32 × zG), r_X12_any  σ = some q → zMet l zsyM (m_X12_any n_X12_any) yX12_any [zR 0 0] σ (some (zI q.1)) q.2)  (σ : zG) (q : Int32 × zG) (hq : f_X12_oneTest r_X12_oneTest r_X12_any σ = some q) : zMet l zsyM (m_X12_oneTest n) yX12_oneTest [zR 0 0] σ (some (zI q.1)) q.2 := by
  refine zEnter [(0, zR 0 0)] (by decide) rfl (fun _ => Nat.le_of_ble_eq_true rfl) (fun _ => rfl) (fun w h => ?_) (fun K hv hs => ?_)
  · exact zokm rfl h
  · have hP : ∀ x s, f_X12_oneTest r_X12_oneTest r_X12_any σ = some (x, s) → zKv K = some (zI x) ∧ zKs K = s := fun x s h => by rw [hq] at h; cases h; exact ⟨hv, hs⟩
    have hn : f_X12_oneTest r_X12_oneTest r_X12_any σ ≠ none := fun z => by rw [hq] at z; cases z
    have hf := f_X12_oneTest.eq_1 r_X12_oneTest r_X12_any σ
    have t_147 : ∀ (t2 : Int32) (s3 : zG), f_X12_oneTest r_X12_oneTest r_X12_any σ = j_X12_oneTest_147 t2 s3 → zX zsyM (m_X12_oneTest n) K 147 [(0, zR 0 0)] [zI t2] s3 := by
      intro t2 s3 hf
      replace hf := hf.trans (j_X12_oneTest_147.eq_1 t2 s3)
      refine z_istore_n (pc := 147) (al' := [(1, zI t2), (0, zR 0 0)]) (zdg D_X12_oneTest 72 (147, .istore_n 1, 1) rfl) rfl (Nat.le_of_ble_eq_true rfl) rfl ?_
      refine z_iload_n (pc := 148) 0 (zdg D_X12_oneTest 73 (148, .iload_n 1, 1) rfl) rfl rfl ?_
      refine z_iconst (pc := 149) (v := -1) (zdg D_X12_oneTest 74 (149, .iconst (-1), 1) rfl) rfl ?_
      refine z_icmp_ne (pc := 150) 159 (zdg D_X12_oneTest 75 (150, .if_icmp .ne 9, 3) rfl) rfl hf (fun hf => ?_) (fun hf => ?_)
      · refine z_aload_n (pc := 159) 1 (zdg D_X12_oneTest 80 (159, .aload_n 0, 1) rfl) rfl rfl ?_
        refine z_bind hn hf (fun q4 hq hf => ?_)
        refine z_callV (pc := 160) (rest := []) (st2 := []) (fun l => c_X12_next0 l s3 q4 hq) zv_X12_next0 lm_X12_184 rfl rfl rfl rfl rfl rfl (Nat.le_of_ble_eq_true rfl) (by constructor <;> dsimp only [m_X12_next0, m_X12_oneTest] <;> omega) (zdg D_X12_oneTest 81 (160, .invokevirtual 184, 3) rfl) ?_
        refine z_aload_n (pc := 163) 1 (zdg D_X12_oneTest 82 (163, .aload_n 0, 1) rfl) rfl rfl ?_
        refine z_bind hn hf (fun q5 hq hf => ?_)
        refine z_callV (pc := 164) (rest := []) (st2 := [zI q5.1]) (fun l => c_X12_sumUp l q4 q5 hq) zv_X12_sumUp lm_X12_218 rfl rfl rfl rfl rfl rfl (Nat.le_of_ble_eq_true rfl) (by constructor <;> dsimp only [m_X12_sumUp, m_X12_oneTest] <;> omega) (zdg D_X12_oneTest 83 (164, .invokevirtual 218, 3) rfl) ?_
        refine z_if_ne (pc := 167) 172 (zdg D_X12_oneTest 84 (167, .ifCond .ne 5, 3) rfl) rfl hf (fun hf => ?_) (fun hf => ?_)
        · refine z_aload_n (pc := 172) 1 (zdg D_X12_oneTest 87 (172, .aload_n 0, 1) rfl) rfl rfl ?_
          refine z_iload_n (pc := 173) 0 (zdg D_X12_oneTest 88 (173, .iload_n 1, 1) rfl) rfl rfl ?_
          refine z_iconst (pc := 174) (v := 0) (zdg D_X12_oneTest 89 (174, .iconst 0, 1) rfl) rfl ?_
          refine z_bind hn hf (fun q6 hq hf => ?_)
          refine z_callV (pc := 175) (rest := []) (st2 := []) (fun l => c_X12_lay l t2 (0 : Int32) q5.2 q6 hq) zv_X12_lay lm_X12_197 rfl rfl rfl rfl rfl rfl (Nat.le_of_ble_eq_true rfl) (by constructor <;> dsimp only [m_X12_lay, m_X12_oneTest] <;> omega) (zdg D_X12_oneTest 90 (175, .invokevirtual 197, 3) rfl) ?_
          refine z_iconst (pc := 178) (v := 1) (zdg D_X12_oneTest 91 (178, .iconst 1, 1) rfl) rfl ?_
          exact z_iret (pc := 179) rfl rfl (zdg D_X12_oneTest 92 (179, .ireturn, 1) rfl) (hP _ _ hf)
        · refine z_iconst (pc := 170) (v := 0) (zdg D_X12_oneTest 85 (170, .iconst 0, 1) rfl) rfl ?_
          exact z_iret (pc := 171) rfl rfl (zdg D_X12_oneTest 86 (171, .ireturn, 1) rfl) (hP _ _ hf)
      · refine z_aload_n (pc := 153) 1 (zdg D_X12_oneTest 76 (153, .aload_n 0, 1) rfl) rfl rfl ?_
        refine z_iconst (pc := 154) (v := 1) (zdg D_X12_oneTest 77 (154, .iconst 1, 1) rfl) rfl ?_
        refine z_callV (pc := 155) (rest := []) (st2 := [zI ((f_X12_bad (1 : Int32) s3).1)]) (fun l => c_X12_bad l (1 : Int32) s3) zv_X12_bad lm_X12_181 rfl rfl rfl rfl rfl rfl (Nat.le_of_ble_eq_true rfl) (by constructor <;> dsimp only [m_X12_bad, m_X12_oneTest] <;> omega) (zdg D_X12_oneTest 78 (155, .invokevirtual 181, 3) rfl) ?_
        refine z_nmWI hf (fun q7 hf => ?_)
        exact z_zret (pc := 158) rfl (zdg D_X12_oneTest 79 (158, .ireturn, 1) rfl) hn hf (fun hf => (hP _ _ hf))
    refine z_aload_n (pc := 0) 0 (zdg D_X12_oneTest 0 (0, .aload_n 0, 1) rfl) rfl rfl ?_
    refine z_getI (pc := 1) lf_X12_159 rfl rfl (zdg D_X12_oneTest 1 (1, .getfield 159, 3) rfl) ?_
    refine z_bipush (pc := 4) (v := 6) (zdg D_X12_oneTest 2 (4, .bipush 6, 2) rfl) rfl ?_
    refine z_icmp_ne (pc := 6) 44 (zdg D_X12_oneTest 3 (6, .if_icmp .ne 38, 3) rfl) rfl hf (fun hf => ?_) (fun hf => ?_)
    · refine z_aload_n (pc := 44) 0 (zdg D_X12_oneTest 24 (44, .aload_n 0, 1) rfl) rfl rfl ?_
      refine z_getI (pc := 45) lf_X12_159 rfl rfl (zdg D_X12_oneTest 25 (45, .getfield 159, 3) rfl) ?_
      refine z_sipush (pc := 48) (v := 140) (zdg D_X12_oneTest 26 (48, .sipush 140, 3) rfl) rfl ?_
      refine z_icmp_ne (pc := 51) 92 (zdg D_X12_oneTest 27 (51, .if_icmp .ne 41, 3) rfl) rfl hf (fun hf => ?_) (fun hf => ?_)
      · refine z_aload_n (pc := 92) 0 (zdg D_X12_oneTest 48 (92, .aload_n 0, 1) rfl) rfl rfl ?_
        refine z_bind hn hf (fun q1 hq hf => ?_)
        refine z_callV (pc := 93) (rest := []) (st2 := [zI q1.1]) (fun l => c_X12_sumUp l σ q1 hq) zv_X12_sumUp lm_X12_218 rfl rfl rfl rfl rfl rfl (Nat.le_of_ble_eq_true rfl) (by constructor <;> dsimp only [m_X12_sumUp, m_X12_oneTest] <;> omega) (zdg D_X12_oneTest 49 (93, .invokevirtual 218, 3) rfl) ?_
        refine z_if_ne (pc := 96) 101 (zdg D_X12_oneTest 50 (96, .ifCond .ne 5, 3) rfl) rfl hf (fun hf => ?_) (fun hf => ?_)
        · refine z_aload_n (pc := 101) 0 (zdg D_X12_oneTest 53 (101, .aload_n 0, 1) rfl) rfl rfl ?_
          refine z_getI (pc := 102) lf_X12_159 rfl rfl (zdg D_X12_oneTest 54 (102, .getfield 159, 3) rfl) ?_
          refine z_sipush (pc := 105) (v := 160) (zdg D_X12_oneTest 55 (105, .sipush 160, 3) rfl) rfl ?_
          refine z_icmp_ne (pc := 108) 116 (zdg D_X12_oneTest 56 (108, .if_icmp .ne 8, 3) rfl) rfl hf (fun hf => ?_) (fun hf => ?_)
          · refine z_aload_n (pc := 116) 0 (zdg D_X12_oneTest 59 (116, .aload_n 0, 1) rfl) rfl rfl ?_
            refine z_getI (pc := 117) lf_X12_159 rfl rfl (zdg D_X12_oneTest 60 (117, .getfield 159, 3) rfl) ?_
            refine z_sipush (pc := 120) (v := 161) (zdg D_X12_oneTest 61 (120, .sipush 161, 3) rfl) rfl ?_
            refine z_icmp_ne (pc := 123) 131 (zdg D_X12_oneTest 62 (123, .if_icmp .ne 8, 3) rfl) rfl hf (fun hf => ?_) (fun hf => ?_)
            · refine z_aload_n (pc := 131) 0 (zdg D_X12_oneTest 65 (131, .aload_n 0, 1) rfl) rfl rfl ?_
              refine z_getI (pc := 132) lf_X12_159 rfl rfl (zdg D_X12_oneTest 66 (132, .getfield 159, 3) rfl) ?_
              refine z_sipush (pc := 135) (v := 162) (zdg D_X12_oneTest 67 (135, .sipush 162, 3) rfl) rfl ?_
              refine z_icmp_ne (pc := 138) 146 (zdg D_X12_oneTest 68 (138, .if_icmp .ne 8, 3) rfl) rfl hf (fun hf => ?_) (fun hf => ?_)
              · refine z_iconst (pc := 146) (v := -1) (zdg D_X12_oneTest 71 (146, .iconst (-1), 1) rfl) rfl ?_
                exact t_147 (-1 : Int32) q1.2 hf
              · refine z_bipush (pc := 141) (v := 29) (zdg D_X12_oneTest 69 (141, .bipush 29, 2) rfl) rfl ?_
                refine z_goto (pc := 143) 147 (zdg D_X12_oneTest 70 (143, .goto 4, 3) rfl) rfl ?_
                exact t_147 (29 : Int32) q1.2 hf
            · refine z_bipush (pc := 126) (v := 28) (zdg D_X12_oneTest 63 (126, .bipush 28, 2) rfl) rfl ?_
              refine z_goto (pc := 128) 147 (zdg D_X12_oneTest 64 (128, .goto 19, 3) rfl) rfl ?_
              exact t_147 (28 : Int32) q1.2 hf
          · refine z_bipush (pc := 111) (v := 27) (zdg D_X12_oneTest 57 (111, .bipush 27, 2) rfl) rfl ?_
            refine z_goto (pc := 113) 147 (zdg D_X12_oneTest 58 (113, .goto 34, 3) rfl) rfl ?_
            exact t_147 (27 : Int32) q1.2 hf
        · refine z_iconst (pc := 99) (v := 0) (zdg D_X12_oneTest 51 (99, .iconst 0, 1) rfl) rfl ?_
          exact z_iret (pc := 100) rfl rfl (zdg D_X12_oneTest 52 (100, .ireturn, 1) rfl) (hP _ _ hf)
      · refine z_aload_n (pc := 54) 0 (zdg D_X12_oneTest 28 (54, .aload_n 0, 1) rfl) rfl rfl ?_
        refine z_bind hn hf (fun q8 hq hf => ?_)
        refine z_callV (pc := 55) (rest := []) (st2 := [zI q8.1]) (fun l => c_X12_opens l σ q8 hq) zv_X12_opens lm_X12_209 rfl rfl rfl rfl rfl rfl (Nat.le_of_ble_eq_true rfl) (by constructor <;> dsimp only [m_X12_opens, m_X12_oneTest] <;> omega) (zdg D_X12_oneTest 29 (55, .invokevirtual 209, 3) rfl) ?_
        refine z_if_eq (pc := 58) 78 (zdg D_X12_oneTest 30 (58, .ifCond .eq 20, 3) rfl) rfl hf (fun hf => ?_) (fun hf => ?_)
        · refine z_iconst (pc := 78) (v := 0) (zdg D_X12_oneTest 38 (78, .iconst 0, 1) rfl) rfl ?_
          exact z_iret (pc := 79) rfl rfl (zdg D_X12_oneTest 39 (79, .ireturn, 1) rfl) (hP _ _ hf)
        · refine z_aload_n (pc := 61) 0 (zdg D_X12_oneTest 31 (61, .aload_n 0, 1) rfl) rfl rfl ?_
          refine z_bind hn hf (fun q9 hq hf => ?_)
          refine z_callV (pc := 62) (rest := []) (st2 := [zI q9.1]) (fun l => hr_X12_any l q8.2 q9 hq) (zv_X12_any _) lm_X12_212 rfl rfl rfl rfl rfl rfl (Nat.le_of_ble_eq_true rfl) (by constructor <;> dsimp only [m_X12_any, m_X12_oneTest] <;> omega) (zdg D_X12_oneTest 32 (62, .invokevirtual 212, 3) rfl) ?_
          refine z_if_eq (pc := 65) 78 (zdg D_X12_oneTest 33 (65, .ifCond .eq 13, 3) rfl) rfl hf (fun hf => ?_) (fun hf => ?_)
          · refine z_iconst (pc := 78) (v := 0) (zdg D_X12_oneTest 38 (78, .iconst 0, 1) rfl) rfl ?_
            exact z_iret (pc := 79) rfl rfl (zdg D_X12_oneTest 39 (79, .ireturn, 1) rfl) (hP _ _ hf)
          · refine z_aload_n (pc := 68) 0 (zdg D_X12_oneTest 34 (68, .aload_n 0, 1) rfl) rfl rfl ?_
            refine z_sipush (pc := 69) (v := 141) (zdg D_X12_oneTest 35 (69, .sipush 141, 3) rfl) rfl ?_
            refine z_bind hn hf (fun q10 hq hf => ?_)
            refine z_callV (pc := 72) (rest := []) (st2 := [zI q10.1]) (fun l => c_X12_need l (141 : Int32) q9.2 q10 hq) zv_X12_need lm_X12_215 rfl rfl rfl rfl rfl rfl (Nat.le_of_ble_eq_true rfl) (by constructor <;> dsimp only [m_X12_need, m_X12_oneTest] <;> omega) (zdg D_X12_oneTest 36 (72, .invokevirtual 215, 3) rfl) ?_
            refine z_if_ne (pc := 75) 80 (zdg D_X12_oneTest 37 (75, .ifCond .ne 5, 3) rfl) rfl hf (fun hf => ?_) (fun hf => ?_)
            · refine z_aload_n (pc := 80) 0 (zdg D_X12_oneTest 40 (80, .aload_n 0, 1) rfl) rfl rfl ?_
              refine z_dup (pc := 81) rfl (zdg D_X12_oneTest 41 (81, .dup, 1) rfl) ?_
              refine z_getI (pc := 82) lf_X12_190 rfl rfl (zdg D_X12_oneTest 42 (82, .getfield 190, 3) rfl) ?_
              refine z_iconst (pc := 85) (v := 1) (zdg D_X12_oneTest 43 (85, .iconst 1, 1) rfl) rfl ?_
              refine z_isub (pc := 86) (zdg D_X12_oneTest 44 (86, .isub, 1) rfl) ?_
              refine z_putI (pc := 87) lw_X12_190 rfl rfl rfl rfl (zdg D_X12_oneTest 45 (87, .putfield 190, 3) rfl) ?_
              refine z_nmS hf (fun s11 hf => ?_)
              refine z_iconst (pc := 90) (v := 1) (zdg D_X12_oneTest 46 (90, .iconst 1, 1) rfl) rfl ?_
              exact z_iret (pc := 91) rfl rfl (zdg D_X12_oneTest 47 (91, .ireturn, 1) rfl) (hP _ _ hf)
            · refine z_iconst (pc := 78) (v := 0) (zdg D_X12_oneTest 38 (78, .iconst 0, 1) rfl) rfl ?_
              exact z_iret (pc := 79) rfl rfl (zdg D_X12_oneTest 39 (79, .ireturn, 1) rfl) (hP _ _ hf)
    · refine z_aload_n (pc := 9) 0 (zdg D_X12_oneTest 4 (9, .aload_n 0, 1) rfl) rfl rfl ?_
      refine z_bind hn hf (fun q12 hq hf => ?_)
      refine z_callV (pc := 10) (rest := []) (st2 := [zI q12.1]) (fun l => c_X12_opens l σ q12 hq) zv_X12_opens lm_X12_209 rfl rfl rfl rfl rfl rfl (Nat.le_of_ble_eq_true rfl) (by constructor <;> dsimp only [m_X12_opens, m_X12_oneTest] <;> omega) (zdg D_X12_oneTest 5 (10, .invokevirtual 209, 3) rfl) ?_
      refine z_if_eq (pc := 13) 23 (zdg D_X12_oneTest 6 (13, .ifCond .eq 10, 3) rfl) rfl hf (fun hf => ?_) (fun hf => ?_)
      · refine z_iconst (pc := 23) (v := 0) (zdg D_X12_oneTest 10 (23, .iconst 0, 1) rfl) rfl ?_
        exact z_iret (pc := 24) rfl rfl (zdg D_X12_oneTest 11 (24, .ireturn, 1) rfl) (hP _ _ hf)
      · refine z_aload_n (pc := 16) 0 (zdg D_X12_oneTest 7 (16, .aload_n 0, 1) rfl) rfl rfl ?_
        refine z_bind hn hf (fun q13 hq hf => ?_)
        refine z_callV (pc := 17) (rest := []) (st2 := [zI q13.1]) (fun l => hr_X12_oneTest l q12.2 q13 hq) (zv_X12_oneTest _) lm_X12_206 rfl rfl rfl rfl rfl rfl (Nat.le_of_ble_eq_true rfl) (by constructor <;> dsimp only [m_X12_oneTest, m_X12_oneTest] <;> omega) (zdg D_X12_oneTest 8 (17, .invokevirtual 206, 3) rfl) ?_
        refine z_if_ne (pc := 20) 25 (zdg D_X12_oneTest 9 (20, .ifCond .ne 5, 3) rfl) rfl hf (fun hf => ?_) (fun hf => ?_)
        · refine z_aload_n (pc := 25) 0 (zdg D_X12_oneTest 12 (25, .aload_n 0, 1) rfl) rfl rfl ?_
          refine z_dup (pc := 26) rfl (zdg D_X12_oneTest 13 (26, .dup, 1) rfl) ?_
          refine z_getI (pc := 27) lf_X12_190 rfl rfl (zdg D_X12_oneTest 14 (27, .getfield 190, 3) rfl) ?_
          refine z_iconst (pc := 30) (v := 1) (zdg D_X12_oneTest 15 (30, .iconst 1, 1) rfl) rfl ?_
          refine z_isub (pc := 31) (zdg D_X12_oneTest 16 (31, .isub, 1) rfl) ?_
          refine z_putI (pc := 32) lw_X12_190 rfl rfl rfl rfl (zdg D_X12_oneTest 17 (32, .putfield 190, 3) rfl) ?_
          refine z_nmS hf (fun s14 hf => ?_)
          refine z_aload_n (pc := 35) 0 (zdg D_X12_oneTest 18 (35, .aload_n 0, 1) rfl) rfl rfl ?_
          refine z_bipush (pc := 36) (v := 30) (zdg D_X12_oneTest 19 (36, .bipush 30, 2) rfl) rfl ?_
          refine z_iconst (pc := 38) (v := 0) (zdg D_X12_oneTest 20 (38, .iconst 0, 1) rfl) rfl ?_
          refine z_bind hn hf (fun q15 hq hf => ?_)
          refine z_callV (pc := 39) (rest := []) (st2 := []) (fun l => c_X12_lay l (30 : Int32) (0 : Int32) s14 q15 hq) zv_X12_lay lm_X12_197 rfl rfl rfl rfl rfl rfl (Nat.le_of_ble_eq_true rfl) (by constructor <;> dsimp only [m_X12_lay, m_X12_oneTest] <;> omega) (zdg D_X12_oneTest 21 (39, .invokevirtual 197, 3) rfl) ?_
          refine z_iconst (pc := 42) (v := 1) (zdg D_X12_oneTest 22 (42, .iconst 1, 1) rfl) rfl ?_
          exact z_iret (pc := 43) rfl rfl (zdg D_X12_oneTest 23 (43, .ireturn, 1) rfl) (hP _ _ hf)
        · refine z_iconst (pc := 23) (v := 0) (zdg D_X12_oneTest 10 (23, .iconst 0, 1) rfl) rfl ?_
          exact z_iret (pc := 24) rfl rfl (zdg D_X12_oneTest 11 (24, .ireturn, 1) rfl) (hP _ _ hf)

def L_X12_every : List (Nat × Instr × Nat) := [(0, .aload_n 0, 1), (1, .invokevirtual 206, 3), (4, .ifCond .ne 5, 3), (7, .iconst 0, 1), (8, .ireturn, 1), (9, .aload_n 0, 1), (10, .getfield 159, 3), (13, .iconst 5, 1), (14, .if_icmp .ne 26, 3), (17, .aload_n 0, 1), (18, .invokevirtual 184, 3), (21, .aload_n 0, 1), (22, .invokevirtual 206, 3), (25, .ifCond .ne 5, 3), (28, .iconst 0, 1), (29, .ireturn, 1), (30, .aload_n 0, 1), (31, .bipush 31, 2), (33, .iconst 0, 1), (34, .invokevirtual 197, 3), (37, .goto (-28), 3), (40, .iconst 1, 1), (41, .ireturn, 1)]
set_option maxRecDepth 100000 in
theorem D_X12_every : zdecs cX12_every L_X12_every = true := by decide +kernel
noncomputable def b_X12_every_9 (r_X12_oneTest : zG → Option (Int32 × zG)) (s2 : zG) : Option ((zG) ⊕ ((zG) ⊕ (zG))) :=
  if (s2.1 0 0 18) = (5 : Int32) then (f_X12_next0 s2).bind (fun q3 => (r_X12_oneTest q3).bind (fun q4 => if q4.1 = 0 then some (Sum.inr (Sum.inl q4.2)) else (f_X12_lay (31 : Int32) (0 : Int32) q4.2).bind (fun q5 => some (Sum.inl q5)))) else some (Sum.inr (Sum.inr s2))
noncomputable def f_X12_every (r_X12_oneTest : zG → Option (Int32 × zG)) (σ : zG) : Option (Int32 × zG) :=
  (r_X12_oneTest σ).bind (fun q1 => if q1.1 = 0 then some ((0 : Int32), q1.2) else (zlp (fun q : zG => b_X12_every_9 r_X12_oneTest q) q1.2).bind (Sum.elim (fun e6 : zG => some ((0 : Int32), e6)) (fun e7 : zG => some ((1 : Int32), e7))))
set_option maxRecDepth 100000 in
set_option maxHeartbeats 4000000 in
theorem c_X12_every (l : Launch) (n : Nat) (hB : 40 ≤ n) (r_X12_oneTest : zG → Option (Int32 × zG)) (n_X12_oneTest : Nat) (hl_X12_oneTest : n_X12_oneTest + 1 ≤ n) (hr_X12_oneTest : ∀ (l : Launch)  (σ : zG) (q : Int32 × zG), r_X12_oneTest  σ = some q → zMet l zsyM (m_X12_oneTest n_X12_oneTest) yX12_oneTest [zR 0 0] σ (some (zI q.1)) q.2)  (σ : zG) (q : Int32 × zG) (hq : f_X12_every r_X12_oneTest σ = some q) : zMet l zsyM (m_X12_every n) yX12_every [zR 0 0] σ (some (zI q.1)) q.2 := by
  refine zEnter [(0, zR 0 0)] (by decide) rfl (fun _ => Nat.le_of_ble_eq_true rfl) (fun _ => rfl) (fun w h => ?_) (fun K hv hs => ?_)
  · exact zokm rfl h
  · have hP : ∀ x s, f_X12_every r_X12_oneTest σ = some (x, s) → zKv K = some (zI x) ∧ zKs K = s := fun x s h => by rw [hq] at h; cases h; exact ⟨hv, hs⟩
    have hn : f_X12_every r_X12_oneTest σ ≠ none := fun z => by rw [hq] at z; cases z
    have hf := f_X12_every.eq_1 r_X12_oneTest σ
    refine z_aload_n (pc := 0) 0 (zdg D_X12_every 0 (0, .aload_n 0, 1) rfl) rfl rfl ?_
    refine z_bind hn hf (fun q1 hq hf => ?_)
    refine z_callV (pc := 1) (rest := []) (st2 := [zI q1.1]) (fun l => hr_X12_oneTest l σ q1 hq) (zv_X12_oneTest _) lm_X12_206 rfl rfl rfl rfl rfl rfl (Nat.le_of_ble_eq_true rfl) (by constructor <;> dsimp only [m_X12_oneTest, m_X12_every] <;> omega) (zdg D_X12_every 1 (1, .invokevirtual 206, 3) rfl) ?_
    refine z_if_ne (pc := 4) 9 (zdg D_X12_every 2 (4, .ifCond .ne 5, 3) rfl) rfl hf (fun hf => ?_) (fun hf => ?_)
    · refine z_loop (f := (fun q : zG => b_X12_every_9 r_X12_oneTest q)) (a := q1.2) (fun q : zG => zX zsyM (m_X12_every n) K 9 [(0, zR 0 0)] [] q) (Sum.elim (fun e6 : zG => zX zsyM (m_X12_every n) K 28 [] [] e6) (fun e7 : zG => zX zsyM (m_X12_every n) K 40 [] [] e7)) hn hf ?_ ?_
      · intro b hf
        cases b with
        | inl e6 =>
          refine z_iconst (pc := 28) (v := 0) (zdg D_X12_every 14 (28, .iconst 0, 1) rfl) rfl ?_
          exact z_iret (pc := 29) rfl rfl (zdg D_X12_every 15 (29, .ireturn, 1) rfl) (hP _ _ hf)
        | inr b =>
          revert hf
          revert b
          intro e7 hf
          refine z_iconst (pc := 40) (v := 1) (zdg D_X12_every 21 (40, .iconst 1, 1) rfl) rfl ?_
          exact z_iret (pc := 41) rfl rfl (zdg D_X12_every 22 (41, .ireturn, 1) rfl) (hP _ _ hf)
      · intro s2 hn hi hx
        have hf := b_X12_every_9.eq_1 r_X12_oneTest s2
        refine z_aload_n (pc := 9) 0 (zdg D_X12_every 5 (9, .aload_n 0, 1) rfl) rfl rfl ?_
        refine z_getI (pc := 10) lf_X12_159 rfl rfl (zdg D_X12_every 6 (10, .getfield 159, 3) rfl) ?_
        refine z_iconst (pc := 13) (v := 5) (zdg D_X12_every 7 (13, .iconst 5, 1) rfl) rfl ?_
        refine z_icmp_ne (pc := 14) 40 (zdg D_X12_every 8 (14, .if_icmp .ne 26, 3) rfl) rfl hf (fun hf => ?_) (fun hf => ?_)
        · refine z_sub (al' := []) [] rfl ?_
          exact hx (Sum.inr s2) hf
        · refine z_aload_n (pc := 17) 0 (zdg D_X12_every 9 (17, .aload_n 0, 1) rfl) rfl rfl ?_
          refine z_bind hn hf (fun q3 hq hf => ?_)
          refine z_callV (pc := 18) (rest := []) (st2 := []) (fun l => c_X12_next0 l s2 q3 hq) zv_X12_next0 lm_X12_184 rfl rfl rfl rfl rfl rfl (Nat.le_of_ble_eq_true rfl) (by constructor <;> dsimp only [m_X12_next0, m_X12_every] <;> omega) (zdg D_X12_every 10 (18, .invokevirtual 184, 3) rfl) ?_
          refine z_aload_n (pc := 21) 0 (zdg D_X12_every 11 (21, .aload_n 0, 1) rfl) rfl rfl ?_
          refine z_bind hn hf (fun q4 hq hf => ?_)
          refine z_callV (pc := 22) (rest := []) (st2 := [zI q4.1]) (fun l => hr_X12_oneTest l q3 q4 hq) (zv_X12_oneTest _) lm_X12_206 rfl rfl rfl rfl rfl rfl (Nat.le_of_ble_eq_true rfl) (by constructor <;> dsimp only [m_X12_oneTest, m_X12_every] <;> omega) (zdg D_X12_every 12 (22, .invokevirtual 206, 3) rfl) ?_
          refine z_if_ne (pc := 25) 30 (zdg D_X12_every 13 (25, .ifCond .ne 5, 3) rfl) rfl hf (fun hf => ?_) (fun hf => ?_)
          · refine z_aload_n (pc := 30) 0 (zdg D_X12_every 16 (30, .aload_n 0, 1) rfl) rfl rfl ?_
            refine z_bipush (pc := 31) (v := 31) (zdg D_X12_every 17 (31, .bipush 31, 2) rfl) rfl ?_
            refine z_iconst (pc := 33) (v := 0) (zdg D_X12_every 18 (33, .iconst 0, 1) rfl) rfl ?_
            refine z_bind hn hf (fun q5 hq hf => ?_)
            refine z_callV (pc := 34) (rest := []) (st2 := []) (fun l => c_X12_lay l (31 : Int32) (0 : Int32) q4.2 q5 hq) zv_X12_lay lm_X12_197 rfl rfl rfl rfl rfl rfl (Nat.le_of_ble_eq_true rfl) (by constructor <;> dsimp only [m_X12_lay, m_X12_every] <;> omega) (zdg D_X12_every 19 (34, .invokevirtual 197, 3) rfl) ?_
            refine z_goto (pc := 37) 9 (zdg D_X12_every 20 (37, .goto (-28), 3) rfl) rfl ?_
            exact hi q5 hf
          · refine z_sub (al' := []) [] rfl ?_
            exact hx (Sum.inl q4.2) hf
    · refine z_iconst (pc := 7) (v := 0) (zdg D_X12_every 3 (7, .iconst 0, 1) rfl) rfl ?_
      exact z_iret (pc := 8) rfl rfl (zdg D_X12_every 4 (8, .ireturn, 1) rfl) (hP _ _ hf)

def L_X12_any : List (Nat × Instr × Nat) := [(0, .aload_n 0, 1), (1, .invokevirtual 203, 3), (4, .ifCond .ne 5, 3), (7, .iconst 0, 1), (8, .ireturn, 1), (9, .aload_n 0, 1), (10, .getfield 159, 3), (13, .iconst 4, 1), (14, .if_icmp .ne 26, 3), (17, .aload_n 0, 1), (18, .invokevirtual 184, 3), (21, .aload_n 0, 1), (22, .invokevirtual 203, 3), (25, .ifCond .ne 5, 3), (28, .iconst 0, 1), (29, .ireturn, 1), (30, .aload_n 0, 1), (31, .bipush 32, 2), (33, .iconst 0, 1), (34, .invokevirtual 197, 3), (37, .goto (-28), 3), (40, .iconst 1, 1), (41, .ireturn, 1)]
set_option maxRecDepth 100000 in
theorem D_X12_any : zdecs cX12_any L_X12_any = true := by decide +kernel
noncomputable def b_X12_any_9 (r_X12_every : zG → Option (Int32 × zG)) (s2 : zG) : Option ((zG) ⊕ ((zG) ⊕ (zG))) :=
  if (s2.1 0 0 18) = (4 : Int32) then (f_X12_next0 s2).bind (fun q3 => (r_X12_every q3).bind (fun q4 => if q4.1 = 0 then some (Sum.inr (Sum.inl q4.2)) else (f_X12_lay (32 : Int32) (0 : Int32) q4.2).bind (fun q5 => some (Sum.inl q5)))) else some (Sum.inr (Sum.inr s2))
noncomputable def f_X12_any (r_X12_every : zG → Option (Int32 × zG)) (σ : zG) : Option (Int32 × zG) :=
  (r_X12_every σ).bind (fun q1 => if q1.1 = 0 then some ((0 : Int32), q1.2) else (zlp (fun q : zG => b_X12_any_9 r_X12_every q) q1.2).bind (Sum.elim (fun e6 : zG => some ((0 : Int32), e6)) (fun e7 : zG => some ((1 : Int32), e7))))
set_option maxRecDepth 100000 in
set_option maxHeartbeats 4000000 in
theorem c_X12_any (l : Launch) (n : Nat) (hB : 40 ≤ n) (r_X12_every : zG → Option (Int32 × zG)) (n_X12_every : Nat) (hl_X12_every : n_X12_every + 1 ≤ n) (hr_X12_every : ∀ (l : Launch)  (σ : zG) (q : Int32 × zG), r_X12_every  σ = some q → zMet l zsyM (m_X12_every n_X12_every) yX12_every [zR 0 0] σ (some (zI q.1)) q.2)  (σ : zG) (q : Int32 × zG) (hq : f_X12_any r_X12_every σ = some q) : zMet l zsyM (m_X12_any n) yX12_any [zR 0 0] σ (some (zI q.1)) q.2 := by
  refine zEnter [(0, zR 0 0)] (by decide) rfl (fun _ => Nat.le_of_ble_eq_true rfl) (fun _ => rfl) (fun w h => ?_) (fun K hv hs => ?_)
  · exact zokm rfl h
  · have hP : ∀ x s, f_X12_any r_X12_every σ = some (x, s) → zKv K = some (zI x) ∧ zKs K = s := fun x s h => by rw [hq] at h; cases h; exact ⟨hv, hs⟩
    have hn : f_X12_any r_X12_every σ ≠ none := fun z => by rw [hq] at z; cases z
    have hf := f_X12_any.eq_1 r_X12_every σ
    refine z_aload_n (pc := 0) 0 (zdg D_X12_any 0 (0, .aload_n 0, 1) rfl) rfl rfl ?_
    refine z_bind hn hf (fun q1 hq hf => ?_)
    refine z_callV (pc := 1) (rest := []) (st2 := [zI q1.1]) (fun l => hr_X12_every l σ q1 hq) (zv_X12_every _) lm_X12_203 rfl rfl rfl rfl rfl rfl (Nat.le_of_ble_eq_true rfl) (by constructor <;> dsimp only [m_X12_every, m_X12_any] <;> omega) (zdg D_X12_any 1 (1, .invokevirtual 203, 3) rfl) ?_
    refine z_if_ne (pc := 4) 9 (zdg D_X12_any 2 (4, .ifCond .ne 5, 3) rfl) rfl hf (fun hf => ?_) (fun hf => ?_)
    · refine z_loop (f := (fun q : zG => b_X12_any_9 r_X12_every q)) (a := q1.2) (fun q : zG => zX zsyM (m_X12_any n) K 9 [(0, zR 0 0)] [] q) (Sum.elim (fun e6 : zG => zX zsyM (m_X12_any n) K 28 [] [] e6) (fun e7 : zG => zX zsyM (m_X12_any n) K 40 [] [] e7)) hn hf ?_ ?_
      · intro b hf
        cases b with
        | inl e6 =>
          refine z_iconst (pc := 28) (v := 0) (zdg D_X12_any 14 (28, .iconst 0, 1) rfl) rfl ?_
          exact z_iret (pc := 29) rfl rfl (zdg D_X12_any 15 (29, .ireturn, 1) rfl) (hP _ _ hf)
        | inr b =>
          revert hf
          revert b
          intro e7 hf
          refine z_iconst (pc := 40) (v := 1) (zdg D_X12_any 21 (40, .iconst 1, 1) rfl) rfl ?_
          exact z_iret (pc := 41) rfl rfl (zdg D_X12_any 22 (41, .ireturn, 1) rfl) (hP _ _ hf)
      · intro s2 hn hi hx
        have hf := b_X12_any_9.eq_1 r_X12_every s2
        refine z_aload_n (pc := 9) 0 (zdg D_X12_any 5 (9, .aload_n 0, 1) rfl) rfl rfl ?_
        refine z_getI (pc := 10) lf_X12_159 rfl rfl (zdg D_X12_any 6 (10, .getfield 159, 3) rfl) ?_
        refine z_iconst (pc := 13) (v := 4) (zdg D_X12_any 7 (13, .iconst 4, 1) rfl) rfl ?_
        refine z_icmp_ne (pc := 14) 40 (zdg D_X12_any 8 (14, .if_icmp .ne 26, 3) rfl) rfl hf (fun hf => ?_) (fun hf => ?_)
        · refine z_sub (al' := []) [] rfl ?_
          exact hx (Sum.inr s2) hf
        · refine z_aload_n (pc := 17) 0 (zdg D_X12_any 9 (17, .aload_n 0, 1) rfl) rfl rfl ?_
          refine z_bind hn hf (fun q3 hq hf => ?_)
          refine z_callV (pc := 18) (rest := []) (st2 := []) (fun l => c_X12_next0 l s2 q3 hq) zv_X12_next0 lm_X12_184 rfl rfl rfl rfl rfl rfl (Nat.le_of_ble_eq_true rfl) (by constructor <;> dsimp only [m_X12_next0, m_X12_any] <;> omega) (zdg D_X12_any 10 (18, .invokevirtual 184, 3) rfl) ?_
          refine z_aload_n (pc := 21) 0 (zdg D_X12_any 11 (21, .aload_n 0, 1) rfl) rfl rfl ?_
          refine z_bind hn hf (fun q4 hq hf => ?_)
          refine z_callV (pc := 22) (rest := []) (st2 := [zI q4.1]) (fun l => hr_X12_every l q3 q4 hq) (zv_X12_every _) lm_X12_203 rfl rfl rfl rfl rfl rfl (Nat.le_of_ble_eq_true rfl) (by constructor <;> dsimp only [m_X12_every, m_X12_any] <;> omega) (zdg D_X12_any 12 (22, .invokevirtual 203, 3) rfl) ?_
          refine z_if_ne (pc := 25) 30 (zdg D_X12_any 13 (25, .ifCond .ne 5, 3) rfl) rfl hf (fun hf => ?_) (fun hf => ?_)
          · refine z_aload_n (pc := 30) 0 (zdg D_X12_any 16 (30, .aload_n 0, 1) rfl) rfl rfl ?_
            refine z_bipush (pc := 31) (v := 32) (zdg D_X12_any 17 (31, .bipush 32, 2) rfl) rfl ?_
            refine z_iconst (pc := 33) (v := 0) (zdg D_X12_any 18 (33, .iconst 0, 1) rfl) rfl ?_
            refine z_bind hn hf (fun q5 hq hf => ?_)
            refine z_callV (pc := 34) (rest := []) (st2 := []) (fun l => c_X12_lay l (32 : Int32) (0 : Int32) q4.2 q5 hq) zv_X12_lay lm_X12_197 rfl rfl rfl rfl rfl rfl (Nat.le_of_ble_eq_true rfl) (by constructor <;> dsimp only [m_X12_lay, m_X12_any] <;> omega) (zdg D_X12_any 19 (34, .invokevirtual 197, 3) rfl) ?_
            refine z_goto (pc := 37) 9 (zdg D_X12_any 20 (37, .goto (-28), 3) rfl) rfl ?_
            exact hi q5 hf
          · refine z_sub (al' := []) [] rfl ?_
            exact hx (Sum.inl q4.2) hf
    · refine z_iconst (pc := 7) (v := 0) (zdg D_X12_any 3 (7, .iconst 0, 1) rfl) rfl ?_
      exact z_iret (pc := 8) rfl rfl (zdg D_X12_any 4 (8, .ireturn, 1) rfl) (hP _ _ hf)
noncomputable def rr_X12_oneTest : Nat → zG → Option (Int32 × zG)
  | 0 => fun _ => none
  | n + 1 => f_X12_oneTest (rr_X12_oneTest n) (f_X12_any (f_X12_every (rr_X12_oneTest n)))
theorem crr_X12_oneTest : ∀ n : Nat, ∀ (l : Launch) (σ : zG) (q : Int32 × zG), rr_X12_oneTest n σ = some q → zMet l zsyM (m_X12_oneTest (40 + 3 * n)) yX12_oneTest [zR 0 0] σ (some (zI q.1)) q.2
  | 0, l, σ, q, hq => by cases hq
  | n + 1, l, σ, q, hq => by
    have hT := crr_X12_oneTest n
    have hE : ∀ (l : Launch) (σ : zG) (q : Int32 × zG), f_X12_every (rr_X12_oneTest n) σ = some q → zMet l zsyM (m_X12_every (40 + 3 * n + 1)) yX12_every [zR 0 0] σ (some (zI q.1)) q.2 := fun l σ q hq => c_X12_every l (40 + 3 * n + 1) (by omega) (rr_X12_oneTest n) (40 + 3 * n) (by omega) hT σ q hq
    have hO : ∀ (l : Launch) (σ : zG) (q : Int32 × zG), f_X12_any (f_X12_every (rr_X12_oneTest n)) σ = some q → zMet l zsyM (m_X12_any (40 + 3 * n + 2)) yX12_any [zR 0 0] σ (some (zI q.1)) q.2 := fun l σ q hq => c_X12_any l (40 + 3 * n + 2) (by omega) (f_X12_every (rr_X12_oneTest n)) (40 + 3 * n + 1) (by omega) hE σ q hq
    exact c_X12_oneTest l (40 + 3 * (n + 1)) (by omega) (rr_X12_oneTest n) (40 + 3 * n) (by omega) hT (f_X12_any (f_X12_every (rr_X12_oneTest n))) (40 + 3 * n + 2) (by omega) hO σ q hq
noncomputable def g_X12_any (σ : zG) : Option (Int32 × zG) := f_X12_any (f_X12_every (rr_X12_oneTest 9)) σ
theorem cg_X12_any : ∀ (l : Launch) (σ : zG) (q : Int32 × zG), g_X12_any σ = some q → zMet l zsyM (m_X12_any 69) yX12_any [zR 0 0] σ (some (zI q.1)) q.2 := fun l σ q hq => c_X12_any l 69 (by omega) (f_X12_every (rr_X12_oneTest 9)) 68 (by omega) (fun l σ q hq => c_X12_every l 68 (by omega) (rr_X12_oneTest 9) 67 (by omega) (crr_X12_oneTest 9) σ q hq) σ q hq

def L_X12_aLine : List (Nat × Instr × Nat) := [(0, .aload_n 0, 1), (1, .getfield 159, 3), (4, .bipush 7, 2), (6, .if_icmp .eq 9, 3), (9, .aload_n 0, 1), (10, .iconst 1, 1), (11, .invokevirtual 181, 3), (14, .ireturn, 1), (15, .aload_n 0, 1), (16, .getfield 221, 3), (19, .bipush 16, 2), (21, .if_icmp .ne 9, 3), (24, .aload_n 0, 1), (25, .iconst 3, 1), (26, .invokevirtual 181, 3), (29, .ireturn, 1), (30, .aload_n 0, 1), (31, .iconst 0, 1), (32, .putfield 190, 3), (35, .aload_n 0, 1), (36, .invokevirtual 184, 3), (39, .aload_n 0, 1), (40, .getfield 19, 3), (43, .iconst 3, 1), (44, .aload_n 0, 1), (45, .getfield 221, 3), (48, .imul, 1), (49, .aload_n 0, 1), (50, .getfield 187, 3), (53, .iastore, 1), (54, .aload_n 0, 1), (55, .invokevirtual 218, 3), (58, .ifCond .ne 5, 3), (61, .iconst 0, 1), (62, .ireturn, 1), (63, .aload_n 0, 1), (64, .getfield 19, 3), (67, .iconst 3, 1), (68, .aload_n 0, 1), (69, .getfield 221, 3), (72, .imul, 1), (73, .iconst 1, 1), (74, .iadd, 1), (75, .aload_n 0, 1), (76, .getfield 187, 3), (79, .iastore, 1), (80, .aload_n 0, 1), (81, .getfield 159, 3), (84, .iconst 3, 1), (85, .if_icmp .ne 16, 3), (88, .aload_n 0, 1), (89, .invokevirtual 184, 3), (92, .aload_n 0, 1), (93, .invokevirtual 212, 3), (96, .ifCond .ne 5, 3), (99, .iconst 0, 1), (100, .ireturn, 1), (101, .aload_n 0, 1), (102, .getfield 19, 3), (105, .iconst 3, 1), (106, .aload_n 0, 1), (107, .getfield 221, 3), (110, .imul, 1), (111, .iconst 2, 1), (112, .iadd, 1), (113, .aload_n 0, 1), (114, .getfield 187, 3), (117, .iastore, 1), (118, .aload_n 0, 1), (119, .sipush 159, 3), (122, .invokevirtual 215, 3), (125, .ireturn, 1)]
set_option maxRecDepth 100000 in
theorem D_X12_aLine : zdecs cX12_aLine L_X12_aLine = true := by decide +kernel
noncomputable def j_X12_aLine_101 (s6 : zG) : Option (Int32 × zG) :=
  zg (zin (((3 : Int32) * (s6.1 0 0 13)) + (2 : Int32)) 48) (zb (zwI s6 4 0 (((3 : Int32) * (s6.1 0 0 13)) + (2 : Int32)).toNatClampNeg (s6.1 0 0 14)) (fun s7 => (f_X12_need (159 : Int32) s7).bind (fun q8 => zg (zbl q8.1) (some (q8.1, q8.2)))))
noncomputable def f_X12_aLine (σ : zG) : Option (Int32 × zG) :=
  if (σ.1 0 0 18) = (7 : Int32) then if (σ.1 0 0 13) = (16 : Int32) then zb (f_X12_bad (3 : Int32) σ) (fun q11 => zg (zbl q11.1) (some (q11.1, q11.2))) else zb (zwI σ 0 0 24 (0 : Int32)) (fun s1 => (f_X12_next0 s1).bind (fun q2 => zg (zin ((3 : Int32) * (q2.1 0 0 13)) 48) (zb (zwI q2 4 0 ((3 : Int32) * (q2.1 0 0 13)).toNatClampNeg (q2.1 0 0 14)) (fun s3 => (f_X12_sumUp s3).bind (fun q4 => if q4.1 = 0 then some ((0 : Int32), q4.2) else zg (zin (((3 : Int32) * (q4.2.1 0 0 13)) + (1 : Int32)) 48) (zb (zwI q4.2 4 0 (((3 : Int32) * (q4.2.1 0 0 13)) + (1 : Int32)).toNatClampNeg (q4.2.1 0 0 14)) (fun s5 => if (s5.1 0 0 18) = (3 : Int32) then (f_X12_next0 s5).bind (fun q9 => (g_X12_any q9).bind (fun q10 => if q10.1 = 0 then some ((0 : Int32), q10.2) else j_X12_aLine_101 q10.2)) else j_X12_aLine_101 s5))))))) else zb (f_X12_bad (1 : Int32) σ) (fun q12 => zg (zbl q12.1) (some (q12.1, q12.2)))
set_option maxRecDepth 100000 in
set_option maxHeartbeats 4000000 in
theorem c_X12_aLine (l : Launch)  (σ : zG) (q : Int32 × zG) (hq : f_X12_aLine σ = some q) : zMet l zsyM m_X12_aLine yX12_aLine [zR 0 0] σ (some (zI q.1)) q.2 := by
  refine zEnter [(0, zR 0 0)] (by decide) rfl (fun _ => Nat.le_of_ble_eq_true rfl) (fun _ => rfl) (fun w h => ?_) (fun K hv hs => ?_)
  · exact zokm rfl h
  · have hP : ∀ x s, f_X12_aLine σ = some (x, s) → zKv K = some (zI x) ∧ zKs K = s := fun x s h => by rw [hq] at h; cases h; exact ⟨hv, hs⟩
    have hn : f_X12_aLine σ ≠ none := fun z => by rw [hq] at z; cases z
    have hf := f_X12_aLine.eq_1 σ
    have t_101 : ∀ (s6 : zG), f_X12_aLine σ = j_X12_aLine_101 s6 → zX zsyM m_X12_aLine K 101 [(0, zR 0 0)] [] s6 := by
      intro s6 hf
      replace hf := hf.trans (j_X12_aLine_101.eq_1 s6)
      refine z_aload_n (pc := 101) 0 (zdg D_X12_aLine 57 (101, .aload_n 0, 1) rfl) rfl rfl ?_
      refine z_getR (pc := 102) (g := 4) (j := 0) lf_X12_19 rfl rfl rfl (zdg D_X12_aLine 58 (102, .getfield 19, 3) rfl) ?_
      refine z_iconst (pc := 105) (v := 3) (zdg D_X12_aLine 59 (105, .iconst 3, 1) rfl) rfl ?_
      refine z_aload_n (pc := 106) 0 (zdg D_X12_aLine 60 (106, .aload_n 0, 1) rfl) rfl rfl ?_
      refine z_getI (pc := 107) lf_X12_221 rfl rfl (zdg D_X12_aLine 61 (107, .getfield 221, 3) rfl) ?_
      refine z_imul (pc := 110) (zdg D_X12_aLine 62 (110, .imul, 1) rfl) ?_
      refine z_iconst (pc := 111) (v := 2) (zdg D_X12_aLine 63 (111, .iconst 2, 1) rfl) rfl ?_
      refine z_iadd (pc := 112) (zdg D_X12_aLine 64 (112, .iadd, 1) rfl) ?_
      refine z_aload_n (pc := 113) 0 (zdg D_X12_aLine 65 (113, .aload_n 0, 1) rfl) rfl rfl ?_
      refine z_getI (pc := 114) lf_X12_187 rfl rfl (zdg D_X12_aLine 66 (114, .getfield 187, 3) rfl) ?_
      refine z_iast (pc := 117) rfl (fun _ => rfl) (zdg D_X12_aLine 67 (117, .iastore, 1) rfl) hn hf (fun hf => ?_)
      refine z_nmS hf (fun s7 hf => ?_)
      refine z_aload_n (pc := 118) 0 (zdg D_X12_aLine 68 (118, .aload_n 0, 1) rfl) rfl rfl ?_
      refine z_sipush (pc := 119) (v := 159) (zdg D_X12_aLine 69 (119, .sipush 159, 3) rfl) rfl ?_
      refine z_bind hn hf (fun q8 hq hf => ?_)
      refine z_callV (pc := 122) (rest := []) (st2 := [zI q8.1]) (fun l => c_X12_need l (159 : Int32) s7 q8 hq) zv_X12_need lm_X12_215 rfl rfl rfl rfl rfl rfl (Nat.le_of_ble_eq_true rfl) ⟨Nat.le_of_ble_eq_true rfl, Nat.le_of_ble_eq_true rfl⟩ (zdg D_X12_aLine 70 (122, .invokevirtual 215, 3) rfl) ?_
      exact z_zret (pc := 125) rfl (zdg D_X12_aLine 71 (125, .ireturn, 1) rfl) hn hf (fun hf => (hP _ _ hf))
    refine z_aload_n (pc := 0) 0 (zdg D_X12_aLine 0 (0, .aload_n 0, 1) rfl) rfl rfl ?_
    refine z_getI (pc := 1) lf_X12_159 rfl rfl (zdg D_X12_aLine 1 (1, .getfield 159, 3) rfl) ?_
    refine z_bipush (pc := 4) (v := 7) (zdg D_X12_aLine 2 (4, .bipush 7, 2) rfl) rfl ?_
    refine z_icmp_eq (pc := 6) 15 (zdg D_X12_aLine 3 (6, .if_icmp .eq 9, 3) rfl) rfl hf (fun hf => ?_) (fun hf => ?_)
    · refine z_aload_n (pc := 15) 0 (zdg D_X12_aLine 8 (15, .aload_n 0, 1) rfl) rfl rfl ?_
      refine z_getI (pc := 16) lf_X12_221 rfl rfl (zdg D_X12_aLine 9 (16, .getfield 221, 3) rfl) ?_
      refine z_bipush (pc := 19) (v := 16) (zdg D_X12_aLine 10 (19, .bipush 16, 2) rfl) rfl ?_
      refine z_icmp_ne (pc := 21) 30 (zdg D_X12_aLine 11 (21, .if_icmp .ne 9, 3) rfl) rfl hf (fun hf => ?_) (fun hf => ?_)
      · refine z_aload_n (pc := 30) 0 (zdg D_X12_aLine 16 (30, .aload_n 0, 1) rfl) rfl rfl ?_
        refine z_iconst (pc := 31) (v := 0) (zdg D_X12_aLine 17 (31, .iconst 0, 1) rfl) rfl ?_
        refine z_putI (pc := 32) lw_X12_190 rfl rfl rfl rfl (zdg D_X12_aLine 18 (32, .putfield 190, 3) rfl) ?_
        refine z_nmS hf (fun s1 hf => ?_)
        refine z_aload_n (pc := 35) 0 (zdg D_X12_aLine 19 (35, .aload_n 0, 1) rfl) rfl rfl ?_
        refine z_bind hn hf (fun q2 hq hf => ?_)
        refine z_callV (pc := 36) (rest := []) (st2 := []) (fun l => c_X12_next0 l s1 q2 hq) zv_X12_next0 lm_X12_184 rfl rfl rfl rfl rfl rfl (Nat.le_of_ble_eq_true rfl) ⟨Nat.le_of_ble_eq_true rfl, Nat.le_of_ble_eq_true rfl⟩ (zdg D_X12_aLine 20 (36, .invokevirtual 184, 3) rfl) ?_
        refine z_aload_n (pc := 39) 0 (zdg D_X12_aLine 21 (39, .aload_n 0, 1) rfl) rfl rfl ?_
        refine z_getR (pc := 40) (g := 4) (j := 0) lf_X12_19 rfl rfl rfl (zdg D_X12_aLine 22 (40, .getfield 19, 3) rfl) ?_
        refine z_iconst (pc := 43) (v := 3) (zdg D_X12_aLine 23 (43, .iconst 3, 1) rfl) rfl ?_
        refine z_aload_n (pc := 44) 0 (zdg D_X12_aLine 24 (44, .aload_n 0, 1) rfl) rfl rfl ?_
        refine z_getI (pc := 45) lf_X12_221 rfl rfl (zdg D_X12_aLine 25 (45, .getfield 221, 3) rfl) ?_
        refine z_imul (pc := 48) (zdg D_X12_aLine 26 (48, .imul, 1) rfl) ?_
        refine z_aload_n (pc := 49) 0 (zdg D_X12_aLine 27 (49, .aload_n 0, 1) rfl) rfl rfl ?_
        refine z_getI (pc := 50) lf_X12_187 rfl rfl (zdg D_X12_aLine 28 (50, .getfield 187, 3) rfl) ?_
        refine z_iast (pc := 53) rfl (fun _ => rfl) (zdg D_X12_aLine 29 (53, .iastore, 1) rfl) hn hf (fun hf => ?_)
        refine z_nmS hf (fun s3 hf => ?_)
        refine z_aload_n (pc := 54) 0 (zdg D_X12_aLine 30 (54, .aload_n 0, 1) rfl) rfl rfl ?_
        refine z_bind hn hf (fun q4 hq hf => ?_)
        refine z_callV (pc := 55) (rest := []) (st2 := [zI q4.1]) (fun l => c_X12_sumUp l s3 q4 hq) zv_X12_sumUp lm_X12_218 rfl rfl rfl rfl rfl rfl (Nat.le_of_ble_eq_true rfl) ⟨Nat.le_of_ble_eq_true rfl, Nat.le_of_ble_eq_true rfl⟩ (zdg D_X12_aLine 31 (55, .invokevirtual 218, 3) rfl) ?_
        refine z_if_ne (pc := 58) 63 (zdg D_X12_aLine 32 (58, .ifCond .ne 5, 3) rfl) rfl hf (fun hf => ?_) (fun hf => ?_)
        · refine z_aload_n (pc := 63) 0 (zdg D_X12_aLine 35 (63, .aload_n 0, 1) rfl) rfl rfl ?_
          refine z_getR (pc := 64) (g := 4) (j := 0) lf_X12_19 rfl rfl rfl (zdg D_X12_aLine 36 (64, .getfield 19, 3) rfl) ?_
          refine z_iconst (pc := 67) (v := 3) (zdg D_X12_aLine 37 (67, .iconst 3, 1) rfl) rfl ?_
          refine z_aload_n (pc := 68) 0 (zdg D_X12_aLine 38 (68, .aload_n 0, 1) rfl) rfl rfl ?_
          refine z_getI (pc := 69) lf_X12_221 rfl rfl (zdg D_X12_aLine 39 (69, .getfield 221, 3) rfl) ?_
          refine z_imul (pc := 72) (zdg D_X12_aLine 40 (72, .imul, 1) rfl) ?_
          refine z_iconst (pc := 73) (v := 1) (zdg D_X12_aLine 41 (73, .iconst 1, 1) rfl) rfl ?_
          refine z_iadd (pc := 74) (zdg D_X12_aLine 42 (74, .iadd, 1) rfl) ?_
          refine z_aload_n (pc := 75) 0 (zdg D_X12_aLine 43 (75, .aload_n 0, 1) rfl) rfl rfl ?_
          refine z_getI (pc := 76) lf_X12_187 rfl rfl (zdg D_X12_aLine 44 (76, .getfield 187, 3) rfl) ?_
          refine z_iast (pc := 79) rfl (fun _ => rfl) (zdg D_X12_aLine 45 (79, .iastore, 1) rfl) hn hf (fun hf => ?_)
          refine z_nmS hf (fun s5 hf => ?_)
          refine z_aload_n (pc := 80) 0 (zdg D_X12_aLine 46 (80, .aload_n 0, 1) rfl) rfl rfl ?_
          refine z_getI (pc := 81) lf_X12_159 rfl rfl (zdg D_X12_aLine 47 (81, .getfield 159, 3) rfl) ?_
          refine z_iconst (pc := 84) (v := 3) (zdg D_X12_aLine 48 (84, .iconst 3, 1) rfl) rfl ?_
          refine z_icmp_ne (pc := 85) 101 (zdg D_X12_aLine 49 (85, .if_icmp .ne 16, 3) rfl) rfl hf (fun hf => ?_) (fun hf => ?_)
          · exact t_101 s5 hf
          · refine z_aload_n (pc := 88) 0 (zdg D_X12_aLine 50 (88, .aload_n 0, 1) rfl) rfl rfl ?_
            refine z_bind hn hf (fun q9 hq hf => ?_)
            refine z_callV (pc := 89) (rest := []) (st2 := []) (fun l => c_X12_next0 l s5 q9 hq) zv_X12_next0 lm_X12_184 rfl rfl rfl rfl rfl rfl (Nat.le_of_ble_eq_true rfl) ⟨Nat.le_of_ble_eq_true rfl, Nat.le_of_ble_eq_true rfl⟩ (zdg D_X12_aLine 51 (89, .invokevirtual 184, 3) rfl) ?_
            refine z_aload_n (pc := 92) 0 (zdg D_X12_aLine 52 (92, .aload_n 0, 1) rfl) rfl rfl ?_
            refine z_bind hn hf (fun q10 hq hf => ?_)
            refine z_callV (pc := 93) (rest := []) (st2 := [zI q10.1]) (fun l => cg_X12_any l q9 q10 hq) (zv_X12_any _) lm_X12_212 rfl rfl rfl rfl rfl rfl (Nat.le_of_ble_eq_true rfl) ⟨Nat.le_of_ble_eq_true rfl, Nat.le_of_ble_eq_true rfl⟩ (zdg D_X12_aLine 53 (93, .invokevirtual 212, 3) rfl) ?_
            refine z_if_ne (pc := 96) 101 (zdg D_X12_aLine 54 (96, .ifCond .ne 5, 3) rfl) rfl hf (fun hf => ?_) (fun hf => ?_)
            · exact t_101 q10.2 hf
            · refine z_iconst (pc := 99) (v := 0) (zdg D_X12_aLine 55 (99, .iconst 0, 1) rfl) rfl ?_
              exact z_iret (pc := 100) rfl rfl (zdg D_X12_aLine 56 (100, .ireturn, 1) rfl) (hP _ _ hf)
        · refine z_iconst (pc := 61) (v := 0) (zdg D_X12_aLine 33 (61, .iconst 0, 1) rfl) rfl ?_
          exact z_iret (pc := 62) rfl rfl (zdg D_X12_aLine 34 (62, .ireturn, 1) rfl) (hP _ _ hf)
      · refine z_aload_n (pc := 24) 0 (zdg D_X12_aLine 12 (24, .aload_n 0, 1) rfl) rfl rfl ?_
        refine z_iconst (pc := 25) (v := 3) (zdg D_X12_aLine 13 (25, .iconst 3, 1) rfl) rfl ?_
        refine z_callV (pc := 26) (rest := []) (st2 := [zI ((f_X12_bad (3 : Int32) σ).1)]) (fun l => c_X12_bad l (3 : Int32) σ) zv_X12_bad lm_X12_181 rfl rfl rfl rfl rfl rfl (Nat.le_of_ble_eq_true rfl) ⟨Nat.le_of_ble_eq_true rfl, Nat.le_of_ble_eq_true rfl⟩ (zdg D_X12_aLine 14 (26, .invokevirtual 181, 3) rfl) ?_
        refine z_nmWI hf (fun q11 hf => ?_)
        exact z_zret (pc := 29) rfl (zdg D_X12_aLine 15 (29, .ireturn, 1) rfl) hn hf (fun hf => (hP _ _ hf))
    · refine z_aload_n (pc := 9) 0 (zdg D_X12_aLine 4 (9, .aload_n 0, 1) rfl) rfl rfl ?_
      refine z_iconst (pc := 10) (v := 1) (zdg D_X12_aLine 5 (10, .iconst 1, 1) rfl) rfl ?_
      refine z_callV (pc := 11) (rest := []) (st2 := [zI ((f_X12_bad (1 : Int32) σ).1)]) (fun l => c_X12_bad l (1 : Int32) σ) zv_X12_bad lm_X12_181 rfl rfl rfl rfl rfl rfl (Nat.le_of_ble_eq_true rfl) ⟨Nat.le_of_ble_eq_true rfl, Nat.le_of_ble_eq_true rfl⟩ (zdg D_X12_aLine 6 (11, .invokevirtual 181, 3) rfl) ?_
      refine z_nmWI hf (fun q12 hf => ?_)
      exact z_zret (pc := 14) rfl (zdg D_X12_aLine 7 (14, .ireturn, 1) rfl) hn hf (fun hf => (hP _ _ hf))

def L_X12_readsLaw : List (Nat × Instr × Nat) := [(0, .aload_n 0, 1), (1, .iconst 0, 1), (2, .putfield 221, 3), (5, .aload_n 0, 1), (6, .iconst 0, 1), (7, .putfield 187, 3), (10, .iconst 1, 1), (11, .istore_n 1, 1), (12, .iload_n 1, 1), (13, .ifCond .eq 36, 3), (16, .aload_n 0, 1), (17, .getfield 159, 3), (20, .ifCond .eq 29, 3), (23, .aload_n 0, 1), (24, .invokevirtual 224, 3), (27, .istore_n 1, 1), (28, .aload_n 0, 1), (29, .dup, 1), (30, .getfield 221, 3), (33, .iload_n 1, 1), (34, .ifCond .eq 7, 3), (37, .iconst 1, 1), (38, .goto 4, 3), (41, .iconst 0, 1), (42, .iadd, 1), (43, .putfield 221, 3), (46, .goto (-34), 3), (49, .iload_n 1, 1), (50, .ireturn, 1)]
set_option maxRecDepth 100000 in
theorem D_X12_readsLaw : zdecs cX12_readsLaw L_X12_readsLaw = true := by decide +kernel
noncomputable def b_X12_readsLaw_12  (v1_3 : Int32) (s4 : zG) : Option ((Int32 × zG) ⊕ (Int32 × zG)) :=
  if v1_3 = 0 then some (Sum.inr (v1_3, s4)) else if (s4.1 0 0 18) = 0 then some (Sum.inr (v1_3, s4)) else (f_X12_aLine s4).bind (fun q5 => if q5.1 = 0 then zb (zwI q5.2 0 0 13 ((q5.2.1 0 0 13) + (0 : Int32))) (fun s6 => some (Sum.inl (q5.1, s6))) else zb (zwI q5.2 0 0 13 ((q5.2.1 0 0 13) + (1 : Int32))) (fun s7 => some (Sum.inl (q5.1, s7))))
noncomputable def f_X12_readsLaw (σ : zG) : Option (Int32 × zG) :=
  zb (zwI σ 0 0 13 (0 : Int32)) (fun s1 => zb (zwI s1 0 0 14 (0 : Int32)) (fun s2 => (zlp (fun q : Int32 × zG => b_X12_readsLaw_12 q.1 q.2) ((1 : Int32), s2)).bind (fun e8 : Int32 × zG => zg (zbl e8.1) (some (e8.1, e8.2)))))
set_option maxRecDepth 100000 in
set_option maxHeartbeats 4000000 in
theorem c_X12_readsLaw (l : Launch)  (σ : zG) (q : Int32 × zG) (hq : f_X12_readsLaw σ = some q) : zMet l zsyM m_X12_readsLaw yX12_readsLaw [zR 0 0] σ (some (zI q.1)) q.2 := by
  refine zEnter [(0, zR 0 0)] (by decide) rfl (fun _ => Nat.le_of_ble_eq_true rfl) (fun _ => rfl) (fun w h => ?_) (fun K hv hs => ?_)
  · exact zokm rfl h
  · have hP : ∀ x s, f_X12_readsLaw σ = some (x, s) → zKv K = some (zI x) ∧ zKs K = s := fun x s h => by rw [hq] at h; cases h; exact ⟨hv, hs⟩
    have hn : f_X12_readsLaw σ ≠ none := fun z => by rw [hq] at z; cases z
    have hf := f_X12_readsLaw.eq_1 σ
    refine z_aload_n (pc := 0) 0 (zdg D_X12_readsLaw 0 (0, .aload_n 0, 1) rfl) rfl rfl ?_
    refine z_iconst (pc := 1) (v := 0) (zdg D_X12_readsLaw 1 (1, .iconst 0, 1) rfl) rfl ?_
    refine z_putI (pc := 2) lw_X12_221 rfl rfl rfl rfl (zdg D_X12_readsLaw 2 (2, .putfield 221, 3) rfl) ?_
    refine z_nmS hf (fun s1 hf => ?_)
    refine z_aload_n (pc := 5) 0 (zdg D_X12_readsLaw 3 (5, .aload_n 0, 1) rfl) rfl rfl ?_
    refine z_iconst (pc := 6) (v := 0) (zdg D_X12_readsLaw 4 (6, .iconst 0, 1) rfl) rfl ?_
    refine z_putI (pc := 7) lw_X12_187 rfl rfl rfl rfl (zdg D_X12_readsLaw 5 (7, .putfield 187, 3) rfl) ?_
    refine z_nmS hf (fun s2 hf => ?_)
    refine z_iconst (pc := 10) (v := 1) (zdg D_X12_readsLaw 6 (10, .iconst 1, 1) rfl) rfl ?_
    refine z_istore_n (pc := 11) (al' := [(1, zI (1 : Int32)), (0, zR 0 0)]) (zdg D_X12_readsLaw 7 (11, .istore_n 1, 1) rfl) rfl (by decide) rfl ?_
    refine z_sub (al' := [(0, zR 0 0), (1, zI (1 : Int32))]) [1, 0] rfl ?_
    refine z_loop (f := (fun q : Int32 × zG => b_X12_readsLaw_12 q.1 q.2)) (a := ((1 : Int32), s2)) (fun q : Int32 × zG => zX zsyM m_X12_readsLaw K 12 [(0, zR 0 0), (1, zI q.1)] [] q.2) (fun e8 : Int32 × zG => zX zsyM m_X12_readsLaw K 49 [(1, zI e8.1)] [] e8.2) hn hf ?_ ?_
    · intro e8 hf
      refine z_iload_n (pc := 49) 0 (zdg D_X12_readsLaw 27 (49, .iload_n 1, 1) rfl) rfl rfl ?_
      exact z_zret (pc := 50) rfl (zdg D_X12_readsLaw 28 (50, .ireturn, 1) rfl) hn hf (fun hf => (hP _ _ hf))
    · rintro ⟨v1_3, s4⟩ hn hi hx
      have hf := b_X12_readsLaw_12.eq_1  v1_3 s4
      refine z_iload_n (pc := 12) 1 (zdg D_X12_readsLaw 8 (12, .iload_n 1, 1) rfl) rfl rfl ?_
      refine z_if_eq (pc := 13) 49 (zdg D_X12_readsLaw 9 (13, .ifCond .eq 36, 3) rfl) rfl hf (fun hf => ?_) (fun hf => ?_)
      · refine z_sub (al' := [(1, zI v1_3)]) [1] rfl ?_
        exact hx (v1_3, s4) hf
      · refine z_aload_n (pc := 16) 0 (zdg D_X12_readsLaw 10 (16, .aload_n 0, 1) rfl) rfl rfl ?_
        refine z_getI (pc := 17) lf_X12_159 rfl rfl (zdg D_X12_readsLaw 11 (17, .getfield 159, 3) rfl) ?_
        refine z_if_eq (pc := 20) 49 (zdg D_X12_readsLaw 12 (20, .ifCond .eq 29, 3) rfl) rfl hf (fun hf => ?_) (fun hf => ?_)
        · refine z_sub (al' := [(1, zI v1_3)]) [1] rfl ?_
          exact hx (v1_3, s4) hf
        · refine z_aload_n (pc := 23) 0 (zdg D_X12_readsLaw 13 (23, .aload_n 0, 1) rfl) rfl rfl ?_
          refine z_bind hn hf (fun q5 hq hf => ?_)
          refine z_callV (pc := 24) (rest := []) (st2 := [zI q5.1]) (fun l => c_X12_aLine l s4 q5 hq) zv_X12_aLine lm_X12_224 rfl rfl rfl rfl rfl rfl (Nat.le_of_ble_eq_true rfl) ⟨Nat.le_of_ble_eq_true rfl, Nat.le_of_ble_eq_true rfl⟩ (zdg D_X12_readsLaw 14 (24, .invokevirtual 224, 3) rfl) ?_
          refine z_istore_n (pc := 27) (al' := [(1, zI q5.1), (0, zR 0 0)]) (zdg D_X12_readsLaw 15 (27, .istore_n 1, 1) rfl) rfl (by decide) rfl ?_
          refine z_aload_n (pc := 28) 1 (zdg D_X12_readsLaw 16 (28, .aload_n 0, 1) rfl) rfl rfl ?_
          refine z_dup (pc := 29) rfl (zdg D_X12_readsLaw 17 (29, .dup, 1) rfl) ?_
          refine z_getI (pc := 30) lf_X12_221 rfl rfl (zdg D_X12_readsLaw 18 (30, .getfield 221, 3) rfl) ?_
          refine z_iload_n (pc := 33) 0 (zdg D_X12_readsLaw 19 (33, .iload_n 1, 1) rfl) rfl rfl ?_
          refine z_if_eq (pc := 34) 41 (zdg D_X12_readsLaw 20 (34, .ifCond .eq 7, 3) rfl) rfl hf (fun hf => ?_) (fun hf => ?_)
          · refine z_iconst (pc := 41) (v := 0) (zdg D_X12_readsLaw 23 (41, .iconst 0, 1) rfl) rfl ?_
            refine z_iadd (pc := 42) (zdg D_X12_readsLaw 24 (42, .iadd, 1) rfl) ?_
            refine z_putI (pc := 43) lw_X12_221 rfl rfl rfl rfl (zdg D_X12_readsLaw 25 (43, .putfield 221, 3) rfl) ?_
            refine z_nmS hf (fun s6 hf => ?_)
            refine z_goto (pc := 46) 12 (zdg D_X12_readsLaw 26 (46, .goto (-34), 3) rfl) rfl ?_
            refine z_sub (al' := [(0, zR 0 0), (1, zI q5.1)]) [1, 0] rfl ?_
            exact hi (q5.1, s6) hf
          · refine z_iconst (pc := 37) (v := 1) (zdg D_X12_readsLaw 21 (37, .iconst 1, 1) rfl) rfl ?_
            refine z_goto (pc := 38) 42 (zdg D_X12_readsLaw 22 (38, .goto 4, 3) rfl) rfl ?_
            refine z_iadd (pc := 42) (zdg D_X12_readsLaw 24 (42, .iadd, 1) rfl) ?_
            refine z_putI (pc := 43) lw_X12_221 rfl rfl rfl rfl (zdg D_X12_readsLaw 25 (43, .putfield 221, 3) rfl) ?_
            refine z_nmS hf (fun s7 hf => ?_)
            refine z_goto (pc := 46) 12 (zdg D_X12_readsLaw 26 (46, .goto (-34), 3) rfl) rfl ?_
            refine z_sub (al' := [(0, zR 0 0), (1, zI q5.1)]) [1, 0] rfl ?_
            exact hi (q5.1, s7) hf

def L_X12_number : List (Nat × Instr × Nat) := [(0, .aload_n 0, 1), (1, .getfield 159, 3), (4, .iconst 2, 1), (5, .if_icmp .eq 9, 3), (8, .aload_n 0, 1), (9, .iconst 1, 1), (10, .invokevirtual 181, 3), (13, .ireturn, 1), (14, .aload_n 0, 1), (15, .getfield 172, 3), (18, .iload_n 1, 1), (19, .iload_n 2, 1), (20, .invokestatic 64, 3), (23, .ifCond .ne 9, 3), (26, .aload_n 0, 1), (27, .iconst 2, 1), (28, .invokevirtual 181, 3), (31, .ireturn, 1), (32, .aload_n 0, 1), (33, .aload_n 0, 1), (34, .getfield 172, 3), (37, .putfield 227, 3), (40, .aload_n 0, 1), (41, .invokevirtual 184, 3), (44, .iconst 1, 1), (45, .ireturn, 1)]
set_option maxRecDepth 100000 in
theorem D_X12_number : zdecs cX12_number L_X12_number = true := by decide +kernel
noncomputable def f_X12_number (p1 : Int32) (p2 : Int32) (σ : zG) : Option (Int32 × zG) :=
  if (σ.1 0 0 18) = (2 : Int32) then if (f_X12_isIn (σ.1 0 0 20) p1 p2) = 0 then zb (f_X12_bad (2 : Int32) σ) (fun q3 => zg (zbl q3.1) (some (q3.1, q3.2))) else zb (zwI σ 0 0 26 (σ.1 0 0 20)) (fun s1 => (f_X12_next0 s1).bind (fun q2 => some ((1 : Int32), q2))) else zb (f_X12_bad (1 : Int32) σ) (fun q4 => zg (zbl q4.1) (some (q4.1, q4.2)))
set_option maxRecDepth 100000 in
set_option maxHeartbeats 4000000 in
theorem c_X12_number (l : Launch) (p1 : Int32) (p2 : Int32) (σ : zG) (q : Int32 × zG) (hq : f_X12_number p1 p2 σ = some q) : zMet l zsyM m_X12_number yX12_number [zR 0 0, zI p1, zI p2] σ (some (zI q.1)) q.2 := by
  refine zEnter [(0, zR 0 0), (1, zI p1), (2, zI p2)] (by decide) rfl (fun _ => Nat.le_of_ble_eq_true rfl) (fun _ => rfl) (fun w h => ?_) (fun K hv hs => ?_)
  · exact zokm rfl h
  · have hP : ∀ x s, f_X12_number p1 p2 σ = some (x, s) → zKv K = some (zI x) ∧ zKs K = s := fun x s h => by rw [hq] at h; cases h; exact ⟨hv, hs⟩
    have hn : f_X12_number p1 p2 σ ≠ none := fun z => by rw [hq] at z; cases z
    have hf := f_X12_number.eq_1 p1 p2 σ
    refine z_aload_n (pc := 0) 0 (zdg D_X12_number 0 (0, .aload_n 0, 1) rfl) rfl rfl ?_
    refine z_getI (pc := 1) lf_X12_159 rfl rfl (zdg D_X12_number 1 (1, .getfield 159, 3) rfl) ?_
    refine z_iconst (pc := 4) (v := 2) (zdg D_X12_number 2 (4, .iconst 2, 1) rfl) rfl ?_
    refine z_icmp_eq (pc := 5) 14 (zdg D_X12_number 3 (5, .if_icmp .eq 9, 3) rfl) rfl hf (fun hf => ?_) (fun hf => ?_)
    · refine z_aload_n (pc := 14) 0 (zdg D_X12_number 8 (14, .aload_n 0, 1) rfl) rfl rfl ?_
      refine z_getI (pc := 15) lf_X12_172 rfl rfl (zdg D_X12_number 9 (15, .getfield 172, 3) rfl) ?_
      refine z_iload_n (pc := 18) 1 (zdg D_X12_number 10 (18, .iload_n 1, 1) rfl) rfl rfl ?_
      refine z_iload_n (pc := 19) 2 (zdg D_X12_number 11 (19, .iload_n 2, 1) rfl) rfl rfl ?_
      refine z_callS (pc := 20) (rest := []) (st2 := [zI (f_X12_isIn (σ.1 0 0 20) p1 p2)]) (fun l => c_X12_isIn l (σ.1 0 0 20) p1 p2 σ) zs_X12_isIn lm_X12_64 rfl rfl rfl (Nat.le_of_ble_eq_true rfl) ⟨Nat.le_of_ble_eq_true rfl, Nat.le_of_ble_eq_true rfl⟩ (zdg D_X12_number 12 (20, .invokestatic 64, 3) rfl) ?_
      refine z_if_ne (pc := 23) 32 (zdg D_X12_number 13 (23, .ifCond .ne 9, 3) rfl) rfl hf (fun hf => ?_) (fun hf => ?_)
      · refine z_aload_n (pc := 32) 0 (zdg D_X12_number 18 (32, .aload_n 0, 1) rfl) rfl rfl ?_
        refine z_aload_n (pc := 33) 0 (zdg D_X12_number 19 (33, .aload_n 0, 1) rfl) rfl rfl ?_
        refine z_getI (pc := 34) lf_X12_172 rfl rfl (zdg D_X12_number 20 (34, .getfield 172, 3) rfl) ?_
        refine z_putI (pc := 37) lw_X12_227 rfl rfl rfl rfl (zdg D_X12_number 21 (37, .putfield 227, 3) rfl) ?_
        refine z_nmS hf (fun s1 hf => ?_)
        refine z_aload_n (pc := 40) 0 (zdg D_X12_number 22 (40, .aload_n 0, 1) rfl) rfl rfl ?_
        refine z_bind hn hf (fun q2 hq hf => ?_)
        refine z_callV (pc := 41) (rest := []) (st2 := []) (fun l => c_X12_next0 l s1 q2 hq) zv_X12_next0 lm_X12_184 rfl rfl rfl rfl rfl rfl (Nat.le_of_ble_eq_true rfl) ⟨Nat.le_of_ble_eq_true rfl, Nat.le_of_ble_eq_true rfl⟩ (zdg D_X12_number 23 (41, .invokevirtual 184, 3) rfl) ?_
        refine z_iconst (pc := 44) (v := 1) (zdg D_X12_number 24 (44, .iconst 1, 1) rfl) rfl ?_
        exact z_iret (pc := 45) rfl rfl (zdg D_X12_number 25 (45, .ireturn, 1) rfl) (hP _ _ hf)
      · refine z_aload_n (pc := 26) 0 (zdg D_X12_number 14 (26, .aload_n 0, 1) rfl) rfl rfl ?_
        refine z_iconst (pc := 27) (v := 2) (zdg D_X12_number 15 (27, .iconst 2, 1) rfl) rfl ?_
        refine z_callV (pc := 28) (rest := []) (st2 := [zI ((f_X12_bad (2 : Int32) σ).1)]) (fun l => c_X12_bad l (2 : Int32) σ) zv_X12_bad lm_X12_181 rfl rfl rfl rfl rfl rfl (Nat.le_of_ble_eq_true rfl) ⟨Nat.le_of_ble_eq_true rfl, Nat.le_of_ble_eq_true rfl⟩ (zdg D_X12_number 16 (28, .invokevirtual 181, 3) rfl) ?_
        refine z_nmWI hf (fun q3 hf => ?_)
        exact z_zret (pc := 31) rfl (zdg D_X12_number 17 (31, .ireturn, 1) rfl) hn hf (fun hf => (hP _ _ hf))
    · refine z_aload_n (pc := 8) 0 (zdg D_X12_number 4 (8, .aload_n 0, 1) rfl) rfl rfl ?_
      refine z_iconst (pc := 9) (v := 1) (zdg D_X12_number 5 (9, .iconst 1, 1) rfl) rfl ?_
      refine z_callV (pc := 10) (rest := []) (st2 := [zI ((f_X12_bad (1 : Int32) σ).1)]) (fun l => c_X12_bad l (1 : Int32) σ) zv_X12_bad lm_X12_181 rfl rfl rfl rfl rfl rfl (Nat.le_of_ble_eq_true rfl) ⟨Nat.le_of_ble_eq_true rfl, Nat.le_of_ble_eq_true rfl⟩ (zdg D_X12_number 6 (10, .invokevirtual 181, 3) rfl) ?_
      refine z_nmWI hf (fun q4 hf => ?_)
      exact z_zret (pc := 13) rfl (zdg D_X12_number 7 (13, .ireturn, 1) rfl) hn hf (fun hf => (hP _ _ hf))

def L_X12_told : List (Nat × Instr × Nat) := [(0, .aload_n 0, 1), (1, .iload_n 2, 1), (2, .invokevirtual 215, 3), (5, .ifCond .eq 12, 3), (8, .aload_n 0, 1), (9, .iconst 0, 1), (10, .iload_n 3, 1), (11, .invokevirtual 230, 3), (14, .ifCond .ne 5, 3), (17, .iconst 0, 1), (18, .ireturn, 1), (19, .aload_n 0, 1), (20, .getfield 25, 3), (23, .iconst 4, 1), (24, .aload_n 0, 1), (25, .getfield 233, 3), (28, .imul, 1), (29, .iload_n 1, 1), (30, .iadd, 1), (31, .aload_n 0, 1), (32, .getfield 227, 3), (35, .iastore, 1), (36, .iconst 1, 1), (37, .ireturn, 1)]
set_option maxRecDepth 100000 in
theorem D_X12_told : zdecs cX12_told L_X12_told = true := by decide +kernel
noncomputable def f_X12_told (p1 : Int32) (p2 : Int32) (p3 : Int32) (σ : zG) : Option (Int32 × zG) :=
  (f_X12_need p2 σ).bind (fun q1 => if q1.1 = 0 then some ((0 : Int32), q1.2) else (f_X12_number (0 : Int32) p3 q1.2).bind (fun q2 => if q2.1 = 0 then some ((0 : Int32), q2.2) else zg (zin (((4 : Int32) * (q2.2.1 0 0 15)) + p1) 48) (zb (zwI q2.2 6 0 (((4 : Int32) * (q2.2.1 0 0 15)) + p1).toNatClampNeg (q2.2.1 0 0 26)) (fun s3 => some ((1 : Int32), s3)))))
set_option maxRecDepth 100000 in
set_option maxHeartbeats 4000000 in
theorem c_X12_told (l : Launch) (p1 : Int32) (p2 : Int32) (p3 : Int32) (σ : zG) (q : Int32 × zG) (hq : f_X12_told p1 p2 p3 σ = some q) : zMet l zsyM m_X12_told yX12_told [zR 0 0, zI p1, zI p2, zI p3] σ (some (zI q.1)) q.2 := by
  refine zEnter [(0, zR 0 0), (1, zI p1), (2, zI p2), (3, zI p3)] (by decide) rfl (fun _ => Nat.le_of_ble_eq_true rfl) (fun _ => rfl) (fun w h => ?_) (fun K hv hs => ?_)
  · exact zokm rfl h
  · have hP : ∀ x s, f_X12_told p1 p2 p3 σ = some (x, s) → zKv K = some (zI x) ∧ zKs K = s := fun x s h => by rw [hq] at h; cases h; exact ⟨hv, hs⟩
    have hn : f_X12_told p1 p2 p3 σ ≠ none := fun z => by rw [hq] at z; cases z
    have hf := f_X12_told.eq_1 p1 p2 p3 σ
    refine z_aload_n (pc := 0) 0 (zdg D_X12_told 0 (0, .aload_n 0, 1) rfl) rfl rfl ?_
    refine z_iload_n (pc := 1) 2 (zdg D_X12_told 1 (1, .iload_n 2, 1) rfl) rfl rfl ?_
    refine z_bind hn hf (fun q1 hq hf => ?_)
    refine z_callV (pc := 2) (rest := []) (st2 := [zI q1.1]) (fun l => c_X12_need l p2 σ q1 hq) zv_X12_need lm_X12_215 rfl rfl rfl rfl rfl rfl (Nat.le_of_ble_eq_true rfl) ⟨Nat.le_of_ble_eq_true rfl, Nat.le_of_ble_eq_true rfl⟩ (zdg D_X12_told 2 (2, .invokevirtual 215, 3) rfl) ?_
    refine z_if_eq (pc := 5) 17 (zdg D_X12_told 3 (5, .ifCond .eq 12, 3) rfl) rfl hf (fun hf => ?_) (fun hf => ?_)
    · refine z_iconst (pc := 17) (v := 0) (zdg D_X12_told 9 (17, .iconst 0, 1) rfl) rfl ?_
      exact z_iret (pc := 18) rfl rfl (zdg D_X12_told 10 (18, .ireturn, 1) rfl) (hP _ _ hf)
    · refine z_aload_n (pc := 8) 0 (zdg D_X12_told 4 (8, .aload_n 0, 1) rfl) rfl rfl ?_
      refine z_iconst (pc := 9) (v := 0) (zdg D_X12_told 5 (9, .iconst 0, 1) rfl) rfl ?_
      refine z_iload_n (pc := 10) 3 (zdg D_X12_told 6 (10, .iload_n 3, 1) rfl) rfl rfl ?_
      refine z_bind hn hf (fun q2 hq hf => ?_)
      refine z_callV (pc := 11) (rest := []) (st2 := [zI q2.1]) (fun l => c_X12_number l (0 : Int32) p3 q1.2 q2 hq) zv_X12_number lm_X12_230 rfl rfl rfl rfl rfl rfl (Nat.le_of_ble_eq_true rfl) ⟨Nat.le_of_ble_eq_true rfl, Nat.le_of_ble_eq_true rfl⟩ (zdg D_X12_told 7 (11, .invokevirtual 230, 3) rfl) ?_
      refine z_if_ne (pc := 14) 19 (zdg D_X12_told 8 (14, .ifCond .ne 5, 3) rfl) rfl hf (fun hf => ?_) (fun hf => ?_)
      · refine z_aload_n (pc := 19) 0 (zdg D_X12_told 11 (19, .aload_n 0, 1) rfl) rfl rfl ?_
        refine z_getR (pc := 20) (g := 6) (j := 0) lf_X12_25 rfl rfl rfl (zdg D_X12_told 12 (20, .getfield 25, 3) rfl) ?_
        refine z_iconst (pc := 23) (v := 4) (zdg D_X12_told 13 (23, .iconst 4, 1) rfl) rfl ?_
        refine z_aload_n (pc := 24) 0 (zdg D_X12_told 14 (24, .aload_n 0, 1) rfl) rfl rfl ?_
        refine z_getI (pc := 25) lf_X12_233 rfl rfl (zdg D_X12_told 15 (25, .getfield 233, 3) rfl) ?_
        refine z_imul (pc := 28) (zdg D_X12_told 16 (28, .imul, 1) rfl) ?_
        refine z_iload_n (pc := 29) 1 (zdg D_X12_told 17 (29, .iload_n 1, 1) rfl) rfl rfl ?_
        refine z_iadd (pc := 30) (zdg D_X12_told 18 (30, .iadd, 1) rfl) ?_
        refine z_aload_n (pc := 31) 0 (zdg D_X12_told 19 (31, .aload_n 0, 1) rfl) rfl rfl ?_
        refine z_getI (pc := 32) lf_X12_227 rfl rfl (zdg D_X12_told 20 (32, .getfield 227, 3) rfl) ?_
        refine z_iast (pc := 35) rfl (fun _ => rfl) (zdg D_X12_told 21 (35, .iastore, 1) rfl) hn hf (fun hf => ?_)
        refine z_nmS hf (fun s3 hf => ?_)
        refine z_iconst (pc := 36) (v := 1) (zdg D_X12_told 22 (36, .iconst 1, 1) rfl) rfl ?_
        exact z_iret (pc := 37) rfl rfl (zdg D_X12_told 23 (37, .ireturn, 1) rfl) (hP _ _ hf)
      · refine z_iconst (pc := 17) (v := 0) (zdg D_X12_told 9 (17, .iconst 0, 1) rfl) rfl ?_
        exact z_iret (pc := 18) rfl rfl (zdg D_X12_told 10 (18, .ireturn, 1) rfl) (hP _ _ hf)

def L_X12_spotTold : List (Nat × Instr × Nat) := [(0, .aload_n 0, 1), (1, .bipush 10, 2), (3, .invokevirtual 215, 3), (6, .ifCond .ne 5, 3), (9, .iconst 0, 1), (10, .ireturn, 1), (11, .aload_n 0, 1), (12, .getfield 159, 3), (15, .iconst 2, 1), (16, .if_icmp .ne 20, 3), (19, .aload_n 0, 1), (20, .aload_n 0, 1), (21, .getfield 172, 3), (24, .invokevirtual 236, 3), (27, .ifCond .ne 9, 3), (30, .aload_n 0, 1), (31, .iconst 2, 1), (32, .invokevirtual 181, 3), (35, .ireturn, 1), (36, .aload_n 0, 1), (37, .iconst 0, 1), (38, .bipush 63, 2), (40, .invokevirtual 230, 3), (43, .ifCond .ne 5, 3), (46, .iconst 0, 1), (47, .ireturn, 1), (48, .aload_n 0, 1), (49, .getfield 25, 3), (52, .iconst 4, 1), (53, .aload_n 0, 1), (54, .getfield 233, 3), (57, .imul, 1), (58, .iconst 2, 1), (59, .iadd, 1), (60, .aload_n 0, 1), (61, .getfield 227, 3), (64, .iastore, 1), (65, .iconst 1, 1), (66, .ireturn, 1)]
set_option maxRecDepth 100000 in
theorem D_X12_spotTold : zdecs cX12_spotTold L_X12_spotTold = true := by decide +kernel
noncomputable def j_X12_spotTold_36 (s2 : zG) : Option (Int32 × zG) :=
  (f_X12_number (0 : Int32) (63 : Int32) s2).bind (fun q3 => if q3.1 = 0 then some ((0 : Int32), q3.2) else zg (zin (((4 : Int32) * (q3.2.1 0 0 15)) + (2 : Int32)) 48) (zb (zwI q3.2 6 0 (((4 : Int32) * (q3.2.1 0 0 15)) + (2 : Int32)).toNatClampNeg (q3.2.1 0 0 26)) (fun s4 => some ((1 : Int32), s4))))
noncomputable def f_X12_spotTold (σ : zG) : Option (Int32 × zG) :=
  (f_X12_need (10 : Int32) σ).bind (fun q1 => if q1.1 = 0 then some ((0 : Int32), q1.2) else if (q1.2.1 0 0 18) = (2 : Int32) then (f_X12_isSpot (q1.2.1 0 0 20) q1.2).bind (fun q5 => if q5 = 0 then zb (f_X12_bad (2 : Int32) q1.2) (fun q6 => zg (zbl q6.1) (some (q6.1, q6.2))) else j_X12_spotTold_36 q1.2) else j_X12_spotTold_36 q1.2)
set_option maxRecDepth 100000 in
set_option maxHeartbeats 4000000 in
theorem c_X12_spotTold (l : Launch)  (σ : zG) (q : Int32 × zG) (hq : f_X12_spotTold σ = some q) : zMet l zsyM m_X12_spotTold yX12_spotTold [zR 0 0] σ (some (zI q.1)) q.2 := by
  refine zEnter [(0, zR 0 0)] (by decide) rfl (fun _ => Nat.le_of_ble_eq_true rfl) (fun _ => rfl) (fun w h => ?_) (fun K hv hs => ?_)
  · exact zokm rfl h
  · have hP : ∀ x s, f_X12_spotTold σ = some (x, s) → zKv K = some (zI x) ∧ zKs K = s := fun x s h => by rw [hq] at h; cases h; exact ⟨hv, hs⟩
    have hn : f_X12_spotTold σ ≠ none := fun z => by rw [hq] at z; cases z
    have hf := f_X12_spotTold.eq_1 σ
    have t_36 : ∀ (s2 : zG), f_X12_spotTold σ = j_X12_spotTold_36 s2 → zX zsyM m_X12_spotTold K 36 [(0, zR 0 0)] [] s2 := by
      intro s2 hf
      replace hf := hf.trans (j_X12_spotTold_36.eq_1 s2)
      refine z_aload_n (pc := 36) 0 (zdg D_X12_spotTold 19 (36, .aload_n 0, 1) rfl) rfl rfl ?_
      refine z_iconst (pc := 37) (v := 0) (zdg D_X12_spotTold 20 (37, .iconst 0, 1) rfl) rfl ?_
      refine z_bipush (pc := 38) (v := 63) (zdg D_X12_spotTold 21 (38, .bipush 63, 2) rfl) rfl ?_
      refine z_bind hn hf (fun q3 hq hf => ?_)
      refine z_callV (pc := 40) (rest := []) (st2 := [zI q3.1]) (fun l => c_X12_number l (0 : Int32) (63 : Int32) s2 q3 hq) zv_X12_number lm_X12_230 rfl rfl rfl rfl rfl rfl (Nat.le_of_ble_eq_true rfl) ⟨Nat.le_of_ble_eq_true rfl, Nat.le_of_ble_eq_true rfl⟩ (zdg D_X12_spotTold 22 (40, .invokevirtual 230, 3) rfl) ?_
      refine z_if_ne (pc := 43) 48 (zdg D_X12_spotTold 23 (43, .ifCond .ne 5, 3) rfl) rfl hf (fun hf => ?_) (fun hf => ?_)
      · refine z_aload_n (pc := 48) 0 (zdg D_X12_spotTold 26 (48, .aload_n 0, 1) rfl) rfl rfl ?_
        refine z_getR (pc := 49) (g := 6) (j := 0) lf_X12_25 rfl rfl rfl (zdg D_X12_spotTold 27 (49, .getfield 25, 3) rfl) ?_
        refine z_iconst (pc := 52) (v := 4) (zdg D_X12_spotTold 28 (52, .iconst 4, 1) rfl) rfl ?_
        refine z_aload_n (pc := 53) 0 (zdg D_X12_spotTold 29 (53, .aload_n 0, 1) rfl) rfl rfl ?_
        refine z_getI (pc := 54) lf_X12_233 rfl rfl (zdg D_X12_spotTold 30 (54, .getfield 233, 3) rfl) ?_
        refine z_imul (pc := 57) (zdg D_X12_spotTold 31 (57, .imul, 1) rfl) ?_
        refine z_iconst (pc := 58) (v := 2) (zdg D_X12_spotTold 32 (58, .iconst 2, 1) rfl) rfl ?_
        refine z_iadd (pc := 59) (zdg D_X12_spotTold 33 (59, .iadd, 1) rfl) ?_
        refine z_aload_n (pc := 60) 0 (zdg D_X12_spotTold 34 (60, .aload_n 0, 1) rfl) rfl rfl ?_
        refine z_getI (pc := 61) lf_X12_227 rfl rfl (zdg D_X12_spotTold 35 (61, .getfield 227, 3) rfl) ?_
        refine z_iast (pc := 64) rfl (fun _ => rfl) (zdg D_X12_spotTold 36 (64, .iastore, 1) rfl) hn hf (fun hf => ?_)
        refine z_nmS hf (fun s4 hf => ?_)
        refine z_iconst (pc := 65) (v := 1) (zdg D_X12_spotTold 37 (65, .iconst 1, 1) rfl) rfl ?_
        exact z_iret (pc := 66) rfl rfl (zdg D_X12_spotTold 38 (66, .ireturn, 1) rfl) (hP _ _ hf)
      · refine z_iconst (pc := 46) (v := 0) (zdg D_X12_spotTold 24 (46, .iconst 0, 1) rfl) rfl ?_
        exact z_iret (pc := 47) rfl rfl (zdg D_X12_spotTold 25 (47, .ireturn, 1) rfl) (hP _ _ hf)
    refine z_aload_n (pc := 0) 0 (zdg D_X12_spotTold 0 (0, .aload_n 0, 1) rfl) rfl rfl ?_
    refine z_bipush (pc := 1) (v := 10) (zdg D_X12_spotTold 1 (1, .bipush 10, 2) rfl) rfl ?_
    refine z_bind hn hf (fun q1 hq hf => ?_)
    refine z_callV (pc := 3) (rest := []) (st2 := [zI q1.1]) (fun l => c_X12_need l (10 : Int32) σ q1 hq) zv_X12_need lm_X12_215 rfl rfl rfl rfl rfl rfl (Nat.le_of_ble_eq_true rfl) ⟨Nat.le_of_ble_eq_true rfl, Nat.le_of_ble_eq_true rfl⟩ (zdg D_X12_spotTold 2 (3, .invokevirtual 215, 3) rfl) ?_
    refine z_if_ne (pc := 6) 11 (zdg D_X12_spotTold 3 (6, .ifCond .ne 5, 3) rfl) rfl hf (fun hf => ?_) (fun hf => ?_)
    · refine z_aload_n (pc := 11) 0 (zdg D_X12_spotTold 6 (11, .aload_n 0, 1) rfl) rfl rfl ?_
      refine z_getI (pc := 12) lf_X12_159 rfl rfl (zdg D_X12_spotTold 7 (12, .getfield 159, 3) rfl) ?_
      refine z_iconst (pc := 15) (v := 2) (zdg D_X12_spotTold 8 (15, .iconst 2, 1) rfl) rfl ?_
      refine z_icmp_ne (pc := 16) 36 (zdg D_X12_spotTold 9 (16, .if_icmp .ne 20, 3) rfl) rfl hf (fun hf => ?_) (fun hf => ?_)
      · exact t_36 q1.2 hf
      · refine z_aload_n (pc := 19) 0 (zdg D_X12_spotTold 10 (19, .aload_n 0, 1) rfl) rfl rfl ?_
        refine z_aload_n (pc := 20) 0 (zdg D_X12_spotTold 11 (20, .aload_n 0, 1) rfl) rfl rfl ?_
        refine z_getI (pc := 21) lf_X12_172 rfl rfl (zdg D_X12_spotTold 12 (21, .getfield 172, 3) rfl) ?_
        refine z_bind hn hf (fun q5 hq hf => ?_)
        refine z_callV (pc := 24) (rest := []) (st2 := [zI q5]) (fun l => c_X12_isSpot l (q1.2.1 0 0 20) q1.2 q5 hq) zv_X12_isSpot lm_X12_236 rfl rfl rfl rfl rfl rfl (Nat.le_of_ble_eq_true rfl) ⟨Nat.le_of_ble_eq_true rfl, Nat.le_of_ble_eq_true rfl⟩ (zdg D_X12_spotTold 13 (24, .invokevirtual 236, 3) rfl) ?_
        refine z_if_ne (pc := 27) 36 (zdg D_X12_spotTold 14 (27, .ifCond .ne 9, 3) rfl) rfl hf (fun hf => ?_) (fun hf => ?_)
        · exact t_36 q1.2 hf
        · refine z_aload_n (pc := 30) 0 (zdg D_X12_spotTold 15 (30, .aload_n 0, 1) rfl) rfl rfl ?_
          refine z_iconst (pc := 31) (v := 2) (zdg D_X12_spotTold 16 (31, .iconst 2, 1) rfl) rfl ?_
          refine z_callV (pc := 32) (rest := []) (st2 := [zI ((f_X12_bad (2 : Int32) q1.2).1)]) (fun l => c_X12_bad l (2 : Int32) q1.2) zv_X12_bad lm_X12_181 rfl rfl rfl rfl rfl rfl (Nat.le_of_ble_eq_true rfl) ⟨Nat.le_of_ble_eq_true rfl, Nat.le_of_ble_eq_true rfl⟩ (zdg D_X12_spotTold 17 (32, .invokevirtual 181, 3) rfl) ?_
          refine z_nmWI hf (fun q6 hf => ?_)
          exact z_zret (pc := 35) rfl (zdg D_X12_spotTold 18 (35, .ireturn, 1) rfl) hn hf (fun hf => (hP _ _ hf))
    · refine z_iconst (pc := 9) (v := 0) (zdg D_X12_spotTold 4 (9, .iconst 0, 1) rfl) rfl ?_
      exact z_iret (pc := 10) rfl rfl (zdg D_X12_spotTold 5 (10, .ireturn, 1) rfl) (hP _ _ hf)

def L_X12_isThere : List (Nat × Instr × Nat) := [(0, .aload_n 0, 1), (1, .getfield 239, 3), (4, .sipush 500, 3), (7, .if_icmp .gt 22, 3), (10, .aload_n 0, 1), (11, .getfield 28, 3), (14, .sipush 501, 3), (17, .aload_n 0, 1), (18, .getfield 233, 3), (21, .imul, 1), (22, .aload_n 0, 1), (23, .getfield 239, 3), (26, .iadd, 1), (27, .iload_n 1, 1), (28, .iastore, 1), (29, .aload_n 0, 1), (30, .iload_n 1, 1), (31, .putfield 242, 3), (34, .aload_n 0, 1), (35, .dup, 1), (36, .getfield 239, 3), (39, .iconst 1, 1), (40, .iadd, 1), (41, .putfield 239, 3), (44, .return_, 1)]
set_option maxRecDepth 100000 in
theorem D_X12_isThere : zdecs cX12_isThere L_X12_isThere = true := by decide +kernel
noncomputable def j_X12_isThere_29 (p1 : Int32) (s1 : zG) : Option (zG) :=
  zb (zwI s1 0 0 27 p1) (fun s2 => zb (zwI s2 0 0 28 ((s2.1 0 0 28) + (1 : Int32))) (fun s3 => some s3))
noncomputable def f_X12_isThere (p1 : Int32) (σ : zG) : Option (zG) :=
  if (σ.1 0 0 28) ≤ (500 : Int32) then zg (zin (((501 : Int32) * (σ.1 0 0 15)) + (σ.1 0 0 28)) 6012) (zb (zwI σ 7 0 (((501 : Int32) * (σ.1 0 0 15)) + (σ.1 0 0 28)).toNatClampNeg p1) (fun s4 => j_X12_isThere_29 p1 s4)) else j_X12_isThere_29 p1 σ
set_option maxRecDepth 100000 in
set_option maxHeartbeats 4000000 in
theorem c_X12_isThere (l : Launch) (p1 : Int32) (σ : zG) (q : zG) (hq : f_X12_isThere p1 σ = some q) : zMet l zsyM m_X12_isThere yX12_isThere [zR 0 0, zI p1] σ none q := by
  refine zEnter [(0, zR 0 0), (1, zI p1)] (by decide) rfl (fun _ => Nat.le_of_ble_eq_true rfl) (fun _ => rfl) (fun w h => ?_) (fun K hv hs => ?_)
  · exact zokm rfl h
  · have hP : ∀ s, f_X12_isThere p1 σ = some s → zKv K = none ∧ zKs K = s := fun s h => by rw [hq] at h; cases h; exact ⟨hv, hs⟩
    have hn : f_X12_isThere p1 σ ≠ none := fun z => by rw [hq] at z; cases z
    have hf := f_X12_isThere.eq_1 p1 σ
    have t_29 : ∀ (s1 : zG), f_X12_isThere p1 σ = j_X12_isThere_29 p1 s1 → zX zsyM m_X12_isThere K 29 [(0, zR 0 0), (1, zI p1)] [] s1 := by
      intro s1 hf
      replace hf := hf.trans (j_X12_isThere_29.eq_1 p1 s1)
      refine z_aload_n (pc := 29) 0 (zdg D_X12_isThere 15 (29, .aload_n 0, 1) rfl) rfl rfl ?_
      refine z_iload_n (pc := 30) 1 (zdg D_X12_isThere 16 (30, .iload_n 1, 1) rfl) rfl rfl ?_
      refine z_putI (pc := 31) lw_X12_242 rfl rfl rfl rfl (zdg D_X12_isThere 17 (31, .putfield 242, 3) rfl) ?_
      refine z_nmS hf (fun s2 hf => ?_)
      refine z_aload_n (pc := 34) 0 (zdg D_X12_isThere 18 (34, .aload_n 0, 1) rfl) rfl rfl ?_
      refine z_dup (pc := 35) rfl (zdg D_X12_isThere 19 (35, .dup, 1) rfl) ?_
      refine z_getI (pc := 36) lf_X12_239 rfl rfl (zdg D_X12_isThere 20 (36, .getfield 239, 3) rfl) ?_
      refine z_iconst (pc := 39) (v := 1) (zdg D_X12_isThere 21 (39, .iconst 1, 1) rfl) rfl ?_
      refine z_iadd (pc := 40) (zdg D_X12_isThere 22 (40, .iadd, 1) rfl) ?_
      refine z_putI (pc := 41) lw_X12_239 rfl rfl rfl rfl (zdg D_X12_isThere 23 (41, .putfield 239, 3) rfl) ?_
      refine z_nmS hf (fun s3 hf => ?_)
      exact z_vret (pc := 44) rfl (zdg D_X12_isThere 24 (44, .return_, 1) rfl) (hP _ hf)
    refine z_aload_n (pc := 0) 0 (zdg D_X12_isThere 0 (0, .aload_n 0, 1) rfl) rfl rfl ?_
    refine z_getI (pc := 1) lf_X12_239 rfl rfl (zdg D_X12_isThere 1 (1, .getfield 239, 3) rfl) ?_
    refine z_sipush (pc := 4) (v := 500) (zdg D_X12_isThere 2 (4, .sipush 500, 3) rfl) rfl ?_
    refine z_icmp_gt (pc := 7) 29 (zdg D_X12_isThere 3 (7, .if_icmp .gt 22, 3) rfl) rfl hf (fun hf => ?_) (fun hf => ?_)
    · exact t_29 σ hf
    · refine z_aload_n (pc := 10) 0 (zdg D_X12_isThere 4 (10, .aload_n 0, 1) rfl) rfl rfl ?_
      refine z_getR (pc := 11) (g := 7) (j := 0) lf_X12_28 rfl rfl rfl (zdg D_X12_isThere 5 (11, .getfield 28, 3) rfl) ?_
      refine z_sipush (pc := 14) (v := 501) (zdg D_X12_isThere 6 (14, .sipush 501, 3) rfl) rfl ?_
      refine z_aload_n (pc := 17) 0 (zdg D_X12_isThere 7 (17, .aload_n 0, 1) rfl) rfl rfl ?_
      refine z_getI (pc := 18) lf_X12_233 rfl rfl (zdg D_X12_isThere 8 (18, .getfield 233, 3) rfl) ?_
      refine z_imul (pc := 21) (zdg D_X12_isThere 9 (21, .imul, 1) rfl) ?_
      refine z_aload_n (pc := 22) 0 (zdg D_X12_isThere 10 (22, .aload_n 0, 1) rfl) rfl rfl ?_
      refine z_getI (pc := 23) lf_X12_239 rfl rfl (zdg D_X12_isThere 11 (23, .getfield 239, 3) rfl) ?_
      refine z_iadd (pc := 26) (zdg D_X12_isThere 12 (26, .iadd, 1) rfl) ?_
      refine z_iload_n (pc := 27) 1 (zdg D_X12_isThere 13 (27, .iload_n 1, 1) rfl) rfl rfl ?_
      refine z_iast (pc := 28) rfl (fun _ => rfl) (zdg D_X12_isThere 14 (28, .iastore, 1) rfl) hn hf (fun hf => ?_)
      refine z_nmS hf (fun s4 hf => ?_)
      exact t_29 s4 hf

def L_X12_steppedTo : List (Nat × Instr × Nat) := [(0, .iload_n 1, 1), (1, .bipush 8, 2), (3, .irem, 1), (4, .iload_n 2, 1), (5, .bipush 13, 2), (7, .if_icmp .ne 7, 3), (10, .iconst 1, 1), (11, .goto 14, 3), (14, .iload_n 2, 1), (15, .bipush 15, 2), (17, .if_icmp .ne 7, 3), (20, .iconst (-1), 1), (21, .goto 4, 3), (24, .iconst 0, 1), (25, .iadd, 1), (26, .istore_n 3, 1), (27, .iload_n 1, 1), (28, .bipush 8, 2), (30, .idiv, 1), (31, .iload_n 2, 1), (32, .bipush 14, 2), (34, .if_icmp .ne 7, 3), (37, .iconst 1, 1), (38, .goto 14, 3), (41, .iload_n 2, 1), (42, .bipush 12, 2), (44, .if_icmp .ne 7, 3), (47, .iconst (-1), 1), (48, .goto 4, 3), (51, .iconst 0, 1), (52, .iadd, 1), (53, .istore 4, 2), (55, .aload_n 0, 1), (56, .iload_n 3, 1), (57, .iload 4, 2), (59, .invokevirtual 68, 3), (62, .ifCond .eq 13, 3), (65, .bipush 8, 2), (67, .iload 4, 2), (69, .imul, 1), (70, .iload_n 3, 1), (71, .iadd, 1), (72, .goto 4, 3), (75, .iconst (-1), 1), (76, .ireturn, 1)]
set_option maxRecDepth 100000 in
theorem D_X12_steppedTo : zdecs cX12_steppedTo L_X12_steppedTo = true := by decide +kernel
noncomputable def j_X12_steppedTo_52 (σ : zG) (w3_3 : Int32) (t4 : Int32) (t5 : Int32) : Option (Int32) :=
  (f_X12_isAt w3_3 (t5 + t4) σ).bind (fun q6 => if q6 = 0 then some (-1 : Int32) else some (((8 : Int32) * (t5 + t4)) + w3_3))
noncomputable def j_X12_steppedTo_25 (p2 : Int32) (σ : zG) (p1 : Int32) (t1 : Int32) (t2 : Int32) : Option (Int32) :=
  if p2 = (14 : Int32) then j_X12_steppedTo_52 σ (t2 + t1) (1 : Int32) (p1 / (8 : Int32)) else if p2 = (12 : Int32) then j_X12_steppedTo_52 σ (t2 + t1) (-1 : Int32) (p1 / (8 : Int32)) else j_X12_steppedTo_52 σ (t2 + t1) (0 : Int32) (p1 / (8 : Int32))
noncomputable def f_X12_steppedTo (p1 : Int32) (p2 : Int32) (σ : zG) : Option (Int32) :=
  if p2 = (13 : Int32) then j_X12_steppedTo_25 p2 σ p1 (1 : Int32) (zrem p1 (8 : Int32)) else if p2 = (15 : Int32) then j_X12_steppedTo_25 p2 σ p1 (-1 : Int32) (zrem p1 (8 : Int32)) else j_X12_steppedTo_25 p2 σ p1 (0 : Int32) (zrem p1 (8 : Int32))
set_option maxRecDepth 100000 in
set_option maxHeartbeats 4000000 in
theorem c_X12_steppedTo (l : Launch) (p1 : Int32) (p2 : Int32) (σ : zG) (q : Int32) (hq : f_X12_steppedTo p1 p2 σ = some q) : zMet l zsyM m_X12_steppedTo yX12_steppedTo [zR 0 0, zI p1, zI p2] σ (some (zI q)) σ := by
  refine zEnter [(0, zR 0 0), (1, zI p1), (2, zI p2)] (by decide) rfl (fun _ => Nat.le_of_ble_eq_true rfl) (fun _ => rfl) (fun w h => ?_) (fun K hv hs => ?_)
  · exact zokm rfl h
  · have hP : ∀ x, f_X12_steppedTo p1 p2 σ = some x → zKv K = some (zI x) ∧ zKs K = σ := fun x h => by rw [hq] at h; cases h; exact ⟨hv, hs⟩
    have hn : f_X12_steppedTo p1 p2 σ ≠ none := fun z => by rw [hq] at z; cases z
    have hf := f_X12_steppedTo.eq_1 p1 p2 σ
    have t_52 : ∀ (w3_3 : Int32) (t4 : Int32) (t5 : Int32), f_X12_steppedTo p1 p2 σ = j_X12_steppedTo_52 σ w3_3 t4 t5 → zX zsyM m_X12_steppedTo K 52 [(0, zR 0 0), (3, zI w3_3)] [zI t4, zI t5] σ := by
      intro w3_3 t4 t5 hf
      replace hf := hf.trans (j_X12_steppedTo_52.eq_1 σ w3_3 t4 t5)
      refine z_iadd (pc := 52) (zdg D_X12_steppedTo 30 (52, .iadd, 1) rfl) ?_
      refine z_istore (pc := 53) (al' := [(4, zI (t5 + t4)), (0, zR 0 0), (3, zI w3_3)]) (zdg D_X12_steppedTo 31 (53, .istore 4, 2) rfl) (by decide) rfl ?_
      refine z_aload_n (pc := 55) 1 (zdg D_X12_steppedTo 32 (55, .aload_n 0, 1) rfl) rfl rfl ?_
      refine z_iload_n (pc := 56) 2 (zdg D_X12_steppedTo 33 (56, .iload_n 3, 1) rfl) rfl rfl ?_
      refine z_iload (pc := 57) 0 (zdg D_X12_steppedTo 34 (57, .iload 4, 2) rfl) rfl ?_
      refine z_bind hn hf (fun q6 hq hf => ?_)
      refine z_callV (pc := 59) (rest := []) (st2 := [zI q6]) (fun l => c_X12_isAt l w3_3 (t5 + t4) σ q6 hq) zv_X12_isAt lm_X12_68 rfl rfl rfl rfl rfl rfl (Nat.le_of_ble_eq_true rfl) ⟨Nat.le_of_ble_eq_true rfl, Nat.le_of_ble_eq_true rfl⟩ (zdg D_X12_steppedTo 35 (59, .invokevirtual 68, 3) rfl) ?_
      refine z_if_eq (pc := 62) 75 (zdg D_X12_steppedTo 36 (62, .ifCond .eq 13, 3) rfl) rfl hf (fun hf => ?_) (fun hf => ?_)
      · refine z_iconst (pc := 75) (v := -1) (zdg D_X12_steppedTo 43 (75, .iconst (-1), 1) rfl) rfl ?_
        exact z_iret (pc := 76) rfl rfl (zdg D_X12_steppedTo 44 (76, .ireturn, 1) rfl) (hP _ hf)
      · refine z_bipush (pc := 65) (v := 8) (zdg D_X12_steppedTo 37 (65, .bipush 8, 2) rfl) rfl ?_
        refine z_iload (pc := 67) 0 (zdg D_X12_steppedTo 38 (67, .iload 4, 2) rfl) rfl ?_
        refine z_imul (pc := 69) (zdg D_X12_steppedTo 39 (69, .imul, 1) rfl) ?_
        refine z_iload_n (pc := 70) 2 (zdg D_X12_steppedTo 40 (70, .iload_n 3, 1) rfl) rfl rfl ?_
        refine z_iadd (pc := 71) (zdg D_X12_steppedTo 41 (71, .iadd, 1) rfl) ?_
        refine z_goto (pc := 72) 76 (zdg D_X12_steppedTo 42 (72, .goto 4, 3) rfl) rfl ?_
        exact z_iret (pc := 76) rfl rfl (zdg D_X12_steppedTo 44 (76, .ireturn, 1) rfl) (hP _ hf)
    have t_25 : ∀ (t1 : Int32) (t2 : Int32), f_X12_steppedTo p1 p2 σ = j_X12_steppedTo_25 p2 σ p1 t1 t2 → zX zsyM m_X12_steppedTo K 25 [(0, zR 0 0), (1, zI p1), (2, zI p2)] [zI t1, zI t2] σ := by
      intro t1 t2 hf
      replace hf := hf.trans (j_X12_steppedTo_25.eq_1 p2 σ p1 t1 t2)
      refine z_iadd (pc := 25) (zdg D_X12_steppedTo 14 (25, .iadd, 1) rfl) ?_
      refine z_istore_n (pc := 26) (al' := [(3, zI (t2 + t1)), (0, zR 0 0), (1, zI p1), (2, zI p2)]) (zdg D_X12_steppedTo 15 (26, .istore_n 3, 1) rfl) rfl (by decide) rfl ?_
      refine z_iload_n (pc := 27) 2 (zdg D_X12_steppedTo 16 (27, .iload_n 1, 1) rfl) rfl rfl ?_
      refine z_bipush (pc := 28) (v := 8) (zdg D_X12_steppedTo 17 (28, .bipush 8, 2) rfl) rfl ?_
      refine z_idivK (pc := 30) (zdg D_X12_steppedTo 18 (30, .idiv, 1) rfl) rfl ?_
      refine z_iload_n (pc := 31) 3 (zdg D_X12_steppedTo 19 (31, .iload_n 2, 1) rfl) rfl rfl ?_
      refine z_bipush (pc := 32) (v := 14) (zdg D_X12_steppedTo 20 (32, .bipush 14, 2) rfl) rfl ?_
      refine z_icmp_ne (pc := 34) 41 (zdg D_X12_steppedTo 21 (34, .if_icmp .ne 7, 3) rfl) rfl hf (fun hf => ?_) (fun hf => ?_)
      · refine z_iload_n (pc := 41) 3 (zdg D_X12_steppedTo 24 (41, .iload_n 2, 1) rfl) rfl rfl ?_
        refine z_bipush (pc := 42) (v := 12) (zdg D_X12_steppedTo 25 (42, .bipush 12, 2) rfl) rfl ?_
        refine z_icmp_ne (pc := 44) 51 (zdg D_X12_steppedTo 26 (44, .if_icmp .ne 7, 3) rfl) rfl hf (fun hf => ?_) (fun hf => ?_)
        · refine z_iconst (pc := 51) (v := 0) (zdg D_X12_steppedTo 29 (51, .iconst 0, 1) rfl) rfl ?_
          refine z_sub (al' := [(0, zR 0 0), (3, zI (t2 + t1))]) [1, 0] rfl ?_
          exact t_52 (t2 + t1) (0 : Int32) (p1 / (8 : Int32)) hf
        · refine z_iconst (pc := 47) (v := -1) (zdg D_X12_steppedTo 27 (47, .iconst (-1), 1) rfl) rfl ?_
          refine z_goto (pc := 48) 52 (zdg D_X12_steppedTo 28 (48, .goto 4, 3) rfl) rfl ?_
          refine z_sub (al' := [(0, zR 0 0), (3, zI (t2 + t1))]) [1, 0] rfl ?_
          exact t_52 (t2 + t1) (-1 : Int32) (p1 / (8 : Int32)) hf
      · refine z_iconst (pc := 37) (v := 1) (zdg D_X12_steppedTo 22 (37, .iconst 1, 1) rfl) rfl ?_
        refine z_goto (pc := 38) 52 (zdg D_X12_steppedTo 23 (38, .goto 14, 3) rfl) rfl ?_
        refine z_sub (al' := [(0, zR 0 0), (3, zI (t2 + t1))]) [1, 0] rfl ?_
        exact t_52 (t2 + t1) (1 : Int32) (p1 / (8 : Int32)) hf
    refine z_iload_n (pc := 0) 1 (zdg D_X12_steppedTo 0 (0, .iload_n 1, 1) rfl) rfl rfl ?_
    refine z_bipush (pc := 1) (v := 8) (zdg D_X12_steppedTo 1 (1, .bipush 8, 2) rfl) rfl ?_
    refine z_iremK (pc := 3) (zdg D_X12_steppedTo 2 (3, .irem, 1) rfl) rfl ?_
    refine z_iload_n (pc := 4) 2 (zdg D_X12_steppedTo 3 (4, .iload_n 2, 1) rfl) rfl rfl ?_
    refine z_bipush (pc := 5) (v := 13) (zdg D_X12_steppedTo 4 (5, .bipush 13, 2) rfl) rfl ?_
    refine z_icmp_ne (pc := 7) 14 (zdg D_X12_steppedTo 5 (7, .if_icmp .ne 7, 3) rfl) rfl hf (fun hf => ?_) (fun hf => ?_)
    · refine z_iload_n (pc := 14) 2 (zdg D_X12_steppedTo 8 (14, .iload_n 2, 1) rfl) rfl rfl ?_
      refine z_bipush (pc := 15) (v := 15) (zdg D_X12_steppedTo 9 (15, .bipush 15, 2) rfl) rfl ?_
      refine z_icmp_ne (pc := 17) 24 (zdg D_X12_steppedTo 10 (17, .if_icmp .ne 7, 3) rfl) rfl hf (fun hf => ?_) (fun hf => ?_)
      · refine z_iconst (pc := 24) (v := 0) (zdg D_X12_steppedTo 13 (24, .iconst 0, 1) rfl) rfl ?_
        exact t_25 (0 : Int32) (zrem p1 (8 : Int32)) hf
      · refine z_iconst (pc := 20) (v := -1) (zdg D_X12_steppedTo 11 (20, .iconst (-1), 1) rfl) rfl ?_
        refine z_goto (pc := 21) 25 (zdg D_X12_steppedTo 12 (21, .goto 4, 3) rfl) rfl ?_
        exact t_25 (-1 : Int32) (zrem p1 (8 : Int32)) hf
    · refine z_iconst (pc := 10) (v := 1) (zdg D_X12_steppedTo 6 (10, .iconst 1, 1) rfl) rfl ?_
      refine z_goto (pc := 11) 25 (zdg D_X12_steppedTo 7 (11, .goto 14, 3) rfl) rfl ?_
      exact t_25 (1 : Int32) (zrem p1 (8 : Int32)) hf

def L_X12_aPart : List (Nat × Instr × Nat) := [(0, .aload_n 0, 1), (1, .getfield 159, 3), (4, .istore_n 1, 1), (5, .aload_n 0, 1), (6, .invokevirtual 184, 3), (9, .aload_n 0, 1), (10, .iconst 1, 1), (11, .bipush 60, 2), (13, .invokevirtual 230, 3), (16, .ifCond .ne 5, 3), (19, .iconst 0, 1), (20, .ireturn, 1), (21, .iconst 0, 1), (22, .istore_n 2, 1), (23, .iload_n 2, 1), (24, .aload_n 0, 1), (25, .getfield 227, 3), (28, .if_icmp .ge 30, 3), (31, .aload_n 0, 1), (32, .getfield 242, 3), (35, .iconst (-1), 1), (36, .if_icmp .eq 22, 3), (39, .aload_n 0, 1), (40, .aload_n 0, 1), (41, .aload_n 0, 1), (42, .getfield 242, 3), (45, .iload_n 1, 1), (46, .invokevirtual 245, 3), (49, .invokevirtual 249, 3), (52, .iinc 2 1, 3), (55, .goto (-32), 3), (58, .iconst 1, 1), (59, .ireturn, 1)]
set_option maxRecDepth 100000 in
theorem D_X12_aPart : zdecs cX12_aPart L_X12_aPart = true := by decide +kernel
noncomputable def b_X12_aPart_23 (σ : zG) (v2_3 : Int32) (s4 : zG) : Option ((Int32 × zG) ⊕ (zG)) :=
  if v2_3 < (s4.1 0 0 26) then if (s4.1 0 0 27) = (-1 : Int32) then some (Sum.inr s4) else (f_X12_steppedTo (s4.1 0 0 27) (σ.1 0 0 18) s4).bind (fun q5 => (f_X12_isThere q5 s4).bind (fun q6 => some (Sum.inl ((v2_3 + 1), q6)))) else some (Sum.inr s4)
noncomputable def f_X12_aPart (σ : zG) : Option (Int32 × zG) :=
  (f_X12_next0 σ).bind (fun q1 => (f_X12_number (1 : Int32) (60 : Int32) q1).bind (fun q2 => if q2.1 = 0 then some ((0 : Int32), q2.2) else (zlp (fun q : Int32 × zG => b_X12_aPart_23 σ q.1 q.2) ((0 : Int32), q2.2)).bind (fun e7 : zG => some ((1 : Int32), e7))))
set_option maxRecDepth 100000 in
set_option maxHeartbeats 4000000 in
theorem c_X12_aPart (l : Launch)  (σ : zG) (q : Int32 × zG) (hq : f_X12_aPart σ = some q) : zMet l zsyM m_X12_aPart yX12_aPart [zR 0 0] σ (some (zI q.1)) q.2 := by
  refine zEnter [(0, zR 0 0)] (by decide) rfl (fun _ => Nat.le_of_ble_eq_true rfl) (fun _ => rfl) (fun w h => ?_) (fun K hv hs => ?_)
  · exact zokm rfl h
  · have hP : ∀ x s, f_X12_aPart σ = some (x, s) → zKv K = some (zI x) ∧ zKs K = s := fun x s h => by rw [hq] at h; cases h; exact ⟨hv, hs⟩
    have hn : f_X12_aPart σ ≠ none := fun z => by rw [hq] at z; cases z
    have hf := f_X12_aPart.eq_1 σ
    refine z_aload_n (pc := 0) 0 (zdg D_X12_aPart 0 (0, .aload_n 0, 1) rfl) rfl rfl ?_
    refine z_getI (pc := 1) lf_X12_159 rfl rfl (zdg D_X12_aPart 1 (1, .getfield 159, 3) rfl) ?_
    refine z_istore_n (pc := 4) (al' := [(1, zI (σ.1 0 0 18)), (0, zR 0 0)]) (zdg D_X12_aPart 2 (4, .istore_n 1, 1) rfl) rfl (by decide) rfl ?_
    refine z_aload_n (pc := 5) 1 (zdg D_X12_aPart 3 (5, .aload_n 0, 1) rfl) rfl rfl ?_
    refine z_bind hn hf (fun q1 hq hf => ?_)
    refine z_callV (pc := 6) (rest := []) (st2 := []) (fun l => c_X12_next0 l σ q1 hq) zv_X12_next0 lm_X12_184 rfl rfl rfl rfl rfl rfl (Nat.le_of_ble_eq_true rfl) ⟨Nat.le_of_ble_eq_true rfl, Nat.le_of_ble_eq_true rfl⟩ (zdg D_X12_aPart 4 (6, .invokevirtual 184, 3) rfl) ?_
    refine z_aload_n (pc := 9) 1 (zdg D_X12_aPart 5 (9, .aload_n 0, 1) rfl) rfl rfl ?_
    refine z_iconst (pc := 10) (v := 1) (zdg D_X12_aPart 6 (10, .iconst 1, 1) rfl) rfl ?_
    refine z_bipush (pc := 11) (v := 60) (zdg D_X12_aPart 7 (11, .bipush 60, 2) rfl) rfl ?_
    refine z_bind hn hf (fun q2 hq hf => ?_)
    refine z_callV (pc := 13) (rest := []) (st2 := [zI q2.1]) (fun l => c_X12_number l (1 : Int32) (60 : Int32) q1 q2 hq) zv_X12_number lm_X12_230 rfl rfl rfl rfl rfl rfl (Nat.le_of_ble_eq_true rfl) ⟨Nat.le_of_ble_eq_true rfl, Nat.le_of_ble_eq_true rfl⟩ (zdg D_X12_aPart 8 (13, .invokevirtual 230, 3) rfl) ?_
    refine z_if_ne (pc := 16) 21 (zdg D_X12_aPart 9 (16, .ifCond .ne 5, 3) rfl) rfl hf (fun hf => ?_) (fun hf => ?_)
    · refine z_iconst (pc := 21) (v := 0) (zdg D_X12_aPart 12 (21, .iconst 0, 1) rfl) rfl ?_
      refine z_istore_n (pc := 22) (al' := [(2, zI (0 : Int32)), (1, zI (σ.1 0 0 18)), (0, zR 0 0)]) (zdg D_X12_aPart 13 (22, .istore_n 2, 1) rfl) rfl (by decide) rfl ?_
      refine z_sub (al' := [(0, zR 0 0), (1, zI (σ.1 0 0 18)), (2, zI (0 : Int32))]) [2, 1, 0] rfl ?_
      refine z_loop (f := (fun q : Int32 × zG => b_X12_aPart_23 σ q.1 q.2)) (a := ((0 : Int32), q2.2)) (fun q : Int32 × zG => zX zsyM m_X12_aPart K 23 [(0, zR 0 0), (1, zI (σ.1 0 0 18)), (2, zI q.1)] [] q.2) (fun e7 : zG => zX zsyM m_X12_aPart K 58 [] [] e7) hn hf ?_ ?_
      · intro e7 hf
        refine z_iconst (pc := 58) (v := 1) (zdg D_X12_aPart 31 (58, .iconst 1, 1) rfl) rfl ?_
        exact z_iret (pc := 59) rfl rfl (zdg D_X12_aPart 32 (59, .ireturn, 1) rfl) (hP _ _ hf)
      · rintro ⟨v2_3, s4⟩ hn hi hx
        have hf := b_X12_aPart_23.eq_1 σ v2_3 s4
        refine z_iload_n (pc := 23) 2 (zdg D_X12_aPart 14 (23, .iload_n 2, 1) rfl) rfl rfl ?_
        refine z_aload_n (pc := 24) 0 (zdg D_X12_aPart 15 (24, .aload_n 0, 1) rfl) rfl rfl ?_
        refine z_getI (pc := 25) lf_X12_227 rfl rfl (zdg D_X12_aPart 16 (25, .getfield 227, 3) rfl) ?_
        refine z_icmp_ge (pc := 28) 58 (zdg D_X12_aPart 17 (28, .if_icmp .ge 30, 3) rfl) rfl hf (fun hf => ?_) (fun hf => ?_)
        · refine z_sub (al' := []) [] rfl ?_
          exact hx s4 hf
        · refine z_aload_n (pc := 31) 0 (zdg D_X12_aPart 18 (31, .aload_n 0, 1) rfl) rfl rfl ?_
          refine z_getI (pc := 32) lf_X12_242 rfl rfl (zdg D_X12_aPart 19 (32, .getfield 242, 3) rfl) ?_
          refine z_iconst (pc := 35) (v := -1) (zdg D_X12_aPart 20 (35, .iconst (-1), 1) rfl) rfl ?_
          refine z_icmp_eq (pc := 36) 58 (zdg D_X12_aPart 21 (36, .if_icmp .eq 22, 3) rfl) rfl hf (fun hf => ?_) (fun hf => ?_)
          · refine z_sub (al' := []) [] rfl ?_
            exact hx s4 hf
          · refine z_aload_n (pc := 39) 0 (zdg D_X12_aPart 22 (39, .aload_n 0, 1) rfl) rfl rfl ?_
            refine z_aload_n (pc := 40) 0 (zdg D_X12_aPart 23 (40, .aload_n 0, 1) rfl) rfl rfl ?_
            refine z_aload_n (pc := 41) 0 (zdg D_X12_aPart 24 (41, .aload_n 0, 1) rfl) rfl rfl ?_
            refine z_getI (pc := 42) lf_X12_242 rfl rfl (zdg D_X12_aPart 25 (42, .getfield 242, 3) rfl) ?_
            refine z_iload_n (pc := 45) 1 (zdg D_X12_aPart 26 (45, .iload_n 1, 1) rfl) rfl rfl ?_
            refine z_bind hn hf (fun q5 hq hf => ?_)
            refine z_callV (pc := 46) (rest := [zR 0 0]) (st2 := [zI q5, zR 0 0]) (fun l => c_X12_steppedTo l (s4.1 0 0 27) (σ.1 0 0 18) s4 q5 hq) zv_X12_steppedTo lm_X12_245 rfl rfl rfl rfl rfl rfl (Nat.le_of_ble_eq_true rfl) ⟨Nat.le_of_ble_eq_true rfl, Nat.le_of_ble_eq_true rfl⟩ (zdg D_X12_aPart 27 (46, .invokevirtual 245, 3) rfl) ?_
            refine z_bind hn hf (fun q6 hq hf => ?_)
            refine z_callV (pc := 49) (rest := []) (st2 := []) (fun l => c_X12_isThere l q5 s4 q6 hq) zv_X12_isThere lm_X12_249 rfl rfl rfl rfl rfl rfl (Nat.le_of_ble_eq_true rfl) ⟨Nat.le_of_ble_eq_true rfl, Nat.le_of_ble_eq_true rfl⟩ (zdg D_X12_aPart 28 (49, .invokevirtual 249, 3) rfl) ?_
            refine z_iinc (pc := 52) (v0 := (v2_3 + 1)) (al' := [(2, zI (v2_3 + 1)), (0, zR 0 0), (1, zI (σ.1 0 0 18))]) 2 (zdg D_X12_aPart 29 (52, .iinc 2 1, 3) rfl) rfl rfl (by decide) rfl ?_
            refine z_goto (pc := 55) 23 (zdg D_X12_aPart 30 (55, .goto (-32), 3) rfl) rfl ?_
            refine z_sub (al' := [(0, zR 0 0), (1, zI (σ.1 0 0 18)), (2, zI (v2_3 + 1))]) [1, 2, 0] rfl ?_
            exact hi ((v2_3 + 1), q6) hf
    · refine z_iconst (pc := 19) (v := 0) (zdg D_X12_aPart 10 (19, .iconst 0, 1) rfl) rfl ?_
      exact z_iret (pc := 20) rfl rfl (zdg D_X12_aPart 11 (20, .ireturn, 1) rfl) (hP _ _ hf)

def L_X12_someParts : List (Nat × Instr × Nat) := [(0, .iconst 0, 1), (1, .istore_n 1, 1), (2, .aload_n 0, 1), (3, .getfield 159, 3), (6, .bipush 11, 2), (8, .bipush 15, 2), (10, .invokestatic 64, 3), (13, .ifCond .eq 30, 3), (16, .iload_n 1, 1), (17, .bipush 8, 2), (19, .if_icmp .ne 9, 3), (22, .aload_n 0, 1), (23, .iconst 3, 1), (24, .invokevirtual 181, 3), (27, .ireturn, 1), (28, .aload_n 0, 1), (29, .invokevirtual 253, 3), (32, .ifCond .ne 5, 3), (35, .iconst 0, 1), (36, .ireturn, 1), (37, .iinc 1 1, 3), (40, .goto (-38), 3), (43, .aload_n 0, 1), (44, .sipush 159, 3), (47, .invokevirtual 215, 3), (50, .ireturn, 1)]
set_option maxRecDepth 100000 in
theorem D_X12_someParts : zdecs cX12_someParts L_X12_someParts = true := by decide +kernel
noncomputable def b_X12_someParts_2  (v1_1 : Int32) (s2 : zG) : Option ((Int32 × zG) ⊕ ((zG) ⊕ ((zG) ⊕ (zG)))) :=
  if (f_X12_isIn (s2.1 0 0 18) (11 : Int32) (15 : Int32)) = 0 then some (Sum.inr (Sum.inr (Sum.inr s2))) else if v1_1 = (8 : Int32) then some (Sum.inr (Sum.inl s2)) else (f_X12_aPart s2).bind (fun q3 => if q3.1 = 0 then some (Sum.inr (Sum.inr (Sum.inl q3.2))) else some (Sum.inl ((v1_1 + 1), q3.2)))
noncomputable def f_X12_someParts (σ : zG) : Option (Int32 × zG) :=
  (zlp (fun q : Int32 × zG => b_X12_someParts_2 q.1 q.2) ((0 : Int32), σ)).bind (Sum.elim (fun e4 : zG => zb (f_X12_bad (3 : Int32) e4) (fun q5 => zg (zbl q5.1) (some (q5.1, q5.2)))) (Sum.elim (fun e6 : zG => some ((0 : Int32), e6)) (fun e7 : zG => (f_X12_need (159 : Int32) e7).bind (fun q8 => zg (zbl q8.1) (some (q8.1, q8.2))))))
set_option maxRecDepth 100000 in
set_option maxHeartbeats 4000000 in
theorem c_X12_someParts (l : Launch)  (σ : zG) (q : Int32 × zG) (hq : f_X12_someParts σ = some q) : zMet l zsyM m_X12_someParts yX12_someParts [zR 0 0] σ (some (zI q.1)) q.2 := by
  refine zEnter [(0, zR 0 0)] (by decide) rfl (fun _ => Nat.le_of_ble_eq_true rfl) (fun _ => rfl) (fun w h => ?_) (fun K hv hs => ?_)
  · exact zokm rfl h
  · have hP : ∀ x s, f_X12_someParts σ = some (x, s) → zKv K = some (zI x) ∧ zKs K = s := fun x s h => by rw [hq] at h; cases h; exact ⟨hv, hs⟩
    have hn : f_X12_someParts σ ≠ none := fun z => by rw [hq] at z; cases z
    have hf := f_X12_someParts.eq_1 σ
    refine z_iconst (pc := 0) (v := 0) (zdg D_X12_someParts 0 (0, .iconst 0, 1) rfl) rfl ?_
    refine z_istore_n (pc := 1) (al' := [(1, zI (0 : Int32)), (0, zR 0 0)]) (zdg D_X12_someParts 1 (1, .istore_n 1, 1) rfl) rfl (by decide) rfl ?_
    refine z_sub (al' := [(0, zR 0 0), (1, zI (0 : Int32))]) [1, 0] rfl ?_
    refine z_loop (f := (fun q : Int32 × zG => b_X12_someParts_2 q.1 q.2)) (a := ((0 : Int32), σ)) (fun q : Int32 × zG => zX zsyM m_X12_someParts K 2 [(0, zR 0 0), (1, zI q.1)] [] q.2) (Sum.elim (fun e4 : zG => zX zsyM m_X12_someParts K 22 [(0, zR 0 0)] [] e4) (Sum.elim (fun e6 : zG => zX zsyM m_X12_someParts K 35 [] [] e6) (fun e7 : zG => zX zsyM m_X12_someParts K 43 [(0, zR 0 0)] [] e7))) hn hf ?_ ?_
    · intro b hf
      cases b with
      | inl e4 =>
        dsimp only [Sum.elim_inl, Sum.elim_inr] at hf ⊢
        refine z_aload_n (pc := 22) 0 (zdg D_X12_someParts 11 (22, .aload_n 0, 1) rfl) rfl rfl ?_
        refine z_iconst (pc := 23) (v := 3) (zdg D_X12_someParts 12 (23, .iconst 3, 1) rfl) rfl ?_
        refine z_callV (pc := 24) (rest := []) (st2 := [zI ((f_X12_bad (3 : Int32) e4).1)]) (fun l => c_X12_bad l (3 : Int32) e4) zv_X12_bad lm_X12_181 rfl rfl rfl rfl rfl rfl (Nat.le_of_ble_eq_true rfl) ⟨Nat.le_of_ble_eq_true rfl, Nat.le_of_ble_eq_true rfl⟩ (zdg D_X12_someParts 13 (24, .invokevirtual 181, 3) rfl) ?_
        refine z_nmWI hf (fun q5 hf => ?_)
        exact z_zret (pc := 27) rfl (zdg D_X12_someParts 14 (27, .ireturn, 1) rfl) hn hf (fun hf => (hP _ _ hf))
      | inr b =>
        dsimp only [Sum.elim_inl, Sum.elim_inr] at hf ⊢
        revert hf
        revert b
        intro b hf
        cases b with
        | inl e6 =>
          dsimp only [Sum.elim_inl, Sum.elim_inr] at hf ⊢
          refine z_iconst (pc := 35) (v := 0) (zdg D_X12_someParts 18 (35, .iconst 0, 1) rfl) rfl ?_
          exact z_iret (pc := 36) rfl rfl (zdg D_X12_someParts 19 (36, .ireturn, 1) rfl) (hP _ _ hf)
        | inr b =>
          dsimp only [Sum.elim_inl, Sum.elim_inr] at hf ⊢
          revert hf
          revert b
          intro e7 hf
          refine z_aload_n (pc := 43) 0 (zdg D_X12_someParts 22 (43, .aload_n 0, 1) rfl) rfl rfl ?_
          refine z_sipush (pc := 44) (v := 159) (zdg D_X12_someParts 23 (44, .sipush 159, 3) rfl) rfl ?_
          refine z_bind hn hf (fun q8 hq hf => ?_)
          refine z_callV (pc := 47) (rest := []) (st2 := [zI q8.1]) (fun l => c_X12_need l (159 : Int32) e7 q8 hq) zv_X12_need lm_X12_215 rfl rfl rfl rfl rfl rfl (Nat.le_of_ble_eq_true rfl) ⟨Nat.le_of_ble_eq_true rfl, Nat.le_of_ble_eq_true rfl⟩ (zdg D_X12_someParts 24 (47, .invokevirtual 215, 3) rfl) ?_
          exact z_zret (pc := 50) rfl (zdg D_X12_someParts 25 (50, .ireturn, 1) rfl) hn hf (fun hf => (hP _ _ hf))
    · rintro ⟨v1_1, s2⟩ hn hi hx
      have hf := b_X12_someParts_2.eq_1  v1_1 s2
      refine z_aload_n (pc := 2) 0 (zdg D_X12_someParts 2 (2, .aload_n 0, 1) rfl) rfl rfl ?_
      refine z_getI (pc := 3) lf_X12_159 rfl rfl (zdg D_X12_someParts 3 (3, .getfield 159, 3) rfl) ?_
      refine z_bipush (pc := 6) (v := 11) (zdg D_X12_someParts 4 (6, .bipush 11, 2) rfl) rfl ?_
      refine z_bipush (pc := 8) (v := 15) (zdg D_X12_someParts 5 (8, .bipush 15, 2) rfl) rfl ?_
      refine z_callS (pc := 10) (rest := []) (st2 := [zI (f_X12_isIn (s2.1 0 0 18) (11 : Int32) (15 : Int32))]) (fun l => c_X12_isIn l (s2.1 0 0 18) (11 : Int32) (15 : Int32) s2) zs_X12_isIn lm_X12_64 rfl rfl rfl (Nat.le_of_ble_eq_true rfl) ⟨Nat.le_of_ble_eq_true rfl, Nat.le_of_ble_eq_true rfl⟩ (zdg D_X12_someParts 6 (10, .invokestatic 64, 3) rfl) ?_
      refine z_if_eq (pc := 13) 43 (zdg D_X12_someParts 7 (13, .ifCond .eq 30, 3) rfl) rfl hf (fun hf => ?_) (fun hf => ?_)
      · refine z_sub (al' := [(0, zR 0 0)]) [0] rfl ?_
        exact hx (Sum.inr (Sum.inr s2)) hf
      · refine z_iload_n (pc := 16) 1 (zdg D_X12_someParts 8 (16, .iload_n 1, 1) rfl) rfl rfl ?_
        refine z_bipush (pc := 17) (v := 8) (zdg D_X12_someParts 9 (17, .bipush 8, 2) rfl) rfl ?_
        refine z_icmp_ne (pc := 19) 28 (zdg D_X12_someParts 10 (19, .if_icmp .ne 9, 3) rfl) rfl hf (fun hf => ?_) (fun hf => ?_)
        · refine z_aload_n (pc := 28) 0 (zdg D_X12_someParts 15 (28, .aload_n 0, 1) rfl) rfl rfl ?_
          refine z_bind hn hf (fun q3 hq hf => ?_)
          refine z_callV (pc := 29) (rest := []) (st2 := [zI q3.1]) (fun l => c_X12_aPart l s2 q3 hq) zv_X12_aPart lm_X12_253 rfl rfl rfl rfl rfl rfl (Nat.le_of_ble_eq_true rfl) ⟨Nat.le_of_ble_eq_true rfl, Nat.le_of_ble_eq_true rfl⟩ (zdg D_X12_someParts 16 (29, .invokevirtual 253, 3) rfl) ?_
          refine z_if_ne (pc := 32) 37 (zdg D_X12_someParts 17 (32, .ifCond .ne 5, 3) rfl) rfl hf (fun hf => ?_) (fun hf => ?_)
          · refine z_iinc (pc := 37) (v0 := (v1_1 + 1)) (al' := [(1, zI (v1_1 + 1)), (0, zR 0 0)]) 1 (zdg D_X12_someParts 20 (37, .iinc 1 1, 3) rfl) rfl rfl (by decide) rfl ?_
            refine z_goto (pc := 40) 2 (zdg D_X12_someParts 21 (40, .goto (-38), 3) rfl) rfl ?_
            refine z_sub (al' := [(0, zR 0 0), (1, zI (v1_1 + 1))]) [1, 0] rfl ?_
            exact hi ((v1_1 + 1), q3.2) hf
          · refine z_sub (al' := []) [] rfl ?_
            exact hx (Sum.inr (Sum.inl q3.2)) hf
        · refine z_sub (al' := [(0, zR 0 0)]) [0] rfl ?_
          exact hx (Sum.inl s2) hf
