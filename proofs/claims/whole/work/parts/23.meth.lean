/-! METHODS, by program: functions and contracts -/
def L_X4_addWaiting : List (Nat × Instr × Nat) := [(0, .iload_n 1, 1), (1, .ifCond .eq 12, 3), (4, .aload_n 0, 1), (5, .getfield 21, 3), (8, .iload_n 1, 1), (9, .iconst 0, 1), (10, .invokevirtual 135, 3), (13, .return_, 1)]
set_option maxRecDepth 100000 in
theorem D_X4_addWaiting : zdecs cX4_addWaiting L_X4_addWaiting = true := by decide +kernel
noncomputable def f_X4_addWaiting (p1 : Int32) (σ : zG) : Option (zG) :=
  if p1 = 0 then some σ else (f_X3_add 2 p1 (0 : Int32) σ).bind (fun q1 => some q1)
set_option maxRecDepth 100000 in
set_option maxHeartbeats 4000000 in
theorem c_X4_addWaiting (l : Launch) (p1 : Int32) (σ : zG) (q : zG) (hq : f_X4_addWaiting p1 σ = some q) : zMet l zsyC m_X4_addWaiting yX4_addWaiting [zR 4 0, zI p1] σ none q := by
  refine zEnter [(0, zR 4 0), (1, zI p1)] (by decide) rfl (fun _ => Nat.le_of_ble_eq_true rfl) (fun _ => rfl) (fun w h => ?_) (fun K hv hs => ?_)
  · exact zokm rfl h
  · have hP : ∀ s, f_X4_addWaiting p1 σ = some s → zKv K = none ∧ zKs K = s := fun s h => by rw [hq] at h; cases h; exact ⟨hv, hs⟩
    have hn : f_X4_addWaiting p1 σ ≠ none := fun z => by rw [hq] at z; cases z
    have hf := f_X4_addWaiting.eq_1 p1 σ
    refine z_iload_n (pc := 0) 1 (zdg D_X4_addWaiting 0 (0, .iload_n 1, 1) rfl) rfl rfl ?_
    refine z_if_eq (pc := 1) 13 (zdg D_X4_addWaiting 1 (1, .ifCond .eq 12, 3) rfl) rfl hf (fun hf => ?_) (fun hf => ?_)
    · exact z_vret (pc := 13) rfl (zdg D_X4_addWaiting 7 (13, .return_, 1) rfl) (hP _ hf)
    · refine z_aload_n (pc := 4) 0 (zdg D_X4_addWaiting 2 (4, .aload_n 0, 1) rfl) rfl rfl ?_
      refine z_getR (pc := 5) (g := 10) (j := 2) lf_X4_21 rfl rfl rfl (zdg D_X4_addWaiting 3 (5, .getfield 21, 3) rfl) ?_
      refine z_iload_n (pc := 8) 1 (zdg D_X4_addWaiting 4 (8, .iload_n 1, 1) rfl) rfl rfl ?_
      refine z_iconst (pc := 9) (v := 0) (zdg D_X4_addWaiting 5 (9, .iconst 0, 1) rfl) rfl ?_
      refine z_bind hn hf (fun q1 hq hf => ?_)
      refine z_callV (pc := 10) (rest := []) (st2 := []) (fun l => c_X3_add l 2 p1 (0 : Int32) σ q1 hq) zv_X3_add lm_X4_135 rfl rfl rfl rfl rfl rfl (Nat.le_of_ble_eq_true rfl) ⟨Nat.le_of_ble_eq_true rfl, Nat.le_of_ble_eq_true rfl⟩ (zdg D_X4_addWaiting 6 (10, .invokevirtual 135, 3) rfl) ?_
      exact z_vret (pc := 13) rfl (zdg D_X4_addWaiting 7 (13, .return_, 1) rfl) (hP _ hf)

def L_X4_readSum : List (Nat × Instr × Nat) := [(0, .iconst 0, 1), (1, .istore_n 1, 1), (2, .aload_n 0, 1), (3, .invokevirtual 141, 3), (6, .istore_n 2, 1), (7, .iconst 0, 1), (8, .istore_n 3, 1), (9, .iload_n 3, 1), (10, .sipush 400, 3), (13, .if_icmp .gt 114, 3), (16, .iload_n 2, 1), (17, .ifCond .eq 110, 3), (20, .aload_n 0, 1), (21, .getfield 54, 3), (24, .invokestatic 144, 3), (27, .ifCond .eq 100, 3), (30, .aload_n 0, 1), (31, .getfield 54, 3), (34, .istore 4, 2), (36, .aload_n 0, 1), (37, .invokevirtual 44, 3), (40, .iload 4, 2), (42, .bipush 47, 2), (44, .if_icmp .ne 39, 3), (47, .aload_n 0, 1), (48, .iconst 1, 1), (49, .sipush 9999, 3), (52, .invokevirtual 80, 3), (55, .istore 5, 2), (57, .aload_n 0, 1), (58, .getfield 21, 3), (61, .bipush 47, 2), (63, .iload 5, 2), (65, .invokevirtual 135, 3), (68, .iload 5, 2), (70, .iconst (-1), 1), (71, .if_icmp .eq 7, 3), (74, .iconst 1, 1), (75, .goto 4, 3), (78, .iconst 0, 1), (79, .istore_n 2, 1), (80, .goto 41, 3), (83, .iload 4, 2), (85, .bipush 42, 2), (87, .if_icmp .ne 21, 3), (90, .aload_n 0, 1), (91, .invokevirtual 141, 3), (94, .istore_n 2, 1), (95, .aload_n 0, 1), (96, .getfield 21, 3), (99, .bipush 42, 2), (101, .iconst 0, 1), (102, .invokevirtual 135, 3), (105, .goto 16, 3), (108, .aload_n 0, 1), (109, .iload_n 1, 1), (110, .invokevirtual 147, 3), (113, .iload 4, 2), (115, .istore_n 1, 1), (116, .aload_n 0, 1), (117, .invokevirtual 141, 3), (120, .istore_n 2, 1), (121, .iinc 3 1, 3), (124, .goto (-115), 3), (127, .aload_n 0, 1), (128, .iload_n 1, 1), (129, .invokevirtual 147, 3), (132, .iload_n 2, 1), (133, .ireturn, 1)]
set_option maxRecDepth 100000 in
theorem D_X4_readSum : zdecs cX4_readSum L_X4_readSum = true := by decide +kernel
noncomputable def b_X4_readSum_9  (v1_2 : Int32) (v2_3 : Int32) (v3_4 : Int32) (s5 : zG) : Option ((Int32 × Int32 × Int32 × zG) ⊕ (Int32 × Int32 × zG)) :=
  if v3_4 ≤ (400 : Int32) then if v2_3 = 0 then some (Sum.inr (v1_2, v2_3, s5)) else if (f_X4_isReckoning (s5.1 4 0 8)) = 0 then some (Sum.inr (v1_2, v2_3, s5)) else (f_X4_advance s5).bind (fun q6 => if (s5.1 4 0 8) = (47 : Int32) then (f_X4_readNumber (1 : Int32) (9999 : Int32) q6).bind (fun q11 => (f_X3_add 2 (47 : Int32) q11.1 q11.2).bind (fun q12 => if q11.1 = (-1 : Int32) then some (Sum.inl (v1_2, (0 : Int32), (v3_4 + 1), q12)) else some (Sum.inl (v1_2, (1 : Int32), (v3_4 + 1), q12)))) else if (s5.1 4 0 8) = (42 : Int32) then (f_X4_readUnit q6).bind (fun q9 => (f_X3_add 2 (42 : Int32) (0 : Int32) q9.2).bind (fun q10 => some (Sum.inl (v1_2, q9.1, (v3_4 + 1), q10)))) else (f_X4_addWaiting v1_2 q6).bind (fun q7 => (f_X4_readUnit q7).bind (fun q8 => some (Sum.inl ((s5.1 4 0 8), q8.1, (v3_4 + 1), q8.2))))) else some (Sum.inr (v1_2, v2_3, s5))
noncomputable def f_X4_readSum (σ : zG) : Option (Int32 × zG) :=
  (f_X4_readUnit σ).bind (fun q1 => (zlp (fun q : Int32 × Int32 × Int32 × zG => b_X4_readSum_9 q.1 q.2.1 q.2.2.1 q.2.2.2) ((0 : Int32), q1.1, (0 : Int32), q1.2)).bind (fun e13 : Int32 × Int32 × zG => (f_X4_addWaiting e13.1 e13.2.2).bind (fun q14 => zg (zbl e13.2.1) (some (e13.2.1, q14)))))
set_option maxRecDepth 100000 in
set_option maxHeartbeats 4000000 in
theorem c_X4_readSum (l : Launch)  (σ : zG) (q : Int32 × zG) (hq : f_X4_readSum σ = some q) : zMet l zsyC m_X4_readSum yX4_readSum [zR 4 0] σ (some (zI q.1)) q.2 := by
  refine zEnter [(0, zR 4 0)] (by decide) rfl (fun _ => Nat.le_of_ble_eq_true rfl) (fun _ => rfl) (fun w h => ?_) (fun K hv hs => ?_)
  · exact zokm rfl h
  · have hP : ∀ x s, f_X4_readSum σ = some (x, s) → zKv K = some (zI x) ∧ zKs K = s := fun x s h => by rw [hq] at h; cases h; exact ⟨hv, hs⟩
    have hn : f_X4_readSum σ ≠ none := fun z => by rw [hq] at z; cases z
    have hf := f_X4_readSum.eq_1 σ
    refine z_iconst (pc := 0) (v := 0) (zdg D_X4_readSum 0 (0, .iconst 0, 1) rfl) rfl ?_
    refine z_istore_n (pc := 1) (al' := [(1, zI (0 : Int32)), (0, zR 4 0)]) (zdg D_X4_readSum 1 (1, .istore_n 1, 1) rfl) rfl (by decide) rfl ?_
    refine z_aload_n (pc := 2) 1 (zdg D_X4_readSum 2 (2, .aload_n 0, 1) rfl) rfl rfl ?_
    refine z_bind hn hf (fun q1 hq hf => ?_)
    refine z_callV (pc := 3) (rest := []) (st2 := [zI q1.1]) (fun l => c_X4_readUnit l σ q1 hq) zv_X4_readUnit lm_X4_141 rfl rfl rfl rfl rfl rfl (Nat.le_of_ble_eq_true rfl) ⟨Nat.le_of_ble_eq_true rfl, Nat.le_of_ble_eq_true rfl⟩ (zdg D_X4_readSum 3 (3, .invokevirtual 141, 3) rfl) ?_
    refine z_istore_n (pc := 6) (al' := [(2, zI q1.1), (1, zI (0 : Int32)), (0, zR 4 0)]) (zdg D_X4_readSum 4 (6, .istore_n 2, 1) rfl) rfl (by decide) rfl ?_
    refine z_iconst (pc := 7) (v := 0) (zdg D_X4_readSum 5 (7, .iconst 0, 1) rfl) rfl ?_
    refine z_istore_n (pc := 8) (al' := [(3, zI (0 : Int32)), (2, zI q1.1), (1, zI (0 : Int32)), (0, zR 4 0)]) (zdg D_X4_readSum 6 (8, .istore_n 3, 1) rfl) rfl (by decide) rfl ?_
    refine z_sub (al' := [(0, zR 4 0), (1, zI (0 : Int32)), (2, zI q1.1), (3, zI (0 : Int32))]) [3, 2, 1, 0] rfl ?_
    refine z_loop (f := (fun q : Int32 × Int32 × Int32 × zG => b_X4_readSum_9 q.1 q.2.1 q.2.2.1 q.2.2.2)) (a := ((0 : Int32), q1.1, (0 : Int32), q1.2)) (fun q : Int32 × Int32 × Int32 × zG => zX zsyC m_X4_readSum K 9 [(0, zR 4 0), (1, zI q.1), (2, zI q.2.1), (3, zI q.2.2.1)] [] q.2.2.2) (fun e13 : Int32 × Int32 × zG => zX zsyC m_X4_readSum K 127 [(0, zR 4 0), (1, zI e13.1), (2, zI e13.2.1)] [] e13.2.2) hn hf ?_ ?_
    · intro e13 hf
      refine z_aload_n (pc := 127) 0 (zdg D_X4_readSum 64 (127, .aload_n 0, 1) rfl) rfl rfl ?_
      refine z_iload_n (pc := 128) 1 (zdg D_X4_readSum 65 (128, .iload_n 1, 1) rfl) rfl rfl ?_
      refine z_bind hn hf (fun q14 hq hf => ?_)
      refine z_callV (pc := 129) (rest := []) (st2 := []) (fun l => c_X4_addWaiting l e13.1 e13.2.2 q14 hq) zv_X4_addWaiting lm_X4_147 rfl rfl rfl rfl rfl rfl (Nat.le_of_ble_eq_true rfl) ⟨Nat.le_of_ble_eq_true rfl, Nat.le_of_ble_eq_true rfl⟩ (zdg D_X4_readSum 66 (129, .invokevirtual 147, 3) rfl) ?_
      refine z_iload_n (pc := 132) 2 (zdg D_X4_readSum 67 (132, .iload_n 2, 1) rfl) rfl rfl ?_
      exact z_zret (pc := 133) rfl (zdg D_X4_readSum 68 (133, .ireturn, 1) rfl) hn hf (fun hf => (hP _ _ hf))
    · rintro ⟨v1_2, v2_3, v3_4, s5⟩ hn hi hx
      have hf := b_X4_readSum_9.eq_1  v1_2 v2_3 v3_4 s5
      refine z_iload_n (pc := 9) 3 (zdg D_X4_readSum 7 (9, .iload_n 3, 1) rfl) rfl rfl ?_
      refine z_sipush (pc := 10) (v := 400) (zdg D_X4_readSum 8 (10, .sipush 400, 3) rfl) rfl ?_
      refine z_icmp_gt (pc := 13) 127 (zdg D_X4_readSum 9 (13, .if_icmp .gt 114, 3) rfl) rfl hf (fun hf => ?_) (fun hf => ?_)
      · refine z_sub (al' := [(0, zR 4 0), (1, zI v1_2), (2, zI v2_3)]) [0, 1, 2] rfl ?_
        exact hx (v1_2, v2_3, s5) hf
      · refine z_iload_n (pc := 16) 2 (zdg D_X4_readSum 10 (16, .iload_n 2, 1) rfl) rfl rfl ?_
        refine z_if_eq (pc := 17) 127 (zdg D_X4_readSum 11 (17, .ifCond .eq 110, 3) rfl) rfl hf (fun hf => ?_) (fun hf => ?_)
        · refine z_sub (al' := [(0, zR 4 0), (1, zI v1_2), (2, zI v2_3)]) [0, 1, 2] rfl ?_
          exact hx (v1_2, v2_3, s5) hf
        · refine z_aload_n (pc := 20) 0 (zdg D_X4_readSum 12 (20, .aload_n 0, 1) rfl) rfl rfl ?_
          refine z_getI (pc := 21) lf_X4_54 rfl rfl (zdg D_X4_readSum 13 (21, .getfield 54, 3) rfl) ?_
          refine z_callS (pc := 24) (rest := []) (st2 := [zI (f_X4_isReckoning (s5.1 4 0 8))]) (fun l => c_X4_isReckoning l (s5.1 4 0 8) s5) zs_X4_isReckoning lm_X4_144 rfl rfl rfl (Nat.le_of_ble_eq_true rfl) ⟨Nat.le_of_ble_eq_true rfl, Nat.le_of_ble_eq_true rfl⟩ (zdg D_X4_readSum 14 (24, .invokestatic 144, 3) rfl) ?_
          refine z_if_eq (pc := 27) 127 (zdg D_X4_readSum 15 (27, .ifCond .eq 100, 3) rfl) rfl hf (fun hf => ?_) (fun hf => ?_)
          · refine z_sub (al' := [(0, zR 4 0), (1, zI v1_2), (2, zI v2_3)]) [0, 1, 2] rfl ?_
            exact hx (v1_2, v2_3, s5) hf
          · refine z_aload_n (pc := 30) 0 (zdg D_X4_readSum 16 (30, .aload_n 0, 1) rfl) rfl rfl ?_
            refine z_getI (pc := 31) lf_X4_54 rfl rfl (zdg D_X4_readSum 17 (31, .getfield 54, 3) rfl) ?_
            refine z_istore (pc := 34) (al' := [(4, zI (s5.1 4 0 8)), (0, zR 4 0), (1, zI v1_2), (2, zI v2_3), (3, zI v3_4)]) (zdg D_X4_readSum 18 (34, .istore 4, 2) rfl) (by decide) rfl ?_
            refine z_aload_n (pc := 36) 1 (zdg D_X4_readSum 19 (36, .aload_n 0, 1) rfl) rfl rfl ?_
            refine z_bind hn hf (fun q6 hq hf => ?_)
            refine z_callV (pc := 37) (rest := []) (st2 := []) (fun l => c_X4_advance l s5 q6 hq) zv_X4_advance lm_X4_44 rfl rfl rfl rfl rfl rfl (Nat.le_of_ble_eq_true rfl) ⟨Nat.le_of_ble_eq_true rfl, Nat.le_of_ble_eq_true rfl⟩ (zdg D_X4_readSum 20 (37, .invokevirtual 44, 3) rfl) ?_
            refine z_iload (pc := 40) 0 (zdg D_X4_readSum 21 (40, .iload 4, 2) rfl) rfl ?_
            refine z_bipush (pc := 42) (v := 47) (zdg D_X4_readSum 22 (42, .bipush 47, 2) rfl) rfl ?_
            refine z_icmp_ne (pc := 44) 83 (zdg D_X4_readSum 23 (44, .if_icmp .ne 39, 3) rfl) rfl hf (fun hf => ?_) (fun hf => ?_)
            · refine z_iload (pc := 83) 0 (zdg D_X4_readSum 42 (83, .iload 4, 2) rfl) rfl ?_
              refine z_bipush (pc := 85) (v := 42) (zdg D_X4_readSum 43 (85, .bipush 42, 2) rfl) rfl ?_
              refine z_icmp_ne (pc := 87) 108 (zdg D_X4_readSum 44 (87, .if_icmp .ne 21, 3) rfl) rfl hf (fun hf => ?_) (fun hf => ?_)
              · refine z_aload_n (pc := 108) 1 (zdg D_X4_readSum 54 (108, .aload_n 0, 1) rfl) rfl rfl ?_
                refine z_iload_n (pc := 109) 2 (zdg D_X4_readSum 55 (109, .iload_n 1, 1) rfl) rfl rfl ?_
                refine z_bind hn hf (fun q7 hq hf => ?_)
                refine z_callV (pc := 110) (rest := []) (st2 := []) (fun l => c_X4_addWaiting l v1_2 q6 q7 hq) zv_X4_addWaiting lm_X4_147 rfl rfl rfl rfl rfl rfl (Nat.le_of_ble_eq_true rfl) ⟨Nat.le_of_ble_eq_true rfl, Nat.le_of_ble_eq_true rfl⟩ (zdg D_X4_readSum 56 (110, .invokevirtual 147, 3) rfl) ?_
                refine z_iload (pc := 113) 0 (zdg D_X4_readSum 57 (113, .iload 4, 2) rfl) rfl ?_
                refine z_istore_n (pc := 115) (al' := [(1, zI (s5.1 4 0 8)), (4, zI (s5.1 4 0 8)), (0, zR 4 0), (2, zI v2_3), (3, zI v3_4)]) (zdg D_X4_readSum 58 (115, .istore_n 1, 1) rfl) rfl (by decide) rfl ?_
                refine z_aload_n (pc := 116) 2 (zdg D_X4_readSum 59 (116, .aload_n 0, 1) rfl) rfl rfl ?_
                refine z_bind hn hf (fun q8 hq hf => ?_)
                refine z_callV (pc := 117) (rest := []) (st2 := [zI q8.1]) (fun l => c_X4_readUnit l q7 q8 hq) zv_X4_readUnit lm_X4_141 rfl rfl rfl rfl rfl rfl (Nat.le_of_ble_eq_true rfl) ⟨Nat.le_of_ble_eq_true rfl, Nat.le_of_ble_eq_true rfl⟩ (zdg D_X4_readSum 60 (117, .invokevirtual 141, 3) rfl) ?_
                refine z_istore_n (pc := 120) (al' := [(2, zI q8.1), (1, zI (s5.1 4 0 8)), (4, zI (s5.1 4 0 8)), (0, zR 4 0), (3, zI v3_4)]) (zdg D_X4_readSum 61 (120, .istore_n 2, 1) rfl) rfl (by decide) rfl ?_
                refine z_iinc (pc := 121) (v0 := (v3_4 + 1)) (al' := [(3, zI (v3_4 + 1)), (2, zI q8.1), (1, zI (s5.1 4 0 8)), (4, zI (s5.1 4 0 8)), (0, zR 4 0)]) 4 (zdg D_X4_readSum 62 (121, .iinc 3 1, 3) rfl) rfl rfl (by decide) rfl ?_
                refine z_goto (pc := 124) 9 (zdg D_X4_readSum 63 (124, .goto (-115), 3) rfl) rfl ?_
                refine z_sub (al' := [(0, zR 4 0), (1, zI (s5.1 4 0 8)), (2, zI q8.1), (3, zI (v3_4 + 1))]) [4, 2, 1, 0] rfl ?_
                exact hi ((s5.1 4 0 8), q8.1, (v3_4 + 1), q8.2) hf
              · refine z_aload_n (pc := 90) 1 (zdg D_X4_readSum 45 (90, .aload_n 0, 1) rfl) rfl rfl ?_
                refine z_bind hn hf (fun q9 hq hf => ?_)
                refine z_callV (pc := 91) (rest := []) (st2 := [zI q9.1]) (fun l => c_X4_readUnit l q6 q9 hq) zv_X4_readUnit lm_X4_141 rfl rfl rfl rfl rfl rfl (Nat.le_of_ble_eq_true rfl) ⟨Nat.le_of_ble_eq_true rfl, Nat.le_of_ble_eq_true rfl⟩ (zdg D_X4_readSum 46 (91, .invokevirtual 141, 3) rfl) ?_
                refine z_istore_n (pc := 94) (al' := [(2, zI q9.1), (4, zI (s5.1 4 0 8)), (0, zR 4 0), (1, zI v1_2), (3, zI v3_4)]) (zdg D_X4_readSum 47 (94, .istore_n 2, 1) rfl) rfl (by decide) rfl ?_
                refine z_aload_n (pc := 95) 2 (zdg D_X4_readSum 48 (95, .aload_n 0, 1) rfl) rfl rfl ?_
                refine z_getR (pc := 96) (g := 10) (j := 2) lf_X4_21 rfl rfl rfl (zdg D_X4_readSum 49 (96, .getfield 21, 3) rfl) ?_
                refine z_bipush (pc := 99) (v := 42) (zdg D_X4_readSum 50 (99, .bipush 42, 2) rfl) rfl ?_
                refine z_iconst (pc := 101) (v := 0) (zdg D_X4_readSum 51 (101, .iconst 0, 1) rfl) rfl ?_
                refine z_bind hn hf (fun q10 hq hf => ?_)
                refine z_callV (pc := 102) (rest := []) (st2 := []) (fun l => c_X3_add l 2 (42 : Int32) (0 : Int32) q9.2 q10 hq) zv_X3_add lm_X4_135 rfl rfl rfl rfl rfl rfl (Nat.le_of_ble_eq_true rfl) ⟨Nat.le_of_ble_eq_true rfl, Nat.le_of_ble_eq_true rfl⟩ (zdg D_X4_readSum 52 (102, .invokevirtual 135, 3) rfl) ?_
                refine z_goto (pc := 105) 121 (zdg D_X4_readSum 53 (105, .goto 16, 3) rfl) rfl ?_
                refine z_iinc (pc := 121) (v0 := (v3_4 + 1)) (al' := [(3, zI (v3_4 + 1)), (2, zI q9.1), (4, zI (s5.1 4 0 8)), (0, zR 4 0), (1, zI v1_2)]) 4 (zdg D_X4_readSum 62 (121, .iinc 3 1, 3) rfl) rfl rfl (by decide) rfl ?_
                refine z_goto (pc := 124) 9 (zdg D_X4_readSum 63 (124, .goto (-115), 3) rfl) rfl ?_
                refine z_sub (al' := [(0, zR 4 0), (1, zI v1_2), (2, zI q9.1), (3, zI (v3_4 + 1))]) [3, 4, 1, 0] rfl ?_
                exact hi (v1_2, q9.1, (v3_4 + 1), q10) hf
            · refine z_aload_n (pc := 47) 1 (zdg D_X4_readSum 24 (47, .aload_n 0, 1) rfl) rfl rfl ?_
              refine z_iconst (pc := 48) (v := 1) (zdg D_X4_readSum 25 (48, .iconst 1, 1) rfl) rfl ?_
              refine z_sipush (pc := 49) (v := 9999) (zdg D_X4_readSum 26 (49, .sipush 9999, 3) rfl) rfl ?_
              refine z_bind hn hf (fun q11 hq hf => ?_)
              refine z_callV (pc := 52) (rest := []) (st2 := [zI q11.1]) (fun l => c_X4_readNumber l (1 : Int32) (9999 : Int32) q6 q11 hq) zv_X4_readNumber lm_X4_80 rfl rfl rfl rfl rfl rfl (Nat.le_of_ble_eq_true rfl) ⟨Nat.le_of_ble_eq_true rfl, Nat.le_of_ble_eq_true rfl⟩ (zdg D_X4_readSum 27 (52, .invokevirtual 80, 3) rfl) ?_
              refine z_istore (pc := 55) (al' := [(5, zI q11.1), (4, zI (s5.1 4 0 8)), (0, zR 4 0), (1, zI v1_2), (2, zI v2_3), (3, zI v3_4)]) (zdg D_X4_readSum 28 (55, .istore 5, 2) rfl) (by decide) rfl ?_
              refine z_aload_n (pc := 57) 2 (zdg D_X4_readSum 29 (57, .aload_n 0, 1) rfl) rfl rfl ?_
              refine z_getR (pc := 58) (g := 10) (j := 2) lf_X4_21 rfl rfl rfl (zdg D_X4_readSum 30 (58, .getfield 21, 3) rfl) ?_
              refine z_bipush (pc := 61) (v := 47) (zdg D_X4_readSum 31 (61, .bipush 47, 2) rfl) rfl ?_
              refine z_iload (pc := 63) 0 (zdg D_X4_readSum 32 (63, .iload 5, 2) rfl) rfl ?_
              refine z_bind hn hf (fun q12 hq hf => ?_)
              refine z_callV (pc := 65) (rest := []) (st2 := []) (fun l => c_X3_add l 2 (47 : Int32) q11.1 q11.2 q12 hq) zv_X3_add lm_X4_135 rfl rfl rfl rfl rfl rfl (Nat.le_of_ble_eq_true rfl) ⟨Nat.le_of_ble_eq_true rfl, Nat.le_of_ble_eq_true rfl⟩ (zdg D_X4_readSum 33 (65, .invokevirtual 135, 3) rfl) ?_
              refine z_iload (pc := 68) 0 (zdg D_X4_readSum 34 (68, .iload 5, 2) rfl) rfl ?_
              refine z_iconst (pc := 70) (v := -1) (zdg D_X4_readSum 35 (70, .iconst (-1), 1) rfl) rfl ?_
              refine z_icmp_eq (pc := 71) 78 (zdg D_X4_readSum 36 (71, .if_icmp .eq 7, 3) rfl) rfl hf (fun hf => ?_) (fun hf => ?_)
              · refine z_iconst (pc := 78) (v := 0) (zdg D_X4_readSum 39 (78, .iconst 0, 1) rfl) rfl ?_
                refine z_istore_n (pc := 79) (al' := [(2, zI (0 : Int32)), (5, zI q11.1), (4, zI (s5.1 4 0 8)), (0, zR 4 0), (1, zI v1_2), (3, zI v3_4)]) (zdg D_X4_readSum 40 (79, .istore_n 2, 1) rfl) rfl (by decide) rfl ?_
                refine z_goto (pc := 80) 121 (zdg D_X4_readSum 41 (80, .goto 41, 3) rfl) rfl ?_
                refine z_iinc (pc := 121) (v0 := (v3_4 + 1)) (al' := [(3, zI (v3_4 + 1)), (2, zI (0 : Int32)), (5, zI q11.1), (4, zI (s5.1 4 0 8)), (0, zR 4 0), (1, zI v1_2)]) 5 (zdg D_X4_readSum 62 (121, .iinc 3 1, 3) rfl) rfl rfl (by decide) rfl ?_
                refine z_goto (pc := 124) 9 (zdg D_X4_readSum 63 (124, .goto (-115), 3) rfl) rfl ?_
                refine z_sub (al' := [(0, zR 4 0), (1, zI v1_2), (2, zI (0 : Int32)), (3, zI (v3_4 + 1))]) [4, 5, 1, 0] rfl ?_
                exact hi (v1_2, (0 : Int32), (v3_4 + 1), q12) hf
              · refine z_iconst (pc := 74) (v := 1) (zdg D_X4_readSum 37 (74, .iconst 1, 1) rfl) rfl ?_
                refine z_goto (pc := 75) 79 (zdg D_X4_readSum 38 (75, .goto 4, 3) rfl) rfl ?_
                refine z_istore_n (pc := 79) (al' := [(2, zI (1 : Int32)), (5, zI q11.1), (4, zI (s5.1 4 0 8)), (0, zR 4 0), (1, zI v1_2), (3, zI v3_4)]) (zdg D_X4_readSum 40 (79, .istore_n 2, 1) rfl) rfl (by decide) rfl ?_
                refine z_goto (pc := 80) 121 (zdg D_X4_readSum 41 (80, .goto 41, 3) rfl) rfl ?_
                refine z_iinc (pc := 121) (v0 := (v3_4 + 1)) (al' := [(3, zI (v3_4 + 1)), (2, zI (1 : Int32)), (5, zI q11.1), (4, zI (s5.1 4 0 8)), (0, zR 4 0), (1, zI v1_2)]) 5 (zdg D_X4_readSum 62 (121, .iinc 3 1, 3) rfl) rfl rfl (by decide) rfl ?_
                refine z_goto (pc := 124) 9 (zdg D_X4_readSum 63 (124, .goto (-115), 3) rfl) rfl ?_
                refine z_sub (al' := [(0, zR 4 0), (1, zI v1_2), (2, zI (1 : Int32)), (3, zI (v3_4 + 1))]) [4, 5, 1, 0] rfl ?_
                exact hi (v1_2, (1 : Int32), (v3_4 + 1), q12) hf

def L_X4_readOpened : List (Nat × Instr × Nat) := [(0, .aload_n 0, 1), (1, .getfield 54, 3), (4, .bipush 113, 2), (6, .if_icmp .ne 7, 3), (9, .iconst 1, 1), (10, .goto 4, 3), (13, .iconst 0, 1), (14, .istore_n 2, 1), (15, .aload_n 0, 1), (16, .invokevirtual 44, 3), (19, .iload_n 2, 1), (20, .ifCond .ne 26, 3), (23, .aload_n 0, 1), (24, .iload_n 1, 1), (25, .invokevirtual 125, 3), (28, .ifCond .eq 16, 3), (31, .aload_n 0, 1), (32, .bipush 41, 2), (34, .invokevirtual 84, 3), (37, .ifCond .eq 7, 3), (40, .iconst 1, 1), (41, .goto 4, 3), (44, .iconst 0, 1), (45, .ireturn, 1), (46, .aload_n 0, 1), (47, .iload_n 1, 1), (48, .invokevirtual 132, 3), (51, .istore_n 3, 1), (52, .aload_n 0, 1), (53, .getfield 21, 3), (56, .bipush 113, 2), (58, .iconst 0, 1), (59, .invokevirtual 135, 3), (62, .iload_n 3, 1), (63, .ireturn, 1)]
set_option maxRecDepth 100000 in
theorem D_X4_readOpened : zdecs cX4_readOpened L_X4_readOpened = true := by decide +kernel
noncomputable def j_X4_readOpened_14 (r_X4_readEither : Int32 → zG → Option (Int32 × zG)) (p1 : Int32) (r_X4_readTest : Int32 → zG → Option (Int32 × zG)) (t1 : Int32) (s2 : zG) : Option (Int32 × zG) :=
  (f_X4_advance s2).bind (fun q3 => if t1 = 0 then (r_X4_readEither p1 q3).bind (fun q6 => if q6.1 = 0 then some ((0 : Int32), q6.2) else (f_X4_pass (41 : Int32) q6.2).bind (fun q7 => if q7.1 = 0 then some ((0 : Int32), q7.2) else some ((1 : Int32), q7.2))) else (r_X4_readTest p1 q3).bind (fun q4 => (f_X3_add 2 (113 : Int32) (0 : Int32) q4.2).bind (fun q5 => zg (zbl q4.1) (some (q4.1, q5)))))
noncomputable def f_X4_readOpened (r_X4_readEither : Int32 → zG → Option (Int32 × zG)) (r_X4_readTest : Int32 → zG → Option (Int32 × zG)) (p1 : Int32) (σ : zG) : Option (Int32 × zG) :=
  if (σ.1 4 0 8) = (113 : Int32) then j_X4_readOpened_14 r_X4_readEither p1 r_X4_readTest (1 : Int32) σ else j_X4_readOpened_14 r_X4_readEither p1 r_X4_readTest (0 : Int32) σ
set_option maxRecDepth 100000 in
set_option maxHeartbeats 4000000 in
theorem c_X4_readOpened (l : Launch) (n : Nat) (hB : 40 ≤ n) (r_X4_readEither : Int32 → zG → Option (Int32 × zG)) (n_X4_readEither : Nat) (hl_X4_readEither : n_X4_readEither + 1 ≤ n) (hr_X4_readEither : ∀ (l : Launch) (p1 : Int32) (σ : zG) (q : Int32 × zG), r_X4_readEither p1 σ = some q → zMet l zsyC (m_X4_readEither n_X4_readEither) yX4_readEither [zR 4 0, zI p1] σ (some (zI q.1)) q.2) (r_X4_readTest : Int32 → zG → Option (Int32 × zG)) (n_X4_readTest : Nat) (hl_X4_readTest : n_X4_readTest + 1 ≤ n) (hr_X4_readTest : ∀ (l : Launch) (p1 : Int32) (σ : zG) (q : Int32 × zG), r_X4_readTest p1 σ = some q → zMet l zsyC (m_X4_readTest n_X4_readTest) yX4_readTest [zR 4 0, zI p1] σ (some (zI q.1)) q.2) (p1 : Int32) (σ : zG) (q : Int32 × zG) (hq : f_X4_readOpened r_X4_readEither r_X4_readTest p1 σ = some q) : zMet l zsyC (m_X4_readOpened n) yX4_readOpened [zR 4 0, zI p1] σ (some (zI q.1)) q.2 := by
  refine zEnter [(0, zR 4 0), (1, zI p1)] (by decide) rfl (fun _ => Nat.le_of_ble_eq_true rfl) (fun _ => rfl) (fun w h => ?_) (fun K hv hs => ?_)
  · exact zokm rfl h
  · have hP : ∀ x s, f_X4_readOpened r_X4_readEither r_X4_readTest p1 σ = some (x, s) → zKv K = some (zI x) ∧ zKs K = s := fun x s h => by rw [hq] at h; cases h; exact ⟨hv, hs⟩
    have hn : f_X4_readOpened r_X4_readEither r_X4_readTest p1 σ ≠ none := fun z => by rw [hq] at z; cases z
    have hf := f_X4_readOpened.eq_1 r_X4_readEither r_X4_readTest p1 σ
    have t_14 : ∀ (t1 : Int32) (s2 : zG), f_X4_readOpened r_X4_readEither r_X4_readTest p1 σ = j_X4_readOpened_14 r_X4_readEither p1 r_X4_readTest t1 s2 → zX zsyC (m_X4_readOpened n) K 14 [(0, zR 4 0), (1, zI p1)] [zI t1] s2 := by
      intro t1 s2 hf
      replace hf := hf.trans (j_X4_readOpened_14.eq_1 r_X4_readEither p1 r_X4_readTest t1 s2)
      refine z_istore_n (pc := 14) (al' := [(2, zI t1), (0, zR 4 0), (1, zI p1)]) (zdg D_X4_readOpened 7 (14, .istore_n 2, 1) rfl) rfl (Nat.le_of_ble_eq_true rfl) rfl ?_
      refine z_aload_n (pc := 15) 1 (zdg D_X4_readOpened 8 (15, .aload_n 0, 1) rfl) rfl rfl ?_
      refine z_bind hn hf (fun q3 hq hf => ?_)
      refine z_callV (pc := 16) (rest := []) (st2 := []) (fun l => c_X4_advance l s2 q3 hq) zv_X4_advance lm_X4_44 rfl rfl rfl rfl rfl rfl (Nat.le_of_ble_eq_true rfl) (by constructor <;> dsimp only [m_X4_advance, m_X4_readOpened] <;> omega) (zdg D_X4_readOpened 9 (16, .invokevirtual 44, 3) rfl) ?_
      refine z_iload_n (pc := 19) 0 (zdg D_X4_readOpened 10 (19, .iload_n 2, 1) rfl) rfl rfl ?_
      refine z_if_ne (pc := 20) 46 (zdg D_X4_readOpened 11 (20, .ifCond .ne 26, 3) rfl) rfl hf (fun hf => ?_) (fun hf => ?_)
      · refine z_aload_n (pc := 46) 1 (zdg D_X4_readOpened 24 (46, .aload_n 0, 1) rfl) rfl rfl ?_
        refine z_iload_n (pc := 47) 2 (zdg D_X4_readOpened 25 (47, .iload_n 1, 1) rfl) rfl rfl ?_
        refine z_bind hn hf (fun q4 hq hf => ?_)
        refine z_callV (pc := 48) (rest := []) (st2 := [zI q4.1]) (fun l => hr_X4_readTest l p1 q3 q4 hq) (zv_X4_readTest _) lm_X4_132 rfl rfl rfl rfl rfl rfl (Nat.le_of_ble_eq_true rfl) (by constructor <;> dsimp only [m_X4_readTest, m_X4_readOpened] <;> omega) (zdg D_X4_readOpened 26 (48, .invokevirtual 132, 3) rfl) ?_
        refine z_istore_n (pc := 51) (al' := [(3, zI q4.1), (2, zI t1), (0, zR 4 0), (1, zI p1)]) (zdg D_X4_readOpened 27 (51, .istore_n 3, 1) rfl) rfl (Nat.le_of_ble_eq_true rfl) rfl ?_
        refine z_aload_n (pc := 52) 2 (zdg D_X4_readOpened 28 (52, .aload_n 0, 1) rfl) rfl rfl ?_
        refine z_getR (pc := 53) (g := 10) (j := 2) lf_X4_21 rfl rfl rfl (zdg D_X4_readOpened 29 (53, .getfield 21, 3) rfl) ?_
        refine z_bipush (pc := 56) (v := 113) (zdg D_X4_readOpened 30 (56, .bipush 113, 2) rfl) rfl ?_
        refine z_iconst (pc := 58) (v := 0) (zdg D_X4_readOpened 31 (58, .iconst 0, 1) rfl) rfl ?_
        refine z_bind hn hf (fun q5 hq hf => ?_)
        refine z_callV (pc := 59) (rest := []) (st2 := []) (fun l => c_X3_add l 2 (113 : Int32) (0 : Int32) q4.2 q5 hq) zv_X3_add lm_X4_135 rfl rfl rfl rfl rfl rfl (Nat.le_of_ble_eq_true rfl) (by constructor <;> dsimp only [m_X3_add, m_X4_readOpened] <;> omega) (zdg D_X4_readOpened 32 (59, .invokevirtual 135, 3) rfl) ?_
        refine z_iload_n (pc := 62) 0 (zdg D_X4_readOpened 33 (62, .iload_n 3, 1) rfl) rfl rfl ?_
        exact z_zret (pc := 63) rfl (zdg D_X4_readOpened 34 (63, .ireturn, 1) rfl) hn hf (fun hf => (hP _ _ hf))
      · refine z_aload_n (pc := 23) 1 (zdg D_X4_readOpened 12 (23, .aload_n 0, 1) rfl) rfl rfl ?_
        refine z_iload_n (pc := 24) 2 (zdg D_X4_readOpened 13 (24, .iload_n 1, 1) rfl) rfl rfl ?_
        refine z_bind hn hf (fun q6 hq hf => ?_)
        refine z_callV (pc := 25) (rest := []) (st2 := [zI q6.1]) (fun l => hr_X4_readEither l p1 q3 q6 hq) (zv_X4_readEither _) lm_X4_125 rfl rfl rfl rfl rfl rfl (Nat.le_of_ble_eq_true rfl) (by constructor <;> dsimp only [m_X4_readEither, m_X4_readOpened] <;> omega) (zdg D_X4_readOpened 14 (25, .invokevirtual 125, 3) rfl) ?_
        refine z_if_eq (pc := 28) 44 (zdg D_X4_readOpened 15 (28, .ifCond .eq 16, 3) rfl) rfl hf (fun hf => ?_) (fun hf => ?_)
        · refine z_iconst (pc := 44) (v := 0) (zdg D_X4_readOpened 22 (44, .iconst 0, 1) rfl) rfl ?_
          exact z_iret (pc := 45) rfl rfl (zdg D_X4_readOpened 23 (45, .ireturn, 1) rfl) (hP _ _ hf)
        · refine z_aload_n (pc := 31) 1 (zdg D_X4_readOpened 16 (31, .aload_n 0, 1) rfl) rfl rfl ?_
          refine z_bipush (pc := 32) (v := 41) (zdg D_X4_readOpened 17 (32, .bipush 41, 2) rfl) rfl ?_
          refine z_bind hn hf (fun q7 hq hf => ?_)
          refine z_callV (pc := 34) (rest := []) (st2 := [zI q7.1]) (fun l => c_X4_pass l (41 : Int32) q6.2 q7 hq) zv_X4_pass lm_X4_84 rfl rfl rfl rfl rfl rfl (Nat.le_of_ble_eq_true rfl) (by constructor <;> dsimp only [m_X4_pass, m_X4_readOpened] <;> omega) (zdg D_X4_readOpened 18 (34, .invokevirtual 84, 3) rfl) ?_
          refine z_if_eq (pc := 37) 44 (zdg D_X4_readOpened 19 (37, .ifCond .eq 7, 3) rfl) rfl hf (fun hf => ?_) (fun hf => ?_)
          · refine z_iconst (pc := 44) (v := 0) (zdg D_X4_readOpened 22 (44, .iconst 0, 1) rfl) rfl ?_
            exact z_iret (pc := 45) rfl rfl (zdg D_X4_readOpened 23 (45, .ireturn, 1) rfl) (hP _ _ hf)
          · refine z_iconst (pc := 40) (v := 1) (zdg D_X4_readOpened 20 (40, .iconst 1, 1) rfl) rfl ?_
            refine z_goto (pc := 41) 45 (zdg D_X4_readOpened 21 (41, .goto 4, 3) rfl) rfl ?_
            exact z_iret (pc := 45) rfl rfl (zdg D_X4_readOpened 23 (45, .ireturn, 1) rfl) (hP _ _ hf)
    refine z_aload_n (pc := 0) 0 (zdg D_X4_readOpened 0 (0, .aload_n 0, 1) rfl) rfl rfl ?_
    refine z_getI (pc := 1) lf_X4_54 rfl rfl (zdg D_X4_readOpened 1 (1, .getfield 54, 3) rfl) ?_
    refine z_bipush (pc := 4) (v := 113) (zdg D_X4_readOpened 2 (4, .bipush 113, 2) rfl) rfl ?_
    refine z_icmp_ne (pc := 6) 13 (zdg D_X4_readOpened 3 (6, .if_icmp .ne 7, 3) rfl) rfl hf (fun hf => ?_) (fun hf => ?_)
    · refine z_iconst (pc := 13) (v := 0) (zdg D_X4_readOpened 6 (13, .iconst 0, 1) rfl) rfl ?_
      exact t_14 (0 : Int32) σ hf
    · refine z_iconst (pc := 9) (v := 1) (zdg D_X4_readOpened 4 (9, .iconst 1, 1) rfl) rfl ?_
      refine z_goto (pc := 10) 14 (zdg D_X4_readOpened 5 (10, .goto 4, 3) rfl) rfl ?_
      exact t_14 (1 : Int32) σ hf

def L_X4_readTest : List (Nat × Instr × Nat) := [(0, .aload_n 0, 1), (1, .getfield 54, 3), (4, .bipush 113, 2), (6, .if_icmp .eq 12, 3), (9, .aload_n 0, 1), (10, .getfield 54, 3), (13, .bipush 40, 2), (15, .if_icmp .ne 25, 3), (18, .iload_n 1, 1), (19, .bipush 8, 2), (21, .if_icmp .ge 13, 3), (24, .aload_n 0, 1), (25, .iload_n 1, 1), (26, .iconst 1, 1), (27, .iadd, 1), (28, .invokevirtual 138, 3), (31, .goto 8, 3), (34, .aload_n 0, 1), (35, .iconst 3, 1), (36, .invokevirtual 70, 3), (39, .ireturn, 1), (40, .aload_n 0, 1), (41, .invokevirtual 121, 3), (44, .ifCond .ne 5, 3), (47, .iconst 0, 1), (48, .ireturn, 1), (49, .aload_n 0, 1), (50, .getfield 54, 3), (53, .istore_n 2, 1), (54, .iload_n 2, 1), (55, .bipush 60, 2), (57, .if_icmp .eq 21, 3), (60, .iload_n 2, 1), (61, .bipush 61, 2), (63, .if_icmp .eq 15, 3), (66, .iload_n 2, 1), (67, .bipush 62, 2), (69, .if_icmp .eq 9, 3), (72, .aload_n 0, 1), (73, .iconst 1, 1), (74, .invokevirtual 70, 3), (77, .ireturn, 1), (78, .aload_n 0, 1), (79, .invokevirtual 44, 3), (82, .aload_n 0, 1), (83, .invokevirtual 121, 3), (86, .istore_n 3, 1), (87, .aload_n 0, 1), (88, .getfield 21, 3), (91, .iload_n 2, 1), (92, .iconst 0, 1), (93, .invokevirtual 135, 3), (96, .iload_n 3, 1), (97, .ireturn, 1)]
set_option maxRecDepth 100000 in
theorem D_X4_readTest : zdecs cX4_readTest L_X4_readTest = true := by decide +kernel
noncomputable def j_X4_readTest_78 (w2_5 : Int32) (s6 : zG) : Option (Int32 × zG) :=
  (f_X4_advance s6).bind (fun q7 => (f_X4_readSum q7).bind (fun q8 => (f_X3_add 2 w2_5 (0 : Int32) q8.2).bind (fun q9 => zg (zbl q8.1) (some (q8.1, q9)))))
noncomputable def j_X4_readTest_18 (p1 : Int32) (r_X4_readOpened : Int32 → zG → Option (Int32 × zG)) (s1 : zG) : Option (Int32 × zG) :=
  if p1 < (8 : Int32) then (r_X4_readOpened (p1 + (1 : Int32)) s1).bind (fun q3 => zg (zbl q3.1) (some (q3.1, q3.2))) else (f_X4_fail (3 : Int32) s1).bind (fun q2 => zg (zbl q2.1) (some (q2.1, q2.2)))
noncomputable def f_X4_readTest (r_X4_readOpened : Int32 → zG → Option (Int32 × zG)) (p1 : Int32) (σ : zG) : Option (Int32 × zG) :=
  if (σ.1 4 0 8) = (113 : Int32) then j_X4_readTest_18 p1 r_X4_readOpened σ else if (σ.1 4 0 8) = (40 : Int32) then j_X4_readTest_18 p1 r_X4_readOpened σ else (f_X4_readSum σ).bind (fun q4 => if q4.1 = 0 then some ((0 : Int32), q4.2) else if (q4.2.1 4 0 8) = (60 : Int32) then j_X4_readTest_78 (q4.2.1 4 0 8) q4.2 else if (q4.2.1 4 0 8) = (61 : Int32) then j_X4_readTest_78 (q4.2.1 4 0 8) q4.2 else if (q4.2.1 4 0 8) = (62 : Int32) then j_X4_readTest_78 (q4.2.1 4 0 8) q4.2 else (f_X4_fail (1 : Int32) q4.2).bind (fun q10 => zg (zbl q10.1) (some (q10.1, q10.2))))
set_option maxRecDepth 100000 in
set_option maxHeartbeats 4000000 in
theorem c_X4_readTest (l : Launch) (n : Nat) (hB : 40 ≤ n) (r_X4_readOpened : Int32 → zG → Option (Int32 × zG)) (n_X4_readOpened : Nat) (hl_X4_readOpened : n_X4_readOpened + 1 ≤ n) (hr_X4_readOpened : ∀ (l : Launch) (p1 : Int32) (σ : zG) (q : Int32 × zG), r_X4_readOpened p1 σ = some q → zMet l zsyC (m_X4_readOpened n_X4_readOpened) yX4_readOpened [zR 4 0, zI p1] σ (some (zI q.1)) q.2) (p1 : Int32) (σ : zG) (q : Int32 × zG) (hq : f_X4_readTest r_X4_readOpened p1 σ = some q) : zMet l zsyC (m_X4_readTest n) yX4_readTest [zR 4 0, zI p1] σ (some (zI q.1)) q.2 := by
  refine zEnter [(0, zR 4 0), (1, zI p1)] (by decide) rfl (fun _ => Nat.le_of_ble_eq_true rfl) (fun _ => rfl) (fun w h => ?_) (fun K hv hs => ?_)
  · exact zokm rfl h
  · have hP : ∀ x s, f_X4_readTest r_X4_readOpened p1 σ = some (x, s) → zKv K = some (zI x) ∧ zKs K = s := fun x s h => by rw [hq] at h; cases h; exact ⟨hv, hs⟩
    have hn : f_X4_readTest r_X4_readOpened p1 σ ≠ none := fun z => by rw [hq] at z; cases z
    have hf := f_X4_readTest.eq_1 r_X4_readOpened p1 σ
    have t_78 : ∀ (w2_5 : Int32) (s6 : zG), f_X4_readTest r_X4_readOpened p1 σ = j_X4_readTest_78 w2_5 s6 → zX zsyC (m_X4_readTest n) K 78 [(0, zR 4 0), (2, zI w2_5)] [] s6 := by
      intro w2_5 s6 hf
      replace hf := hf.trans (j_X4_readTest_78.eq_1 w2_5 s6)
      refine z_aload_n (pc := 78) 0 (zdg D_X4_readTest 42 (78, .aload_n 0, 1) rfl) rfl rfl ?_
      refine z_bind hn hf (fun q7 hq hf => ?_)
      refine z_callV (pc := 79) (rest := []) (st2 := []) (fun l => c_X4_advance l s6 q7 hq) zv_X4_advance lm_X4_44 rfl rfl rfl rfl rfl rfl (Nat.le_of_ble_eq_true rfl) (by constructor <;> dsimp only [m_X4_advance, m_X4_readTest] <;> omega) (zdg D_X4_readTest 43 (79, .invokevirtual 44, 3) rfl) ?_
      refine z_aload_n (pc := 82) 0 (zdg D_X4_readTest 44 (82, .aload_n 0, 1) rfl) rfl rfl ?_
      refine z_bind hn hf (fun q8 hq hf => ?_)
      refine z_callV (pc := 83) (rest := []) (st2 := [zI q8.1]) (fun l => c_X4_readSum l q7 q8 hq) zv_X4_readSum lm_X4_121 rfl rfl rfl rfl rfl rfl (Nat.le_of_ble_eq_true rfl) (by constructor <;> dsimp only [m_X4_readSum, m_X4_readTest] <;> omega) (zdg D_X4_readTest 45 (83, .invokevirtual 121, 3) rfl) ?_
      refine z_istore_n (pc := 86) (al' := [(3, zI q8.1), (0, zR 4 0), (2, zI w2_5)]) (zdg D_X4_readTest 46 (86, .istore_n 3, 1) rfl) rfl (Nat.le_of_ble_eq_true rfl) rfl ?_
      refine z_aload_n (pc := 87) 1 (zdg D_X4_readTest 47 (87, .aload_n 0, 1) rfl) rfl rfl ?_
      refine z_getR (pc := 88) (g := 10) (j := 2) lf_X4_21 rfl rfl rfl (zdg D_X4_readTest 48 (88, .getfield 21, 3) rfl) ?_
      refine z_iload_n (pc := 91) 2 (zdg D_X4_readTest 49 (91, .iload_n 2, 1) rfl) rfl rfl ?_
      refine z_iconst (pc := 92) (v := 0) (zdg D_X4_readTest 50 (92, .iconst 0, 1) rfl) rfl ?_
      refine z_bind hn hf (fun q9 hq hf => ?_)
      refine z_callV (pc := 93) (rest := []) (st2 := []) (fun l => c_X3_add l 2 w2_5 (0 : Int32) q8.2 q9 hq) zv_X3_add lm_X4_135 rfl rfl rfl rfl rfl rfl (Nat.le_of_ble_eq_true rfl) (by constructor <;> dsimp only [m_X3_add, m_X4_readTest] <;> omega) (zdg D_X4_readTest 51 (93, .invokevirtual 135, 3) rfl) ?_
      refine z_iload_n (pc := 96) 0 (zdg D_X4_readTest 52 (96, .iload_n 3, 1) rfl) rfl rfl ?_
      exact z_zret (pc := 97) rfl (zdg D_X4_readTest 53 (97, .ireturn, 1) rfl) hn hf (fun hf => (hP _ _ hf))
    have t_18 : ∀ (s1 : zG), f_X4_readTest r_X4_readOpened p1 σ = j_X4_readTest_18 p1 r_X4_readOpened s1 → zX zsyC (m_X4_readTest n) K 18 [(0, zR 4 0), (1, zI p1)] [] s1 := by
      intro s1 hf
      replace hf := hf.trans (j_X4_readTest_18.eq_1 p1 r_X4_readOpened s1)
      refine z_iload_n (pc := 18) 1 (zdg D_X4_readTest 8 (18, .iload_n 1, 1) rfl) rfl rfl ?_
      refine z_bipush (pc := 19) (v := 8) (zdg D_X4_readTest 9 (19, .bipush 8, 2) rfl) rfl ?_
      refine z_icmp_ge (pc := 21) 34 (zdg D_X4_readTest 10 (21, .if_icmp .ge 13, 3) rfl) rfl hf (fun hf => ?_) (fun hf => ?_)
      · refine z_aload_n (pc := 34) 0 (zdg D_X4_readTest 17 (34, .aload_n 0, 1) rfl) rfl rfl ?_
        refine z_iconst (pc := 35) (v := 3) (zdg D_X4_readTest 18 (35, .iconst 3, 1) rfl) rfl ?_
        refine z_bind hn hf (fun q2 hq hf => ?_)
        refine z_callV (pc := 36) (rest := []) (st2 := [zI q2.1]) (fun l => c_X4_fail l (3 : Int32) s1 q2 hq) zv_X4_fail lm_X4_70 rfl rfl rfl rfl rfl rfl (Nat.le_of_ble_eq_true rfl) (by constructor <;> dsimp only [m_X4_fail, m_X4_readTest] <;> omega) (zdg D_X4_readTest 19 (36, .invokevirtual 70, 3) rfl) ?_
        exact z_zret (pc := 39) rfl (zdg D_X4_readTest 20 (39, .ireturn, 1) rfl) hn hf (fun hf => (hP _ _ hf))
      · refine z_aload_n (pc := 24) 0 (zdg D_X4_readTest 11 (24, .aload_n 0, 1) rfl) rfl rfl ?_
        refine z_iload_n (pc := 25) 1 (zdg D_X4_readTest 12 (25, .iload_n 1, 1) rfl) rfl rfl ?_
        refine z_iconst (pc := 26) (v := 1) (zdg D_X4_readTest 13 (26, .iconst 1, 1) rfl) rfl ?_
        refine z_iadd (pc := 27) (zdg D_X4_readTest 14 (27, .iadd, 1) rfl) ?_
        refine z_bind hn hf (fun q3 hq hf => ?_)
        refine z_callV (pc := 28) (rest := []) (st2 := [zI q3.1]) (fun l => hr_X4_readOpened l (p1 + (1 : Int32)) s1 q3 hq) (zv_X4_readOpened _) lm_X4_138 rfl rfl rfl rfl rfl rfl (Nat.le_of_ble_eq_true rfl) (by constructor <;> dsimp only [m_X4_readOpened, m_X4_readTest] <;> omega) (zdg D_X4_readTest 15 (28, .invokevirtual 138, 3) rfl) ?_
        refine z_goto (pc := 31) 39 (zdg D_X4_readTest 16 (31, .goto 8, 3) rfl) rfl ?_
        exact z_zret (pc := 39) rfl (zdg D_X4_readTest 20 (39, .ireturn, 1) rfl) hn hf (fun hf => (hP _ _ hf))
    refine z_aload_n (pc := 0) 0 (zdg D_X4_readTest 0 (0, .aload_n 0, 1) rfl) rfl rfl ?_
    refine z_getI (pc := 1) lf_X4_54 rfl rfl (zdg D_X4_readTest 1 (1, .getfield 54, 3) rfl) ?_
    refine z_bipush (pc := 4) (v := 113) (zdg D_X4_readTest 2 (4, .bipush 113, 2) rfl) rfl ?_
    refine z_icmp_eq (pc := 6) 18 (zdg D_X4_readTest 3 (6, .if_icmp .eq 12, 3) rfl) rfl hf (fun hf => ?_) (fun hf => ?_)
    · exact t_18 σ hf
    · refine z_aload_n (pc := 9) 0 (zdg D_X4_readTest 4 (9, .aload_n 0, 1) rfl) rfl rfl ?_
      refine z_getI (pc := 10) lf_X4_54 rfl rfl (zdg D_X4_readTest 5 (10, .getfield 54, 3) rfl) ?_
      refine z_bipush (pc := 13) (v := 40) (zdg D_X4_readTest 6 (13, .bipush 40, 2) rfl) rfl ?_
      refine z_icmp_ne (pc := 15) 40 (zdg D_X4_readTest 7 (15, .if_icmp .ne 25, 3) rfl) rfl hf (fun hf => ?_) (fun hf => ?_)
      · refine z_aload_n (pc := 40) 0 (zdg D_X4_readTest 21 (40, .aload_n 0, 1) rfl) rfl rfl ?_
        refine z_bind hn hf (fun q4 hq hf => ?_)
        refine z_callV (pc := 41) (rest := []) (st2 := [zI q4.1]) (fun l => c_X4_readSum l σ q4 hq) zv_X4_readSum lm_X4_121 rfl rfl rfl rfl rfl rfl (Nat.le_of_ble_eq_true rfl) (by constructor <;> dsimp only [m_X4_readSum, m_X4_readTest] <;> omega) (zdg D_X4_readTest 22 (41, .invokevirtual 121, 3) rfl) ?_
        refine z_if_ne (pc := 44) 49 (zdg D_X4_readTest 23 (44, .ifCond .ne 5, 3) rfl) rfl hf (fun hf => ?_) (fun hf => ?_)
        · refine z_aload_n (pc := 49) 0 (zdg D_X4_readTest 26 (49, .aload_n 0, 1) rfl) rfl rfl ?_
          refine z_getI (pc := 50) lf_X4_54 rfl rfl (zdg D_X4_readTest 27 (50, .getfield 54, 3) rfl) ?_
          refine z_istore_n (pc := 53) (al' := [(2, zI (q4.2.1 4 0 8)), (0, zR 4 0), (1, zI p1)]) (zdg D_X4_readTest 28 (53, .istore_n 2, 1) rfl) rfl (Nat.le_of_ble_eq_true rfl) rfl ?_
          refine z_iload_n (pc := 54) 0 (zdg D_X4_readTest 29 (54, .iload_n 2, 1) rfl) rfl rfl ?_
          refine z_bipush (pc := 55) (v := 60) (zdg D_X4_readTest 30 (55, .bipush 60, 2) rfl) rfl ?_
          refine z_icmp_eq (pc := 57) 78 (zdg D_X4_readTest 31 (57, .if_icmp .eq 21, 3) rfl) rfl hf (fun hf => ?_) (fun hf => ?_)
          · refine z_sub (al' := [(0, zR 4 0), (2, zI (q4.2.1 4 0 8))]) [1, 0] rfl ?_
            exact t_78 (q4.2.1 4 0 8) q4.2 hf
          · refine z_iload_n (pc := 60) 0 (zdg D_X4_readTest 32 (60, .iload_n 2, 1) rfl) rfl rfl ?_
            refine z_bipush (pc := 61) (v := 61) (zdg D_X4_readTest 33 (61, .bipush 61, 2) rfl) rfl ?_
            refine z_icmp_eq (pc := 63) 78 (zdg D_X4_readTest 34 (63, .if_icmp .eq 15, 3) rfl) rfl hf (fun hf => ?_) (fun hf => ?_)
            · refine z_sub (al' := [(0, zR 4 0), (2, zI (q4.2.1 4 0 8))]) [1, 0] rfl ?_
              exact t_78 (q4.2.1 4 0 8) q4.2 hf
            · refine z_iload_n (pc := 66) 0 (zdg D_X4_readTest 35 (66, .iload_n 2, 1) rfl) rfl rfl ?_
              refine z_bipush (pc := 67) (v := 62) (zdg D_X4_readTest 36 (67, .bipush 62, 2) rfl) rfl ?_
              refine z_icmp_eq (pc := 69) 78 (zdg D_X4_readTest 37 (69, .if_icmp .eq 9, 3) rfl) rfl hf (fun hf => ?_) (fun hf => ?_)
              · refine z_sub (al' := [(0, zR 4 0), (2, zI (q4.2.1 4 0 8))]) [1, 0] rfl ?_
                exact t_78 (q4.2.1 4 0 8) q4.2 hf
              · refine z_aload_n (pc := 72) 1 (zdg D_X4_readTest 38 (72, .aload_n 0, 1) rfl) rfl rfl ?_
                refine z_iconst (pc := 73) (v := 1) (zdg D_X4_readTest 39 (73, .iconst 1, 1) rfl) rfl ?_
                refine z_bind hn hf (fun q10 hq hf => ?_)
                refine z_callV (pc := 74) (rest := []) (st2 := [zI q10.1]) (fun l => c_X4_fail l (1 : Int32) q4.2 q10 hq) zv_X4_fail lm_X4_70 rfl rfl rfl rfl rfl rfl (Nat.le_of_ble_eq_true rfl) (by constructor <;> dsimp only [m_X4_fail, m_X4_readTest] <;> omega) (zdg D_X4_readTest 40 (74, .invokevirtual 70, 3) rfl) ?_
                exact z_zret (pc := 77) rfl (zdg D_X4_readTest 41 (77, .ireturn, 1) rfl) hn hf (fun hf => (hP _ _ hf))
        · refine z_iconst (pc := 47) (v := 0) (zdg D_X4_readTest 24 (47, .iconst 0, 1) rfl) rfl ?_
          exact z_iret (pc := 48) rfl rfl (zdg D_X4_readTest 25 (48, .ireturn, 1) rfl) (hP _ _ hf)
      · exact t_18 σ hf

def L_X4_readEither : List (Nat × Instr × Nat) := [(0, .iconst 0, 1), (1, .istore_n 2, 1), (2, .bipush 111, 2), (4, .istore_n 3, 1), (5, .iconst 0, 1), (6, .istore 4, 2), (8, .iload 4, 2), (10, .sipush 400, 3), (13, .if_icmp .gt 106, 3), (16, .aload_n 0, 1), (17, .iload_n 1, 1), (18, .invokevirtual 132, 3), (21, .ifCond .ne 5, 3), (24, .iconst 0, 1), (25, .ireturn, 1), (26, .iload_n 3, 1), (27, .bipush 112, 2), (29, .if_icmp .ne 13, 3), (32, .aload_n 0, 1), (33, .getfield 21, 3), (36, .bipush 112, 2), (38, .iconst 0, 1), (39, .invokevirtual 135, 3), (42, .iload_n 2, 1), (43, .ifCond .eq 22, 3), (46, .aload_n 0, 1), (47, .getfield 54, 3), (50, .bipush 112, 2), (52, .if_icmp .eq 13, 3), (55, .aload_n 0, 1), (56, .getfield 21, 3), (59, .bipush 111, 2), (61, .iconst 0, 1), (62, .invokevirtual 135, 3), (65, .aload_n 0, 1), (66, .getfield 54, 3), (69, .bipush 112, 2), (71, .if_icmp .eq 14, 3), (74, .aload_n 0, 1), (75, .getfield 54, 3), (78, .bipush 111, 2), (80, .if_icmp .eq 5, 3), (83, .iconst 1, 1), (84, .ireturn, 1), (85, .iload_n 2, 1), (86, .ifCond .ne 12, 3), (89, .aload_n 0, 1), (90, .getfield 54, 3), (93, .bipush 111, 2), (95, .if_icmp .ne 7, 3), (98, .iconst 1, 1), (99, .goto 4, 3), (102, .iconst 0, 1), (103, .istore_n 2, 1), (104, .aload_n 0, 1), (105, .getfield 54, 3), (108, .istore_n 3, 1), (109, .aload_n 0, 1), (110, .invokevirtual 44, 3), (113, .iinc 4 1, 3), (116, .goto (-108), 3), (119, .iconst 0, 1), (120, .ireturn, 1)]
set_option maxRecDepth 100000 in
theorem D_X4_readEither : zdecs cX4_readEither L_X4_readEither = true := by decide +kernel
noncomputable def j_X4_readEither_103_8 (w4_17 : Int32) (t18 : Int32) (s19 : zG) : Option ((Int32 × Int32 × Int32 × zG) ⊕ ((zG) ⊕ ((zG) ⊕ (zG)))) :=
  (f_X4_advance s19).bind (fun q20 => some (Sum.inl (t18, (s19.1 4 0 8), (w4_17 + 1), q20)))
noncomputable def j_X4_readEither_98_8 (w4_15 : Int32) (s16 : zG) : Option ((Int32 × Int32 × Int32 × zG) ⊕ ((zG) ⊕ ((zG) ⊕ (zG)))) :=
  j_X4_readEither_103_8 w4_15 (1 : Int32) s16
noncomputable def j_X4_readEither_85_8 (w2_12 : Int32) (w4_13 : Int32) (s14 : zG) : Option ((Int32 × Int32 × Int32 × zG) ⊕ ((zG) ⊕ ((zG) ⊕ (zG)))) :=
  if w2_12 = 0 then if (s14.1 4 0 8) = (111 : Int32) then j_X4_readEither_98_8 w4_13 s14 else j_X4_readEither_103_8 w4_13 (0 : Int32) s14 else j_X4_readEither_98_8 w4_13 s14
noncomputable def j_X4_readEither_65_8 (w2_9 : Int32) (w4_10 : Int32) (s11 : zG) : Option ((Int32 × Int32 × Int32 × zG) ⊕ ((zG) ⊕ ((zG) ⊕ (zG)))) :=
  if (s11.1 4 0 8) = (112 : Int32) then j_X4_readEither_85_8 w2_9 w4_10 s11 else if (s11.1 4 0 8) = (111 : Int32) then j_X4_readEither_85_8 w2_9 w4_10 s11 else some (Sum.inr (Sum.inr (Sum.inl s11)))
noncomputable def j_X4_readEither_42_8 (w2_6 : Int32) (w4_7 : Int32) (s8 : zG) : Option ((Int32 × Int32 × Int32 × zG) ⊕ ((zG) ⊕ ((zG) ⊕ (zG)))) :=
  if w2_6 = 0 then j_X4_readEither_65_8 w2_6 w4_7 s8 else if (s8.1 4 0 8) = (112 : Int32) then j_X4_readEither_65_8 w2_6 w4_7 s8 else (f_X3_add 2 (111 : Int32) (0 : Int32) s8).bind (fun q21 => j_X4_readEither_65_8 w2_6 w4_7 q21)
noncomputable def b_X4_readEither_8 (r_X4_readTest : Int32 → zG → Option (Int32 × zG)) (p1 : Int32) (v2_1 : Int32) (v3_2 : Int32) (v4_3 : Int32) (s4 : zG) : Option ((Int32 × Int32 × Int32 × zG) ⊕ ((zG) ⊕ ((zG) ⊕ (zG)))) :=
  if v4_3 ≤ (400 : Int32) then (r_X4_readTest p1 s4).bind (fun q5 => if q5.1 = 0 then some (Sum.inr (Sum.inl q5.2)) else if v3_2 = (112 : Int32) then (f_X3_add 2 (112 : Int32) (0 : Int32) q5.2).bind (fun q22 => j_X4_readEither_42_8 v2_1 v4_3 q22) else j_X4_readEither_42_8 v2_1 v4_3 q5.2) else some (Sum.inr (Sum.inr (Sum.inr s4)))
noncomputable def f_X4_readEither (r_X4_readTest : Int32 → zG → Option (Int32 × zG)) (p1 : Int32) (σ : zG) : Option (Int32 × zG) :=
  (zlp (fun q : Int32 × Int32 × Int32 × zG => b_X4_readEither_8 r_X4_readTest p1 q.1 q.2.1 q.2.2.1 q.2.2.2) ((0 : Int32), (111 : Int32), (0 : Int32), σ)).bind (Sum.elim (fun e23 : zG => some ((0 : Int32), e23)) (Sum.elim (fun e24 : zG => some ((1 : Int32), e24)) (fun e25 : zG => some ((0 : Int32), e25))))
set_option maxRecDepth 100000 in
set_option maxHeartbeats 4000000 in
theorem c_X4_readEither (l : Launch) (n : Nat) (hB : 40 ≤ n) (r_X4_readTest : Int32 → zG → Option (Int32 × zG)) (n_X4_readTest : Nat) (hl_X4_readTest : n_X4_readTest + 1 ≤ n) (hr_X4_readTest : ∀ (l : Launch) (p1 : Int32) (σ : zG) (q : Int32 × zG), r_X4_readTest p1 σ = some q → zMet l zsyC (m_X4_readTest n_X4_readTest) yX4_readTest [zR 4 0, zI p1] σ (some (zI q.1)) q.2) (p1 : Int32) (σ : zG) (q : Int32 × zG) (hq : f_X4_readEither r_X4_readTest p1 σ = some q) : zMet l zsyC (m_X4_readEither n) yX4_readEither [zR 4 0, zI p1] σ (some (zI q.1)) q.2 := by
  refine zEnter [(0, zR 4 0), (1, zI p1)] (by decide) rfl (fun _ => Nat.le_of_ble_eq_true rfl) (fun _ => rfl) (fun w h => ?_) (fun K hv hs => ?_)
  · exact zokm rfl h
  · have hP : ∀ x s, f_X4_readEither r_X4_readTest p1 σ = some (x, s) → zKv K = some (zI x) ∧ zKs K = s := fun x s h => by rw [hq] at h; cases h; exact ⟨hv, hs⟩
    have hn : f_X4_readEither r_X4_readTest p1 σ ≠ none := fun z => by rw [hq] at z; cases z
    have hf := f_X4_readEither.eq_1 r_X4_readTest p1 σ
    refine z_iconst (pc := 0) (v := 0) (zdg D_X4_readEither 0 (0, .iconst 0, 1) rfl) rfl ?_
    refine z_istore_n (pc := 1) (al' := [(2, zI (0 : Int32)), (0, zR 4 0), (1, zI p1)]) (zdg D_X4_readEither 1 (1, .istore_n 2, 1) rfl) rfl (Nat.le_of_ble_eq_true rfl) rfl ?_
    refine z_bipush (pc := 2) (v := 111) (zdg D_X4_readEither 2 (2, .bipush 111, 2) rfl) rfl ?_
    refine z_istore_n (pc := 4) (al' := [(3, zI (111 : Int32)), (2, zI (0 : Int32)), (0, zR 4 0), (1, zI p1)]) (zdg D_X4_readEither 3 (4, .istore_n 3, 1) rfl) rfl (Nat.le_of_ble_eq_true rfl) rfl ?_
    refine z_iconst (pc := 5) (v := 0) (zdg D_X4_readEither 4 (5, .iconst 0, 1) rfl) rfl ?_
    refine z_istore (pc := 6) (al' := [(4, zI (0 : Int32)), (3, zI (111 : Int32)), (2, zI (0 : Int32)), (0, zR 4 0), (1, zI p1)]) (zdg D_X4_readEither 5 (6, .istore 4, 2) rfl) (Nat.le_of_ble_eq_true rfl) rfl ?_
    refine z_sub (al' := [(0, zR 4 0), (1, zI p1), (2, zI (0 : Int32)), (3, zI (111 : Int32)), (4, zI (0 : Int32))]) [3, 4, 2, 1, 0] rfl ?_
    refine z_loop (f := (fun q : Int32 × Int32 × Int32 × zG => b_X4_readEither_8 r_X4_readTest p1 q.1 q.2.1 q.2.2.1 q.2.2.2)) (a := ((0 : Int32), (111 : Int32), (0 : Int32), σ)) (fun q : Int32 × Int32 × Int32 × zG => zX zsyC (m_X4_readEither n) K 8 [(0, zR 4 0), (1, zI p1), (2, zI q.1), (3, zI q.2.1), (4, zI q.2.2.1)] [] q.2.2.2) (Sum.elim (fun e23 : zG => zX zsyC (m_X4_readEither n) K 24 [] [] e23) (Sum.elim (fun e24 : zG => zX zsyC (m_X4_readEither n) K 83 [] [] e24) (fun e25 : zG => zX zsyC (m_X4_readEither n) K 119 [] [] e25))) hn hf ?_ ?_
    · intro b hf
      cases b with
      | inl e23 =>
        refine z_iconst (pc := 24) (v := 0) (zdg D_X4_readEither 13 (24, .iconst 0, 1) rfl) rfl ?_
        exact z_iret (pc := 25) rfl rfl (zdg D_X4_readEither 14 (25, .ireturn, 1) rfl) (hP _ _ hf)
      | inr b =>
        revert hf
        revert b
        intro b hf
        cases b with
        | inl e24 =>
          refine z_iconst (pc := 83) (v := 1) (zdg D_X4_readEither 42 (83, .iconst 1, 1) rfl) rfl ?_
          exact z_iret (pc := 84) rfl rfl (zdg D_X4_readEither 43 (84, .ireturn, 1) rfl) (hP _ _ hf)
        | inr b =>
          revert hf
          revert b
          intro e25 hf
          refine z_iconst (pc := 119) (v := 0) (zdg D_X4_readEither 61 (119, .iconst 0, 1) rfl) rfl ?_
          exact z_iret (pc := 120) rfl rfl (zdg D_X4_readEither 62 (120, .ireturn, 1) rfl) (hP _ _ hf)
    · rintro ⟨v2_1, v3_2, v4_3, s4⟩ hn hi hx
      have hf := b_X4_readEither_8.eq_1 r_X4_readTest p1 v2_1 v3_2 v4_3 s4
      have t_103 : ∀ (w4_17 : Int32) (t18 : Int32) (s19 : zG), b_X4_readEither_8 r_X4_readTest p1 v2_1 v3_2 v4_3 s4 = j_X4_readEither_103_8 w4_17 t18 s19 → zX zsyC (m_X4_readEither n) K 103 [(0, zR 4 0), (1, zI p1), (4, zI w4_17)] [zI t18] s19 := by
        intro w4_17 t18 s19 hf
        replace hf := hf.trans (j_X4_readEither_103_8.eq_1 w4_17 t18 s19)
        refine z_istore_n (pc := 103) (al' := [(2, zI t18), (0, zR 4 0), (1, zI p1), (4, zI w4_17)]) (zdg D_X4_readEither 53 (103, .istore_n 2, 1) rfl) rfl (Nat.le_of_ble_eq_true rfl) rfl ?_
        refine z_aload_n (pc := 104) 1 (zdg D_X4_readEither 54 (104, .aload_n 0, 1) rfl) rfl rfl ?_
        refine z_getI (pc := 105) lf_X4_54 rfl rfl (zdg D_X4_readEither 55 (105, .getfield 54, 3) rfl) ?_
        refine z_istore_n (pc := 108) (al' := [(3, zI (s19.1 4 0 8)), (2, zI t18), (0, zR 4 0), (1, zI p1), (4, zI w4_17)]) (zdg D_X4_readEither 56 (108, .istore_n 3, 1) rfl) rfl (Nat.le_of_ble_eq_true rfl) rfl ?_
        refine z_aload_n (pc := 109) 2 (zdg D_X4_readEither 57 (109, .aload_n 0, 1) rfl) rfl rfl ?_
        refine z_bind hn hf (fun q20 hq hf => ?_)
        refine z_callV (pc := 110) (rest := []) (st2 := []) (fun l => c_X4_advance l s19 q20 hq) zv_X4_advance lm_X4_44 rfl rfl rfl rfl rfl rfl (Nat.le_of_ble_eq_true rfl) (by constructor <;> dsimp only [m_X4_advance, m_X4_readEither] <;> omega) (zdg D_X4_readEither 58 (110, .invokevirtual 44, 3) rfl) ?_
        refine z_iinc (pc := 113) (v0 := (w4_17 + 1)) (al' := [(4, zI (w4_17 + 1)), (3, zI (s19.1 4 0 8)), (2, zI t18), (0, zR 4 0), (1, zI p1)]) 4 (zdg D_X4_readEither 59 (113, .iinc 4 1, 3) rfl) rfl rfl (Nat.le_of_ble_eq_true rfl) rfl ?_
        refine z_goto (pc := 116) 8 (zdg D_X4_readEither 60 (116, .goto (-108), 3) rfl) rfl ?_
        refine z_sub (al' := [(0, zR 4 0), (1, zI p1), (2, zI t18), (3, zI (s19.1 4 0 8)), (4, zI (w4_17 + 1))]) [3, 4, 2, 1, 0] rfl ?_
        exact hi (t18, (s19.1 4 0 8), (w4_17 + 1), q20) hf
      have t_98 : ∀ (w4_15 : Int32) (s16 : zG), b_X4_readEither_8 r_X4_readTest p1 v2_1 v3_2 v4_3 s4 = j_X4_readEither_98_8 w4_15 s16 → zX zsyC (m_X4_readEither n) K 98 [(0, zR 4 0), (1, zI p1), (4, zI w4_15)] [] s16 := by
        intro w4_15 s16 hf
        replace hf := hf.trans (j_X4_readEither_98_8.eq_1 w4_15 s16)
        refine z_iconst (pc := 98) (v := 1) (zdg D_X4_readEither 50 (98, .iconst 1, 1) rfl) rfl ?_
        refine z_goto (pc := 99) 103 (zdg D_X4_readEither 51 (99, .goto 4, 3) rfl) rfl ?_
        exact t_103 w4_15 (1 : Int32) s16 hf
      have t_85 : ∀ (w2_12 : Int32) (w4_13 : Int32) (s14 : zG), b_X4_readEither_8 r_X4_readTest p1 v2_1 v3_2 v4_3 s4 = j_X4_readEither_85_8 w2_12 w4_13 s14 → zX zsyC (m_X4_readEither n) K 85 [(0, zR 4 0), (1, zI p1), (2, zI w2_12), (4, zI w4_13)] [] s14 := by
        intro w2_12 w4_13 s14 hf
        replace hf := hf.trans (j_X4_readEither_85_8.eq_1 w2_12 w4_13 s14)
        refine z_iload_n (pc := 85) 2 (zdg D_X4_readEither 44 (85, .iload_n 2, 1) rfl) rfl rfl ?_
        refine z_if_ne (pc := 86) 98 (zdg D_X4_readEither 45 (86, .ifCond .ne 12, 3) rfl) rfl hf (fun hf => ?_) (fun hf => ?_)
        · refine z_sub (al' := [(0, zR 4 0), (1, zI p1), (4, zI w4_13)]) [0, 1, 3] rfl ?_
          exact t_98 w4_13 s14 hf
        · refine z_aload_n (pc := 89) 0 (zdg D_X4_readEither 46 (89, .aload_n 0, 1) rfl) rfl rfl ?_
          refine z_getI (pc := 90) lf_X4_54 rfl rfl (zdg D_X4_readEither 47 (90, .getfield 54, 3) rfl) ?_
          refine z_bipush (pc := 93) (v := 111) (zdg D_X4_readEither 48 (93, .bipush 111, 2) rfl) rfl ?_
          refine z_icmp_ne (pc := 95) 102 (zdg D_X4_readEither 49 (95, .if_icmp .ne 7, 3) rfl) rfl hf (fun hf => ?_) (fun hf => ?_)
          · refine z_iconst (pc := 102) (v := 0) (zdg D_X4_readEither 52 (102, .iconst 0, 1) rfl) rfl ?_
            refine z_sub (al' := [(0, zR 4 0), (1, zI p1), (4, zI w4_13)]) [0, 1, 3] rfl ?_
            exact t_103 w4_13 (0 : Int32) s14 hf
          · refine z_sub (al' := [(0, zR 4 0), (1, zI p1), (4, zI w4_13)]) [0, 1, 3] rfl ?_
            exact t_98 w4_13 s14 hf
      have t_65 : ∀ (w2_9 : Int32) (w4_10 : Int32) (s11 : zG), b_X4_readEither_8 r_X4_readTest p1 v2_1 v3_2 v4_3 s4 = j_X4_readEither_65_8 w2_9 w4_10 s11 → zX zsyC (m_X4_readEither n) K 65 [(0, zR 4 0), (1, zI p1), (2, zI w2_9), (4, zI w4_10)] [] s11 := by
        intro w2_9 w4_10 s11 hf
        replace hf := hf.trans (j_X4_readEither_65_8.eq_1 w2_9 w4_10 s11)
        refine z_aload_n (pc := 65) 0 (zdg D_X4_readEither 34 (65, .aload_n 0, 1) rfl) rfl rfl ?_
        refine z_getI (pc := 66) lf_X4_54 rfl rfl (zdg D_X4_readEither 35 (66, .getfield 54, 3) rfl) ?_
        refine z_bipush (pc := 69) (v := 112) (zdg D_X4_readEither 36 (69, .bipush 112, 2) rfl) rfl ?_
        refine z_icmp_eq (pc := 71) 85 (zdg D_X4_readEither 37 (71, .if_icmp .eq 14, 3) rfl) rfl hf (fun hf => ?_) (fun hf => ?_)
        · exact t_85 w2_9 w4_10 s11 hf
        · refine z_aload_n (pc := 74) 0 (zdg D_X4_readEither 38 (74, .aload_n 0, 1) rfl) rfl rfl ?_
          refine z_getI (pc := 75) lf_X4_54 rfl rfl (zdg D_X4_readEither 39 (75, .getfield 54, 3) rfl) ?_
          refine z_bipush (pc := 78) (v := 111) (zdg D_X4_readEither 40 (78, .bipush 111, 2) rfl) rfl ?_
          refine z_icmp_eq (pc := 80) 85 (zdg D_X4_readEither 41 (80, .if_icmp .eq 5, 3) rfl) rfl hf (fun hf => ?_) (fun hf => ?_)
          · exact t_85 w2_9 w4_10 s11 hf
          · refine z_sub (al' := []) [] rfl ?_
            exact hx (Sum.inr (Sum.inl s11)) hf
      have t_42 : ∀ (w2_6 : Int32) (w4_7 : Int32) (s8 : zG), b_X4_readEither_8 r_X4_readTest p1 v2_1 v3_2 v4_3 s4 = j_X4_readEither_42_8 w2_6 w4_7 s8 → zX zsyC (m_X4_readEither n) K 42 [(0, zR 4 0), (1, zI p1), (2, zI w2_6), (4, zI w4_7)] [] s8 := by
        intro w2_6 w4_7 s8 hf
        replace hf := hf.trans (j_X4_readEither_42_8.eq_1 w2_6 w4_7 s8)
        refine z_iload_n (pc := 42) 2 (zdg D_X4_readEither 23 (42, .iload_n 2, 1) rfl) rfl rfl ?_
        refine z_if_eq (pc := 43) 65 (zdg D_X4_readEither 24 (43, .ifCond .eq 22, 3) rfl) rfl hf (fun hf => ?_) (fun hf => ?_)
        · exact t_65 w2_6 w4_7 s8 hf
        · refine z_aload_n (pc := 46) 0 (zdg D_X4_readEither 25 (46, .aload_n 0, 1) rfl) rfl rfl ?_
          refine z_getI (pc := 47) lf_X4_54 rfl rfl (zdg D_X4_readEither 26 (47, .getfield 54, 3) rfl) ?_
          refine z_bipush (pc := 50) (v := 112) (zdg D_X4_readEither 27 (50, .bipush 112, 2) rfl) rfl ?_
          refine z_icmp_eq (pc := 52) 65 (zdg D_X4_readEither 28 (52, .if_icmp .eq 13, 3) rfl) rfl hf (fun hf => ?_) (fun hf => ?_)
          · exact t_65 w2_6 w4_7 s8 hf
          · refine z_aload_n (pc := 55) 0 (zdg D_X4_readEither 29 (55, .aload_n 0, 1) rfl) rfl rfl ?_
            refine z_getR (pc := 56) (g := 10) (j := 2) lf_X4_21 rfl rfl rfl (zdg D_X4_readEither 30 (56, .getfield 21, 3) rfl) ?_
            refine z_bipush (pc := 59) (v := 111) (zdg D_X4_readEither 31 (59, .bipush 111, 2) rfl) rfl ?_
            refine z_iconst (pc := 61) (v := 0) (zdg D_X4_readEither 32 (61, .iconst 0, 1) rfl) rfl ?_
            refine z_bind hn hf (fun q21 hq hf => ?_)
            refine z_callV (pc := 62) (rest := []) (st2 := []) (fun l => c_X3_add l 2 (111 : Int32) (0 : Int32) s8 q21 hq) zv_X3_add lm_X4_135 rfl rfl rfl rfl rfl rfl (Nat.le_of_ble_eq_true rfl) (by constructor <;> dsimp only [m_X3_add, m_X4_readEither] <;> omega) (zdg D_X4_readEither 33 (62, .invokevirtual 135, 3) rfl) ?_
            exact t_65 w2_6 w4_7 q21 hf
      refine z_iload (pc := 8) 4 (zdg D_X4_readEither 6 (8, .iload 4, 2) rfl) rfl ?_
      refine z_sipush (pc := 10) (v := 400) (zdg D_X4_readEither 7 (10, .sipush 400, 3) rfl) rfl ?_
      refine z_icmp_gt (pc := 13) 119 (zdg D_X4_readEither 8 (13, .if_icmp .gt 106, 3) rfl) rfl hf (fun hf => ?_) (fun hf => ?_)
      · refine z_sub (al' := []) [] rfl ?_
        exact hx (Sum.inr (Sum.inr s4)) hf
      · refine z_aload_n (pc := 16) 0 (zdg D_X4_readEither 9 (16, .aload_n 0, 1) rfl) rfl rfl ?_
        refine z_iload_n (pc := 17) 1 (zdg D_X4_readEither 10 (17, .iload_n 1, 1) rfl) rfl rfl ?_
        refine z_bind hn hf (fun q5 hq hf => ?_)
        refine z_callV (pc := 18) (rest := []) (st2 := [zI q5.1]) (fun l => hr_X4_readTest l p1 s4 q5 hq) (zv_X4_readTest _) lm_X4_132 rfl rfl rfl rfl rfl rfl (Nat.le_of_ble_eq_true rfl) (by constructor <;> dsimp only [m_X4_readTest, m_X4_readEither] <;> omega) (zdg D_X4_readEither 11 (18, .invokevirtual 132, 3) rfl) ?_
        refine z_if_ne (pc := 21) 26 (zdg D_X4_readEither 12 (21, .ifCond .ne 5, 3) rfl) rfl hf (fun hf => ?_) (fun hf => ?_)
        · refine z_iload_n (pc := 26) 3 (zdg D_X4_readEither 15 (26, .iload_n 3, 1) rfl) rfl rfl ?_
          refine z_bipush (pc := 27) (v := 112) (zdg D_X4_readEither 16 (27, .bipush 112, 2) rfl) rfl ?_
          refine z_icmp_ne (pc := 29) 42 (zdg D_X4_readEither 17 (29, .if_icmp .ne 13, 3) rfl) rfl hf (fun hf => ?_) (fun hf => ?_)
          · refine z_sub (al' := [(0, zR 4 0), (1, zI p1), (2, zI v2_1), (4, zI v4_3)]) [0, 1, 2, 4] rfl ?_
            exact t_42 v2_1 v4_3 q5.2 hf
          · refine z_aload_n (pc := 32) 0 (zdg D_X4_readEither 18 (32, .aload_n 0, 1) rfl) rfl rfl ?_
            refine z_getR (pc := 33) (g := 10) (j := 2) lf_X4_21 rfl rfl rfl (zdg D_X4_readEither 19 (33, .getfield 21, 3) rfl) ?_
            refine z_bipush (pc := 36) (v := 112) (zdg D_X4_readEither 20 (36, .bipush 112, 2) rfl) rfl ?_
            refine z_iconst (pc := 38) (v := 0) (zdg D_X4_readEither 21 (38, .iconst 0, 1) rfl) rfl ?_
            refine z_bind hn hf (fun q22 hq hf => ?_)
            refine z_callV (pc := 39) (rest := []) (st2 := []) (fun l => c_X3_add l 2 (112 : Int32) (0 : Int32) q5.2 q22 hq) zv_X3_add lm_X4_135 rfl rfl rfl rfl rfl rfl (Nat.le_of_ble_eq_true rfl) (by constructor <;> dsimp only [m_X3_add, m_X4_readEither] <;> omega) (zdg D_X4_readEither 22 (39, .invokevirtual 135, 3) rfl) ?_
            refine z_sub (al' := [(0, zR 4 0), (1, zI p1), (2, zI v2_1), (4, zI v4_3)]) [0, 1, 2, 4] rfl ?_
            exact t_42 v2_1 v4_3 q22 hf
        · refine z_sub (al' := []) [] rfl ?_
          exact hx (Sum.inl q5.2) hf
noncomputable def rr_X4_readTest : Nat → Int32 → zG → Option (Int32 × zG)
  | 0 => fun _ _ => none
  | n + 1 => f_X4_readTest (f_X4_readOpened (f_X4_readEither (rr_X4_readTest n)) (rr_X4_readTest n))
theorem crr_X4_readTest : ∀ n : Nat, ∀ (l : Launch) (p1 : Int32) (σ : zG) (q : Int32 × zG), rr_X4_readTest n p1 σ = some q → zMet l zsyC (m_X4_readTest (40 + 3 * n)) yX4_readTest [zR 4 0, zI p1] σ (some (zI q.1)) q.2
  | 0, l, p1, σ, q, hq => by cases hq
  | n + 1, l, p1, σ, q, hq => by
    have hT := crr_X4_readTest n
    have hE : ∀ (l : Launch) (p1 : Int32) (σ : zG) (q : Int32 × zG), f_X4_readEither (rr_X4_readTest n) p1 σ = some q → zMet l zsyC (m_X4_readEither (40 + 3 * n + 1)) yX4_readEither [zR 4 0, zI p1] σ (some (zI q.1)) q.2 := fun l p1 σ q hq => c_X4_readEither l (40 + 3 * n + 1) (by omega) (rr_X4_readTest n) (40 + 3 * n) (by omega) hT p1 σ q hq
    have hO : ∀ (l : Launch) (p1 : Int32) (σ : zG) (q : Int32 × zG), f_X4_readOpened (f_X4_readEither (rr_X4_readTest n)) (rr_X4_readTest n) p1 σ = some q → zMet l zsyC (m_X4_readOpened (40 + 3 * n + 2)) yX4_readOpened [zR 4 0, zI p1] σ (some (zI q.1)) q.2 := fun l p1 σ q hq => c_X4_readOpened l (40 + 3 * n + 2) (by omega) (f_X4_readEither (rr_X4_readTest n)) (40 + 3 * n + 1) (by omega) hE (rr_X4_readTest n) (40 + 3 * n) (by omega) hT p1 σ q hq
    exact c_X4_readTest l (40 + 3 * (n + 1)) (by omega) (f_X4_readOpened (f_X4_readEither (rr_X4_readTest n)) (rr_X4_readTest n)) (40 + 3 * n + 2) (by omega) hO p1 σ q hq
noncomputable def g_X4_readEither (p1 : Int32) (σ : zG) : Option (Int32 × zG) := f_X4_readEither (rr_X4_readTest 9) p1 σ
theorem cg_X4_readEither : ∀ (l : Launch) (p1 : Int32) (σ : zG) (q : Int32 × zG), g_X4_readEither p1 σ = some q → zMet l zsyC (m_X4_readEither 68) yX4_readEither [zR 4 0, zI p1] σ (some (zI q.1)) q.2 := fun l p1 σ q hq => c_X4_readEither l 68 (by omega) (rr_X4_readTest 9) 67 (by omega) (crr_X4_readTest 9) p1 σ q hq

def L_X4_readLine : List (Nat × Instr × Nat) := [(0, .aload_n 0, 1), (1, .getfield 54, 3), (4, .iload_n 1, 1), (5, .if_icmp .eq 9, 3), (8, .aload_n 0, 1), (9, .iconst 1, 1), (10, .invokevirtual 70, 3), (13, .ireturn, 1), (14, .aload_n 0, 1), (15, .getfield 21, 3), (18, .getfield 115, 3), (21, .bipush 16, 2), (23, .if_icmp .lt 9, 3), (26, .aload_n 0, 1), (27, .iconst 3, 1), (28, .invokevirtual 70, 3), (31, .ireturn, 1), (32, .aload_n 0, 1), (33, .invokevirtual 44, 3), (36, .aload_n 0, 1), (37, .getfield 21, 3), (40, .getfield 118, 3), (43, .istore_n 2, 1), (44, .aload_n 0, 1), (45, .invokevirtual 121, 3), (48, .ifCond .ne 5, 3), (51, .iconst 0, 1), (52, .ireturn, 1), (53, .aload_n 0, 1), (54, .getfield 21, 3), (57, .getfield 118, 3), (60, .istore_n 3, 1), (61, .aload_n 0, 1), (62, .getfield 54, 3), (65, .bipush 110, 2), (67, .if_icmp .ne 17, 3), (70, .aload_n 0, 1), (71, .invokevirtual 44, 3), (74, .aload_n 0, 1), (75, .iconst 0, 1), (76, .invokevirtual 125, 3), (79, .ifCond .ne 5, 3), (82, .iconst 0, 1), (83, .ireturn, 1), (84, .aload_n 0, 1), (85, .getfield 21, 3), (88, .iload_n 2, 1), (89, .iload_n 3, 1), (90, .invokevirtual 128, 3), (93, .aload_n 0, 1), (94, .bipush 59, 2), (96, .invokevirtual 84, 3), (99, .ireturn, 1)]
set_option maxRecDepth 100000 in
theorem D_X4_readLine : zdecs cX4_readLine L_X4_readLine = true := by decide +kernel
noncomputable def j_X4_readLine_84 (w2_3 : Int32) (w3_4 : Int32) (s5 : zG) : Option (Int32 × zG) :=
  (f_X3_addLine 2 w2_3 w3_4 s5).bind (fun q6 => (f_X4_pass (59 : Int32) q6).bind (fun q7 => zg (zbl q7.1) (some (q7.1, q7.2))))
noncomputable def f_X4_readLine (p1 : Int32) (σ : zG) : Option (Int32 × zG) :=
  if (σ.1 4 0 8) = p1 then if (16 : Int32) ≤ (σ.1 10 2 0) then (f_X4_fail (3 : Int32) σ).bind (fun q10 => zg (zbl q10.1) (some (q10.1, q10.2))) else (f_X4_advance σ).bind (fun q1 => (f_X4_readSum q1).bind (fun q2 => if q2.1 = 0 then some ((0 : Int32), q2.2) else if (q2.2.1 4 0 8) = (110 : Int32) then (f_X4_advance q2.2).bind (fun q8 => (g_X4_readEither (0 : Int32) q8).bind (fun q9 => if q9.1 = 0 then some ((0 : Int32), q9.2) else j_X4_readLine_84 (q1.1 10 2 1) (q2.2.1 10 2 1) q9.2)) else j_X4_readLine_84 (q1.1 10 2 1) (q2.2.1 10 2 1) q2.2)) else (f_X4_fail (1 : Int32) σ).bind (fun q11 => zg (zbl q11.1) (some (q11.1, q11.2)))
set_option maxRecDepth 100000 in
set_option maxHeartbeats 4000000 in
theorem c_X4_readLine (l : Launch) (p1 : Int32) (σ : zG) (q : Int32 × zG) (hq : f_X4_readLine p1 σ = some q) : zMet l zsyC m_X4_readLine yX4_readLine [zR 4 0, zI p1] σ (some (zI q.1)) q.2 := by
  refine zEnter [(0, zR 4 0), (1, zI p1)] (by decide) rfl (fun _ => Nat.le_of_ble_eq_true rfl) (fun _ => rfl) (fun w h => ?_) (fun K hv hs => ?_)
  · exact zokm rfl h
  · have hP : ∀ x s, f_X4_readLine p1 σ = some (x, s) → zKv K = some (zI x) ∧ zKs K = s := fun x s h => by rw [hq] at h; cases h; exact ⟨hv, hs⟩
    have hn : f_X4_readLine p1 σ ≠ none := fun z => by rw [hq] at z; cases z
    have hf := f_X4_readLine.eq_1 p1 σ
    have t_84 : ∀ (w2_3 : Int32) (w3_4 : Int32) (s5 : zG), f_X4_readLine p1 σ = j_X4_readLine_84 w2_3 w3_4 s5 → zX zsyC m_X4_readLine K 84 [(0, zR 4 0), (2, zI w2_3), (3, zI w3_4)] [] s5 := by
      intro w2_3 w3_4 s5 hf
      replace hf := hf.trans (j_X4_readLine_84.eq_1 w2_3 w3_4 s5)
      refine z_aload_n (pc := 84) 0 (zdg D_X4_readLine 44 (84, .aload_n 0, 1) rfl) rfl rfl ?_
      refine z_getR (pc := 85) (g := 10) (j := 2) lf_X4_21 rfl rfl rfl (zdg D_X4_readLine 45 (85, .getfield 21, 3) rfl) ?_
      refine z_iload_n (pc := 88) 1 (zdg D_X4_readLine 46 (88, .iload_n 2, 1) rfl) rfl rfl ?_
      refine z_iload_n (pc := 89) 2 (zdg D_X4_readLine 47 (89, .iload_n 3, 1) rfl) rfl rfl ?_
      refine z_bind hn hf (fun q6 hq hf => ?_)
      refine z_callV (pc := 90) (rest := []) (st2 := []) (fun l => c_X3_addLine l 2 w2_3 w3_4 s5 q6 hq) zv_X3_addLine lm_X4_128 rfl rfl rfl rfl rfl rfl (Nat.le_of_ble_eq_true rfl) ⟨Nat.le_of_ble_eq_true rfl, Nat.le_of_ble_eq_true rfl⟩ (zdg D_X4_readLine 48 (90, .invokevirtual 128, 3) rfl) ?_
      refine z_aload_n (pc := 93) 0 (zdg D_X4_readLine 49 (93, .aload_n 0, 1) rfl) rfl rfl ?_
      refine z_bipush (pc := 94) (v := 59) (zdg D_X4_readLine 50 (94, .bipush 59, 2) rfl) rfl ?_
      refine z_bind hn hf (fun q7 hq hf => ?_)
      refine z_callV (pc := 96) (rest := []) (st2 := [zI q7.1]) (fun l => c_X4_pass l (59 : Int32) q6 q7 hq) zv_X4_pass lm_X4_84 rfl rfl rfl rfl rfl rfl (Nat.le_of_ble_eq_true rfl) ⟨Nat.le_of_ble_eq_true rfl, Nat.le_of_ble_eq_true rfl⟩ (zdg D_X4_readLine 51 (96, .invokevirtual 84, 3) rfl) ?_
      exact z_zret (pc := 99) rfl (zdg D_X4_readLine 52 (99, .ireturn, 1) rfl) hn hf (fun hf => (hP _ _ hf))
    refine z_aload_n (pc := 0) 0 (zdg D_X4_readLine 0 (0, .aload_n 0, 1) rfl) rfl rfl ?_
    refine z_getI (pc := 1) lf_X4_54 rfl rfl (zdg D_X4_readLine 1 (1, .getfield 54, 3) rfl) ?_
    refine z_iload_n (pc := 4) 1 (zdg D_X4_readLine 2 (4, .iload_n 1, 1) rfl) rfl rfl ?_
    refine z_icmp_eq (pc := 5) 14 (zdg D_X4_readLine 3 (5, .if_icmp .eq 9, 3) rfl) rfl hf (fun hf => ?_) (fun hf => ?_)
    · refine z_aload_n (pc := 14) 0 (zdg D_X4_readLine 8 (14, .aload_n 0, 1) rfl) rfl rfl ?_
      refine z_getR (pc := 15) (g := 10) (j := 2) lf_X4_21 rfl rfl rfl (zdg D_X4_readLine 9 (15, .getfield 21, 3) rfl) ?_
      refine z_getI (pc := 18) lf_X4_115 rfl rfl (zdg D_X4_readLine 10 (18, .getfield 115, 3) rfl) ?_
      refine z_bipush (pc := 21) (v := 16) (zdg D_X4_readLine 11 (21, .bipush 16, 2) rfl) rfl ?_
      refine z_icmp_lt (pc := 23) 32 (zdg D_X4_readLine 12 (23, .if_icmp .lt 9, 3) rfl) rfl hf (fun hf => ?_) (fun hf => ?_)
      · refine z_aload_n (pc := 32) 0 (zdg D_X4_readLine 17 (32, .aload_n 0, 1) rfl) rfl rfl ?_
        refine z_bind hn hf (fun q1 hq hf => ?_)
        refine z_callV (pc := 33) (rest := []) (st2 := []) (fun l => c_X4_advance l σ q1 hq) zv_X4_advance lm_X4_44 rfl rfl rfl rfl rfl rfl (Nat.le_of_ble_eq_true rfl) ⟨Nat.le_of_ble_eq_true rfl, Nat.le_of_ble_eq_true rfl⟩ (zdg D_X4_readLine 18 (33, .invokevirtual 44, 3) rfl) ?_
        refine z_aload_n (pc := 36) 0 (zdg D_X4_readLine 19 (36, .aload_n 0, 1) rfl) rfl rfl ?_
        refine z_getR (pc := 37) (g := 10) (j := 2) lf_X4_21 rfl rfl rfl (zdg D_X4_readLine 20 (37, .getfield 21, 3) rfl) ?_
        refine z_getI (pc := 40) lf_X4_118 rfl rfl (zdg D_X4_readLine 21 (40, .getfield 118, 3) rfl) ?_
        refine z_istore_n (pc := 43) (al' := [(2, zI (q1.1 10 2 1)), (0, zR 4 0), (1, zI p1)]) (zdg D_X4_readLine 22 (43, .istore_n 2, 1) rfl) rfl (by decide) rfl ?_
        refine z_aload_n (pc := 44) 1 (zdg D_X4_readLine 23 (44, .aload_n 0, 1) rfl) rfl rfl ?_
        refine z_bind hn hf (fun q2 hq hf => ?_)
        refine z_callV (pc := 45) (rest := []) (st2 := [zI q2.1]) (fun l => c_X4_readSum l q1 q2 hq) zv_X4_readSum lm_X4_121 rfl rfl rfl rfl rfl rfl (Nat.le_of_ble_eq_true rfl) ⟨Nat.le_of_ble_eq_true rfl, Nat.le_of_ble_eq_true rfl⟩ (zdg D_X4_readLine 24 (45, .invokevirtual 121, 3) rfl) ?_
        refine z_if_ne (pc := 48) 53 (zdg D_X4_readLine 25 (48, .ifCond .ne 5, 3) rfl) rfl hf (fun hf => ?_) (fun hf => ?_)
        · refine z_aload_n (pc := 53) 1 (zdg D_X4_readLine 28 (53, .aload_n 0, 1) rfl) rfl rfl ?_
          refine z_getR (pc := 54) (g := 10) (j := 2) lf_X4_21 rfl rfl rfl (zdg D_X4_readLine 29 (54, .getfield 21, 3) rfl) ?_
          refine z_getI (pc := 57) lf_X4_118 rfl rfl (zdg D_X4_readLine 30 (57, .getfield 118, 3) rfl) ?_
          refine z_istore_n (pc := 60) (al' := [(3, zI (q2.2.1 10 2 1)), (2, zI (q1.1 10 2 1)), (0, zR 4 0), (1, zI p1)]) (zdg D_X4_readLine 31 (60, .istore_n 3, 1) rfl) rfl (by decide) rfl ?_
          refine z_aload_n (pc := 61) 2 (zdg D_X4_readLine 32 (61, .aload_n 0, 1) rfl) rfl rfl ?_
          refine z_getI (pc := 62) lf_X4_54 rfl rfl (zdg D_X4_readLine 33 (62, .getfield 54, 3) rfl) ?_
          refine z_bipush (pc := 65) (v := 110) (zdg D_X4_readLine 34 (65, .bipush 110, 2) rfl) rfl ?_
          refine z_icmp_ne (pc := 67) 84 (zdg D_X4_readLine 35 (67, .if_icmp .ne 17, 3) rfl) rfl hf (fun hf => ?_) (fun hf => ?_)
          · refine z_sub (al' := [(0, zR 4 0), (2, zI (q1.1 10 2 1)), (3, zI (q2.2.1 10 2 1))]) [2, 1, 0] rfl ?_
            exact t_84 (q1.1 10 2 1) (q2.2.1 10 2 1) q2.2 hf
          · refine z_aload_n (pc := 70) 2 (zdg D_X4_readLine 36 (70, .aload_n 0, 1) rfl) rfl rfl ?_
            refine z_bind hn hf (fun q8 hq hf => ?_)
            refine z_callV (pc := 71) (rest := []) (st2 := []) (fun l => c_X4_advance l q2.2 q8 hq) zv_X4_advance lm_X4_44 rfl rfl rfl rfl rfl rfl (Nat.le_of_ble_eq_true rfl) ⟨Nat.le_of_ble_eq_true rfl, Nat.le_of_ble_eq_true rfl⟩ (zdg D_X4_readLine 37 (71, .invokevirtual 44, 3) rfl) ?_
            refine z_aload_n (pc := 74) 2 (zdg D_X4_readLine 38 (74, .aload_n 0, 1) rfl) rfl rfl ?_
            refine z_iconst (pc := 75) (v := 0) (zdg D_X4_readLine 39 (75, .iconst 0, 1) rfl) rfl ?_
            refine z_bind hn hf (fun q9 hq hf => ?_)
            refine z_callV (pc := 76) (rest := []) (st2 := [zI q9.1]) (fun l => cg_X4_readEither l (0 : Int32) q8 q9 hq) (zv_X4_readEither _) lm_X4_125 rfl rfl rfl rfl rfl rfl (Nat.le_of_ble_eq_true rfl) ⟨Nat.le_of_ble_eq_true rfl, Nat.le_of_ble_eq_true rfl⟩ (zdg D_X4_readLine 40 (76, .invokevirtual 125, 3) rfl) ?_
            refine z_if_ne (pc := 79) 84 (zdg D_X4_readLine 41 (79, .ifCond .ne 5, 3) rfl) rfl hf (fun hf => ?_) (fun hf => ?_)
            · refine z_sub (al' := [(0, zR 4 0), (2, zI (q1.1 10 2 1)), (3, zI (q2.2.1 10 2 1))]) [2, 1, 0] rfl ?_
              exact t_84 (q1.1 10 2 1) (q2.2.1 10 2 1) q9.2 hf
            · refine z_iconst (pc := 82) (v := 0) (zdg D_X4_readLine 42 (82, .iconst 0, 1) rfl) rfl ?_
              exact z_iret (pc := 83) rfl rfl (zdg D_X4_readLine 43 (83, .ireturn, 1) rfl) (hP _ _ hf)
        · refine z_iconst (pc := 51) (v := 0) (zdg D_X4_readLine 26 (51, .iconst 0, 1) rfl) rfl ?_
          exact z_iret (pc := 52) rfl rfl (zdg D_X4_readLine 27 (52, .ireturn, 1) rfl) (hP _ _ hf)
      · refine z_aload_n (pc := 26) 0 (zdg D_X4_readLine 13 (26, .aload_n 0, 1) rfl) rfl rfl ?_
        refine z_iconst (pc := 27) (v := 3) (zdg D_X4_readLine 14 (27, .iconst 3, 1) rfl) rfl ?_
        refine z_bind hn hf (fun q10 hq hf => ?_)
        refine z_callV (pc := 28) (rest := []) (st2 := [zI q10.1]) (fun l => c_X4_fail l (3 : Int32) σ q10 hq) zv_X4_fail lm_X4_70 rfl rfl rfl rfl rfl rfl (Nat.le_of_ble_eq_true rfl) ⟨Nat.le_of_ble_eq_true rfl, Nat.le_of_ble_eq_true rfl⟩ (zdg D_X4_readLine 15 (28, .invokevirtual 70, 3) rfl) ?_
        exact z_zret (pc := 31) rfl (zdg D_X4_readLine 16 (31, .ireturn, 1) rfl) hn hf (fun hf => (hP _ _ hf))
    · refine z_aload_n (pc := 8) 0 (zdg D_X4_readLine 4 (8, .aload_n 0, 1) rfl) rfl rfl ?_
      refine z_iconst (pc := 9) (v := 1) (zdg D_X4_readLine 5 (9, .iconst 1, 1) rfl) rfl ?_
      refine z_bind hn hf (fun q11 hq hf => ?_)
      refine z_callV (pc := 10) (rest := []) (st2 := [zI q11.1]) (fun l => c_X4_fail l (1 : Int32) σ q11 hq) zv_X4_fail lm_X4_70 rfl rfl rfl rfl rfl rfl (Nat.le_of_ble_eq_true rfl) ⟨Nat.le_of_ble_eq_true rfl, Nat.le_of_ble_eq_true rfl⟩ (zdg D_X4_readLine 6 (10, .invokevirtual 70, 3) rfl) ?_
      exact z_zret (pc := 13) rfl (zdg D_X4_readLine 7 (13, .ireturn, 1) rfl) hn hf (fun hf => (hP _ _ hf))

def L_X4_readLaw : List (Nat × Instr × Nat) := [(0, .aload_n 0, 1), (1, .iload_n 2, 1), (2, .putfield 103, 3), (5, .aload_n 0, 1), (6, .iload_n 3, 1), (7, .putfield 106, 3), (10, .aload_n 0, 1), (11, .getfield 21, 3), (14, .invokevirtual 109, 3), (17, .iconst 0, 1), (18, .istore 4, 2), (20, .iload 4, 2), (22, .sipush 400, 3), (25, .if_icmp .gt 26, 3), (28, .aload_n 0, 1), (29, .getfield 54, 3), (32, .ifCond .eq 19, 3), (35, .aload_n 0, 1), (36, .iload_n 1, 1), (37, .invokevirtual 112, 3), (40, .ifCond .ne 5, 3), (43, .iconst 0, 1), (44, .ireturn, 1), (45, .iinc 4 1, 3), (48, .goto (-28), 3), (51, .iconst 1, 1), (52, .ireturn, 1)]
set_option maxRecDepth 100000 in
theorem D_X4_readLaw : zdecs cX4_readLaw L_X4_readLaw = true := by decide +kernel
noncomputable def b_X4_readLaw_20 (p1 : Int32) (v4_4 : Int32) (s5 : zG) : Option ((Int32 × zG) ⊕ ((zG) ⊕ (zG))) :=
  if v4_4 ≤ (400 : Int32) then if (s5.1 4 0 8) = 0 then some (Sum.inr (Sum.inr s5)) else (f_X4_readLine p1 s5).bind (fun q6 => if q6.1 = 0 then some (Sum.inr (Sum.inl q6.2)) else some (Sum.inl ((v4_4 + 1), q6.2))) else some (Sum.inr (Sum.inr s5))
noncomputable def f_X4_readLaw (p1 : Int32) (p2 : Int32) (p3 : Int32) (σ : zG) : Option (Int32 × zG) :=
  zb (zwI σ 4 0 5 p2) (fun s1 => zb (zwI s1 4 0 6 p3) (fun s2 => zb (f_X3_clear 2 s2) (fun s3 => (zlp (fun q : Int32 × zG => b_X4_readLaw_20 p1 q.1 q.2) ((0 : Int32), s3)).bind (Sum.elim (fun e7 : zG => some ((0 : Int32), e7)) (fun e8 : zG => some ((1 : Int32), e8))))))
set_option maxRecDepth 100000 in
set_option maxHeartbeats 4000000 in
theorem c_X4_readLaw (l : Launch) (p1 : Int32) (p2 : Int32) (p3 : Int32) (σ : zG) (q : Int32 × zG) (hq : f_X4_readLaw p1 p2 p3 σ = some q) : zMet l zsyC m_X4_readLaw yX4_readLaw [zR 4 0, zI p1, zI p2, zI p3] σ (some (zI q.1)) q.2 := by
  refine zEnter [(0, zR 4 0), (1, zI p1), (2, zI p2), (3, zI p3)] (by decide) rfl (fun _ => Nat.le_of_ble_eq_true rfl) (fun _ => rfl) (fun w h => ?_) (fun K hv hs => ?_)
  · exact zokm rfl h
  · have hP : ∀ x s, f_X4_readLaw p1 p2 p3 σ = some (x, s) → zKv K = some (zI x) ∧ zKs K = s := fun x s h => by rw [hq] at h; cases h; exact ⟨hv, hs⟩
    have hn : f_X4_readLaw p1 p2 p3 σ ≠ none := fun z => by rw [hq] at z; cases z
    have hf := f_X4_readLaw.eq_1 p1 p2 p3 σ
    refine z_aload_n (pc := 0) 0 (zdg D_X4_readLaw 0 (0, .aload_n 0, 1) rfl) rfl rfl ?_
    refine z_iload_n (pc := 1) 2 (zdg D_X4_readLaw 1 (1, .iload_n 2, 1) rfl) rfl rfl ?_
    refine z_putI (pc := 2) lw_X4_103 rfl rfl rfl rfl (zdg D_X4_readLaw 2 (2, .putfield 103, 3) rfl) ?_
    refine z_nmS hf (fun s1 hf => ?_)
    refine z_aload_n (pc := 5) 0 (zdg D_X4_readLaw 3 (5, .aload_n 0, 1) rfl) rfl rfl ?_
    refine z_iload_n (pc := 6) 3 (zdg D_X4_readLaw 4 (6, .iload_n 3, 1) rfl) rfl rfl ?_
    refine z_putI (pc := 7) lw_X4_106 rfl rfl rfl rfl (zdg D_X4_readLaw 5 (7, .putfield 106, 3) rfl) ?_
    refine z_nmS hf (fun s2 hf => ?_)
    refine z_aload_n (pc := 10) 0 (zdg D_X4_readLaw 6 (10, .aload_n 0, 1) rfl) rfl rfl ?_
    refine z_getR (pc := 11) (g := 10) (j := 2) lf_X4_21 rfl rfl rfl (zdg D_X4_readLaw 7 (11, .getfield 21, 3) rfl) ?_
    refine z_callV (pc := 14) (rest := []) (st2 := []) (fun l => c_X3_clear l 2 s2) zv_X3_clear lm_X4_109 rfl rfl rfl rfl rfl rfl (Nat.le_of_ble_eq_true rfl) ⟨Nat.le_of_ble_eq_true rfl, Nat.le_of_ble_eq_true rfl⟩ (zdg D_X4_readLaw 8 (14, .invokevirtual 109, 3) rfl) ?_
    refine z_nmS hf (fun s3 hf => ?_)
    refine z_iconst (pc := 17) (v := 0) (zdg D_X4_readLaw 9 (17, .iconst 0, 1) rfl) rfl ?_
    refine z_istore (pc := 18) (al' := [(4, zI (0 : Int32)), (0, zR 4 0), (1, zI p1), (2, zI p2), (3, zI p3)]) (zdg D_X4_readLaw 10 (18, .istore 4, 2) rfl) (by decide) rfl ?_
    refine z_sub (al' := [(0, zR 4 0), (1, zI p1), (4, zI (0 : Int32))]) [1, 2, 0] rfl ?_
    refine z_loop (f := (fun q : Int32 × zG => b_X4_readLaw_20 p1 q.1 q.2)) (a := ((0 : Int32), s3)) (fun q : Int32 × zG => zX zsyC m_X4_readLaw K 20 [(0, zR 4 0), (1, zI p1), (4, zI q.1)] [] q.2) (Sum.elim (fun e7 : zG => zX zsyC m_X4_readLaw K 43 [] [] e7) (fun e8 : zG => zX zsyC m_X4_readLaw K 51 [] [] e8)) hn hf ?_ ?_
    · intro b hf
      cases b with
      | inl e7 =>
        refine z_iconst (pc := 43) (v := 0) (zdg D_X4_readLaw 21 (43, .iconst 0, 1) rfl) rfl ?_
        exact z_iret (pc := 44) rfl rfl (zdg D_X4_readLaw 22 (44, .ireturn, 1) rfl) (hP _ _ hf)
      | inr b =>
        revert hf
        revert b
        intro e8 hf
        refine z_iconst (pc := 51) (v := 1) (zdg D_X4_readLaw 25 (51, .iconst 1, 1) rfl) rfl ?_
        exact z_iret (pc := 52) rfl rfl (zdg D_X4_readLaw 26 (52, .ireturn, 1) rfl) (hP _ _ hf)
    · rintro ⟨v4_4, s5⟩ hn hi hx
      have hf := b_X4_readLaw_20.eq_1 p1 v4_4 s5
      refine z_iload (pc := 20) 2 (zdg D_X4_readLaw 11 (20, .iload 4, 2) rfl) rfl ?_
      refine z_sipush (pc := 22) (v := 400) (zdg D_X4_readLaw 12 (22, .sipush 400, 3) rfl) rfl ?_
      refine z_icmp_gt (pc := 25) 51 (zdg D_X4_readLaw 13 (25, .if_icmp .gt 26, 3) rfl) rfl hf (fun hf => ?_) (fun hf => ?_)
      · refine z_sub (al' := []) [] rfl ?_
        exact hx (Sum.inr s5) hf
      · refine z_aload_n (pc := 28) 0 (zdg D_X4_readLaw 14 (28, .aload_n 0, 1) rfl) rfl rfl ?_
        refine z_getI (pc := 29) lf_X4_54 rfl rfl (zdg D_X4_readLaw 15 (29, .getfield 54, 3) rfl) ?_
        refine z_if_eq (pc := 32) 51 (zdg D_X4_readLaw 16 (32, .ifCond .eq 19, 3) rfl) rfl hf (fun hf => ?_) (fun hf => ?_)
        · refine z_sub (al' := []) [] rfl ?_
          exact hx (Sum.inr s5) hf
        · refine z_aload_n (pc := 35) 0 (zdg D_X4_readLaw 17 (35, .aload_n 0, 1) rfl) rfl rfl ?_
          refine z_iload_n (pc := 36) 1 (zdg D_X4_readLaw 18 (36, .iload_n 1, 1) rfl) rfl rfl ?_
          refine z_bind hn hf (fun q6 hq hf => ?_)
          refine z_callV (pc := 37) (rest := []) (st2 := [zI q6.1]) (fun l => c_X4_readLine l p1 s5 q6 hq) zv_X4_readLine lm_X4_112 rfl rfl rfl rfl rfl rfl (Nat.le_of_ble_eq_true rfl) ⟨Nat.le_of_ble_eq_true rfl, Nat.le_of_ble_eq_true rfl⟩ (zdg D_X4_readLaw 19 (37, .invokevirtual 112, 3) rfl) ?_
          refine z_if_ne (pc := 40) 45 (zdg D_X4_readLaw 20 (40, .ifCond .ne 5, 3) rfl) rfl hf (fun hf => ?_) (fun hf => ?_)
          · refine z_iinc (pc := 45) (v0 := (v4_4 + 1)) (al' := [(4, zI (v4_4 + 1)), (0, zR 4 0), (1, zI p1)]) 2 (zdg D_X4_readLaw 23 (45, .iinc 4 1, 3) rfl) rfl rfl (by decide) rfl ?_
            refine z_goto (pc := 48) 20 (zdg D_X4_readLaw 24 (48, .goto (-28), 3) rfl) rfl ?_
            refine z_sub (al' := [(0, zR 4 0), (1, zI p1), (4, zI (v4_4 + 1))]) [1, 2, 0] rfl ?_
            exact hi ((v4_4 + 1), q6.2) hf
          · refine z_sub (al' := []) [] rfl ?_
            exact hx (Sum.inl q6.2) hf

def L_X5_mark : List (Nat × Instr × Nat) := [(0, .iload_n 2, 1), (1, .invokestatic 61, 3), (4, .ifCond .eq 39, 3), (7, .iload_n 1, 1), (8, .ifCond .lt 35, 3), (11, .iload_n 1, 1), (12, .bipush 12, 2), (14, .if_icmp .ge 29, 3), (17, .aload_n 0, 1), (18, .getfield 9, 3), (21, .iload_n 1, 1), (22, .sipush 501, 3), (25, .imul, 1), (26, .iload_n 2, 1), (27, .iadd, 1), (28, .iload_n 3, 1), (29, .i2b, 1), (30, .bastore, 1), (31, .aload_n 0, 1), (32, .getfield 15, 3), (35, .iload_n 2, 1), (36, .dup2, 1), (37, .laload, 1), (38, .lconst 1, 1), (39, .iload_n 3, 1), (40, .lshl, 1), (41, .lor, 1), (42, .lastore, 1), (43, .return_, 1)]
set_option maxRecDepth 100000 in
theorem D_X5_mark : zdecs cX5_mark L_X5_mark = true := by decide +kernel
noncomputable def f_X5_mark (i : Nat) (p1 : Int32) (p2 : Int32) (p3 : Int32) (σ : zG) : Option (zG) :=
  if (f_X11_isMinute p2) = 0 then some σ else if 0 ≤ p1 then if p1 < (12 : Int32) then zg (zin ((p1 * (501 : Int32)) + p2) 6012) (zb (zwI σ 21 i ((p1 * (501 : Int32)) + p2).toNatClampNeg (zi2b (zi2b p3))) (fun s1 => zg (zin p2 501) (zg (zin p2 501) (zb (zwL s1 22 i p2.toNatClampNeg ((s1.2 22 i p2.toNatClampNeg) ||| (zlshl (1 : Int64) p3))) (fun s2 => some s2))))) else some σ else some σ
set_option maxRecDepth 100000 in
set_option maxHeartbeats 4000000 in
theorem c_X5_mark (l : Launch) (i : Nat) (p1 : Int32) (p2 : Int32) (p3 : Int32) (σ : zG) (q : zG) (hq : f_X5_mark i p1 p2 p3 σ = some q) : zMet l zsyC m_X5_mark yX5_mark [zR 9 i, zI p1, zI p2, zI p3] σ none q := by
  refine zEnter [(0, zR 9 i), (1, zI p1), (2, zI p2), (3, zI p3)] (by decide) rfl (fun _ => Nat.le_of_ble_eq_true rfl) (fun _ => rfl) (fun w h => ?_) (fun K hv hs => ?_)
  · exact zokm rfl h
  · have hP : ∀ s, f_X5_mark i p1 p2 p3 σ = some s → zKv K = none ∧ zKs K = s := fun s h => by rw [hq] at h; cases h; exact ⟨hv, hs⟩
    have hn : f_X5_mark i p1 p2 p3 σ ≠ none := fun z => by rw [hq] at z; cases z
    have hf := f_X5_mark.eq_1 i p1 p2 p3 σ
    refine z_iload_n (pc := 0) 2 (zdg D_X5_mark 0 (0, .iload_n 2, 1) rfl) rfl rfl ?_
    refine z_callSN (pc := 1) (rest := []) (st2 := [zI (f_X11_isMinute p2)]) (host := "NobodyThere") (fun l => c_X11_isMinute l p2 σ) zs_X11_isMinute (by decide +kernel) rfl rfl rfl (Nat.le_of_ble_eq_true rfl) ⟨Nat.le_of_ble_eq_true rfl, Nat.le_of_ble_eq_true rfl⟩ (zdg D_X5_mark 1 (1, .invokestatic 61, 3) rfl) ?_
    refine z_if_eq (pc := 4) 43 (zdg D_X5_mark 2 (4, .ifCond .eq 39, 3) rfl) rfl hf (fun hf => ?_) (fun hf => ?_)
    · exact z_vret (pc := 43) rfl (zdg D_X5_mark 28 (43, .return_, 1) rfl) (hP _ hf)
    · refine z_iload_n (pc := 7) 1 (zdg D_X5_mark 3 (7, .iload_n 1, 1) rfl) rfl rfl ?_
      refine z_if_lt (pc := 8) 43 (zdg D_X5_mark 4 (8, .ifCond .lt 35, 3) rfl) rfl hf (fun hf => ?_) (fun hf => ?_)
      · exact z_vret (pc := 43) rfl (zdg D_X5_mark 28 (43, .return_, 1) rfl) (hP _ hf)
      · refine z_iload_n (pc := 11) 1 (zdg D_X5_mark 5 (11, .iload_n 1, 1) rfl) rfl rfl ?_
        refine z_bipush (pc := 12) (v := 12) (zdg D_X5_mark 6 (12, .bipush 12, 2) rfl) rfl ?_
        refine z_icmp_ge (pc := 14) 43 (zdg D_X5_mark 7 (14, .if_icmp .ge 29, 3) rfl) rfl hf (fun hf => ?_) (fun hf => ?_)
        · exact z_vret (pc := 43) rfl (zdg D_X5_mark 28 (43, .return_, 1) rfl) (hP _ hf)
        · refine z_aload_n (pc := 17) 0 (zdg D_X5_mark 8 (17, .aload_n 0, 1) rfl) rfl rfl ?_
          refine z_getR (pc := 18) (g := 21) (j := i) lf_X5_9 rfl rfl rfl (zdg D_X5_mark 9 (18, .getfield 9, 3) rfl) ?_
          refine z_iload_n (pc := 21) 1 (zdg D_X5_mark 10 (21, .iload_n 1, 1) rfl) rfl rfl ?_
          refine z_sipush (pc := 22) (v := 501) (zdg D_X5_mark 11 (22, .sipush 501, 3) rfl) rfl ?_
          refine z_imul (pc := 25) (zdg D_X5_mark 12 (25, .imul, 1) rfl) ?_
          refine z_iload_n (pc := 26) 2 (zdg D_X5_mark 13 (26, .iload_n 2, 1) rfl) rfl rfl ?_
          refine z_iadd (pc := 27) (zdg D_X5_mark 14 (27, .iadd, 1) rfl) ?_
          refine z_iload_n (pc := 28) 3 (zdg D_X5_mark 15 (28, .iload_n 3, 1) rfl) rfl rfl ?_
          refine z_i2b (pc := 29) (zdg D_X5_mark 16 (29, .i2b, 1) rfl) ?_
          refine z_bast (pc := 30) rfl (fun _ => rfl) (zdg D_X5_mark 17 (30, .bastore, 1) rfl) hn hf (fun hf => ?_)
          refine z_nmS hf (fun s1 hf => ?_)
          refine z_aload_n (pc := 31) 0 (zdg D_X5_mark 18 (31, .aload_n 0, 1) rfl) rfl rfl ?_
          refine z_getR (pc := 32) (g := 22) (j := i) lf_X5_15 rfl rfl rfl (zdg D_X5_mark 19 (32, .getfield 15, 3) rfl) ?_
          refine z_iload_n (pc := 35) 2 (zdg D_X5_mark 20 (35, .iload_n 2, 1) rfl) rfl rfl ?_
          refine z_dup2 (pc := 36) rfl rfl (zdg D_X5_mark 21 (36, .dup2, 1) rfl) ?_
          refine z_lald (pc := 37) rfl (fun _ => rfl) (zdg D_X5_mark 22 (37, .laload, 1) rfl) hn hf (fun hf => ?_)
          refine z_lconst (pc := 38) (v := 1) (zdg D_X5_mark 23 (38, .lconst 1, 1) rfl) rfl ?_
          refine z_iload_n (pc := 39) 3 (zdg D_X5_mark 24 (39, .iload_n 3, 1) rfl) rfl rfl ?_
          refine z_lshl (pc := 40) (zdg D_X5_mark 25 (40, .lshl, 1) rfl) ?_
          refine z_lor (pc := 41) (zdg D_X5_mark 26 (41, .lor, 1) rfl) ?_
          refine z_last (pc := 42) rfl (fun _ => rfl) (zdg D_X5_mark 27 (42, .lastore, 1) rfl) hn hf (fun hf => ?_)
          refine z_nmS hf (fun s2 hf => ?_)
          exact z_vret (pc := 43) rfl (zdg D_X5_mark 28 (43, .return_, 1) rfl) (hP _ hf)

def L_X5_follow : List (Nat × Instr × Nat) := [(0, .aload_n 1, 1), (1, .getfield 41, 3), (4, .iload_n 2, 1), (5, .iaload, 1), (6, .istore 5, 2), (8, .aload_n 1, 1), (9, .getfield 45, 3), (12, .iload_n 2, 1), (13, .iaload, 1), (14, .bipush 8, 2), (16, .irem, 1), (17, .istore 6, 2), (19, .aload_n 1, 1), (20, .getfield 45, 3), (23, .iload_n 2, 1), (24, .iaload, 1), (25, .bipush 8, 2), (27, .idiv, 1), (28, .istore 7, 2), (30, .aload_n 0, 1), (31, .iload_n 2, 1), (32, .iload 5, 2), (34, .iload 7, 2), (36, .bipush 8, 2), (38, .imul, 1), (39, .iload 6, 2), (41, .iadd, 1), (42, .invokevirtual 48, 3), (45, .iconst 0, 1), (46, .istore 8, 2), (48, .iload 8, 2), (50, .aload_n 1, 1), (51, .getfield 52, 3), (54, .iload_n 2, 1), (55, .iaload, 1), (56, .if_icmp .ge 166, 3), (59, .iload 8, 2), (61, .bipush 8, 2), (63, .if_icmp .ge 159, 3), (66, .aload_n 1, 1), (67, .getfield 55, 3), (70, .iload_n 2, 1), (71, .bipush 8, 2), (73, .imul, 1), (74, .iload 8, 2), (76, .iadd, 1), (77, .iaload, 1), (78, .istore 9, 2), (80, .aload_n 1, 1), (81, .getfield 58, 3), (84, .iload_n 2, 1), (85, .bipush 8, 2), (87, .imul, 1), (88, .iload 8, 2), (90, .iadd, 1), (91, .iaload, 1), (92, .istore 10, 2), (94, .iconst 0, 1), (95, .istore 11, 2), (97, .iload 11, 2), (99, .iload 10, 2), (101, .if_icmp .ge 115, 3), (104, .iload 6, 2), (106, .iload 9, 2), (108, .bipush 105, 2), (110, .if_icmp .ne 7, 3), (113, .iconst 1, 1), (114, .goto 15, 3), (117, .iload 9, 2), (119, .bipush 107, 2), (121, .if_icmp .ne 7, 3), (124, .iconst (-1), 1), (125, .goto 4, 3), (128, .iconst 0, 1), (129, .iadd, 1), (130, .istore 6, 2), (132, .iload 7, 2), (134, .iload 9, 2), (136, .bipush 106, 2), (138, .if_icmp .ne 7, 3), (141, .iconst 1, 1), (142, .goto 15, 3), (145, .iload 9, 2), (147, .bipush 104, 2), (149, .if_icmp .ne 7, 3), (152, .iconst (-1), 1), (153, .goto 4, 3), (156, .iconst 0, 1), (157, .iadd, 1), (158, .istore 7, 2), (160, .iinc 5 1, 3), (163, .iload 5, 2), (165, .sipush 500, 3), (168, .if_icmp .gt 26, 3), (171, .iload 6, 2), (173, .ifCond .lt 21, 3), (176, .iload 6, 2), (178, .iload_n 3, 1), (179, .if_icmp .ge 15, 3), (182, .iload 7, 2), (184, .ifCond .lt 10, 3), (187, .iload 7, 2), (189, .iload 4, 2), (191, .if_icmp .lt 4, 3), (194, .return_, 1), (195, .aload_n 0, 1), (196, .iload_n 2, 1), (197, .iload 5, 2), (199, .iload 7, 2), (201, .bipush 8, 2), (203, .imul, 1), (204, .iload 6, 2), (206, .iadd, 1), (207, .invokevirtual 48, 3), (210, .iinc 11 1, 3), (213, .goto (-116), 3), (216, .iinc 8 1, 3), (219, .goto (-171), 3), (222, .return_, 1)]
set_option maxRecDepth 100000 in
theorem D_X5_follow : zdecs cX5_follow L_X5_follow = true := by decide +kernel
noncomputable def j_X5_follow_157_97 (p3 : Int32) (p4 : Int32) (i : Nat) (p2 : Int32) (w5_18 : Int32) (w6_19 : Int32) (w11_20 : Int32) (t21 : Int32) (t22 : Int32) (s23 : zG) : Option ((Int32 × Int32 × Int32 × Int32 × zG) ⊕ ((zG) ⊕ (Int32 × Int32 × Int32 × zG))) :=
  if (w5_18 + 1) ≤ (500 : Int32) then if 0 ≤ w6_19 then if w6_19 < p3 then if 0 ≤ (t22 + t21) then if p4 ≤ (t22 + t21) then some (Sum.inr (Sum.inl s23)) else (f_X5_mark i p2 (w5_18 + 1) (((t22 + t21) * (8 : Int32)) + w6_19) s23).bind (fun q24 => some (Sum.inl ((w5_18 + 1), w6_19, (t22 + t21), (w11_20 + 1), q24))) else some (Sum.inr (Sum.inl s23)) else some (Sum.inr (Sum.inl s23)) else some (Sum.inr (Sum.inl s23)) else some (Sum.inr (Sum.inl s23))
noncomputable def j_X5_follow_129_97 (s6 : zG) (p1 : Nat) (p2 : Int32) (v8_5 : Int32) (p3 : Int32) (p4 : Int32) (i : Nat) (w5_12 : Int32) (w7_13 : Int32) (w11_14 : Int32) (t15 : Int32) (t16 : Int32) (s17 : zG) : Option ((Int32 × Int32 × Int32 × Int32 × zG) ⊕ ((zG) ⊕ (Int32 × Int32 × Int32 × zG))) :=
  if (s6.1 19 p1 ((p2 * (8 : Int32)) + v8_5).toNatClampNeg) = (106 : Int32) then j_X5_follow_157_97 p3 p4 i p2 w5_12 (t16 + t15) w11_14 (1 : Int32) w7_13 s17 else if (s6.1 19 p1 ((p2 * (8 : Int32)) + v8_5).toNatClampNeg) = (104 : Int32) then j_X5_follow_157_97 p3 p4 i p2 w5_12 (t16 + t15) w11_14 (-1 : Int32) w7_13 s17 else j_X5_follow_157_97 p3 p4 i p2 w5_12 (t16 + t15) w11_14 (0 : Int32) w7_13 s17
noncomputable def b_X5_follow_97 (s6 : zG) (p1 : Nat) (p2 : Int32) (v8_5 : Int32) (p3 : Int32) (p4 : Int32) (i : Nat) (v5_7 : Int32) (v6_8 : Int32) (v7_9 : Int32) (v11_10 : Int32) (s11 : zG) : Option ((Int32 × Int32 × Int32 × Int32 × zG) ⊕ ((zG) ⊕ (Int32 × Int32 × Int32 × zG))) :=
  if v11_10 < (s6.1 20 p1 ((p2 * (8 : Int32)) + v8_5).toNatClampNeg) then if (s6.1 19 p1 ((p2 * (8 : Int32)) + v8_5).toNatClampNeg) = (105 : Int32) then j_X5_follow_129_97 s6 p1 p2 v8_5 p3 p4 i v5_7 v7_9 v11_10 (1 : Int32) v6_8 s11 else if (s6.1 19 p1 ((p2 * (8 : Int32)) + v8_5).toNatClampNeg) = (107 : Int32) then j_X5_follow_129_97 s6 p1 p2 v8_5 p3 p4 i v5_7 v7_9 v11_10 (-1 : Int32) v6_8 s11 else j_X5_follow_129_97 s6 p1 p2 v8_5 p3 p4 i v5_7 v7_9 v11_10 (0 : Int32) v6_8 s11 else some (Sum.inr (Sum.inr (v5_7, v6_8, v7_9, s11)))
noncomputable def b_X5_follow_48 (p2 : Int32) (p1 : Nat) (p3 : Int32) (p4 : Int32) (i : Nat) (v5_2 : Int32) (v6_3 : Int32) (v7_4 : Int32) (v8_5 : Int32) (s6 : zG) : Option ((Int32 × Int32 × Int32 × Int32 × zG) ⊕ ((zG) ⊕ (zG))) :=
  zg (zin p2 12) (if v8_5 < (s6.1 18 p1 p2.toNatClampNeg) then if v8_5 < (8 : Int32) then zg (zin ((p2 * (8 : Int32)) + v8_5) 96) (zg (zin ((p2 * (8 : Int32)) + v8_5) 96) ((zlp (fun q : Int32 × Int32 × Int32 × Int32 × zG => b_X5_follow_97 s6 p1 p2 v8_5 p3 p4 i q.1 q.2.1 q.2.2.1 q.2.2.2.1 q.2.2.2.2) (v5_2, v6_3, v7_4, (0 : Int32), s6)).bind (Sum.elim (fun e25 : zG => some (Sum.inr (Sum.inl e25))) (fun e26 : Int32 × Int32 × Int32 × zG => some (Sum.inl (e26.1, e26.2.1, e26.2.2.1, (v8_5 + 1), e26.2.2.2)))))) else some (Sum.inr (Sum.inr s6)) else some (Sum.inr (Sum.inr s6)))
noncomputable def f_X5_follow (i : Nat) (p1 : Nat) (p2 : Int32) (p3 : Int32) (p4 : Int32) (σ : zG) : Option (zG) :=
  zg (zin p2 12) (zg (zin p2 12) (zg (zin p2 12) ((f_X5_mark i p2 (σ.1 16 p1 p2.toNatClampNeg) ((((σ.1 17 p1 p2.toNatClampNeg) / (8 : Int32)) * (8 : Int32)) + (zrem (σ.1 17 p1 p2.toNatClampNeg) (8 : Int32))) σ).bind (fun q1 => (zlp (fun q : Int32 × Int32 × Int32 × Int32 × zG => b_X5_follow_48 p2 p1 p3 p4 i q.1 q.2.1 q.2.2.1 q.2.2.2.1 q.2.2.2.2) ((σ.1 16 p1 p2.toNatClampNeg), (zrem (σ.1 17 p1 p2.toNatClampNeg) (8 : Int32)), ((σ.1 17 p1 p2.toNatClampNeg) / (8 : Int32)), (0 : Int32), q1)).bind (Sum.elim (fun e27 : zG => some e27) (fun e28 : zG => some e28))))))
set_option maxRecDepth 100000 in
set_option maxHeartbeats 4000000 in
theorem c_X5_follow (l : Launch) (i : Nat) (p1 : Nat) (p2 : Int32) (p3 : Int32) (p4 : Int32) (σ : zG) (q : zG) (hq : f_X5_follow i p1 p2 p3 p4 σ = some q) : zMet l zsyC m_X5_follow yX5_follow [zR 9 i, zR 8 p1, zI p2, zI p3, zI p4] σ none q := by
  refine zEnter [(0, zR 9 i), (1, zR 8 p1), (2, zI p2), (3, zI p3), (4, zI p4)] (by decide) rfl (fun _ => Nat.le_of_ble_eq_true rfl) (fun _ => rfl) (fun w h => ?_) (fun K hv hs => ?_)
  · exact zokm rfl h
  · have hP : ∀ s, f_X5_follow i p1 p2 p3 p4 σ = some s → zKv K = none ∧ zKs K = s := fun s h => by rw [hq] at h; cases h; exact ⟨hv, hs⟩
    have hn : f_X5_follow i p1 p2 p3 p4 σ ≠ none := fun z => by rw [hq] at z; cases z
    have hf := f_X5_follow.eq_1 i p1 p2 p3 p4 σ
    refine z_aload_n (pc := 0) 1 (zdg D_X5_follow 0 (0, .aload_n 1, 1) rfl) rfl rfl ?_
    refine z_getR (pc := 1) (g := 16) (j := p1) lf_X5_41 rfl rfl rfl (zdg D_X5_follow 1 (1, .getfield 41, 3) rfl) ?_
    refine z_iload_n (pc := 4) 2 (zdg D_X5_follow 2 (4, .iload_n 2, 1) rfl) rfl rfl ?_
    refine z_iald (pc := 5) rfl (fun _ => rfl) (zdg D_X5_follow 3 (5, .iaload, 1) rfl) hn hf (fun hf => ?_)
    refine z_istore (pc := 6) (al' := [(5, zI (σ.1 16 p1 p2.toNatClampNeg)), (0, zR 9 i), (1, zR 8 p1), (2, zI p2), (3, zI p3), (4, zI p4)]) (zdg D_X5_follow 4 (6, .istore 5, 2) rfl) (by decide) rfl ?_
    refine z_aload_n (pc := 8) 2 (zdg D_X5_follow 5 (8, .aload_n 1, 1) rfl) rfl rfl ?_
    refine z_getR (pc := 9) (g := 17) (j := p1) lf_X5_45 rfl rfl rfl (zdg D_X5_follow 6 (9, .getfield 45, 3) rfl) ?_
    refine z_iload_n (pc := 12) 3 (zdg D_X5_follow 7 (12, .iload_n 2, 1) rfl) rfl rfl ?_
    refine z_iald (pc := 13) rfl (fun _ => rfl) (zdg D_X5_follow 8 (13, .iaload, 1) rfl) hn hf (fun hf => ?_)
    refine z_bipush (pc := 14) (v := 8) (zdg D_X5_follow 9 (14, .bipush 8, 2) rfl) rfl ?_
    refine z_iremK (pc := 16) (zdg D_X5_follow 10 (16, .irem, 1) rfl) rfl ?_
    refine z_istore (pc := 17) (al' := [(6, zI (zrem (σ.1 17 p1 p2.toNatClampNeg) (8 : Int32))), (5, zI (σ.1 16 p1 p2.toNatClampNeg)), (0, zR 9 i), (1, zR 8 p1), (2, zI p2), (3, zI p3), (4, zI p4)]) (zdg D_X5_follow 11 (17, .istore 6, 2) rfl) (by decide) rfl ?_
    refine z_aload_n (pc := 19) 3 (zdg D_X5_follow 12 (19, .aload_n 1, 1) rfl) rfl rfl ?_
    refine z_getR (pc := 20) (g := 17) (j := p1) lf_X5_45 rfl rfl rfl (zdg D_X5_follow 13 (20, .getfield 45, 3) rfl) ?_
    refine z_iload_n (pc := 23) 4 (zdg D_X5_follow 14 (23, .iload_n 2, 1) rfl) rfl rfl ?_
    refine z_iald (pc := 24) rfl (fun _ => rfl) (zdg D_X5_follow 15 (24, .iaload, 1) rfl) hn hf (fun hf => ?_)
    refine z_bipush (pc := 25) (v := 8) (zdg D_X5_follow 16 (25, .bipush 8, 2) rfl) rfl ?_
    refine z_idivK (pc := 27) (zdg D_X5_follow 17 (27, .idiv, 1) rfl) rfl ?_
    refine z_istore (pc := 28) (al' := [(7, zI ((σ.1 17 p1 p2.toNatClampNeg) / (8 : Int32))), (6, zI (zrem (σ.1 17 p1 p2.toNatClampNeg) (8 : Int32))), (5, zI (σ.1 16 p1 p2.toNatClampNeg)), (0, zR 9 i), (1, zR 8 p1), (2, zI p2), (3, zI p3), (4, zI p4)]) (zdg D_X5_follow 18 (28, .istore 7, 2) rfl) (by decide) rfl ?_
    refine z_aload_n (pc := 30) 3 (zdg D_X5_follow 19 (30, .aload_n 0, 1) rfl) rfl rfl ?_
    refine z_iload_n (pc := 31) 5 (zdg D_X5_follow 20 (31, .iload_n 2, 1) rfl) rfl rfl ?_
    refine z_iload (pc := 32) 2 (zdg D_X5_follow 21 (32, .iload 5, 2) rfl) rfl ?_
    refine z_iload (pc := 34) 0 (zdg D_X5_follow 22 (34, .iload 7, 2) rfl) rfl ?_
    refine z_bipush (pc := 36) (v := 8) (zdg D_X5_follow 23 (36, .bipush 8, 2) rfl) rfl ?_
    refine z_imul (pc := 38) (zdg D_X5_follow 24 (38, .imul, 1) rfl) ?_
    refine z_iload (pc := 39) 1 (zdg D_X5_follow 25 (39, .iload 6, 2) rfl) rfl ?_
    refine z_iadd (pc := 41) (zdg D_X5_follow 26 (41, .iadd, 1) rfl) ?_
    refine z_bind hn hf (fun q1 hq hf => ?_)
    refine z_callV (pc := 42) (rest := []) (st2 := []) (fun l => c_X5_mark l i p2 (σ.1 16 p1 p2.toNatClampNeg) ((((σ.1 17 p1 p2.toNatClampNeg) / (8 : Int32)) * (8 : Int32)) + (zrem (σ.1 17 p1 p2.toNatClampNeg) (8 : Int32))) σ q1 hq) zv_X5_mark lm_X5_48 rfl rfl rfl rfl rfl rfl (Nat.le_of_ble_eq_true rfl) ⟨Nat.le_of_ble_eq_true rfl, Nat.le_of_ble_eq_true rfl⟩ (zdg D_X5_follow 27 (42, .invokevirtual 48, 3) rfl) ?_
    refine z_iconst (pc := 45) (v := 0) (zdg D_X5_follow 28 (45, .iconst 0, 1) rfl) rfl ?_
    refine z_istore (pc := 46) (al' := [(8, zI (0 : Int32)), (7, zI ((σ.1 17 p1 p2.toNatClampNeg) / (8 : Int32))), (6, zI (zrem (σ.1 17 p1 p2.toNatClampNeg) (8 : Int32))), (5, zI (σ.1 16 p1 p2.toNatClampNeg)), (0, zR 9 i), (1, zR 8 p1), (2, zI p2), (3, zI p3), (4, zI p4)]) (zdg D_X5_follow 29 (46, .istore 8, 2) rfl) (by decide) rfl ?_
    refine z_sub (al' := [(0, zR 9 i), (1, zR 8 p1), (2, zI p2), (3, zI p3), (4, zI p4), (5, zI (σ.1 16 p1 p2.toNatClampNeg)), (6, zI (zrem (σ.1 17 p1 p2.toNatClampNeg) (8 : Int32))), (7, zI ((σ.1 17 p1 p2.toNatClampNeg) / (8 : Int32))), (8, zI (0 : Int32))]) [4, 5, 6, 7, 8, 3, 2, 1, 0] rfl ?_
    refine z_loop (f := (fun q : Int32 × Int32 × Int32 × Int32 × zG => b_X5_follow_48 p2 p1 p3 p4 i q.1 q.2.1 q.2.2.1 q.2.2.2.1 q.2.2.2.2)) (a := ((σ.1 16 p1 p2.toNatClampNeg), (zrem (σ.1 17 p1 p2.toNatClampNeg) (8 : Int32)), ((σ.1 17 p1 p2.toNatClampNeg) / (8 : Int32)), (0 : Int32), q1)) (fun q : Int32 × Int32 × Int32 × Int32 × zG => zX zsyC m_X5_follow K 48 [(0, zR 9 i), (1, zR 8 p1), (2, zI p2), (3, zI p3), (4, zI p4), (5, zI q.1), (6, zI q.2.1), (7, zI q.2.2.1), (8, zI q.2.2.2.1)] [] q.2.2.2.2) (Sum.elim (fun e27 : zG => zX zsyC m_X5_follow K 194 [] [] e27) (fun e28 : zG => zX zsyC m_X5_follow K 222 [] [] e28)) hn hf ?_ ?_
    · intro b hf
      cases b with
      | inl e27 =>
        exact z_vret (pc := 194) rfl (zdg D_X5_follow 104 (194, .return_, 1) rfl) (hP _ hf)
      | inr b =>
        revert hf
        revert b
        intro e28 hf
        exact z_vret (pc := 222) rfl (zdg D_X5_follow 118 (222, .return_, 1) rfl) (hP _ hf)
    · rintro ⟨v5_2, v6_3, v7_4, v8_5, s6⟩ hn hi hx
      have hf := b_X5_follow_48.eq_1 p2 p1 p3 p4 i v5_2 v6_3 v7_4 v8_5 s6
      refine z_iload (pc := 48) 8 (zdg D_X5_follow 30 (48, .iload 8, 2) rfl) rfl ?_
      refine z_aload_n (pc := 50) 1 (zdg D_X5_follow 31 (50, .aload_n 1, 1) rfl) rfl rfl ?_
      refine z_getR (pc := 51) (g := 18) (j := p1) lf_X5_52 rfl rfl rfl (zdg D_X5_follow 32 (51, .getfield 52, 3) rfl) ?_
      refine z_iload_n (pc := 54) 2 (zdg D_X5_follow 33 (54, .iload_n 2, 1) rfl) rfl rfl ?_
      refine z_iald (pc := 55) rfl (fun _ => rfl) (zdg D_X5_follow 34 (55, .iaload, 1) rfl) hn hf (fun hf => ?_)
      refine z_icmp_ge (pc := 56) 222 (zdg D_X5_follow 35 (56, .if_icmp .ge 166, 3) rfl) rfl hf (fun hf => ?_) (fun hf => ?_)
      · refine z_sub (al' := []) [] rfl ?_
        exact hx (Sum.inr s6) hf
      · refine z_iload (pc := 59) 8 (zdg D_X5_follow 36 (59, .iload 8, 2) rfl) rfl ?_
        refine z_bipush (pc := 61) (v := 8) (zdg D_X5_follow 37 (61, .bipush 8, 2) rfl) rfl ?_
        refine z_icmp_ge (pc := 63) 222 (zdg D_X5_follow 38 (63, .if_icmp .ge 159, 3) rfl) rfl hf (fun hf => ?_) (fun hf => ?_)
        · refine z_sub (al' := []) [] rfl ?_
          exact hx (Sum.inr s6) hf
        · refine z_aload_n (pc := 66) 1 (zdg D_X5_follow 39 (66, .aload_n 1, 1) rfl) rfl rfl ?_
          refine z_getR (pc := 67) (g := 19) (j := p1) lf_X5_55 rfl rfl rfl (zdg D_X5_follow 40 (67, .getfield 55, 3) rfl) ?_
          refine z_iload_n (pc := 70) 2 (zdg D_X5_follow 41 (70, .iload_n 2, 1) rfl) rfl rfl ?_
          refine z_bipush (pc := 71) (v := 8) (zdg D_X5_follow 42 (71, .bipush 8, 2) rfl) rfl ?_
          refine z_imul (pc := 73) (zdg D_X5_follow 43 (73, .imul, 1) rfl) ?_
          refine z_iload (pc := 74) 8 (zdg D_X5_follow 44 (74, .iload 8, 2) rfl) rfl ?_
          refine z_iadd (pc := 76) (zdg D_X5_follow 45 (76, .iadd, 1) rfl) ?_
          refine z_iald (pc := 77) rfl (fun _ => rfl) (zdg D_X5_follow 46 (77, .iaload, 1) rfl) hn hf (fun hf => ?_)
          refine z_istore (pc := 78) (al' := [(9, zI (s6.1 19 p1 ((p2 * (8 : Int32)) + v8_5).toNatClampNeg)), (0, zR 9 i), (1, zR 8 p1), (2, zI p2), (3, zI p3), (4, zI p4), (5, zI v5_2), (6, zI v6_3), (7, zI v7_4), (8, zI v8_5)]) (zdg D_X5_follow 47 (78, .istore 9, 2) rfl) (by decide) rfl ?_
          refine z_aload_n (pc := 80) 2 (zdg D_X5_follow 48 (80, .aload_n 1, 1) rfl) rfl rfl ?_
          refine z_getR (pc := 81) (g := 20) (j := p1) lf_X5_58 rfl rfl rfl (zdg D_X5_follow 49 (81, .getfield 58, 3) rfl) ?_
          refine z_iload_n (pc := 84) 3 (zdg D_X5_follow 50 (84, .iload_n 2, 1) rfl) rfl rfl ?_
          refine z_bipush (pc := 85) (v := 8) (zdg D_X5_follow 51 (85, .bipush 8, 2) rfl) rfl ?_
          refine z_imul (pc := 87) (zdg D_X5_follow 52 (87, .imul, 1) rfl) ?_
          refine z_iload (pc := 88) 9 (zdg D_X5_follow 53 (88, .iload 8, 2) rfl) rfl ?_
          refine z_iadd (pc := 90) (zdg D_X5_follow 54 (90, .iadd, 1) rfl) ?_
          refine z_iald (pc := 91) rfl (fun _ => rfl) (zdg D_X5_follow 55 (91, .iaload, 1) rfl) hn hf (fun hf => ?_)
          refine z_istore (pc := 92) (al' := [(10, zI (s6.1 20 p1 ((p2 * (8 : Int32)) + v8_5).toNatClampNeg)), (9, zI (s6.1 19 p1 ((p2 * (8 : Int32)) + v8_5).toNatClampNeg)), (0, zR 9 i), (1, zR 8 p1), (2, zI p2), (3, zI p3), (4, zI p4), (5, zI v5_2), (6, zI v6_3), (7, zI v7_4), (8, zI v8_5)]) (zdg D_X5_follow 56 (92, .istore 10, 2) rfl) (by decide) rfl ?_
          refine z_iconst (pc := 94) (v := 0) (zdg D_X5_follow 57 (94, .iconst 0, 1) rfl) rfl ?_
          refine z_istore (pc := 95) (al' := [(11, zI (0 : Int32)), (10, zI (s6.1 20 p1 ((p2 * (8 : Int32)) + v8_5).toNatClampNeg)), (9, zI (s6.1 19 p1 ((p2 * (8 : Int32)) + v8_5).toNatClampNeg)), (0, zR 9 i), (1, zR 8 p1), (2, zI p2), (3, zI p3), (4, zI p4), (5, zI v5_2), (6, zI v6_3), (7, zI v7_4), (8, zI v8_5)]) (zdg D_X5_follow 58 (95, .istore 11, 2) rfl) (by decide) rfl ?_
          refine z_sub (al' := [(0, zR 9 i), (1, zR 8 p1), (2, zI p2), (3, zI p3), (4, zI p4), (5, zI v5_2), (6, zI v6_3), (7, zI v7_4), (8, zI v8_5), (9, zI (s6.1 19 p1 ((p2 * (8 : Int32)) + v8_5).toNatClampNeg)), (10, zI (s6.1 20 p1 ((p2 * (8 : Int32)) + v8_5).toNatClampNeg)), (11, zI (0 : Int32))]) [3, 4, 5, 6, 7, 8, 9, 10, 11, 2, 1, 0] rfl ?_
          refine z_loop (f := (fun q : Int32 × Int32 × Int32 × Int32 × zG => b_X5_follow_97 s6 p1 p2 v8_5 p3 p4 i q.1 q.2.1 q.2.2.1 q.2.2.2.1 q.2.2.2.2)) (a := (v5_2, v6_3, v7_4, (0 : Int32), s6)) (fun q : Int32 × Int32 × Int32 × Int32 × zG => zX zsyC m_X5_follow K 97 [(0, zR 9 i), (1, zR 8 p1), (2, zI p2), (3, zI p3), (4, zI p4), (5, zI q.1), (6, zI q.2.1), (7, zI q.2.2.1), (8, zI v8_5), (9, zI (s6.1 19 p1 ((p2 * (8 : Int32)) + v8_5).toNatClampNeg)), (10, zI (s6.1 20 p1 ((p2 * (8 : Int32)) + v8_5).toNatClampNeg)), (11, zI q.2.2.2.1)] [] q.2.2.2.2) (Sum.elim (fun e25 : zG => zX zsyC m_X5_follow K 194 [] [] e25) (fun e26 : Int32 × Int32 × Int32 × zG => zX zsyC m_X5_follow K 216 [(0, zR 9 i), (1, zR 8 p1), (2, zI p2), (3, zI p3), (4, zI p4), (5, zI e26.1), (6, zI e26.2.1), (7, zI e26.2.2.1), (8, zI v8_5)] [] e26.2.2.2)) hn hf ?_ ?_
          · intro b hf
            cases b with
            | inl e25 =>
              exact hx (Sum.inl e25) hf
            | inr b =>
              revert hf
              revert b
              intro e26 hf
              refine z_iinc (pc := 216) (v0 := (v8_5 + 1)) (al' := [(8, zI (v8_5 + 1)), (0, zR 9 i), (1, zR 8 p1), (2, zI p2), (3, zI p3), (4, zI p4), (5, zI e26.1), (6, zI e26.2.1), (7, zI e26.2.2.1)]) 8 (zdg D_X5_follow 116 (216, .iinc 8 1, 3) rfl) rfl rfl (by decide) rfl ?_
              refine z_goto (pc := 219) 48 (zdg D_X5_follow 117 (219, .goto (-171), 3) rfl) rfl ?_
              refine z_sub (al' := [(0, zR 9 i), (1, zR 8 p1), (2, zI p2), (3, zI p3), (4, zI p4), (5, zI e26.1), (6, zI e26.2.1), (7, zI e26.2.2.1), (8, zI (v8_5 + 1))]) [1, 2, 3, 4, 5, 6, 7, 8, 0] rfl ?_
              exact hi (e26.1, e26.2.1, e26.2.2.1, (v8_5 + 1), e26.2.2.2) hf
          · rintro ⟨v5_7, v6_8, v7_9, v11_10, s11⟩ hn hi hx
            have hf := b_X5_follow_97.eq_1 s6 p1 p2 v8_5 p3 p4 i v5_7 v6_8 v7_9 v11_10 s11
            have t_157 : ∀ (w5_18 : Int32) (w6_19 : Int32) (w11_20 : Int32) (t21 : Int32) (t22 : Int32) (s23 : zG), b_X5_follow_97 s6 p1 p2 v8_5 p3 p4 i v5_7 v6_8 v7_9 v11_10 s11 = j_X5_follow_157_97 p3 p4 i p2 w5_18 w6_19 w11_20 t21 t22 s23 → zX zsyC m_X5_follow K 157 [(0, zR 9 i), (1, zR 8 p1), (2, zI p2), (3, zI p3), (4, zI p4), (5, zI w5_18), (6, zI w6_19), (8, zI v8_5), (9, zI (s6.1 19 p1 ((p2 * (8 : Int32)) + v8_5).toNatClampNeg)), (10, zI (s6.1 20 p1 ((p2 * (8 : Int32)) + v8_5).toNatClampNeg)), (11, zI w11_20)] [zI t21, zI t22] s23 := by
              intro w5_18 w6_19 w11_20 t21 t22 s23 hf
              replace hf := hf.trans (j_X5_follow_157_97.eq_1 p3 p4 i p2 w5_18 w6_19 w11_20 t21 t22 s23)
              refine z_iadd (pc := 157) (zdg D_X5_follow 88 (157, .iadd, 1) rfl) ?_
              refine z_istore (pc := 158) (al' := [(7, zI (t22 + t21)), (0, zR 9 i), (1, zR 8 p1), (2, zI p2), (3, zI p3), (4, zI p4), (5, zI w5_18), (6, zI w6_19), (8, zI v8_5), (9, zI (s6.1 19 p1 ((p2 * (8 : Int32)) + v8_5).toNatClampNeg)), (10, zI (s6.1 20 p1 ((p2 * (8 : Int32)) + v8_5).toNatClampNeg)), (11, zI w11_20)]) (zdg D_X5_follow 89 (158, .istore 7, 2) rfl) (by decide) rfl ?_
              refine z_iinc (pc := 160) (v0 := (w5_18 + 1)) (al' := [(5, zI (w5_18 + 1)), (7, zI (t22 + t21)), (0, zR 9 i), (1, zR 8 p1), (2, zI p2), (3, zI p3), (4, zI p4), (6, zI w6_19), (8, zI v8_5), (9, zI (s6.1 19 p1 ((p2 * (8 : Int32)) + v8_5).toNatClampNeg)), (10, zI (s6.1 20 p1 ((p2 * (8 : Int32)) + v8_5).toNatClampNeg)), (11, zI w11_20)]) 6 (zdg D_X5_follow 90 (160, .iinc 5 1, 3) rfl) rfl rfl (by decide) rfl ?_
              refine z_iload (pc := 163) 0 (zdg D_X5_follow 91 (163, .iload 5, 2) rfl) rfl ?_
              refine z_sipush (pc := 165) (v := 500) (zdg D_X5_follow 92 (165, .sipush 500, 3) rfl) rfl ?_
              refine z_icmp_gt (pc := 168) 194 (zdg D_X5_follow 93 (168, .if_icmp .gt 26, 3) rfl) rfl hf (fun hf => ?_) (fun hf => ?_)
              · refine z_sub (al' := []) [] rfl ?_
                exact hx (Sum.inl s23) hf
              · refine z_iload (pc := 171) 7 (zdg D_X5_follow 94 (171, .iload 6, 2) rfl) rfl ?_
                refine z_if_lt (pc := 173) 194 (zdg D_X5_follow 95 (173, .ifCond .lt 21, 3) rfl) rfl hf (fun hf => ?_) (fun hf => ?_)
                · refine z_sub (al' := []) [] rfl ?_
                  exact hx (Sum.inl s23) hf
                · refine z_iload (pc := 176) 7 (zdg D_X5_follow 96 (176, .iload 6, 2) rfl) rfl ?_
                  refine z_iload_n (pc := 178) 5 (zdg D_X5_follow 97 (178, .iload_n 3, 1) rfl) rfl rfl ?_
                  refine z_icmp_ge (pc := 179) 194 (zdg D_X5_follow 98 (179, .if_icmp .ge 15, 3) rfl) rfl hf (fun hf => ?_) (fun hf => ?_)
                  · refine z_sub (al' := []) [] rfl ?_
                    exact hx (Sum.inl s23) hf
                  · refine z_iload (pc := 182) 1 (zdg D_X5_follow 99 (182, .iload 7, 2) rfl) rfl ?_
                    refine z_if_lt (pc := 184) 194 (zdg D_X5_follow 100 (184, .ifCond .lt 10, 3) rfl) rfl hf (fun hf => ?_) (fun hf => ?_)
                    · refine z_sub (al' := []) [] rfl ?_
                      exact hx (Sum.inl s23) hf
                    · refine z_iload (pc := 187) 1 (zdg D_X5_follow 101 (187, .iload 7, 2) rfl) rfl ?_
                      refine z_iload (pc := 189) 6 (zdg D_X5_follow 102 (189, .iload 4, 2) rfl) rfl ?_
                      refine z_icmp_lt (pc := 191) 195 (zdg D_X5_follow 103 (191, .if_icmp .lt 4, 3) rfl) rfl hf (fun hf => ?_) (fun hf => ?_)
                      · refine z_aload_n (pc := 195) 2 (zdg D_X5_follow 105 (195, .aload_n 0, 1) rfl) rfl rfl ?_
                        refine z_iload_n (pc := 196) 4 (zdg D_X5_follow 106 (196, .iload_n 2, 1) rfl) rfl rfl ?_
                        refine z_iload (pc := 197) 0 (zdg D_X5_follow 107 (197, .iload 5, 2) rfl) rfl ?_
                        refine z_iload (pc := 199) 1 (zdg D_X5_follow 108 (199, .iload 7, 2) rfl) rfl ?_
                        refine z_bipush (pc := 201) (v := 8) (zdg D_X5_follow 109 (201, .bipush 8, 2) rfl) rfl ?_
                        refine z_imul (pc := 203) (zdg D_X5_follow 110 (203, .imul, 1) rfl) ?_
                        refine z_iload (pc := 204) 7 (zdg D_X5_follow 111 (204, .iload 6, 2) rfl) rfl ?_
                        refine z_iadd (pc := 206) (zdg D_X5_follow 112 (206, .iadd, 1) rfl) ?_
                        refine z_bind hn hf (fun q24 hq hf => ?_)
                        refine z_callV (pc := 207) (rest := []) (st2 := []) (fun l => c_X5_mark l i p2 (w5_18 + 1) (((t22 + t21) * (8 : Int32)) + w6_19) s23 q24 hq) zv_X5_mark lm_X5_48 rfl rfl rfl rfl rfl rfl (Nat.le_of_ble_eq_true rfl) ⟨Nat.le_of_ble_eq_true rfl, Nat.le_of_ble_eq_true rfl⟩ (zdg D_X5_follow 113 (207, .invokevirtual 48, 3) rfl) ?_
                        refine z_iinc (pc := 210) (v0 := (w11_20 + 1)) (al' := [(11, zI (w11_20 + 1)), (5, zI (w5_18 + 1)), (7, zI (t22 + t21)), (0, zR 9 i), (1, zR 8 p1), (2, zI p2), (3, zI p3), (4, zI p4), (6, zI w6_19), (8, zI v8_5), (9, zI (s6.1 19 p1 ((p2 * (8 : Int32)) + v8_5).toNatClampNeg)), (10, zI (s6.1 20 p1 ((p2 * (8 : Int32)) + v8_5).toNatClampNeg))]) 11 (zdg D_X5_follow 114 (210, .iinc 11 1, 3) rfl) rfl rfl (by decide) rfl ?_
                        refine z_goto (pc := 213) 97 (zdg D_X5_follow 115 (213, .goto (-116), 3) rfl) rfl ?_
                        refine z_sub (al' := [(0, zR 9 i), (1, zR 8 p1), (2, zI p2), (3, zI p3), (4, zI p4), (5, zI (w5_18 + 1)), (6, zI w6_19), (7, zI (t22 + t21)), (8, zI v8_5), (9, zI (s6.1 19 p1 ((p2 * (8 : Int32)) + v8_5).toNatClampNeg)), (10, zI (s6.1 20 p1 ((p2 * (8 : Int32)) + v8_5).toNatClampNeg)), (11, zI (w11_20 + 1))]) [3, 4, 5, 6, 7, 1, 8, 2, 9, 10, 11, 0] rfl ?_
                        exact hi ((w5_18 + 1), w6_19, (t22 + t21), (w11_20 + 1), q24) hf
                      · refine z_sub (al' := []) [] rfl ?_
                        exact hx (Sum.inl s23) hf
            have t_129 : ∀ (w5_12 : Int32) (w7_13 : Int32) (w11_14 : Int32) (t15 : Int32) (t16 : Int32) (s17 : zG), b_X5_follow_97 s6 p1 p2 v8_5 p3 p4 i v5_7 v6_8 v7_9 v11_10 s11 = j_X5_follow_129_97 s6 p1 p2 v8_5 p3 p4 i w5_12 w7_13 w11_14 t15 t16 s17 → zX zsyC m_X5_follow K 129 [(0, zR 9 i), (1, zR 8 p1), (2, zI p2), (3, zI p3), (4, zI p4), (5, zI w5_12), (7, zI w7_13), (8, zI v8_5), (9, zI (s6.1 19 p1 ((p2 * (8 : Int32)) + v8_5).toNatClampNeg)), (10, zI (s6.1 20 p1 ((p2 * (8 : Int32)) + v8_5).toNatClampNeg)), (11, zI w11_14)] [zI t15, zI t16] s17 := by
              intro w5_12 w7_13 w11_14 t15 t16 s17 hf
              replace hf := hf.trans (j_X5_follow_129_97.eq_1 s6 p1 p2 v8_5 p3 p4 i w5_12 w7_13 w11_14 t15 t16 s17)
              refine z_iadd (pc := 129) (zdg D_X5_follow 74 (129, .iadd, 1) rfl) ?_
              refine z_istore (pc := 130) (al' := [(6, zI (t16 + t15)), (0, zR 9 i), (1, zR 8 p1), (2, zI p2), (3, zI p3), (4, zI p4), (5, zI w5_12), (7, zI w7_13), (8, zI v8_5), (9, zI (s6.1 19 p1 ((p2 * (8 : Int32)) + v8_5).toNatClampNeg)), (10, zI (s6.1 20 p1 ((p2 * (8 : Int32)) + v8_5).toNatClampNeg)), (11, zI w11_14)]) (zdg D_X5_follow 75 (130, .istore 6, 2) rfl) (by decide) rfl ?_
              refine z_iload (pc := 132) 7 (zdg D_X5_follow 76 (132, .iload 7, 2) rfl) rfl ?_
              refine z_iload (pc := 134) 9 (zdg D_X5_follow 77 (134, .iload 9, 2) rfl) rfl ?_
              refine z_bipush (pc := 136) (v := 106) (zdg D_X5_follow 78 (136, .bipush 106, 2) rfl) rfl ?_
              refine z_icmp_ne (pc := 138) 145 (zdg D_X5_follow 79 (138, .if_icmp .ne 7, 3) rfl) rfl hf (fun hf => ?_) (fun hf => ?_)
              · refine z_iload (pc := 145) 9 (zdg D_X5_follow 82 (145, .iload 9, 2) rfl) rfl ?_
                refine z_bipush (pc := 147) (v := 104) (zdg D_X5_follow 83 (147, .bipush 104, 2) rfl) rfl ?_
                refine z_icmp_ne (pc := 149) 156 (zdg D_X5_follow 84 (149, .if_icmp .ne 7, 3) rfl) rfl hf (fun hf => ?_) (fun hf => ?_)
                · refine z_iconst (pc := 156) (v := 0) (zdg D_X5_follow 87 (156, .iconst 0, 1) rfl) rfl ?_
                  refine z_sub (al' := [(0, zR 9 i), (1, zR 8 p1), (2, zI p2), (3, zI p3), (4, zI p4), (5, zI w5_12), (6, zI (t16 + t15)), (8, zI v8_5), (9, zI (s6.1 19 p1 ((p2 * (8 : Int32)) + v8_5).toNatClampNeg)), (10, zI (s6.1 20 p1 ((p2 * (8 : Int32)) + v8_5).toNatClampNeg)), (11, zI w11_14)]) [1, 2, 3, 4, 5, 6, 0, 8, 9, 10, 11] rfl ?_
                  exact t_157 w5_12 (t16 + t15) w11_14 (0 : Int32) w7_13 s17 hf
                · refine z_iconst (pc := 152) (v := -1) (zdg D_X5_follow 85 (152, .iconst (-1), 1) rfl) rfl ?_
                  refine z_goto (pc := 153) 157 (zdg D_X5_follow 86 (153, .goto 4, 3) rfl) rfl ?_
                  refine z_sub (al' := [(0, zR 9 i), (1, zR 8 p1), (2, zI p2), (3, zI p3), (4, zI p4), (5, zI w5_12), (6, zI (t16 + t15)), (8, zI v8_5), (9, zI (s6.1 19 p1 ((p2 * (8 : Int32)) + v8_5).toNatClampNeg)), (10, zI (s6.1 20 p1 ((p2 * (8 : Int32)) + v8_5).toNatClampNeg)), (11, zI w11_14)]) [1, 2, 3, 4, 5, 6, 0, 8, 9, 10, 11] rfl ?_
                  exact t_157 w5_12 (t16 + t15) w11_14 (-1 : Int32) w7_13 s17 hf
              · refine z_iconst (pc := 141) (v := 1) (zdg D_X5_follow 80 (141, .iconst 1, 1) rfl) rfl ?_
                refine z_goto (pc := 142) 157 (zdg D_X5_follow 81 (142, .goto 15, 3) rfl) rfl ?_
                refine z_sub (al' := [(0, zR 9 i), (1, zR 8 p1), (2, zI p2), (3, zI p3), (4, zI p4), (5, zI w5_12), (6, zI (t16 + t15)), (8, zI v8_5), (9, zI (s6.1 19 p1 ((p2 * (8 : Int32)) + v8_5).toNatClampNeg)), (10, zI (s6.1 20 p1 ((p2 * (8 : Int32)) + v8_5).toNatClampNeg)), (11, zI w11_14)]) [1, 2, 3, 4, 5, 6, 0, 8, 9, 10, 11] rfl ?_
                exact t_157 w5_12 (t16 + t15) w11_14 (1 : Int32) w7_13 s17 hf
            refine z_iload (pc := 97) 11 (zdg D_X5_follow 59 (97, .iload 11, 2) rfl) rfl ?_
            refine z_iload (pc := 99) 10 (zdg D_X5_follow 60 (99, .iload 10, 2) rfl) rfl ?_
            refine z_icmp_ge (pc := 101) 216 (zdg D_X5_follow 61 (101, .if_icmp .ge 115, 3) rfl) rfl hf (fun hf => ?_) (fun hf => ?_)
            · refine z_sub (al' := [(0, zR 9 i), (1, zR 8 p1), (2, zI p2), (3, zI p3), (4, zI p4), (5, zI v5_7), (6, zI v6_8), (7, zI v7_9), (8, zI v8_5)]) [0, 1, 2, 3, 4, 5, 6, 7, 8] rfl ?_
              exact hx (Sum.inr (v5_7, v6_8, v7_9, s11)) hf
            · refine z_iload (pc := 104) 6 (zdg D_X5_follow 62 (104, .iload 6, 2) rfl) rfl ?_
              refine z_iload (pc := 106) 9 (zdg D_X5_follow 63 (106, .iload 9, 2) rfl) rfl ?_
              refine z_bipush (pc := 108) (v := 105) (zdg D_X5_follow 64 (108, .bipush 105, 2) rfl) rfl ?_
              refine z_icmp_ne (pc := 110) 117 (zdg D_X5_follow 65 (110, .if_icmp .ne 7, 3) rfl) rfl hf (fun hf => ?_) (fun hf => ?_)
              · refine z_iload (pc := 117) 9 (zdg D_X5_follow 68 (117, .iload 9, 2) rfl) rfl ?_
                refine z_bipush (pc := 119) (v := 107) (zdg D_X5_follow 69 (119, .bipush 107, 2) rfl) rfl ?_
                refine z_icmp_ne (pc := 121) 128 (zdg D_X5_follow 70 (121, .if_icmp .ne 7, 3) rfl) rfl hf (fun hf => ?_) (fun hf => ?_)
                · refine z_iconst (pc := 128) (v := 0) (zdg D_X5_follow 73 (128, .iconst 0, 1) rfl) rfl ?_
                  refine z_sub (al' := [(0, zR 9 i), (1, zR 8 p1), (2, zI p2), (3, zI p3), (4, zI p4), (5, zI v5_7), (7, zI v7_9), (8, zI v8_5), (9, zI (s6.1 19 p1 ((p2 * (8 : Int32)) + v8_5).toNatClampNeg)), (10, zI (s6.1 20 p1 ((p2 * (8 : Int32)) + v8_5).toNatClampNeg)), (11, zI v11_10)]) [0, 1, 2, 3, 4, 5, 7, 8, 9, 10, 11] rfl ?_
                  exact t_129 v5_7 v7_9 v11_10 (0 : Int32) v6_8 s11 hf
                · refine z_iconst (pc := 124) (v := -1) (zdg D_X5_follow 71 (124, .iconst (-1), 1) rfl) rfl ?_
                  refine z_goto (pc := 125) 129 (zdg D_X5_follow 72 (125, .goto 4, 3) rfl) rfl ?_
                  refine z_sub (al' := [(0, zR 9 i), (1, zR 8 p1), (2, zI p2), (3, zI p3), (4, zI p4), (5, zI v5_7), (7, zI v7_9), (8, zI v8_5), (9, zI (s6.1 19 p1 ((p2 * (8 : Int32)) + v8_5).toNatClampNeg)), (10, zI (s6.1 20 p1 ((p2 * (8 : Int32)) + v8_5).toNatClampNeg)), (11, zI v11_10)]) [0, 1, 2, 3, 4, 5, 7, 8, 9, 10, 11] rfl ?_
                  exact t_129 v5_7 v7_9 v11_10 (-1 : Int32) v6_8 s11 hf
              · refine z_iconst (pc := 113) (v := 1) (zdg D_X5_follow 66 (113, .iconst 1, 1) rfl) rfl ?_
                refine z_goto (pc := 114) 129 (zdg D_X5_follow 67 (114, .goto 15, 3) rfl) rfl ?_
                refine z_sub (al' := [(0, zR 9 i), (1, zR 8 p1), (2, zI p2), (3, zI p3), (4, zI p4), (5, zI v5_7), (7, zI v7_9), (8, zI v8_5), (9, zI (s6.1 19 p1 ((p2 * (8 : Int32)) + v8_5).toNatClampNeg)), (10, zI (s6.1 20 p1 ((p2 * (8 : Int32)) + v8_5).toNatClampNeg)), (11, zI v11_10)]) [0, 1, 2, 3, 4, 5, 7, 8, 9, 10, 11] rfl ?_
                exact t_129 v5_7 v7_9 v11_10 (1 : Int32) v6_8 s11 hf

def L_X5_walk : List (Nat × Instr × Nat) := [(0, .aload_n 0, 1), (1, .invokevirtual 28, 3), (4, .iconst 0, 1), (5, .istore 4, 2), (7, .iload 4, 2), (9, .aload_n 1, 1), (10, .getfield 31, 3), (13, .if_icmp .ge 25, 3), (16, .iload 4, 2), (18, .bipush 12, 2), (20, .if_icmp .ge 18, 3), (23, .aload_n 0, 1), (24, .aload_n 1, 1), (25, .iload 4, 2), (27, .iload_n 2, 1), (28, .iload_n 3, 1), (29, .invokevirtual 37, 3), (32, .iinc 4 1, 3), (35, .goto (-28), 3), (38, .return_, 1)]
set_option maxRecDepth 100000 in
theorem D_X5_walk : zdecs cX5_walk L_X5_walk = true := by decide +kernel
noncomputable def b_X5_walk_7 (p1 : Nat) (i : Nat) (p2 : Int32) (p3 : Int32) (v4_2 : Int32) (s3 : zG) : Option ((Int32 × zG) ⊕ (zG)) :=
  if v4_2 < (s3.1 8 p1 0) then if v4_2 < (12 : Int32) then (f_X5_follow i p1 v4_2 p2 p3 s3).bind (fun q4 => some (Sum.inl ((v4_2 + 1), q4))) else some (Sum.inr s3) else some (Sum.inr s3)
noncomputable def f_X5_walk (i : Nat) (p1 : Nat) (p2 : Int32) (p3 : Int32) (σ : zG) : Option (zG) :=
  zb (f_X5_clear i σ) (fun s1 => (zlp (fun q : Int32 × zG => b_X5_walk_7 p1 i p2 p3 q.1 q.2) ((0 : Int32), s1)).bind (fun e5 : zG => some e5))
set_option maxRecDepth 100000 in
set_option maxHeartbeats 4000000 in
theorem c_X5_walk (l : Launch) (i : Nat) (p1 : Nat) (p2 : Int32) (p3 : Int32) (σ : zG) (q : zG) (hq : f_X5_walk i p1 p2 p3 σ = some q) : zMet l zsyC m_X5_walk yX5_walk [zR 9 i, zR 8 p1, zI p2, zI p3] σ none q := by
  refine zEnter [(0, zR 9 i), (1, zR 8 p1), (2, zI p2), (3, zI p3)] (by decide) rfl (fun _ => Nat.le_of_ble_eq_true rfl) (fun _ => rfl) (fun w h => ?_) (fun K hv hs => ?_)
  · exact zokm rfl h
  · have hP : ∀ s, f_X5_walk i p1 p2 p3 σ = some s → zKv K = none ∧ zKs K = s := fun s h => by rw [hq] at h; cases h; exact ⟨hv, hs⟩
    have hn : f_X5_walk i p1 p2 p3 σ ≠ none := fun z => by rw [hq] at z; cases z
    have hf := f_X5_walk.eq_1 i p1 p2 p3 σ
    refine z_aload_n (pc := 0) 0 (zdg D_X5_walk 0 (0, .aload_n 0, 1) rfl) rfl rfl ?_
    refine z_callV (pc := 1) (rest := []) (st2 := []) (fun l => c_X5_clear l i σ) zv_X5_clear lm_X5_28 rfl rfl rfl rfl rfl rfl (Nat.le_of_ble_eq_true rfl) ⟨Nat.le_of_ble_eq_true rfl, Nat.le_of_ble_eq_true rfl⟩ (zdg D_X5_walk 1 (1, .invokevirtual 28, 3) rfl) ?_
    refine z_nmS hf (fun s1 hf => ?_)
    refine z_iconst (pc := 4) (v := 0) (zdg D_X5_walk 2 (4, .iconst 0, 1) rfl) rfl ?_
    refine z_istore (pc := 5) (al' := [(4, zI (0 : Int32)), (0, zR 9 i), (1, zR 8 p1), (2, zI p2), (3, zI p3)]) (zdg D_X5_walk 3 (5, .istore 4, 2) rfl) (by decide) rfl ?_
    refine z_sub (al' := [(0, zR 9 i), (1, zR 8 p1), (2, zI p2), (3, zI p3), (4, zI (0 : Int32))]) [1, 2, 3, 4, 0] rfl ?_
    refine z_loop (f := (fun q : Int32 × zG => b_X5_walk_7 p1 i p2 p3 q.1 q.2)) (a := ((0 : Int32), s1)) (fun q : Int32 × zG => zX zsyC m_X5_walk K 7 [(0, zR 9 i), (1, zR 8 p1), (2, zI p2), (3, zI p3), (4, zI q.1)] [] q.2) (fun e5 : zG => zX zsyC m_X5_walk K 38 [] [] e5) hn hf ?_ ?_
    · intro e5 hf
      exact z_vret (pc := 38) rfl (zdg D_X5_walk 19 (38, .return_, 1) rfl) (hP _ hf)
    · rintro ⟨v4_2, s3⟩ hn hi hx
      have hf := b_X5_walk_7.eq_1 p1 i p2 p3 v4_2 s3
      refine z_iload (pc := 7) 4 (zdg D_X5_walk 4 (7, .iload 4, 2) rfl) rfl ?_
      refine z_aload_n (pc := 9) 1 (zdg D_X5_walk 5 (9, .aload_n 1, 1) rfl) rfl rfl ?_
      refine z_getI (pc := 10) lf_X5_31 rfl rfl (zdg D_X5_walk 6 (10, .getfield 31, 3) rfl) ?_
      refine z_icmp_ge (pc := 13) 38 (zdg D_X5_walk 7 (13, .if_icmp .ge 25, 3) rfl) rfl hf (fun hf => ?_) (fun hf => ?_)
      · refine z_sub (al' := []) [] rfl ?_
        exact hx s3 hf
      · refine z_iload (pc := 16) 4 (zdg D_X5_walk 8 (16, .iload 4, 2) rfl) rfl ?_
        refine z_bipush (pc := 18) (v := 12) (zdg D_X5_walk 9 (18, .bipush 12, 2) rfl) rfl ?_
        refine z_icmp_ge (pc := 20) 38 (zdg D_X5_walk 10 (20, .if_icmp .ge 18, 3) rfl) rfl hf (fun hf => ?_) (fun hf => ?_)
        · refine z_sub (al' := []) [] rfl ?_
          exact hx s3 hf
        · refine z_aload_n (pc := 23) 0 (zdg D_X5_walk 11 (23, .aload_n 0, 1) rfl) rfl rfl ?_
          refine z_aload_n (pc := 24) 1 (zdg D_X5_walk 12 (24, .aload_n 1, 1) rfl) rfl rfl ?_
          refine z_iload (pc := 25) 4 (zdg D_X5_walk 13 (25, .iload 4, 2) rfl) rfl ?_
          refine z_iload_n (pc := 27) 2 (zdg D_X5_walk 14 (27, .iload_n 2, 1) rfl) rfl rfl ?_
          refine z_iload_n (pc := 28) 3 (zdg D_X5_walk 15 (28, .iload_n 3, 1) rfl) rfl rfl ?_
          refine z_bind hn hf (fun q4 hq hf => ?_)
          refine z_callV (pc := 29) (rest := []) (st2 := []) (fun l => c_X5_follow l i p1 v4_2 p2 p3 s3 q4 hq) zv_X5_follow lm_X5_37 rfl rfl rfl rfl rfl rfl (Nat.le_of_ble_eq_true rfl) ⟨Nat.le_of_ble_eq_true rfl, Nat.le_of_ble_eq_true rfl⟩ (zdg D_X5_walk 16 (29, .invokevirtual 37, 3) rfl) ?_
          refine z_iinc (pc := 32) (v0 := (v4_2 + 1)) (al' := [(4, zI (v4_2 + 1)), (0, zR 9 i), (1, zR 8 p1), (2, zI p2), (3, zI p3)]) 4 (zdg D_X5_walk 17 (32, .iinc 4 1, 3) rfl) rfl rfl (by decide) rfl ?_
          refine z_goto (pc := 35) 7 (zdg D_X5_walk 18 (35, .goto (-28), 3) rfl) rfl ?_
          refine z_sub (al' := [(0, zR 9 i), (1, zR 8 p1), (2, zI p2), (3, zI p3), (4, zI (v4_2 + 1))]) [1, 2, 3, 4, 0] rfl ?_
          exact hi ((v4_2 + 1), q4) hf

def L_X5_minutesThere : List (Nat × Instr × Nat) := [(0, .iconst 0, 1), (1, .istore_n 2, 1), (2, .iconst 0, 1), (3, .istore_n 3, 1), (4, .iload_n 3, 1), (5, .sipush 500, 3), (8, .if_icmp .gt 22, 3), (11, .aload_n 0, 1), (12, .iload_n 1, 1), (13, .iload_n 3, 1), (14, .invokevirtual 65, 3), (17, .iconst (-1), 1), (18, .if_icmp .eq 6, 3), (21, .iinc 2 1, 3), (24, .iinc 3 1, 3), (27, .goto (-23), 3), (30, .iload_n 2, 1), (31, .ireturn, 1)]
set_option maxRecDepth 100000 in
theorem D_X5_minutesThere : zdecs cX5_minutesThere L_X5_minutesThere = true := by decide +kernel
noncomputable def b_X5_minutesThere_4 (i : Nat) (p1 : Int32) (σ : zG) (v2_1 : Int32) (v3_2 : Int32) : Option ((Int32 × Int32) ⊕ (Int32)) :=
  if v3_2 ≤ (500 : Int32) then (f_X5_spotIn i p1 v3_2 σ).bind (fun q3 => if q3 = (-1 : Int32) then some (Sum.inl (v2_1, (v3_2 + 1))) else some (Sum.inl ((v2_1 + 1), (v3_2 + 1)))) else some (Sum.inr v2_1)
noncomputable def f_X5_minutesThere (i : Nat) (p1 : Int32) (σ : zG) : Option (Int32) :=
  (zlp (fun q : Int32 × Int32 => b_X5_minutesThere_4 i p1 σ q.1 q.2) ((0 : Int32), (0 : Int32))).bind (fun e4 : Int32 => some e4)
set_option maxRecDepth 100000 in
set_option maxHeartbeats 4000000 in
theorem c_X5_minutesThere (l : Launch) (i : Nat) (p1 : Int32) (σ : zG) (q : Int32) (hq : f_X5_minutesThere i p1 σ = some q) : zMet l zsyC m_X5_minutesThere yX5_minutesThere [zR 9 i, zI p1] σ (some (zI q)) σ := by
  refine zEnter [(0, zR 9 i), (1, zI p1)] (by decide) rfl (fun _ => Nat.le_of_ble_eq_true rfl) (fun _ => rfl) (fun w h => ?_) (fun K hv hs => ?_)
  · exact zokm rfl h
  · have hP : ∀ x, f_X5_minutesThere i p1 σ = some x → zKv K = some (zI x) ∧ zKs K = σ := fun x h => by rw [hq] at h; cases h; exact ⟨hv, hs⟩
    have hn : f_X5_minutesThere i p1 σ ≠ none := fun z => by rw [hq] at z; cases z
    have hf := f_X5_minutesThere.eq_1 i p1 σ
    refine z_iconst (pc := 0) (v := 0) (zdg D_X5_minutesThere 0 (0, .iconst 0, 1) rfl) rfl ?_
    refine z_istore_n (pc := 1) (al' := [(2, zI (0 : Int32)), (0, zR 9 i), (1, zI p1)]) (zdg D_X5_minutesThere 1 (1, .istore_n 2, 1) rfl) rfl (by decide) rfl ?_
    refine z_iconst (pc := 2) (v := 0) (zdg D_X5_minutesThere 2 (2, .iconst 0, 1) rfl) rfl ?_
    refine z_istore_n (pc := 3) (al' := [(3, zI (0 : Int32)), (2, zI (0 : Int32)), (0, zR 9 i), (1, zI p1)]) (zdg D_X5_minutesThere 3 (3, .istore_n 3, 1) rfl) rfl (by decide) rfl ?_
    refine z_sub (al' := [(0, zR 9 i), (1, zI p1), (2, zI (0 : Int32)), (3, zI (0 : Int32))]) [2, 3, 1, 0] rfl ?_
    refine z_loop (f := (fun q : Int32 × Int32 => b_X5_minutesThere_4 i p1 σ q.1 q.2)) (a := ((0 : Int32), (0 : Int32))) (fun q : Int32 × Int32 => zX zsyC m_X5_minutesThere K 4 [(0, zR 9 i), (1, zI p1), (2, zI q.1), (3, zI q.2)] [] σ) (fun e4 : Int32 => zX zsyC m_X5_minutesThere K 30 [(2, zI e4)] [] σ) hn hf ?_ ?_
    · intro e4 hf
      refine z_iload_n (pc := 30) 0 (zdg D_X5_minutesThere 16 (30, .iload_n 2, 1) rfl) rfl rfl ?_
      exact z_iret (pc := 31) rfl rfl (zdg D_X5_minutesThere 17 (31, .ireturn, 1) rfl) (hP _ hf)
    · rintro ⟨v2_1, v3_2⟩ hn hi hx
      have hf := b_X5_minutesThere_4.eq_1 i p1 σ v2_1 v3_2
      refine z_iload_n (pc := 4) 3 (zdg D_X5_minutesThere 4 (4, .iload_n 3, 1) rfl) rfl rfl ?_
      refine z_sipush (pc := 5) (v := 500) (zdg D_X5_minutesThere 5 (5, .sipush 500, 3) rfl) rfl ?_
      refine z_icmp_gt (pc := 8) 30 (zdg D_X5_minutesThere 6 (8, .if_icmp .gt 22, 3) rfl) rfl hf (fun hf => ?_) (fun hf => ?_)
      · refine z_sub (al' := [(2, zI v2_1)]) [2] rfl ?_
        exact hx v2_1 hf
      · refine z_aload_n (pc := 11) 0 (zdg D_X5_minutesThere 7 (11, .aload_n 0, 1) rfl) rfl rfl ?_
        refine z_iload_n (pc := 12) 1 (zdg D_X5_minutesThere 8 (12, .iload_n 1, 1) rfl) rfl rfl ?_
        refine z_iload_n (pc := 13) 3 (zdg D_X5_minutesThere 9 (13, .iload_n 3, 1) rfl) rfl rfl ?_
        refine z_bind hn hf (fun q3 hq hf => ?_)
        refine z_callV (pc := 14) (rest := []) (st2 := [zI q3]) (fun l => c_X5_spotIn l i p1 v3_2 σ q3 hq) zv_X5_spotIn lm_X5_65 rfl rfl rfl rfl rfl rfl (Nat.le_of_ble_eq_true rfl) ⟨Nat.le_of_ble_eq_true rfl, Nat.le_of_ble_eq_true rfl⟩ (zdg D_X5_minutesThere 10 (14, .invokevirtual 65, 3) rfl) ?_
        refine z_iconst (pc := 17) (v := -1) (zdg D_X5_minutesThere 11 (17, .iconst (-1), 1) rfl) rfl ?_
        refine z_icmp_eq (pc := 18) 24 (zdg D_X5_minutesThere 12 (18, .if_icmp .eq 6, 3) rfl) rfl hf (fun hf => ?_) (fun hf => ?_)
        · refine z_iinc (pc := 24) (v0 := (v3_2 + 1)) (al' := [(3, zI (v3_2 + 1)), (0, zR 9 i), (1, zI p1), (2, zI v2_1)]) 3 (zdg D_X5_minutesThere 14 (24, .iinc 3 1, 3) rfl) rfl rfl (by decide) rfl ?_
          refine z_goto (pc := 27) 4 (zdg D_X5_minutesThere 15 (27, .goto (-23), 3) rfl) rfl ?_
          refine z_sub (al' := [(0, zR 9 i), (1, zI p1), (2, zI v2_1), (3, zI (v3_2 + 1))]) [1, 2, 3, 0] rfl ?_
          exact hi (v2_1, (v3_2 + 1)) hf
        · refine z_iinc (pc := 21) (v0 := (v2_1 + 1)) (al' := [(2, zI (v2_1 + 1)), (0, zR 9 i), (1, zI p1), (3, zI v3_2)]) 2 (zdg D_X5_minutesThere 13 (21, .iinc 2 1, 3) rfl) rfl rfl (by decide) rfl ?_
          refine z_iinc (pc := 24) (v0 := (v3_2 + 1)) (al' := [(3, zI (v3_2 + 1)), (2, zI (v2_1 + 1)), (0, zR 9 i), (1, zI p1)]) 3 (zdg D_X5_minutesThere 14 (24, .iinc 3 1, 3) rfl) rfl rfl (by decide) rfl ?_
          refine z_goto (pc := 27) 4 (zdg D_X5_minutesThere 15 (27, .goto (-23), 3) rfl) rfl ?_
          refine z_sub (al' := [(0, zR 9 i), (1, zI p1), (2, zI (v2_1 + 1)), (3, zI (v3_2 + 1))]) [2, 3, 1, 0] rfl ?_
          exact hi ((v2_1 + 1), (v3_2 + 1)) hf

def L_X8_append : List (Nat × Instr × Nat) := [(0, .bipush 24, 2), (2, .istore_n 2, 1), (3, .iload_n 2, 1), (4, .ifCond .lt 46, 3), (7, .aload_n 0, 1), (8, .getfield 25, 3), (11, .sipush 400, 3), (14, .if_icmp .ge 30, 3), (17, .aload_n 0, 1), (18, .getfield 9, 3), (21, .aload_n 0, 1), (22, .getfield 25, 3), (25, .iload_n 1, 1), (26, .iload_n 2, 1), (27, .iushr, 1), (28, .sipush 255, 3), (31, .iand, 1), (32, .i2c, 1), (33, .castore, 1), (34, .aload_n 0, 1), (35, .dup, 1), (36, .getfield 25, 3), (39, .iconst 1, 1), (40, .iadd, 1), (41, .putfield 25, 3), (44, .iinc 2 (-8), 3), (47, .goto (-44), 3), (50, .return_, 1)]
set_option maxRecDepth 100000 in
theorem D_X8_append : zdecs cX8_append L_X8_append = true := by decide +kernel
noncomputable def b_X8_append_3 (p1 : Int32) (v2_1 : Int32) (s2 : zG) : Option ((Int32 × zG) ⊕ (zG)) :=
  if 0 ≤ v2_1 then if (s2.1 3 0 1) < (400 : Int32) then zg (zin (s2.1 3 0 1) 400) (zb (zwI s2 38 0 (s2.1 3 0 1).toNatClampNeg (zi2c (zi2c ((zushr p1 v2_1) &&& (255 : Int32))))) (fun s3 => zb (zwI s3 3 0 1 ((s3.1 3 0 1) + (1 : Int32))) (fun s4 => some (Sum.inl ((v2_1 + (-8)), s4))))) else some (Sum.inl ((v2_1 + (-8)), s2)) else some (Sum.inr s2)
noncomputable def f_X8_append (p1 : Int32) (σ : zG) : Option (zG) :=
  (zlp (fun q : Int32 × zG => b_X8_append_3 p1 q.1 q.2) ((24 : Int32), σ)).bind (fun e5 : zG => some e5)
set_option maxRecDepth 100000 in
set_option maxHeartbeats 4000000 in
theorem c_X8_append (l : Launch) (p1 : Int32) (σ : zG) (q : zG) (hq : f_X8_append p1 σ = some q) : zMet l zsyC m_X8_append yX8_append [zR 3 0, zI p1] σ none q := by
  refine zEnter [(0, zR 3 0), (1, zI p1)] (by decide) rfl (fun _ => Nat.le_of_ble_eq_true rfl) (fun _ => rfl) (fun w h => ?_) (fun K hv hs => ?_)
  · exact zokm rfl h
  · have hP : ∀ s, f_X8_append p1 σ = some s → zKv K = none ∧ zKs K = s := fun s h => by rw [hq] at h; cases h; exact ⟨hv, hs⟩
    have hn : f_X8_append p1 σ ≠ none := fun z => by rw [hq] at z; cases z
    have hf := f_X8_append.eq_1 p1 σ
    refine z_bipush (pc := 0) (v := 24) (zdg D_X8_append 0 (0, .bipush 24, 2) rfl) rfl ?_
    refine z_istore_n (pc := 2) (al' := [(2, zI (24 : Int32)), (0, zR 3 0), (1, zI p1)]) (zdg D_X8_append 1 (2, .istore_n 2, 1) rfl) rfl (by decide) rfl ?_
    refine z_sub (al' := [(0, zR 3 0), (1, zI p1), (2, zI (24 : Int32))]) [1, 2, 0] rfl ?_
    refine z_loop (f := (fun q : Int32 × zG => b_X8_append_3 p1 q.1 q.2)) (a := ((24 : Int32), σ)) (fun q : Int32 × zG => zX zsyC m_X8_append K 3 [(0, zR 3 0), (1, zI p1), (2, zI q.1)] [] q.2) (fun e5 : zG => zX zsyC m_X8_append K 50 [] [] e5) hn hf ?_ ?_
    · intro e5 hf
      exact z_vret (pc := 50) rfl (zdg D_X8_append 27 (50, .return_, 1) rfl) (hP _ hf)
    · rintro ⟨v2_1, s2⟩ hn hi hx
      have hf := b_X8_append_3.eq_1 p1 v2_1 s2
      refine z_iload_n (pc := 3) 2 (zdg D_X8_append 2 (3, .iload_n 2, 1) rfl) rfl rfl ?_
      refine z_if_lt (pc := 4) 50 (zdg D_X8_append 3 (4, .ifCond .lt 46, 3) rfl) rfl hf (fun hf => ?_) (fun hf => ?_)
      · refine z_sub (al' := []) [] rfl ?_
        exact hx s2 hf
      · refine z_aload_n (pc := 7) 0 (zdg D_X8_append 4 (7, .aload_n 0, 1) rfl) rfl rfl ?_
        refine z_getI (pc := 8) lf_X8_25 rfl rfl (zdg D_X8_append 5 (8, .getfield 25, 3) rfl) ?_
        refine z_sipush (pc := 11) (v := 400) (zdg D_X8_append 6 (11, .sipush 400, 3) rfl) rfl ?_
        refine z_icmp_ge (pc := 14) 44 (zdg D_X8_append 7 (14, .if_icmp .ge 30, 3) rfl) rfl hf (fun hf => ?_) (fun hf => ?_)
        · refine z_iinc (pc := 44) (v0 := (v2_1 + (-8))) (al' := [(2, zI (v2_1 + (-8))), (0, zR 3 0), (1, zI p1)]) 2 (zdg D_X8_append 25 (44, .iinc 2 (-8), 3) rfl) rfl rfl (by decide) rfl ?_
          refine z_goto (pc := 47) 3 (zdg D_X8_append 26 (47, .goto (-44), 3) rfl) rfl ?_
          refine z_sub (al' := [(0, zR 3 0), (1, zI p1), (2, zI (v2_1 + (-8)))]) [1, 2, 0] rfl ?_
          exact hi ((v2_1 + (-8)), s2) hf
        · refine z_aload_n (pc := 17) 0 (zdg D_X8_append 8 (17, .aload_n 0, 1) rfl) rfl rfl ?_
          refine z_getR (pc := 18) (g := 38) (j := 0) lf_X8_9 rfl rfl rfl (zdg D_X8_append 9 (18, .getfield 9, 3) rfl) ?_
          refine z_aload_n (pc := 21) 0 (zdg D_X8_append 10 (21, .aload_n 0, 1) rfl) rfl rfl ?_
          refine z_getI (pc := 22) lf_X8_25 rfl rfl (zdg D_X8_append 11 (22, .getfield 25, 3) rfl) ?_
          refine z_iload_n (pc := 25) 1 (zdg D_X8_append 12 (25, .iload_n 1, 1) rfl) rfl rfl ?_
          refine z_iload_n (pc := 26) 2 (zdg D_X8_append 13 (26, .iload_n 2, 1) rfl) rfl rfl ?_
          refine z_iushr (pc := 27) (zdg D_X8_append 14 (27, .iushr, 1) rfl) ?_
          refine z_sipush (pc := 28) (v := 255) (zdg D_X8_append 15 (28, .sipush 255, 3) rfl) rfl ?_
          refine z_iand (pc := 31) (zdg D_X8_append 16 (31, .iand, 1) rfl) ?_
          refine z_i2c (pc := 32) (zdg D_X8_append 17 (32, .i2c, 1) rfl) ?_
          refine z_cast (pc := 33) rfl (fun _ => rfl) (zdg D_X8_append 18 (33, .castore, 1) rfl) hn hf (fun hf => ?_)
          refine z_nmS hf (fun s3 hf => ?_)
          refine z_aload_n (pc := 34) 0 (zdg D_X8_append 19 (34, .aload_n 0, 1) rfl) rfl rfl ?_
          refine z_dup (pc := 35) rfl (zdg D_X8_append 20 (35, .dup, 1) rfl) ?_
          refine z_getI (pc := 36) lf_X8_25 rfl rfl (zdg D_X8_append 21 (36, .getfield 25, 3) rfl) ?_
          refine z_iconst (pc := 39) (v := 1) (zdg D_X8_append 22 (39, .iconst 1, 1) rfl) rfl ?_
          refine z_iadd (pc := 40) (zdg D_X8_append 23 (40, .iadd, 1) rfl) ?_
          refine z_putI (pc := 41) lw_X8_25 rfl rfl rfl rfl (zdg D_X8_append 24 (41, .putfield 25, 3) rfl) ?_
          refine z_nmS hf (fun s4 hf => ?_)
          refine z_iinc (pc := 44) (v0 := (v2_1 + (-8))) (al' := [(2, zI (v2_1 + (-8))), (0, zR 3 0), (1, zI p1)]) 2 (zdg D_X8_append 25 (44, .iinc 2 (-8), 3) rfl) rfl rfl (by decide) rfl ?_
          refine z_goto (pc := 47) 3 (zdg D_X8_append 26 (47, .goto (-44), 3) rfl) rfl ?_
          refine z_sub (al' := [(0, zR 3 0), (1, zI p1), (2, zI (v2_1 + (-8)))]) [1, 2, 0] rfl ?_
          exact hi ((v2_1 + (-8)), s4) hf

def L_X9_find : List (Nat × Instr × Nat) := [(0, .aload_n 0, 1), (1, .aload_n 0, 1), (2, .getfield 26, 3), (5, .ifCond .ne 7, 3), (8, .iload_n 1, 1), (9, .goto 7, 3), (12, .aload_n 0, 1), (13, .getfield 44, 3), (16, .putfield 44, 3), (19, .aload_n 0, 1), (20, .iload_n 1, 1), (21, .putfield 47, 3), (24, .aload_n 0, 1), (25, .dup, 1), (26, .getfield 26, 3), (29, .iconst 1, 1), (30, .iadd, 1), (31, .putfield 26, 3), (34, .return_, 1)]
set_option maxRecDepth 100000 in
theorem D_X9_find : zdecs cX9_find L_X9_find = true := by decide +kernel
noncomputable def j_X9_find_16 (p1 : Int32) (t1 : Int32) (t2 : Nat) (s3 : zG) : zG :=
  zb (zwI s3 5 t2 5 t1) (fun s4 => zb (zwI s4 5 0 6 p1) (fun s5 => zb (zwI s5 5 0 4 ((s5.1 5 0 4) + (1 : Int32))) (fun s6 => s6)))
noncomputable def f_X9_find (p1 : Int32) (σ : zG) : zG :=
  if (σ.1 5 0 4) = 0 then j_X9_find_16 p1 p1 0 σ else j_X9_find_16 p1 (σ.1 5 0 5) 0 σ
set_option maxRecDepth 100000 in
set_option maxHeartbeats 4000000 in
theorem c_X9_find (l : Launch) (p1 : Int32) (σ : zG) : zMet l zsyC m_X9_find yX9_find [zR 5 0, zI p1] σ none (f_X9_find p1 σ) := by
  refine zEnter [(0, zR 5 0), (1, zI p1)] (by decide) rfl (fun _ => Nat.le_of_ble_eq_true rfl) (fun _ => rfl) (fun w h => ?_) (fun K hv hs => ?_)
  · exact zokm rfl h
  · have hP : ∀ s, f_X9_find p1 σ = s → zKv K = none ∧ zKs K = s := fun s h => by rw [h] at hs; exact ⟨hv, hs⟩
    have hf := f_X9_find.eq_1 p1 σ
    have t_16 : ∀ (t1 : Int32) (t2 : Nat) (s3 : zG), f_X9_find p1 σ = j_X9_find_16 p1 t1 t2 s3 → zX zsyC m_X9_find K 16 [(0, zR 5 0), (1, zI p1)] [zI t1, zR 5 t2] s3 := by
      intro t1 t2 s3 hf
      replace hf := hf.trans (j_X9_find_16.eq_1 p1 t1 t2 s3)
      refine z_putI (pc := 16) lw_X9_44 rfl rfl rfl rfl (zdg D_X9_find 8 (16, .putfield 44, 3) rfl) ?_
      refine z_nmS hf (fun s4 hf => ?_)
      refine z_aload_n (pc := 19) 0 (zdg D_X9_find 9 (19, .aload_n 0, 1) rfl) rfl rfl ?_
      refine z_iload_n (pc := 20) 1 (zdg D_X9_find 10 (20, .iload_n 1, 1) rfl) rfl rfl ?_
      refine z_putI (pc := 21) lw_X9_47 rfl rfl rfl rfl (zdg D_X9_find 11 (21, .putfield 47, 3) rfl) ?_
      refine z_nmS hf (fun s5 hf => ?_)
      refine z_aload_n (pc := 24) 0 (zdg D_X9_find 12 (24, .aload_n 0, 1) rfl) rfl rfl ?_
      refine z_dup (pc := 25) rfl (zdg D_X9_find 13 (25, .dup, 1) rfl) ?_
      refine z_getI (pc := 26) lf_X9_26 rfl rfl (zdg D_X9_find 14 (26, .getfield 26, 3) rfl) ?_
      refine z_iconst (pc := 29) (v := 1) (zdg D_X9_find 15 (29, .iconst 1, 1) rfl) rfl ?_
      refine z_iadd (pc := 30) (zdg D_X9_find 16 (30, .iadd, 1) rfl) ?_
      refine z_putI (pc := 31) lw_X9_26 rfl rfl rfl rfl (zdg D_X9_find 17 (31, .putfield 26, 3) rfl) ?_
      refine z_nmS hf (fun s6 hf => ?_)
      exact z_vret (pc := 34) rfl (zdg D_X9_find 18 (34, .return_, 1) rfl) (hP _ hf)
    refine z_aload_n (pc := 0) 0 (zdg D_X9_find 0 (0, .aload_n 0, 1) rfl) rfl rfl ?_
    refine z_aload_n (pc := 1) 0 (zdg D_X9_find 1 (1, .aload_n 0, 1) rfl) rfl rfl ?_
    refine z_getI (pc := 2) lf_X9_26 rfl rfl (zdg D_X9_find 2 (2, .getfield 26, 3) rfl) ?_
    refine z_if_ne (pc := 5) 12 (zdg D_X9_find 3 (5, .ifCond .ne 7, 3) rfl) rfl hf (fun hf => ?_) (fun hf => ?_)
    · refine z_aload_n (pc := 12) 0 (zdg D_X9_find 6 (12, .aload_n 0, 1) rfl) rfl rfl ?_
      refine z_getI (pc := 13) lf_X9_44 rfl rfl (zdg D_X9_find 7 (13, .getfield 44, 3) rfl) ?_
      exact t_16 (σ.1 5 0 5) 0 σ hf
    · refine z_iload_n (pc := 8) 1 (zdg D_X9_find 4 (8, .iload_n 1, 1) rfl) rfl rfl ?_
      refine z_goto (pc := 9) 16 (zdg D_X9_find 5 (9, .goto 7, 3) rfl) rfl ?_
      exact t_16 p1 0 σ hf

def L_X9_findHours : List (Nat × Instr × Nat) := [(0, .aload_n 0, 1), (1, .iconst 0, 1), (2, .putfield 26, 3), (5, .iconst 0, 1), (6, .istore_n 3, 1), (7, .iload_n 3, 1), (8, .sipush 500, 3), (11, .if_icmp .gt 27, 3), (14, .aload_n 0, 1), (15, .getfield 22, 3), (18, .iload_n 1, 1), (19, .iload_n 3, 1), (20, .invokevirtual 30, 3), (23, .iload_n 2, 1), (24, .if_icmp .ne 8, 3), (27, .aload_n 0, 1), (28, .iload_n 3, 1), (29, .invokevirtual 36, 3), (32, .iinc 3 1, 3), (35, .goto (-28), 3), (38, .return_, 1)]
set_option maxRecDepth 100000 in
theorem D_X9_findHours : zdecs cX9_findHours L_X9_findHours = true := by decide +kernel
noncomputable def b_X9_findHours_7 (p1 : Int32) (p2 : Int32) (v3_2 : Int32) (s3 : zG) : Option ((Int32 × zG) ⊕ (zG)) :=
  if v3_2 ≤ (500 : Int32) then (f_X1_shadeOf 0 p1 v3_2 s3).bind (fun q4 => if q4.1 = p2 then zb (f_X9_find v3_2 q4.2) (fun s5 => some (Sum.inl ((v3_2 + 1), s5))) else some (Sum.inl ((v3_2 + 1), q4.2))) else some (Sum.inr s3)
noncomputable def f_X9_findHours (p1 : Int32) (p2 : Int32) (σ : zG) : Option (zG) :=
  zb (zwI σ 5 0 4 (0 : Int32)) (fun s1 => (zlp (fun q : Int32 × zG => b_X9_findHours_7 p1 p2 q.1 q.2) ((0 : Int32), s1)).bind (fun e6 : zG => some e6))
set_option maxRecDepth 100000 in
set_option maxHeartbeats 4000000 in
theorem c_X9_findHours (l : Launch) (p1 : Int32) (p2 : Int32) (σ : zG) (q : zG) (hq : f_X9_findHours p1 p2 σ = some q) : zMet l zsyC m_X9_findHours yX9_findHours [zR 5 0, zI p1, zI p2] σ none q := by
  refine zEnter [(0, zR 5 0), (1, zI p1), (2, zI p2)] (by decide) rfl (fun _ => Nat.le_of_ble_eq_true rfl) (fun _ => rfl) (fun w h => ?_) (fun K hv hs => ?_)
  · exact zokm rfl h
  · have hP : ∀ s, f_X9_findHours p1 p2 σ = some s → zKv K = none ∧ zKs K = s := fun s h => by rw [hq] at h; cases h; exact ⟨hv, hs⟩
    have hn : f_X9_findHours p1 p2 σ ≠ none := fun z => by rw [hq] at z; cases z
    have hf := f_X9_findHours.eq_1 p1 p2 σ
    refine z_aload_n (pc := 0) 0 (zdg D_X9_findHours 0 (0, .aload_n 0, 1) rfl) rfl rfl ?_
    refine z_iconst (pc := 1) (v := 0) (zdg D_X9_findHours 1 (1, .iconst 0, 1) rfl) rfl ?_
    refine z_putI (pc := 2) lw_X9_26 rfl rfl rfl rfl (zdg D_X9_findHours 2 (2, .putfield 26, 3) rfl) ?_
    refine z_nmS hf (fun s1 hf => ?_)
    refine z_iconst (pc := 5) (v := 0) (zdg D_X9_findHours 3 (5, .iconst 0, 1) rfl) rfl ?_
    refine z_istore_n (pc := 6) (al' := [(3, zI (0 : Int32)), (0, zR 5 0), (1, zI p1), (2, zI p2)]) (zdg D_X9_findHours 4 (6, .istore_n 3, 1) rfl) rfl (by decide) rfl ?_
    refine z_sub (al' := [(0, zR 5 0), (1, zI p1), (2, zI p2), (3, zI (0 : Int32))]) [1, 2, 3, 0] rfl ?_
    refine z_loop (f := (fun q : Int32 × zG => b_X9_findHours_7 p1 p2 q.1 q.2)) (a := ((0 : Int32), s1)) (fun q : Int32 × zG => zX zsyC m_X9_findHours K 7 [(0, zR 5 0), (1, zI p1), (2, zI p2), (3, zI q.1)] [] q.2) (fun e6 : zG => zX zsyC m_X9_findHours K 38 [] [] e6) hn hf ?_ ?_
    · intro e6 hf
      exact z_vret (pc := 38) rfl (zdg D_X9_findHours 20 (38, .return_, 1) rfl) (hP _ hf)
    · rintro ⟨v3_2, s3⟩ hn hi hx
      have hf := b_X9_findHours_7.eq_1 p1 p2 v3_2 s3
      refine z_iload_n (pc := 7) 3 (zdg D_X9_findHours 5 (7, .iload_n 3, 1) rfl) rfl rfl ?_
      refine z_sipush (pc := 8) (v := 500) (zdg D_X9_findHours 6 (8, .sipush 500, 3) rfl) rfl ?_
      refine z_icmp_gt (pc := 11) 38 (zdg D_X9_findHours 7 (11, .if_icmp .gt 27, 3) rfl) rfl hf (fun hf => ?_) (fun hf => ?_)
      · refine z_sub (al' := []) [] rfl ?_
        exact hx s3 hf
      · refine z_aload_n (pc := 14) 0 (zdg D_X9_findHours 8 (14, .aload_n 0, 1) rfl) rfl rfl ?_
        refine z_getR (pc := 15) (g := 1) (j := 0) lf_X9_22 rfl rfl rfl (zdg D_X9_findHours 9 (15, .getfield 22, 3) rfl) ?_
        refine z_iload_n (pc := 18) 1 (zdg D_X9_findHours 10 (18, .iload_n 1, 1) rfl) rfl rfl ?_
        refine z_iload_n (pc := 19) 3 (zdg D_X9_findHours 11 (19, .iload_n 3, 1) rfl) rfl rfl ?_
        refine z_bind hn hf (fun q4 hq hf => ?_)
        refine z_callV (pc := 20) (rest := []) (st2 := [zI q4.1]) (fun l => c_X1_shadeOf l 0 p1 v3_2 s3 q4 hq) zv_X1_shadeOf lm_X9_30 rfl rfl rfl rfl rfl rfl (Nat.le_of_ble_eq_true rfl) ⟨Nat.le_of_ble_eq_true rfl, Nat.le_of_ble_eq_true rfl⟩ (zdg D_X9_findHours 12 (20, .invokevirtual 30, 3) rfl) ?_
        refine z_iload_n (pc := 23) 2 (zdg D_X9_findHours 13 (23, .iload_n 2, 1) rfl) rfl rfl ?_
        refine z_icmp_ne (pc := 24) 32 (zdg D_X9_findHours 14 (24, .if_icmp .ne 8, 3) rfl) rfl hf (fun hf => ?_) (fun hf => ?_)
        · refine z_iinc (pc := 32) (v0 := (v3_2 + 1)) (al' := [(3, zI (v3_2 + 1)), (0, zR 5 0), (1, zI p1), (2, zI p2)]) 3 (zdg D_X9_findHours 18 (32, .iinc 3 1, 3) rfl) rfl rfl (by decide) rfl ?_
          refine z_goto (pc := 35) 7 (zdg D_X9_findHours 19 (35, .goto (-28), 3) rfl) rfl ?_
          refine z_sub (al' := [(0, zR 5 0), (1, zI p1), (2, zI p2), (3, zI (v3_2 + 1))]) [1, 2, 3, 0] rfl ?_
          exact hi ((v3_2 + 1), q4.2) hf
        · refine z_aload_n (pc := 27) 0 (zdg D_X9_findHours 15 (27, .aload_n 0, 1) rfl) rfl rfl ?_
          refine z_iload_n (pc := 28) 3 (zdg D_X9_findHours 16 (28, .iload_n 3, 1) rfl) rfl rfl ?_
          refine z_callV (pc := 29) (rest := []) (st2 := []) (fun l => c_X9_find l v3_2 q4.2) zv_X9_find lm_X9_36 rfl rfl rfl rfl rfl rfl (Nat.le_of_ble_eq_true rfl) ⟨Nat.le_of_ble_eq_true rfl, Nat.le_of_ble_eq_true rfl⟩ (zdg D_X9_findHours 17 (29, .invokevirtual 36, 3) rfl) ?_
          refine z_nmS hf (fun s5 hf => ?_)
          refine z_iinc (pc := 32) (v0 := (v3_2 + 1)) (al' := [(3, zI (v3_2 + 1)), (0, zR 5 0), (1, zI p1), (2, zI p2)]) 3 (zdg D_X9_findHours 18 (32, .iinc 3 1, 3) rfl) rfl rfl (by decide) rfl ?_
          refine z_goto (pc := 35) 7 (zdg D_X9_findHours 19 (35, .goto (-28), 3) rfl) rfl ?_
          refine z_sub (al' := [(0, zR 5 0), (1, zI p1), (2, zI p2), (3, zI (v3_2 + 1))]) [1, 2, 3, 0] rfl ?_
          exact hi ((v3_2 + 1), s5) hf

def L_X9_firstUnlike : List (Nat × Instr × Nat) := [(0, .aload_n 1, 1), (1, .invokevirtual 107, 3), (4, .lstore_n 3, 1), (5, .iconst 0, 1), (6, .istore 5, 2), (8, .iload 5, 2), (10, .bipush 56, 2), (12, .if_icmp .ge 41, 3), (15, .lload_n 3, 1), (16, .iload 5, 2), (18, .invokestatic 87, 3), (21, .ifCond .eq 26, 3), (24, .aload_n 1, 1), (25, .getfield 112, 3), (28, .iload 5, 2), (30, .baload, 1), (31, .aload_n 0, 1), (32, .getfield 22, 3), (35, .iload 5, 2), (37, .iload_n 2, 1), (38, .invokevirtual 30, 3), (41, .if_icmp .eq 6, 3), (44, .iload 5, 2), (46, .ireturn, 1), (47, .iinc 5 1, 3), (50, .goto (-42), 3), (53, .iconst (-1), 1), (54, .ireturn, 1)]
set_option maxRecDepth 100000 in
theorem D_X9_firstUnlike : zdecs cX9_firstUnlike L_X9_firstUnlike = true := by decide +kernel
noncomputable def b_X9_firstUnlike_8 (p1 : Nat) (σ : zG) (p2 : Int32) (v5_1 : Int32) (s2 : zG) : Option ((Int32 × zG) ⊕ ((Int32 × zG) ⊕ (zG))) :=
  if v5_1 < (56 : Int32) then if (f_X11_holds (f_X6_clearSpots p1 σ) v5_1) = 0 then some (Sum.inl ((v5_1 + 1), s2)) else zg (zin v5_1 56) ((f_X1_shadeOf 0 v5_1 p2 s2).bind (fun q3 => if (s2.1 29 p1 v5_1.toNatClampNeg) = q3.1 then some (Sum.inl ((v5_1 + 1), q3.2)) else some (Sum.inr (Sum.inl (v5_1, q3.2))))) else some (Sum.inr (Sum.inr s2))
noncomputable def f_X9_firstUnlike (p1 : Nat) (p2 : Int32) (σ : zG) : Option (Int32 × zG) :=
  (zlp (fun q : Int32 × zG => b_X9_firstUnlike_8 p1 σ p2 q.1 q.2) ((0 : Int32), σ)).bind (Sum.elim (fun e4 : Int32 × zG => some (e4.1, e4.2)) (fun e5 : zG => some ((-1 : Int32), e5)))
set_option maxRecDepth 100000 in
set_option maxHeartbeats 4000000 in
theorem c_X9_firstUnlike (l : Launch) (p1 : Nat) (p2 : Int32) (σ : zG) (q : Int32 × zG) (hq : f_X9_firstUnlike p1 p2 σ = some q) : zMet l zsyC m_X9_firstUnlike yX9_firstUnlike [zR 5 0, zR 11 p1, zI p2] σ (some (zI q.1)) q.2 := by
  refine zEnter [(0, zR 5 0), (1, zR 11 p1), (2, zI p2)] (by decide) rfl (fun _ => Nat.le_of_ble_eq_true rfl) (fun _ => rfl) (fun w h => ?_) (fun K hv hs => ?_)
  · exact zokm rfl h
  · have hP : ∀ x s, f_X9_firstUnlike p1 p2 σ = some (x, s) → zKv K = some (zI x) ∧ zKs K = s := fun x s h => by rw [hq] at h; cases h; exact ⟨hv, hs⟩
    have hn : f_X9_firstUnlike p1 p2 σ ≠ none := fun z => by rw [hq] at z; cases z
    have hf := f_X9_firstUnlike.eq_1 p1 p2 σ
    refine z_aload_n (pc := 0) 1 (zdg D_X9_firstUnlike 0 (0, .aload_n 1, 1) rfl) rfl rfl ?_
    refine z_callV (pc := 1) (rest := []) (st2 := [zL (f_X6_clearSpots p1 σ)]) (fun l => c_X6_clearSpots l p1 σ) zv_X6_clearSpots lm_X9_107 rfl rfl rfl rfl rfl rfl (Nat.le_of_ble_eq_true rfl) ⟨Nat.le_of_ble_eq_true rfl, Nat.le_of_ble_eq_true rfl⟩ (zdg D_X9_firstUnlike 1 (1, .invokevirtual 107, 3) rfl) ?_
    refine z_lstore_n (pc := 4) (al' := [(3, zL (f_X6_clearSpots p1 σ)), (0, zR 5 0), (1, zR 11 p1), (2, zI p2)]) (zdg D_X9_firstUnlike 2 (4, .lstore_n 3, 1) rfl) rfl (by decide) rfl ?_
    refine z_iconst (pc := 5) (v := 0) (zdg D_X9_firstUnlike 3 (5, .iconst 0, 1) rfl) rfl ?_
    refine z_istore (pc := 6) (al' := [(5, zI (0 : Int32)), (3, zL (f_X6_clearSpots p1 σ)), (0, zR 5 0), (1, zR 11 p1), (2, zI p2)]) (zdg D_X9_firstUnlike 4 (6, .istore 5, 2) rfl) (by decide) rfl ?_
    refine z_sub (al' := [(0, zR 5 0), (1, zR 11 p1), (2, zI p2), (3, zL (f_X6_clearSpots p1 σ)), (5, zI (0 : Int32))]) [2, 3, 4, 1, 0] rfl ?_
    refine z_loop (f := (fun q : Int32 × zG => b_X9_firstUnlike_8 p1 σ p2 q.1 q.2)) (a := ((0 : Int32), σ)) (fun q : Int32 × zG => zX zsyC m_X9_firstUnlike K 8 [(0, zR 5 0), (1, zR 11 p1), (2, zI p2), (3, zL (f_X6_clearSpots p1 σ)), (5, zI q.1)] [] q.2) (Sum.elim (fun e4 : Int32 × zG => zX zsyC m_X9_firstUnlike K 44 [(5, zI e4.1)] [] e4.2) (fun e5 : zG => zX zsyC m_X9_firstUnlike K 53 [] [] e5)) hn hf ?_ ?_
    · intro b hf
      cases b with
      | inl e4 =>
        refine z_iload (pc := 44) 0 (zdg D_X9_firstUnlike 22 (44, .iload 5, 2) rfl) rfl ?_
        exact z_iret (pc := 46) rfl rfl (zdg D_X9_firstUnlike 23 (46, .ireturn, 1) rfl) (hP _ _ hf)
      | inr b =>
        revert hf
        revert b
        intro e5 hf
        refine z_iconst (pc := 53) (v := -1) (zdg D_X9_firstUnlike 26 (53, .iconst (-1), 1) rfl) rfl ?_
        exact z_iret (pc := 54) rfl rfl (zdg D_X9_firstUnlike 27 (54, .ireturn, 1) rfl) (hP _ _ hf)
    · rintro ⟨v5_1, s2⟩ hn hi hx
      have hf := b_X9_firstUnlike_8.eq_1 p1 σ p2 v5_1 s2
      refine z_iload (pc := 8) 4 (zdg D_X9_firstUnlike 5 (8, .iload 5, 2) rfl) rfl ?_
      refine z_bipush (pc := 10) (v := 56) (zdg D_X9_firstUnlike 6 (10, .bipush 56, 2) rfl) rfl ?_
      refine z_icmp_ge (pc := 12) 53 (zdg D_X9_firstUnlike 7 (12, .if_icmp .ge 41, 3) rfl) rfl hf (fun hf => ?_) (fun hf => ?_)
      · refine z_sub (al' := []) [] rfl ?_
        exact hx (Sum.inr s2) hf
      · refine z_lload_n (pc := 15) 3 (zdg D_X9_firstUnlike 8 (15, .lload_n 3, 1) rfl) rfl rfl ?_
        refine z_iload (pc := 16) 4 (zdg D_X9_firstUnlike 9 (16, .iload 5, 2) rfl) rfl ?_
        refine z_callSN (pc := 18) (rest := []) (st2 := [zI (f_X11_holds (f_X6_clearSpots p1 σ) v5_1)]) (host := "NobodyThere") (fun l => c_X11_holds l (f_X6_clearSpots p1 σ) v5_1 s2) zs_X11_holds (by decide +kernel) rfl rfl rfl (Nat.le_of_ble_eq_true rfl) ⟨Nat.le_of_ble_eq_true rfl, Nat.le_of_ble_eq_true rfl⟩ (zdg D_X9_firstUnlike 10 (18, .invokestatic 87, 3) rfl) ?_
        refine z_if_eq (pc := 21) 47 (zdg D_X9_firstUnlike 11 (21, .ifCond .eq 26, 3) rfl) rfl hf (fun hf => ?_) (fun hf => ?_)
        · refine z_iinc (pc := 47) (v0 := (v5_1 + 1)) (al' := [(5, zI (v5_1 + 1)), (0, zR 5 0), (1, zR 11 p1), (2, zI p2), (3, zL (f_X6_clearSpots p1 σ))]) 4 (zdg D_X9_firstUnlike 24 (47, .iinc 5 1, 3) rfl) rfl rfl (by decide) rfl ?_
          refine z_goto (pc := 50) 8 (zdg D_X9_firstUnlike 25 (50, .goto (-42), 3) rfl) rfl ?_
          refine z_sub (al' := [(0, zR 5 0), (1, zR 11 p1), (2, zI p2), (3, zL (f_X6_clearSpots p1 σ)), (5, zI (v5_1 + 1))]) [1, 2, 3, 4, 0] rfl ?_
          exact hi ((v5_1 + 1), s2) hf
        · refine z_aload_n (pc := 24) 1 (zdg D_X9_firstUnlike 12 (24, .aload_n 1, 1) rfl) rfl rfl ?_
          refine z_getR (pc := 25) (g := 29) (j := p1) lf_X9_112 rfl rfl rfl (zdg D_X9_firstUnlike 13 (25, .getfield 112, 3) rfl) ?_
          refine z_iload (pc := 28) 4 (zdg D_X9_firstUnlike 14 (28, .iload 5, 2) rfl) rfl ?_
          refine z_bald (pc := 30) rfl (fun _ => rfl) (zdg D_X9_firstUnlike 15 (30, .baload, 1) rfl) hn hf (fun hf => ?_)
          refine z_aload_n (pc := 31) 0 (zdg D_X9_firstUnlike 16 (31, .aload_n 0, 1) rfl) rfl rfl ?_
          refine z_getR (pc := 32) (g := 1) (j := 0) lf_X9_22 rfl rfl rfl (zdg D_X9_firstUnlike 17 (32, .getfield 22, 3) rfl) ?_
          refine z_iload (pc := 35) 4 (zdg D_X9_firstUnlike 18 (35, .iload 5, 2) rfl) rfl ?_
          refine z_iload_n (pc := 37) 2 (zdg D_X9_firstUnlike 19 (37, .iload_n 2, 1) rfl) rfl rfl ?_
          refine z_bind hn hf (fun q3 hq hf => ?_)
          refine z_callV (pc := 38) (rest := [zI (s2.1 29 p1 v5_1.toNatClampNeg)]) (st2 := [zI q3.1, zI (s2.1 29 p1 v5_1.toNatClampNeg)]) (fun l => c_X1_shadeOf l 0 v5_1 p2 s2 q3 hq) zv_X1_shadeOf lm_X9_30 rfl rfl rfl rfl rfl rfl (Nat.le_of_ble_eq_true rfl) ⟨Nat.le_of_ble_eq_true rfl, Nat.le_of_ble_eq_true rfl⟩ (zdg D_X9_firstUnlike 20 (38, .invokevirtual 30, 3) rfl) ?_
          refine z_icmp_eq (pc := 41) 47 (zdg D_X9_firstUnlike 21 (41, .if_icmp .eq 6, 3) rfl) rfl hf (fun hf => ?_) (fun hf => ?_)
          · refine z_iinc (pc := 47) (v0 := (v5_1 + 1)) (al' := [(5, zI (v5_1 + 1)), (0, zR 5 0), (1, zR 11 p1), (2, zI p2), (3, zL (f_X6_clearSpots p1 σ))]) 4 (zdg D_X9_firstUnlike 24 (47, .iinc 5 1, 3) rfl) rfl rfl (by decide) rfl ?_
            refine z_goto (pc := 50) 8 (zdg D_X9_firstUnlike 25 (50, .goto (-42), 3) rfl) rfl ?_
            refine z_sub (al' := [(0, zR 5 0), (1, zR 11 p1), (2, zI p2), (3, zL (f_X6_clearSpots p1 σ)), (5, zI (v5_1 + 1))]) [1, 2, 3, 4, 0] rfl ?_
            exact hi ((v5_1 + 1), q3.2) hf
          · refine z_sub (al' := [(5, zI v5_1)]) [4] rfl ?_
            exact hx (Sum.inl (v5_1, q3.2)) hf

def L_X9_findAlike : List (Nat × Instr × Nat) := [(0, .aload_n 0, 1), (1, .iconst 0, 1), (2, .putfield 26, 3), (5, .iconst 0, 1), (6, .istore_n 2, 1), (7, .iload_n 2, 1), (8, .sipush 500, 3), (11, .if_icmp .gt 24, 3), (14, .aload_n 0, 1), (15, .aload_n 1, 1), (16, .iload_n 2, 1), (17, .invokevirtual 40, 3), (20, .iconst (-1), 1), (21, .if_icmp .ne 8, 3), (24, .aload_n 0, 1), (25, .iload_n 2, 1), (26, .invokevirtual 36, 3), (29, .iinc 2 1, 3), (32, .goto (-25), 3), (35, .return_, 1)]
set_option maxRecDepth 100000 in
theorem D_X9_findAlike : zdecs cX9_findAlike L_X9_findAlike = true := by decide +kernel
noncomputable def b_X9_findAlike_7 (p1 : Nat) (v2_2 : Int32) (s3 : zG) : Option ((Int32 × zG) ⊕ (zG)) :=
  if v2_2 ≤ (500 : Int32) then (f_X9_firstUnlike p1 v2_2 s3).bind (fun q4 => if q4.1 = (-1 : Int32) then zb (f_X9_find v2_2 q4.2) (fun s5 => some (Sum.inl ((v2_2 + 1), s5))) else some (Sum.inl ((v2_2 + 1), q4.2))) else some (Sum.inr s3)
noncomputable def f_X9_findAlike (p1 : Nat) (σ : zG) : Option (zG) :=
  zb (zwI σ 5 0 4 (0 : Int32)) (fun s1 => (zlp (fun q : Int32 × zG => b_X9_findAlike_7 p1 q.1 q.2) ((0 : Int32), s1)).bind (fun e6 : zG => some e6))
set_option maxRecDepth 100000 in
set_option maxHeartbeats 4000000 in
theorem c_X9_findAlike (l : Launch) (p1 : Nat) (σ : zG) (q : zG) (hq : f_X9_findAlike p1 σ = some q) : zMet l zsyC m_X9_findAlike yX9_findAlike [zR 5 0, zR 11 p1] σ none q := by
  refine zEnter [(0, zR 5 0), (1, zR 11 p1)] (by decide) rfl (fun _ => Nat.le_of_ble_eq_true rfl) (fun _ => rfl) (fun w h => ?_) (fun K hv hs => ?_)
  · exact zokm rfl h
  · have hP : ∀ s, f_X9_findAlike p1 σ = some s → zKv K = none ∧ zKs K = s := fun s h => by rw [hq] at h; cases h; exact ⟨hv, hs⟩
    have hn : f_X9_findAlike p1 σ ≠ none := fun z => by rw [hq] at z; cases z
    have hf := f_X9_findAlike.eq_1 p1 σ
    refine z_aload_n (pc := 0) 0 (zdg D_X9_findAlike 0 (0, .aload_n 0, 1) rfl) rfl rfl ?_
    refine z_iconst (pc := 1) (v := 0) (zdg D_X9_findAlike 1 (1, .iconst 0, 1) rfl) rfl ?_
    refine z_putI (pc := 2) lw_X9_26 rfl rfl rfl rfl (zdg D_X9_findAlike 2 (2, .putfield 26, 3) rfl) ?_
    refine z_nmS hf (fun s1 hf => ?_)
    refine z_iconst (pc := 5) (v := 0) (zdg D_X9_findAlike 3 (5, .iconst 0, 1) rfl) rfl ?_
    refine z_istore_n (pc := 6) (al' := [(2, zI (0 : Int32)), (0, zR 5 0), (1, zR 11 p1)]) (zdg D_X9_findAlike 4 (6, .istore_n 2, 1) rfl) rfl (by decide) rfl ?_
    refine z_sub (al' := [(0, zR 5 0), (1, zR 11 p1), (2, zI (0 : Int32))]) [1, 2, 0] rfl ?_
    refine z_loop (f := (fun q : Int32 × zG => b_X9_findAlike_7 p1 q.1 q.2)) (a := ((0 : Int32), s1)) (fun q : Int32 × zG => zX zsyC m_X9_findAlike K 7 [(0, zR 5 0), (1, zR 11 p1), (2, zI q.1)] [] q.2) (fun e6 : zG => zX zsyC m_X9_findAlike K 35 [] [] e6) hn hf ?_ ?_
    · intro e6 hf
      exact z_vret (pc := 35) rfl (zdg D_X9_findAlike 19 (35, .return_, 1) rfl) (hP _ hf)
    · rintro ⟨v2_2, s3⟩ hn hi hx
      have hf := b_X9_findAlike_7.eq_1 p1 v2_2 s3
      refine z_iload_n (pc := 7) 2 (zdg D_X9_findAlike 5 (7, .iload_n 2, 1) rfl) rfl rfl ?_
      refine z_sipush (pc := 8) (v := 500) (zdg D_X9_findAlike 6 (8, .sipush 500, 3) rfl) rfl ?_
      refine z_icmp_gt (pc := 11) 35 (zdg D_X9_findAlike 7 (11, .if_icmp .gt 24, 3) rfl) rfl hf (fun hf => ?_) (fun hf => ?_)
      · refine z_sub (al' := []) [] rfl ?_
        exact hx s3 hf
      · refine z_aload_n (pc := 14) 0 (zdg D_X9_findAlike 8 (14, .aload_n 0, 1) rfl) rfl rfl ?_
        refine z_aload_n (pc := 15) 1 (zdg D_X9_findAlike 9 (15, .aload_n 1, 1) rfl) rfl rfl ?_
        refine z_iload_n (pc := 16) 2 (zdg D_X9_findAlike 10 (16, .iload_n 2, 1) rfl) rfl rfl ?_
        refine z_bind hn hf (fun q4 hq hf => ?_)
        refine z_callV (pc := 17) (rest := []) (st2 := [zI q4.1]) (fun l => c_X9_firstUnlike l p1 v2_2 s3 q4 hq) zv_X9_firstUnlike lm_X9_40 rfl rfl rfl rfl rfl rfl (Nat.le_of_ble_eq_true rfl) ⟨Nat.le_of_ble_eq_true rfl, Nat.le_of_ble_eq_true rfl⟩ (zdg D_X9_findAlike 11 (17, .invokevirtual 40, 3) rfl) ?_
        refine z_iconst (pc := 20) (v := -1) (zdg D_X9_findAlike 12 (20, .iconst (-1), 1) rfl) rfl ?_
        refine z_icmp_ne (pc := 21) 29 (zdg D_X9_findAlike 13 (21, .if_icmp .ne 8, 3) rfl) rfl hf (fun hf => ?_) (fun hf => ?_)
        · refine z_iinc (pc := 29) (v0 := (v2_2 + 1)) (al' := [(2, zI (v2_2 + 1)), (0, zR 5 0), (1, zR 11 p1)]) 2 (zdg D_X9_findAlike 17 (29, .iinc 2 1, 3) rfl) rfl rfl (by decide) rfl ?_
          refine z_goto (pc := 32) 7 (zdg D_X9_findAlike 18 (32, .goto (-25), 3) rfl) rfl ?_
          refine z_sub (al' := [(0, zR 5 0), (1, zR 11 p1), (2, zI (v2_2 + 1))]) [1, 2, 0] rfl ?_
          exact hi ((v2_2 + 1), q4.2) hf
        · refine z_aload_n (pc := 24) 0 (zdg D_X9_findAlike 14 (24, .aload_n 0, 1) rfl) rfl rfl ?_
          refine z_iload_n (pc := 25) 2 (zdg D_X9_findAlike 15 (25, .iload_n 2, 1) rfl) rfl rfl ?_
          refine z_callV (pc := 26) (rest := []) (st2 := []) (fun l => c_X9_find l v2_2 q4.2) zv_X9_find lm_X9_36 rfl rfl rfl rfl rfl rfl (Nat.le_of_ble_eq_true rfl) ⟨Nat.le_of_ble_eq_true rfl, Nat.le_of_ble_eq_true rfl⟩ (zdg D_X9_findAlike 16 (26, .invokevirtual 36, 3) rfl) ?_
          refine z_nmS hf (fun s5 hf => ?_)
          refine z_iinc (pc := 29) (v0 := (v2_2 + 1)) (al' := [(2, zI (v2_2 + 1)), (0, zR 5 0), (1, zR 11 p1)]) 2 (zdg D_X9_findAlike 17 (29, .iinc 2 1, 3) rfl) rfl rfl (by decide) rfl ?_
          refine z_goto (pc := 32) 7 (zdg D_X9_findAlike 18 (32, .goto (-25), 3) rfl) rfl ?_
          refine z_sub (al' := [(0, zR 5 0), (1, zR 11 p1), (2, zI (v2_2 + 1))]) [1, 2, 0] rfl ?_
          exact hi ((v2_2 + 1), s5) hf

def L_X11_oneOf : List (Nat × Instr × Nat) := [(0, .iload_n 0, 1), (1, .tableswitch 33 0 2 #[27, 29, 31], 27), (28, .iload_n 1, 1), (29, .ireturn, 1), (30, .iload_n 2, 1), (31, .ireturn, 1), (32, .iload_n 3, 1), (33, .ireturn, 1), (34, .iload 4, 2), (36, .ireturn, 1)]
set_option maxRecDepth 100000 in
theorem D_X11_oneOf : zdecs cX11_oneOf L_X11_oneOf = true := by decide +kernel
noncomputable def f_X11_oneOf (p1 : Int32) (p2 : Int32) (p3 : Int32) (p4 : Int32) (p5 : Int32) : Int32 :=
  if p1 = 0 then p2 else if p1 = 1 then p3 else if p1 = 2 then p4 else p5
set_option maxRecDepth 100000 in
set_option maxHeartbeats 4000000 in
theorem c_X11_oneOf (l : Launch) (p1 : Int32) (p2 : Int32) (p3 : Int32) (p4 : Int32) (p5 : Int32) (σ : zG) : zMet l zsyC m_X11_oneOf yX11_oneOf [zI p1, zI p2, zI p3, zI p4, zI p5] σ (some (zI (f_X11_oneOf p1 p2 p3 p4 p5))) σ := by
  refine zEnter [(0, zI p1), (1, zI p2), (2, zI p3), (3, zI p4), (4, zI p5)] (by decide) rfl (fun _ => Nat.le_of_ble_eq_true rfl) (fun _ => rfl) (fun w h => ?_) (fun K hv hs => ?_)
  · exact zokm rfl h
  · have hP : ∀ x, f_X11_oneOf p1 p2 p3 p4 p5 = x → zKv K = some (zI x) ∧ zKs K = σ := fun x h => by rw [h] at hv; exact ⟨hv, hs⟩
    have hf := f_X11_oneOf.eq_1 p1 p2 p3 p4 p5
    refine z_iload_n (pc := 0) 0 (zdg D_X11_oneOf 0 (0, .iload_n 0, 1) rfl) rfl rfl ?_
    refine zif hf (fun hc0 hf => ?_) (fun hc0 hf => ?_)
    · refine z_tsIn (pc := 1) (c := 0) (j := 0) 28 (zdg D_X11_oneOf 1 (1, .tableswitch 33 0 2 #[27, 29, 31], 27) rfl) hc0 (by decide) (by decide) rfl rfl rfl ?_
      refine z_iload_n (pc := 28) 1 (zdg D_X11_oneOf 2 (28, .iload_n 1, 1) rfl) rfl rfl ?_
      exact z_iret (pc := 29) rfl rfl (zdg D_X11_oneOf 3 (29, .ireturn, 1) rfl) (hP _ hf)
    · skip
      refine zif hf (fun hc1 hf => ?_) (fun hc1 hf => ?_)
      · refine z_tsIn (pc := 1) (c := 1) (j := 1) 30 (zdg D_X11_oneOf 1 (1, .tableswitch 33 0 2 #[27, 29, 31], 27) rfl) hc1 (by decide) (by decide) rfl rfl rfl ?_
        refine z_iload_n (pc := 30) 2 (zdg D_X11_oneOf 4 (30, .iload_n 2, 1) rfl) rfl rfl ?_
        exact z_iret (pc := 31) rfl rfl (zdg D_X11_oneOf 5 (31, .ireturn, 1) rfl) (hP _ hf)
      · skip
        refine zif hf (fun hc2 hf => ?_) (fun hc2 hf => ?_)
        · refine z_tsIn (pc := 1) (c := 2) (j := 2) 32 (zdg D_X11_oneOf 1 (1, .tableswitch 33 0 2 #[27, 29, 31], 27) rfl) hc2 (by decide) (by decide) rfl rfl rfl ?_
          refine z_iload_n (pc := 32) 3 (zdg D_X11_oneOf 6 (32, .iload_n 3, 1) rfl) rfl rfl ?_
          exact z_iret (pc := 33) rfl rfl (zdg D_X11_oneOf 7 (33, .ireturn, 1) rfl) (hP _ hf)
        · skip
          refine z_tsOut (pc := 1) 34 (zdg D_X11_oneOf 1 (1, .tableswitch 33 0 2 #[27, 29, 31], 27) rfl) (by have e0 := lv_neT hc0 (k := 0) (a := 0) rfl; have e1 := lv_neT hc1 (k := 1) (a := 1) rfl; have e2 := lv_neT hc2 (k := 2) (a := 2) rfl; omega) rfl ?_
          refine z_iload (pc := 34) 4 (zdg D_X11_oneOf 8 (34, .iload 4, 2) rfl) rfl ?_
          exact z_iret (pc := 36) rfl rfl (zdg D_X11_oneOf 9 (36, .ireturn, 1) rfl) (hP _ hf)

def L_X9_found : List (Nat × Instr × Nat) := [(0, .aload_n 0, 1), (1, .getfield 26, 3), (4, .ifCond .le 7, 3), (7, .iconst 1, 1), (8, .goto 4, 3), (11, .iconst 0, 1), (12, .istore_n 3, 1), (13, .iload_n 1, 1), (14, .aload_n 0, 1), (15, .getfield 26, 3), (18, .iload_n 3, 1), (19, .ifCond .eq 10, 3), (22, .aload_n 0, 1), (23, .getfield 44, 3), (26, .goto 4, 3), (29, .iconst (-1), 1), (30, .iload_n 3, 1), (31, .ifCond .eq 10, 3), (34, .aload_n 0, 1), (35, .getfield 47, 3), (38, .goto 4, 3), (41, .iconst (-1), 1), (42, .iload_n 2, 1), (43, .invokestatic 50, 3), (46, .ireturn, 1)]
set_option maxRecDepth 100000 in
theorem D_X9_found : zdecs cX9_found L_X9_found = true := by decide +kernel
noncomputable def j_X9_found_30 (p2 : Int32) (σ : zG) (w3_2 : Int32) (t3 : Int32) (t4 : Int32) (t5 : Int32) : Int32 :=
  if w3_2 = 0 then (f_X11_oneOf t5 t4 t3 (-1 : Int32) p2) else (f_X11_oneOf t5 t4 t3 (σ.1 5 0 6) p2)
noncomputable def j_X9_found_12 (p2 : Int32) (σ : zG) (p1 : Int32) (t1 : Int32) : Int32 :=
  if t1 = 0 then j_X9_found_30 p2 σ t1 (-1 : Int32) (σ.1 5 0 4) p1 else j_X9_found_30 p2 σ t1 (σ.1 5 0 5) (σ.1 5 0 4) p1
noncomputable def f_X9_found (p1 : Int32) (p2 : Int32) (σ : zG) : Int32 :=
  if 0 < (σ.1 5 0 4) then j_X9_found_12 p2 σ p1 (1 : Int32) else j_X9_found_12 p2 σ p1 (0 : Int32)
set_option maxRecDepth 100000 in
set_option maxHeartbeats 4000000 in
theorem c_X9_found (l : Launch) (p1 : Int32) (p2 : Int32) (σ : zG) : zMet l zsyC m_X9_found yX9_found [zR 5 0, zI p1, zI p2] σ (some (zI (f_X9_found p1 p2 σ))) σ := by
  refine zEnter [(0, zR 5 0), (1, zI p1), (2, zI p2)] (by decide) rfl (fun _ => Nat.le_of_ble_eq_true rfl) (fun _ => rfl) (fun w h => ?_) (fun K hv hs => ?_)
  · exact zokm rfl h
  · have hP : ∀ x, f_X9_found p1 p2 σ = x → zKv K = some (zI x) ∧ zKs K = σ := fun x h => by rw [h] at hv; exact ⟨hv, hs⟩
    have hf := f_X9_found.eq_1 p1 p2 σ
    have t_30 : ∀ (w3_2 : Int32) (t3 : Int32) (t4 : Int32) (t5 : Int32), f_X9_found p1 p2 σ = j_X9_found_30 p2 σ w3_2 t3 t4 t5 → zX zsyC m_X9_found K 30 [(0, zR 5 0), (2, zI p2), (3, zI w3_2)] [zI t3, zI t4, zI t5] σ := by
      intro w3_2 t3 t4 t5 hf
      replace hf := hf.trans (j_X9_found_30.eq_1 p2 σ w3_2 t3 t4 t5)
      refine z_iload_n (pc := 30) 2 (zdg D_X9_found 16 (30, .iload_n 3, 1) rfl) rfl rfl ?_
      refine z_if_eq (pc := 31) 41 (zdg D_X9_found 17 (31, .ifCond .eq 10, 3) rfl) rfl hf (fun hf => ?_) (fun hf => ?_)
      · refine z_iconst (pc := 41) (v := -1) (zdg D_X9_found 21 (41, .iconst (-1), 1) rfl) rfl ?_
        refine z_iload_n (pc := 42) 1 (zdg D_X9_found 22 (42, .iload_n 2, 1) rfl) rfl rfl ?_
        refine z_callSN (pc := 43) (rest := []) (st2 := [zI (f_X11_oneOf t5 t4 t3 (-1 : Int32) p2)]) (host := "NobodyThere") (fun l => c_X11_oneOf l t5 t4 t3 (-1 : Int32) p2 σ) zs_X11_oneOf (by decide +kernel) rfl rfl rfl (Nat.le_of_ble_eq_true rfl) ⟨Nat.le_of_ble_eq_true rfl, Nat.le_of_ble_eq_true rfl⟩ (zdg D_X9_found 23 (43, .invokestatic 50, 3) rfl) ?_
        exact z_iret (pc := 46) rfl rfl (zdg D_X9_found 24 (46, .ireturn, 1) rfl) (hP _ hf)
      · refine z_aload_n (pc := 34) 0 (zdg D_X9_found 18 (34, .aload_n 0, 1) rfl) rfl rfl ?_
        refine z_getI (pc := 35) lf_X9_47 rfl rfl (zdg D_X9_found 19 (35, .getfield 47, 3) rfl) ?_
        refine z_goto (pc := 38) 42 (zdg D_X9_found 20 (38, .goto 4, 3) rfl) rfl ?_
        refine z_iload_n (pc := 42) 1 (zdg D_X9_found 22 (42, .iload_n 2, 1) rfl) rfl rfl ?_
        refine z_callSN (pc := 43) (rest := []) (st2 := [zI (f_X11_oneOf t5 t4 t3 (σ.1 5 0 6) p2)]) (host := "NobodyThere") (fun l => c_X11_oneOf l t5 t4 t3 (σ.1 5 0 6) p2 σ) zs_X11_oneOf (by decide +kernel) rfl rfl rfl (Nat.le_of_ble_eq_true rfl) ⟨Nat.le_of_ble_eq_true rfl, Nat.le_of_ble_eq_true rfl⟩ (zdg D_X9_found 23 (43, .invokestatic 50, 3) rfl) ?_
        exact z_iret (pc := 46) rfl rfl (zdg D_X9_found 24 (46, .ireturn, 1) rfl) (hP _ hf)
    have t_12 : ∀ (t1 : Int32), f_X9_found p1 p2 σ = j_X9_found_12 p2 σ p1 t1 → zX zsyC m_X9_found K 12 [(0, zR 5 0), (1, zI p1), (2, zI p2)] [zI t1] σ := by
      intro t1 hf
      replace hf := hf.trans (j_X9_found_12.eq_1 p2 σ p1 t1)
      refine z_istore_n (pc := 12) (al' := [(3, zI t1), (0, zR 5 0), (1, zI p1), (2, zI p2)]) (zdg D_X9_found 6 (12, .istore_n 3, 1) rfl) rfl (by decide) rfl ?_
      refine z_iload_n (pc := 13) 2 (zdg D_X9_found 7 (13, .iload_n 1, 1) rfl) rfl rfl ?_
      refine z_aload_n (pc := 14) 1 (zdg D_X9_found 8 (14, .aload_n 0, 1) rfl) rfl rfl ?_
      refine z_getI (pc := 15) lf_X9_26 rfl rfl (zdg D_X9_found 9 (15, .getfield 26, 3) rfl) ?_
      refine z_iload_n (pc := 18) 0 (zdg D_X9_found 10 (18, .iload_n 3, 1) rfl) rfl rfl ?_
      refine z_if_eq (pc := 19) 29 (zdg D_X9_found 11 (19, .ifCond .eq 10, 3) rfl) rfl hf (fun hf => ?_) (fun hf => ?_)
      · refine z_iconst (pc := 29) (v := -1) (zdg D_X9_found 15 (29, .iconst (-1), 1) rfl) rfl ?_
        refine z_sub (al' := [(0, zR 5 0), (2, zI p2), (3, zI t1)]) [1, 3, 0] rfl ?_
        exact t_30 t1 (-1 : Int32) (σ.1 5 0 4) p1 hf
      · refine z_aload_n (pc := 22) 1 (zdg D_X9_found 12 (22, .aload_n 0, 1) rfl) rfl rfl ?_
        refine z_getI (pc := 23) lf_X9_44 rfl rfl (zdg D_X9_found 13 (23, .getfield 44, 3) rfl) ?_
        refine z_goto (pc := 26) 30 (zdg D_X9_found 14 (26, .goto 4, 3) rfl) rfl ?_
        refine z_sub (al' := [(0, zR 5 0), (2, zI p2), (3, zI t1)]) [1, 3, 0] rfl ?_
        exact t_30 t1 (σ.1 5 0 5) (σ.1 5 0 4) p1 hf
    refine z_aload_n (pc := 0) 0 (zdg D_X9_found 0 (0, .aload_n 0, 1) rfl) rfl rfl ?_
    refine z_getI (pc := 1) lf_X9_26 rfl rfl (zdg D_X9_found 1 (1, .getfield 26, 3) rfl) ?_
    refine z_if_le (pc := 4) 11 (zdg D_X9_found 2 (4, .ifCond .le 7, 3) rfl) rfl hf (fun hf => ?_) (fun hf => ?_)
    · refine z_iconst (pc := 11) (v := 0) (zdg D_X9_found 5 (11, .iconst 0, 1) rfl) rfl ?_
      exact t_12 (0 : Int32) hf
    · refine z_iconst (pc := 7) (v := 1) (zdg D_X9_found 3 (7, .iconst 1, 1) rfl) rfl ?_
      refine z_goto (pc := 8) 12 (zdg D_X9_found 4 (8, .goto 4, 3) rfl) rfl ?_
      exact t_12 (1 : Int32) hf

def L_X9_firstFree : List (Nat × Instr × Nat) := [(0, .aload_n 0, 1), (1, .getfield 22, 3), (4, .invokevirtual 54, 3), (7, .lstore_n 1, 1), (8, .aload_n 0, 1), (9, .getfield 22, 3), (12, .getfield 58, 3), (15, .istore_n 3, 1), (16, .iload_n 3, 1), (17, .sipush 500, 3), (20, .if_icmp .gt 23, 3), (23, .aload_n 0, 1), (24, .getfield 22, 3), (27, .lload_n 1, 1), (28, .iload_n 3, 1), (29, .invokevirtual 61, 3), (32, .ifCond .eq 5, 3), (35, .iload_n 3, 1), (36, .ireturn, 1), (37, .iinc 3 1, 3), (40, .goto (-24), 3), (43, .iconst (-1), 1), (44, .ireturn, 1)]
set_option maxRecDepth 100000 in
theorem D_X9_firstFree : zdecs cX9_firstFree L_X9_firstFree = true := by decide +kernel
noncomputable def b_X9_firstFree_16 (q1 : Int64) (σ : zG) (v3_2 : Int32) : Option ((Int32) ⊕ ((Int32) ⊕ (Unit))) :=
  if v3_2 ≤ (500 : Int32) then (f_X1_isFree 0 q1 v3_2 σ).bind (fun q3 => if q3 = 0 then some (Sum.inl (v3_2 + 1)) else some (Sum.inr (Sum.inl v3_2))) else some (Sum.inr (Sum.inr ()))
noncomputable def f_X9_firstFree (σ : zG) : Option (Int32) :=
  (f_X1_viewNow 0 σ).bind (fun q1 => (zlp (fun q : Int32 => b_X9_firstFree_16 q1 σ q) (σ.1 1 0 3)).bind (Sum.elim (fun e4 : Int32 => some e4) (fun e5 : Unit => some (-1 : Int32))))
set_option maxRecDepth 100000 in
set_option maxHeartbeats 4000000 in
theorem c_X9_firstFree (l : Launch)  (σ : zG) (q : Int32) (hq : f_X9_firstFree σ = some q) : zMet l zsyC m_X9_firstFree yX9_firstFree [zR 5 0] σ (some (zI q)) σ := by
  refine zEnter [(0, zR 5 0)] (by decide) rfl (fun _ => Nat.le_of_ble_eq_true rfl) (fun _ => rfl) (fun w h => ?_) (fun K hv hs => ?_)
  · exact zokm rfl h
  · have hP : ∀ x, f_X9_firstFree σ = some x → zKv K = some (zI x) ∧ zKs K = σ := fun x h => by rw [hq] at h; cases h; exact ⟨hv, hs⟩
    have hn : f_X9_firstFree σ ≠ none := fun z => by rw [hq] at z; cases z
    have hf := f_X9_firstFree.eq_1 σ
    refine z_aload_n (pc := 0) 0 (zdg D_X9_firstFree 0 (0, .aload_n 0, 1) rfl) rfl rfl ?_
    refine z_getR (pc := 1) (g := 1) (j := 0) lf_X9_22 rfl rfl rfl (zdg D_X9_firstFree 1 (1, .getfield 22, 3) rfl) ?_
    refine z_bind hn hf (fun q1 hq hf => ?_)
    refine z_callV (pc := 4) (rest := []) (st2 := [zL q1]) (fun l => c_X1_viewNow l 0 σ q1 hq) zv_X1_viewNow lm_X9_54 rfl rfl rfl rfl rfl rfl (Nat.le_of_ble_eq_true rfl) ⟨Nat.le_of_ble_eq_true rfl, Nat.le_of_ble_eq_true rfl⟩ (zdg D_X9_firstFree 2 (4, .invokevirtual 54, 3) rfl) ?_
    refine z_lstore_n (pc := 7) (al' := [(1, zL q1), (0, zR 5 0)]) (zdg D_X9_firstFree 3 (7, .lstore_n 1, 1) rfl) rfl (by decide) rfl ?_
    refine z_aload_n (pc := 8) 1 (zdg D_X9_firstFree 4 (8, .aload_n 0, 1) rfl) rfl rfl ?_
    refine z_getR (pc := 9) (g := 1) (j := 0) lf_X9_22 rfl rfl rfl (zdg D_X9_firstFree 5 (9, .getfield 22, 3) rfl) ?_
    refine z_getI (pc := 12) lf_X9_58 rfl rfl (zdg D_X9_firstFree 6 (12, .getfield 58, 3) rfl) ?_
    refine z_istore_n (pc := 15) (al' := [(3, zI (σ.1 1 0 3)), (1, zL q1), (0, zR 5 0)]) (zdg D_X9_firstFree 7 (15, .istore_n 3, 1) rfl) rfl (by decide) rfl ?_
    refine z_sub (al' := [(0, zR 5 0), (1, zL q1), (3, zI (σ.1 1 0 3))]) [2, 1, 0] rfl ?_
    refine z_loop (f := (fun q : Int32 => b_X9_firstFree_16 q1 σ q)) (a := (σ.1 1 0 3)) (fun q : Int32 => zX zsyC m_X9_firstFree K 16 [(0, zR 5 0), (1, zL q1), (3, zI q)] [] σ) (Sum.elim (fun e4 : Int32 => zX zsyC m_X9_firstFree K 35 [(3, zI e4)] [] σ) (fun e5 : Unit => zX zsyC m_X9_firstFree K 43 [] [] σ)) hn hf ?_ ?_
    · intro b hf
      cases b with
      | inl e4 =>
        refine z_iload_n (pc := 35) 0 (zdg D_X9_firstFree 17 (35, .iload_n 3, 1) rfl) rfl rfl ?_
        exact z_iret (pc := 36) rfl rfl (zdg D_X9_firstFree 18 (36, .ireturn, 1) rfl) (hP _ hf)
      | inr b =>
        revert hf
        revert b
        intro e5 hf
        refine z_iconst (pc := 43) (v := -1) (zdg D_X9_firstFree 21 (43, .iconst (-1), 1) rfl) rfl ?_
        exact z_iret (pc := 44) rfl rfl (zdg D_X9_firstFree 22 (44, .ireturn, 1) rfl) (hP _ hf)
    · intro v3_2 hn hi hx
      have hf := b_X9_firstFree_16.eq_1 q1 σ v3_2
      refine z_iload_n (pc := 16) 2 (zdg D_X9_firstFree 8 (16, .iload_n 3, 1) rfl) rfl rfl ?_
      refine z_sipush (pc := 17) (v := 500) (zdg D_X9_firstFree 9 (17, .sipush 500, 3) rfl) rfl ?_
      refine z_icmp_gt (pc := 20) 43 (zdg D_X9_firstFree 10 (20, .if_icmp .gt 23, 3) rfl) rfl hf (fun hf => ?_) (fun hf => ?_)
      · refine z_sub (al' := []) [] rfl ?_
        exact hx (Sum.inr ()) hf
      · refine z_aload_n (pc := 23) 0 (zdg D_X9_firstFree 11 (23, .aload_n 0, 1) rfl) rfl rfl ?_
        refine z_getR (pc := 24) (g := 1) (j := 0) lf_X9_22 rfl rfl rfl (zdg D_X9_firstFree 12 (24, .getfield 22, 3) rfl) ?_
        refine z_lload_n (pc := 27) 1 (zdg D_X9_firstFree 13 (27, .lload_n 1, 1) rfl) rfl rfl ?_
        refine z_iload_n (pc := 28) 2 (zdg D_X9_firstFree 14 (28, .iload_n 3, 1) rfl) rfl rfl ?_
        refine z_bind hn hf (fun q3 hq hf => ?_)
        refine z_callV (pc := 29) (rest := []) (st2 := [zI q3]) (fun l => c_X1_isFree l 0 q1 v3_2 σ q3 hq) zv_X1_isFree lm_X9_61 rfl rfl rfl rfl rfl rfl (Nat.le_of_ble_eq_true rfl) ⟨Nat.le_of_ble_eq_true rfl, Nat.le_of_ble_eq_true rfl⟩ (zdg D_X9_firstFree 15 (29, .invokevirtual 61, 3) rfl) ?_
        refine z_if_eq (pc := 32) 37 (zdg D_X9_firstFree 16 (32, .ifCond .eq 5, 3) rfl) rfl hf (fun hf => ?_) (fun hf => ?_)
        · refine z_iinc (pc := 37) (v0 := (v3_2 + 1)) (al' := [(3, zI (v3_2 + 1)), (0, zR 5 0), (1, zL q1)]) 2 (zdg D_X9_firstFree 19 (37, .iinc 3 1, 3) rfl) rfl rfl (by decide) rfl ?_
          refine z_goto (pc := 40) 16 (zdg D_X9_firstFree 20 (40, .goto (-24), 3) rfl) rfl ?_
          refine z_sub (al' := [(0, zR 5 0), (1, zL q1), (3, zI (v3_2 + 1))]) [1, 2, 0] rfl ?_
          exact hi (v3_2 + 1) hf
        · refine z_sub (al' := [(3, zI v3_2)]) [2] rfl ?_
          exact hx (Sum.inl v3_2) hf

def L_X9_longestFree : List (Nat × Instr × Nat) := [(0, .aload_n 0, 1), (1, .getfield 22, 3), (4, .invokevirtual 54, 3), (7, .lstore_n 2, 1), (8, .iconst 0, 1), (9, .istore 4, 2), (11, .iconst 0, 1), (12, .istore 5, 2), (14, .iconst (-1), 1), (15, .istore 6, 2), (17, .aload_n 0, 1), (18, .getfield 22, 3), (21, .getfield 58, 3), (24, .istore 7, 2), (26, .iload 7, 2), (28, .sipush 500, 3), (31, .if_icmp .gt 52, 3), (34, .aload_n 0, 1), (35, .getfield 22, 3), (38, .lload_n 2, 1), (39, .iload 7, 2), (41, .invokevirtual 61, 3), (44, .ifCond .eq 10, 3), (47, .iload 4, 2), (49, .iconst 1, 1), (50, .iadd, 1), (51, .goto 4, 3), (54, .iconst 0, 1), (55, .istore 4, 2), (57, .iload 4, 2), (59, .iload 5, 2), (61, .if_icmp .le 16, 3), (64, .iload 4, 2), (66, .istore 5, 2), (68, .iload 7, 2), (70, .iload 4, 2), (72, .isub, 1), (73, .iconst 1, 1), (74, .iadd, 1), (75, .istore 6, 2), (77, .iinc 7 1, 3), (80, .goto (-54), 3), (83, .iload_n 1, 1), (84, .ifCond .ne 6, 3), (87, .iload 5, 2), (89, .ireturn, 1), (90, .iload_n 1, 1), (91, .iconst 1, 1), (92, .if_icmp .ne 8, 3), (95, .iload 6, 2), (97, .goto 4, 3), (100, .iconst (-1), 1), (101, .ireturn, 1)]
set_option maxRecDepth 100000 in
theorem D_X9_longestFree : zdecs cX9_longestFree L_X9_longestFree = true := by decide +kernel
noncomputable def j_X9_longestFree_55_26 (w5_7 : Int32) (w6_8 : Int32) (w7_9 : Int32) (t10 : Int32) : Option ((Int32 × Int32 × Int32 × Int32) ⊕ (Int32 × Int32)) :=
  if w5_7 < t10 then some (Sum.inl (t10, t10, ((w7_9 - t10) + (1 : Int32)), (w7_9 + 1))) else some (Sum.inl (t10, w5_7, w6_8, (w7_9 + 1)))
noncomputable def b_X9_longestFree_26 (q1 : Int64) (σ : zG) (v4_2 : Int32) (v5_3 : Int32) (v6_4 : Int32) (v7_5 : Int32) : Option ((Int32 × Int32 × Int32 × Int32) ⊕ (Int32 × Int32)) :=
  if v7_5 ≤ (500 : Int32) then (f_X1_isFree 0 q1 v7_5 σ).bind (fun q6 => if q6 = 0 then j_X9_longestFree_55_26 v5_3 v6_4 v7_5 (0 : Int32) else j_X9_longestFree_55_26 v5_3 v6_4 v7_5 (v4_2 + (1 : Int32))) else some (Sum.inr (v5_3, v6_4))
noncomputable def f_X9_longestFree (p1 : Int32) (σ : zG) : Option (Int32) :=
  (f_X1_viewNow 0 σ).bind (fun q1 => (zlp (fun q : Int32 × Int32 × Int32 × Int32 => b_X9_longestFree_26 q1 σ q.1 q.2.1 q.2.2.1 q.2.2.2) ((0 : Int32), (0 : Int32), (-1 : Int32), (σ.1 1 0 3))).bind (fun e11 : Int32 × Int32 => if p1 = 0 then some e11.1 else if p1 = (1 : Int32) then some e11.2 else some (-1 : Int32)))
set_option maxRecDepth 100000 in
set_option maxHeartbeats 4000000 in
theorem c_X9_longestFree (l : Launch) (p1 : Int32) (σ : zG) (q : Int32) (hq : f_X9_longestFree p1 σ = some q) : zMet l zsyC m_X9_longestFree yX9_longestFree [zR 5 0, zI p1] σ (some (zI q)) σ := by
  refine zEnter [(0, zR 5 0), (1, zI p1)] (by decide) rfl (fun _ => Nat.le_of_ble_eq_true rfl) (fun _ => rfl) (fun w h => ?_) (fun K hv hs => ?_)
  · exact zokm rfl h
  · have hP : ∀ x, f_X9_longestFree p1 σ = some x → zKv K = some (zI x) ∧ zKs K = σ := fun x h => by rw [hq] at h; cases h; exact ⟨hv, hs⟩
    have hn : f_X9_longestFree p1 σ ≠ none := fun z => by rw [hq] at z; cases z
    have hf := f_X9_longestFree.eq_1 p1 σ
    refine z_aload_n (pc := 0) 0 (zdg D_X9_longestFree 0 (0, .aload_n 0, 1) rfl) rfl rfl ?_
    refine z_getR (pc := 1) (g := 1) (j := 0) lf_X9_22 rfl rfl rfl (zdg D_X9_longestFree 1 (1, .getfield 22, 3) rfl) ?_
    refine z_bind hn hf (fun q1 hq hf => ?_)
    refine z_callV (pc := 4) (rest := []) (st2 := [zL q1]) (fun l => c_X1_viewNow l 0 σ q1 hq) zv_X1_viewNow lm_X9_54 rfl rfl rfl rfl rfl rfl (Nat.le_of_ble_eq_true rfl) ⟨Nat.le_of_ble_eq_true rfl, Nat.le_of_ble_eq_true rfl⟩ (zdg D_X9_longestFree 2 (4, .invokevirtual 54, 3) rfl) ?_
    refine z_lstore_n (pc := 7) (al' := [(2, zL q1), (0, zR 5 0), (1, zI p1)]) (zdg D_X9_longestFree 3 (7, .lstore_n 2, 1) rfl) rfl (by decide) rfl ?_
    refine z_iconst (pc := 8) (v := 0) (zdg D_X9_longestFree 4 (8, .iconst 0, 1) rfl) rfl ?_
    refine z_istore (pc := 9) (al' := [(4, zI (0 : Int32)), (2, zL q1), (0, zR 5 0), (1, zI p1)]) (zdg D_X9_longestFree 5 (9, .istore 4, 2) rfl) (by decide) rfl ?_
    refine z_iconst (pc := 11) (v := 0) (zdg D_X9_longestFree 6 (11, .iconst 0, 1) rfl) rfl ?_
    refine z_istore (pc := 12) (al' := [(5, zI (0 : Int32)), (4, zI (0 : Int32)), (2, zL q1), (0, zR 5 0), (1, zI p1)]) (zdg D_X9_longestFree 7 (12, .istore 5, 2) rfl) (by decide) rfl ?_
    refine z_iconst (pc := 14) (v := -1) (zdg D_X9_longestFree 8 (14, .iconst (-1), 1) rfl) rfl ?_
    refine z_istore (pc := 15) (al' := [(6, zI (-1 : Int32)), (5, zI (0 : Int32)), (4, zI (0 : Int32)), (2, zL q1), (0, zR 5 0), (1, zI p1)]) (zdg D_X9_longestFree 9 (15, .istore 6, 2) rfl) (by decide) rfl ?_
    refine z_aload_n (pc := 17) 4 (zdg D_X9_longestFree 10 (17, .aload_n 0, 1) rfl) rfl rfl ?_
    refine z_getR (pc := 18) (g := 1) (j := 0) lf_X9_22 rfl rfl rfl (zdg D_X9_longestFree 11 (18, .getfield 22, 3) rfl) ?_
    refine z_getI (pc := 21) lf_X9_58 rfl rfl (zdg D_X9_longestFree 12 (21, .getfield 58, 3) rfl) ?_
    refine z_istore (pc := 24) (al' := [(7, zI (σ.1 1 0 3)), (6, zI (-1 : Int32)), (5, zI (0 : Int32)), (4, zI (0 : Int32)), (2, zL q1), (0, zR 5 0), (1, zI p1)]) (zdg D_X9_longestFree 13 (24, .istore 7, 2) rfl) (by decide) rfl ?_
    refine z_sub (al' := [(0, zR 5 0), (1, zI p1), (2, zL q1), (4, zI (0 : Int32)), (5, zI (0 : Int32)), (6, zI (-1 : Int32)), (7, zI (σ.1 1 0 3))]) [5, 6, 4, 3, 2, 1, 0] rfl ?_
    refine z_loop (f := (fun q : Int32 × Int32 × Int32 × Int32 => b_X9_longestFree_26 q1 σ q.1 q.2.1 q.2.2.1 q.2.2.2)) (a := ((0 : Int32), (0 : Int32), (-1 : Int32), (σ.1 1 0 3))) (fun q : Int32 × Int32 × Int32 × Int32 => zX zsyC m_X9_longestFree K 26 [(0, zR 5 0), (1, zI p1), (2, zL q1), (4, zI q.1), (5, zI q.2.1), (6, zI q.2.2.1), (7, zI q.2.2.2)] [] σ) (fun e11 : Int32 × Int32 => zX zsyC m_X9_longestFree K 83 [(1, zI p1), (5, zI e11.1), (6, zI e11.2)] [] σ) hn hf ?_ ?_
    · intro e11 hf
      refine z_iload_n (pc := 83) 0 (zdg D_X9_longestFree 42 (83, .iload_n 1, 1) rfl) rfl rfl ?_
      refine z_if_ne (pc := 84) 90 (zdg D_X9_longestFree 43 (84, .ifCond .ne 6, 3) rfl) rfl hf (fun hf => ?_) (fun hf => ?_)
      · refine z_iload_n (pc := 90) 0 (zdg D_X9_longestFree 46 (90, .iload_n 1, 1) rfl) rfl rfl ?_
        refine z_iconst (pc := 91) (v := 1) (zdg D_X9_longestFree 47 (91, .iconst 1, 1) rfl) rfl ?_
        refine z_icmp_ne (pc := 92) 100 (zdg D_X9_longestFree 48 (92, .if_icmp .ne 8, 3) rfl) rfl hf (fun hf => ?_) (fun hf => ?_)
        · refine z_iconst (pc := 100) (v := -1) (zdg D_X9_longestFree 51 (100, .iconst (-1), 1) rfl) rfl ?_
          exact z_iret (pc := 101) rfl rfl (zdg D_X9_longestFree 52 (101, .ireturn, 1) rfl) (hP _ hf)
        · refine z_iload (pc := 95) 2 (zdg D_X9_longestFree 49 (95, .iload 6, 2) rfl) rfl ?_
          refine z_goto (pc := 97) 101 (zdg D_X9_longestFree 50 (97, .goto 4, 3) rfl) rfl ?_
          exact z_iret (pc := 101) rfl rfl (zdg D_X9_longestFree 52 (101, .ireturn, 1) rfl) (hP _ hf)
      · refine z_iload (pc := 87) 1 (zdg D_X9_longestFree 44 (87, .iload 5, 2) rfl) rfl ?_
        exact z_iret (pc := 89) rfl rfl (zdg D_X9_longestFree 45 (89, .ireturn, 1) rfl) (hP _ hf)
    · rintro ⟨v4_2, v5_3, v6_4, v7_5⟩ hn hi hx
      have hf := b_X9_longestFree_26.eq_1 q1 σ v4_2 v5_3 v6_4 v7_5
      have t_55 : ∀ (w5_7 : Int32) (w6_8 : Int32) (w7_9 : Int32) (t10 : Int32), b_X9_longestFree_26 q1 σ v4_2 v5_3 v6_4 v7_5 = j_X9_longestFree_55_26 w5_7 w6_8 w7_9 t10 → zX zsyC m_X9_longestFree K 55 [(0, zR 5 0), (1, zI p1), (2, zL q1), (5, zI w5_7), (6, zI w6_8), (7, zI w7_9)] [zI t10] σ := by
        intro w5_7 w6_8 w7_9 t10 hf
        replace hf := hf.trans (j_X9_longestFree_55_26.eq_1 w5_7 w6_8 w7_9 t10)
        refine z_istore (pc := 55) (al' := [(4, zI t10), (0, zR 5 0), (1, zI p1), (2, zL q1), (5, zI w5_7), (6, zI w6_8), (7, zI w7_9)]) (zdg D_X9_longestFree 28 (55, .istore 4, 2) rfl) (by decide) rfl ?_
        refine z_iload (pc := 57) 0 (zdg D_X9_longestFree 29 (57, .iload 4, 2) rfl) rfl ?_
        refine z_iload (pc := 59) 4 (zdg D_X9_longestFree 30 (59, .iload 5, 2) rfl) rfl ?_
        refine z_icmp_le (pc := 61) 77 (zdg D_X9_longestFree 31 (61, .if_icmp .le 16, 3) rfl) rfl hf (fun hf => ?_) (fun hf => ?_)
        · refine z_iinc (pc := 77) (v0 := (w7_9 + 1)) (al' := [(7, zI (w7_9 + 1)), (4, zI t10), (0, zR 5 0), (1, zI p1), (2, zL q1), (5, zI w5_7), (6, zI w6_8)]) 6 (zdg D_X9_longestFree 40 (77, .iinc 7 1, 3) rfl) rfl rfl (by decide) rfl ?_
          refine z_goto (pc := 80) 26 (zdg D_X9_longestFree 41 (80, .goto (-54), 3) rfl) rfl ?_
          refine z_sub (al' := [(0, zR 5 0), (1, zI p1), (2, zL q1), (4, zI t10), (5, zI w5_7), (6, zI w6_8), (7, zI (w7_9 + 1))]) [2, 3, 4, 1, 5, 6, 0] rfl ?_
          exact hi (t10, w5_7, w6_8, (w7_9 + 1)) hf
        · refine z_iload (pc := 64) 0 (zdg D_X9_longestFree 32 (64, .iload 4, 2) rfl) rfl ?_
          refine z_istore (pc := 66) (al' := [(5, zI t10), (4, zI t10), (0, zR 5 0), (1, zI p1), (2, zL q1), (6, zI w6_8), (7, zI w7_9)]) (zdg D_X9_longestFree 33 (66, .istore 5, 2) rfl) (by decide) rfl ?_
          refine z_iload (pc := 68) 6 (zdg D_X9_longestFree 34 (68, .iload 7, 2) rfl) rfl ?_
          refine z_iload (pc := 70) 1 (zdg D_X9_longestFree 35 (70, .iload 4, 2) rfl) rfl ?_
          refine z_isub (pc := 72) (zdg D_X9_longestFree 36 (72, .isub, 1) rfl) ?_
          refine z_iconst (pc := 73) (v := 1) (zdg D_X9_longestFree 37 (73, .iconst 1, 1) rfl) rfl ?_
          refine z_iadd (pc := 74) (zdg D_X9_longestFree 38 (74, .iadd, 1) rfl) ?_
          refine z_istore (pc := 75) (al' := [(6, zI ((w7_9 - t10) + (1 : Int32))), (5, zI t10), (4, zI t10), (0, zR 5 0), (1, zI p1), (2, zL q1), (7, zI w7_9)]) (zdg D_X9_longestFree 39 (75, .istore 6, 2) rfl) (by decide) rfl ?_
          refine z_iinc (pc := 77) (v0 := (w7_9 + 1)) (al' := [(7, zI (w7_9 + 1)), (6, zI ((w7_9 - t10) + (1 : Int32))), (5, zI t10), (4, zI t10), (0, zR 5 0), (1, zI p1), (2, zL q1)]) 6 (zdg D_X9_longestFree 40 (77, .iinc 7 1, 3) rfl) rfl rfl (by decide) rfl ?_
          refine z_goto (pc := 80) 26 (zdg D_X9_longestFree 41 (80, .goto (-54), 3) rfl) rfl ?_
          refine z_sub (al' := [(0, zR 5 0), (1, zI p1), (2, zL q1), (4, zI t10), (5, zI t10), (6, zI ((w7_9 - t10) + (1 : Int32))), (7, zI (w7_9 + 1))]) [4, 5, 6, 3, 2, 1, 0] rfl ?_
          exact hi (t10, t10, ((w7_9 - t10) + (1 : Int32)), (w7_9 + 1)) hf
      refine z_iload (pc := 26) 6 (zdg D_X9_longestFree 14 (26, .iload 7, 2) rfl) rfl ?_
      refine z_sipush (pc := 28) (v := 500) (zdg D_X9_longestFree 15 (28, .sipush 500, 3) rfl) rfl ?_
      refine z_icmp_gt (pc := 31) 83 (zdg D_X9_longestFree 16 (31, .if_icmp .gt 52, 3) rfl) rfl hf (fun hf => ?_) (fun hf => ?_)
      · refine z_sub (al' := [(1, zI p1), (5, zI v5_3), (6, zI v6_4)]) [1, 4, 5] rfl ?_
        exact hx (v5_3, v6_4) hf
      · refine z_aload_n (pc := 34) 0 (zdg D_X9_longestFree 17 (34, .aload_n 0, 1) rfl) rfl rfl ?_
        refine z_getR (pc := 35) (g := 1) (j := 0) lf_X9_22 rfl rfl rfl (zdg D_X9_longestFree 18 (35, .getfield 22, 3) rfl) ?_
        refine z_lload_n (pc := 38) 2 (zdg D_X9_longestFree 19 (38, .lload_n 2, 1) rfl) rfl rfl ?_
        refine z_iload (pc := 39) 6 (zdg D_X9_longestFree 20 (39, .iload 7, 2) rfl) rfl ?_
        refine z_bind hn hf (fun q6 hq hf => ?_)
        refine z_callV (pc := 41) (rest := []) (st2 := [zI q6]) (fun l => c_X1_isFree l 0 q1 v7_5 σ q6 hq) zv_X1_isFree lm_X9_61 rfl rfl rfl rfl rfl rfl (Nat.le_of_ble_eq_true rfl) ⟨Nat.le_of_ble_eq_true rfl, Nat.le_of_ble_eq_true rfl⟩ (zdg D_X9_longestFree 21 (41, .invokevirtual 61, 3) rfl) ?_
        refine z_if_eq (pc := 44) 54 (zdg D_X9_longestFree 22 (44, .ifCond .eq 10, 3) rfl) rfl hf (fun hf => ?_) (fun hf => ?_)
        · refine z_iconst (pc := 54) (v := 0) (zdg D_X9_longestFree 27 (54, .iconst 0, 1) rfl) rfl ?_
          refine z_sub (al' := [(0, zR 5 0), (1, zI p1), (2, zL q1), (5, zI v5_3), (6, zI v6_4), (7, zI v7_5)]) [0, 1, 2, 4, 5, 6] rfl ?_
          exact t_55 v5_3 v6_4 v7_5 (0 : Int32) hf
        · refine z_iload (pc := 47) 3 (zdg D_X9_longestFree 23 (47, .iload 4, 2) rfl) rfl ?_
          refine z_iconst (pc := 49) (v := 1) (zdg D_X9_longestFree 24 (49, .iconst 1, 1) rfl) rfl ?_
          refine z_iadd (pc := 50) (zdg D_X9_longestFree 25 (50, .iadd, 1) rfl) ?_
          refine z_goto (pc := 51) 55 (zdg D_X9_longestFree 26 (51, .goto 4, 3) rfl) rfl ?_
          refine z_sub (al' := [(0, zR 5 0), (1, zI p1), (2, zL q1), (5, zI v5_3), (6, zI v6_4), (7, zI v7_5)]) [0, 1, 2, 4, 5, 6] rfl ?_
          exact t_55 v5_3 v6_4 v7_5 (v4_2 + (1 : Int32)) hf

def L_X9_bestMinute : List (Nat × Instr × Nat) := [(0, .aload_n 0, 1), (1, .getfield 22, 3), (4, .getfield 58, 3), (7, .istore_n 1, 1), (8, .aload_n 0, 1), (9, .getfield 22, 3), (12, .iload_n 1, 1), (13, .invokevirtual 65, 3), (16, .istore_n 2, 1), (17, .aload_n 0, 1), (18, .getfield 22, 3), (21, .getfield 58, 3), (24, .iconst 1, 1), (25, .iadd, 1), (26, .istore_n 3, 1), (27, .iload_n 3, 1), (28, .sipush 500, 3), (31, .if_icmp .gt 30, 3), (34, .aload_n 0, 1), (35, .getfield 22, 3), (38, .iload_n 3, 1), (39, .invokevirtual 65, 3), (42, .istore 4, 2), (44, .iload 4, 2), (46, .iload_n 2, 1), (47, .if_icmp .le 8, 3), (50, .iload 4, 2), (52, .istore_n 2, 1), (53, .iload_n 3, 1), (54, .istore_n 1, 1), (55, .iinc 3 1, 3), (58, .goto (-31), 3), (61, .iload_n 1, 1), (62, .ireturn, 1)]
set_option maxRecDepth 100000 in
theorem D_X9_bestMinute : zdecs cX9_bestMinute L_X9_bestMinute = true := by decide +kernel
noncomputable def b_X9_bestMinute_27  (v1_2 : Int32) (v2_3 : Int32) (v3_4 : Int32) (s5 : zG) : Option ((Int32 × Int32 × Int32 × zG) ⊕ (Int32 × zG)) :=
  if v3_4 ≤ (500 : Int32) then (f_X1_worthOf 0 v3_4 s5).bind (fun q6 => if v2_3 < q6.1 then some (Sum.inl (v3_4, q6.1, (v3_4 + 1), q6.2)) else some (Sum.inl (v1_2, v2_3, (v3_4 + 1), q6.2))) else some (Sum.inr (v1_2, s5))
noncomputable def f_X9_bestMinute (σ : zG) : Option (Int32 × zG) :=
  (f_X1_worthOf 0 (σ.1 1 0 3) σ).bind (fun q1 => (zlp (fun q : Int32 × Int32 × Int32 × zG => b_X9_bestMinute_27 q.1 q.2.1 q.2.2.1 q.2.2.2) ((σ.1 1 0 3), q1.1, ((q1.2.1 1 0 3) + (1 : Int32)), q1.2)).bind (fun e7 : Int32 × zG => some (e7.1, e7.2)))
set_option maxRecDepth 100000 in
set_option maxHeartbeats 4000000 in
theorem c_X9_bestMinute (l : Launch)  (σ : zG) (q : Int32 × zG) (hq : f_X9_bestMinute σ = some q) : zMet l zsyC m_X9_bestMinute yX9_bestMinute [zR 5 0] σ (some (zI q.1)) q.2 := by
  refine zEnter [(0, zR 5 0)] (by decide) rfl (fun _ => Nat.le_of_ble_eq_true rfl) (fun _ => rfl) (fun w h => ?_) (fun K hv hs => ?_)
  · exact zokm rfl h
  · have hP : ∀ x s, f_X9_bestMinute σ = some (x, s) → zKv K = some (zI x) ∧ zKs K = s := fun x s h => by rw [hq] at h; cases h; exact ⟨hv, hs⟩
    have hn : f_X9_bestMinute σ ≠ none := fun z => by rw [hq] at z; cases z
    have hf := f_X9_bestMinute.eq_1 σ
    refine z_aload_n (pc := 0) 0 (zdg D_X9_bestMinute 0 (0, .aload_n 0, 1) rfl) rfl rfl ?_
    refine z_getR (pc := 1) (g := 1) (j := 0) lf_X9_22 rfl rfl rfl (zdg D_X9_bestMinute 1 (1, .getfield 22, 3) rfl) ?_
    refine z_getI (pc := 4) lf_X9_58 rfl rfl (zdg D_X9_bestMinute 2 (4, .getfield 58, 3) rfl) ?_
    refine z_istore_n (pc := 7) (al' := [(1, zI (σ.1 1 0 3)), (0, zR 5 0)]) (zdg D_X9_bestMinute 3 (7, .istore_n 1, 1) rfl) rfl (by decide) rfl ?_
    refine z_aload_n (pc := 8) 1 (zdg D_X9_bestMinute 4 (8, .aload_n 0, 1) rfl) rfl rfl ?_
    refine z_getR (pc := 9) (g := 1) (j := 0) lf_X9_22 rfl rfl rfl (zdg D_X9_bestMinute 5 (9, .getfield 22, 3) rfl) ?_
    refine z_iload_n (pc := 12) 0 (zdg D_X9_bestMinute 6 (12, .iload_n 1, 1) rfl) rfl rfl ?_
    refine z_bind hn hf (fun q1 hq hf => ?_)
    refine z_callV (pc := 13) (rest := []) (st2 := [zI q1.1]) (fun l => c_X1_worthOf l 0 (σ.1 1 0 3) σ q1 hq) zv_X1_worthOf lm_X9_65 rfl rfl rfl rfl rfl rfl (Nat.le_of_ble_eq_true rfl) ⟨Nat.le_of_ble_eq_true rfl, Nat.le_of_ble_eq_true rfl⟩ (zdg D_X9_bestMinute 7 (13, .invokevirtual 65, 3) rfl) ?_
    refine z_istore_n (pc := 16) (al' := [(2, zI q1.1), (1, zI (σ.1 1 0 3)), (0, zR 5 0)]) (zdg D_X9_bestMinute 8 (16, .istore_n 2, 1) rfl) rfl (by decide) rfl ?_
    refine z_aload_n (pc := 17) 2 (zdg D_X9_bestMinute 9 (17, .aload_n 0, 1) rfl) rfl rfl ?_
    refine z_getR (pc := 18) (g := 1) (j := 0) lf_X9_22 rfl rfl rfl (zdg D_X9_bestMinute 10 (18, .getfield 22, 3) rfl) ?_
    refine z_getI (pc := 21) lf_X9_58 rfl rfl (zdg D_X9_bestMinute 11 (21, .getfield 58, 3) rfl) ?_
    refine z_iconst (pc := 24) (v := 1) (zdg D_X9_bestMinute 12 (24, .iconst 1, 1) rfl) rfl ?_
    refine z_iadd (pc := 25) (zdg D_X9_bestMinute 13 (25, .iadd, 1) rfl) ?_
    refine z_istore_n (pc := 26) (al' := [(3, zI ((q1.2.1 1 0 3) + (1 : Int32))), (2, zI q1.1), (1, zI (σ.1 1 0 3)), (0, zR 5 0)]) (zdg D_X9_bestMinute 14 (26, .istore_n 3, 1) rfl) rfl (by decide) rfl ?_
    refine z_sub (al' := [(0, zR 5 0), (1, zI (σ.1 1 0 3)), (2, zI q1.1), (3, zI ((q1.2.1 1 0 3) + (1 : Int32)))]) [3, 2, 1, 0] rfl ?_
    refine z_loop (f := (fun q : Int32 × Int32 × Int32 × zG => b_X9_bestMinute_27 q.1 q.2.1 q.2.2.1 q.2.2.2)) (a := ((σ.1 1 0 3), q1.1, ((q1.2.1 1 0 3) + (1 : Int32)), q1.2)) (fun q : Int32 × Int32 × Int32 × zG => zX zsyC m_X9_bestMinute K 27 [(0, zR 5 0), (1, zI q.1), (2, zI q.2.1), (3, zI q.2.2.1)] [] q.2.2.2) (fun e7 : Int32 × zG => zX zsyC m_X9_bestMinute K 61 [(1, zI e7.1)] [] e7.2) hn hf ?_ ?_
    · intro e7 hf
      refine z_iload_n (pc := 61) 0 (zdg D_X9_bestMinute 32 (61, .iload_n 1, 1) rfl) rfl rfl ?_
      exact z_iret (pc := 62) rfl rfl (zdg D_X9_bestMinute 33 (62, .ireturn, 1) rfl) (hP _ _ hf)
    · rintro ⟨v1_2, v2_3, v3_4, s5⟩ hn hi hx
      have hf := b_X9_bestMinute_27.eq_1  v1_2 v2_3 v3_4 s5
      refine z_iload_n (pc := 27) 3 (zdg D_X9_bestMinute 15 (27, .iload_n 3, 1) rfl) rfl rfl ?_
      refine z_sipush (pc := 28) (v := 500) (zdg D_X9_bestMinute 16 (28, .sipush 500, 3) rfl) rfl ?_
      refine z_icmp_gt (pc := 31) 61 (zdg D_X9_bestMinute 17 (31, .if_icmp .gt 30, 3) rfl) rfl hf (fun hf => ?_) (fun hf => ?_)
      · refine z_sub (al' := [(1, zI v1_2)]) [1] rfl ?_
        exact hx (v1_2, s5) hf
      · refine z_aload_n (pc := 34) 0 (zdg D_X9_bestMinute 18 (34, .aload_n 0, 1) rfl) rfl rfl ?_
        refine z_getR (pc := 35) (g := 1) (j := 0) lf_X9_22 rfl rfl rfl (zdg D_X9_bestMinute 19 (35, .getfield 22, 3) rfl) ?_
        refine z_iload_n (pc := 38) 3 (zdg D_X9_bestMinute 20 (38, .iload_n 3, 1) rfl) rfl rfl ?_
        refine z_bind hn hf (fun q6 hq hf => ?_)
        refine z_callV (pc := 39) (rest := []) (st2 := [zI q6.1]) (fun l => c_X1_worthOf l 0 v3_4 s5 q6 hq) zv_X1_worthOf lm_X9_65 rfl rfl rfl rfl rfl rfl (Nat.le_of_ble_eq_true rfl) ⟨Nat.le_of_ble_eq_true rfl, Nat.le_of_ble_eq_true rfl⟩ (zdg D_X9_bestMinute 21 (39, .invokevirtual 65, 3) rfl) ?_
        refine z_istore (pc := 42) (al' := [(4, zI q6.1), (0, zR 5 0), (1, zI v1_2), (2, zI v2_3), (3, zI v3_4)]) (zdg D_X9_bestMinute 22 (42, .istore 4, 2) rfl) (by decide) rfl ?_
        refine z_iload (pc := 44) 0 (zdg D_X9_bestMinute 23 (44, .iload 4, 2) rfl) rfl ?_
        refine z_iload_n (pc := 46) 3 (zdg D_X9_bestMinute 24 (46, .iload_n 2, 1) rfl) rfl rfl ?_
        refine z_icmp_le (pc := 47) 55 (zdg D_X9_bestMinute 25 (47, .if_icmp .le 8, 3) rfl) rfl hf (fun hf => ?_) (fun hf => ?_)
        · refine z_iinc (pc := 55) (v0 := (v3_4 + 1)) (al' := [(3, zI (v3_4 + 1)), (4, zI q6.1), (0, zR 5 0), (1, zI v1_2), (2, zI v2_3)]) 4 (zdg D_X9_bestMinute 30 (55, .iinc 3 1, 3) rfl) rfl rfl (by decide) rfl ?_
          refine z_goto (pc := 58) 27 (zdg D_X9_bestMinute 31 (58, .goto (-31), 3) rfl) rfl ?_
          refine z_sub (al' := [(0, zR 5 0), (1, zI v1_2), (2, zI v2_3), (3, zI (v3_4 + 1))]) [2, 3, 4, 0] rfl ?_
          exact hi (v1_2, v2_3, (v3_4 + 1), q6.2) hf
        · refine z_iload (pc := 50) 0 (zdg D_X9_bestMinute 26 (50, .iload 4, 2) rfl) rfl ?_
          refine z_istore_n (pc := 52) (al' := [(2, zI q6.1), (4, zI q6.1), (0, zR 5 0), (1, zI v1_2), (3, zI v3_4)]) (zdg D_X9_bestMinute 27 (52, .istore_n 2, 1) rfl) rfl (by decide) rfl ?_
          refine z_iload_n (pc := 53) 4 (zdg D_X9_bestMinute 28 (53, .iload_n 3, 1) rfl) rfl rfl ?_
          refine z_istore_n (pc := 54) (al' := [(1, zI v3_4), (2, zI q6.1), (4, zI q6.1), (0, zR 5 0), (3, zI v3_4)]) (zdg D_X9_bestMinute 29 (54, .istore_n 1, 1) rfl) rfl (by decide) rfl ?_
          refine z_iinc (pc := 55) (v0 := (v3_4 + 1)) (al' := [(3, zI (v3_4 + 1)), (1, zI v3_4), (2, zI q6.1), (4, zI q6.1), (0, zR 5 0)]) 4 (zdg D_X9_bestMinute 30 (55, .iinc 3 1, 3) rfl) rfl rfl (by decide) rfl ?_
          refine z_goto (pc := 58) 27 (zdg D_X9_bestMinute 31 (58, .goto (-31), 3) rfl) rfl ?_
          refine z_sub (al' := [(0, zR 5 0), (1, zI v3_4), (2, zI q6.1), (3, zI (v3_4 + 1))]) [4, 1, 2, 0] rfl ?_
          exact hi (v3_4, q6.1, (v3_4 + 1), q6.2) hf

def L_X9_minutesFree : List (Nat × Instr × Nat) := [(0, .iconst 0, 1), (1, .istore 5, 2), (3, .iload_n 3, 1), (4, .istore 6, 2), (6, .iload 6, 2), (8, .iload 4, 2), (10, .if_icmp .gt 25, 3), (13, .aload_n 0, 1), (14, .getfield 22, 3), (17, .lload_n 1, 1), (18, .iload 6, 2), (20, .invokevirtual 61, 3), (23, .ifCond .eq 6, 3), (26, .iinc 5 1, 3), (29, .iinc 6 1, 3), (32, .goto (-26), 3), (35, .iload 5, 2), (37, .ireturn, 1)]
set_option maxRecDepth 100000 in
theorem D_X9_minutesFree : zdecs cX9_minutesFree L_X9_minutesFree = true := by decide +kernel
noncomputable def b_X9_minutesFree_6 (p3 : Int32) (p1 : Int64) (σ : zG) (v5_1 : Int32) (v6_2 : Int32) : Option ((Int32 × Int32) ⊕ (Int32)) :=
  if v6_2 ≤ p3 then (f_X1_isFree 0 p1 v6_2 σ).bind (fun q3 => if q3 = 0 then some (Sum.inl (v5_1, (v6_2 + 1))) else some (Sum.inl ((v5_1 + 1), (v6_2 + 1)))) else some (Sum.inr v5_1)
noncomputable def f_X9_minutesFree (p1 : Int64) (p2 : Int32) (p3 : Int32) (σ : zG) : Option (Int32) :=
  (zlp (fun q : Int32 × Int32 => b_X9_minutesFree_6 p3 p1 σ q.1 q.2) ((0 : Int32), p2)).bind (fun e4 : Int32 => some e4)
set_option maxRecDepth 100000 in
set_option maxHeartbeats 4000000 in
theorem c_X9_minutesFree (l : Launch) (p1 : Int64) (p2 : Int32) (p3 : Int32) (σ : zG) (q : Int32) (hq : f_X9_minutesFree p1 p2 p3 σ = some q) : zMet l zsyC m_X9_minutesFree yX9_minutesFree [zR 5 0, zL p1, zI p2, zI p3] σ (some (zI q)) σ := by
  refine zEnter [(0, zR 5 0), (1, zL p1), (3, zI p2), (4, zI p3)] (by decide) rfl (fun _ => Nat.le_of_ble_eq_true rfl) (fun _ => rfl) (fun w h => ?_) (fun K hv hs => ?_)
  · exact zokm rfl h
  · have hP : ∀ x, f_X9_minutesFree p1 p2 p3 σ = some x → zKv K = some (zI x) ∧ zKs K = σ := fun x h => by rw [hq] at h; cases h; exact ⟨hv, hs⟩
    have hn : f_X9_minutesFree p1 p2 p3 σ ≠ none := fun z => by rw [hq] at z; cases z
    have hf := f_X9_minutesFree.eq_1 p1 p2 p3 σ
    refine z_iconst (pc := 0) (v := 0) (zdg D_X9_minutesFree 0 (0, .iconst 0, 1) rfl) rfl ?_
    refine z_istore (pc := 1) (al' := [(5, zI (0 : Int32)), (0, zR 5 0), (1, zL p1), (3, zI p2), (4, zI p3)]) (zdg D_X9_minutesFree 1 (1, .istore 5, 2) rfl) (by decide) rfl ?_
    refine z_iload_n (pc := 3) 3 (zdg D_X9_minutesFree 2 (3, .iload_n 3, 1) rfl) rfl rfl ?_
    refine z_istore (pc := 4) (al' := [(6, zI p2), (5, zI (0 : Int32)), (0, zR 5 0), (1, zL p1), (3, zI p2), (4, zI p3)]) (zdg D_X9_minutesFree 3 (4, .istore 6, 2) rfl) (by decide) rfl ?_
    refine z_sub (al' := [(0, zR 5 0), (1, zL p1), (4, zI p3), (5, zI (0 : Int32)), (6, zI p2)]) [2, 3, 5, 1, 0] rfl ?_
    refine z_loop (f := (fun q : Int32 × Int32 => b_X9_minutesFree_6 p3 p1 σ q.1 q.2)) (a := ((0 : Int32), p2)) (fun q : Int32 × Int32 => zX zsyC m_X9_minutesFree K 6 [(0, zR 5 0), (1, zL p1), (4, zI p3), (5, zI q.1), (6, zI q.2)] [] σ) (fun e4 : Int32 => zX zsyC m_X9_minutesFree K 35 [(5, zI e4)] [] σ) hn hf ?_ ?_
    · intro e4 hf
      refine z_iload (pc := 35) 0 (zdg D_X9_minutesFree 16 (35, .iload 5, 2) rfl) rfl ?_
      exact z_iret (pc := 37) rfl rfl (zdg D_X9_minutesFree 17 (37, .ireturn, 1) rfl) (hP _ hf)
    · rintro ⟨v5_1, v6_2⟩ hn hi hx
      have hf := b_X9_minutesFree_6.eq_1 p3 p1 σ v5_1 v6_2
      refine z_iload (pc := 6) 4 (zdg D_X9_minutesFree 4 (6, .iload 6, 2) rfl) rfl ?_
      refine z_iload (pc := 8) 2 (zdg D_X9_minutesFree 5 (8, .iload 4, 2) rfl) rfl ?_
      refine z_icmp_gt (pc := 10) 35 (zdg D_X9_minutesFree 6 (10, .if_icmp .gt 25, 3) rfl) rfl hf (fun hf => ?_) (fun hf => ?_)
      · refine z_sub (al' := [(5, zI v5_1)]) [3] rfl ?_
        exact hx v5_1 hf
      · refine z_aload_n (pc := 13) 0 (zdg D_X9_minutesFree 7 (13, .aload_n 0, 1) rfl) rfl rfl ?_
        refine z_getR (pc := 14) (g := 1) (j := 0) lf_X9_22 rfl rfl rfl (zdg D_X9_minutesFree 8 (14, .getfield 22, 3) rfl) ?_
        refine z_lload_n (pc := 17) 1 (zdg D_X9_minutesFree 9 (17, .lload_n 1, 1) rfl) rfl rfl ?_
        refine z_iload (pc := 18) 4 (zdg D_X9_minutesFree 10 (18, .iload 6, 2) rfl) rfl ?_
        refine z_bind hn hf (fun q3 hq hf => ?_)
        refine z_callV (pc := 20) (rest := []) (st2 := [zI q3]) (fun l => c_X1_isFree l 0 p1 v6_2 σ q3 hq) zv_X1_isFree lm_X9_61 rfl rfl rfl rfl rfl rfl (Nat.le_of_ble_eq_true rfl) ⟨Nat.le_of_ble_eq_true rfl, Nat.le_of_ble_eq_true rfl⟩ (zdg D_X9_minutesFree 11 (20, .invokevirtual 61, 3) rfl) ?_
        refine z_if_eq (pc := 23) 29 (zdg D_X9_minutesFree 12 (23, .ifCond .eq 6, 3) rfl) rfl hf (fun hf => ?_) (fun hf => ?_)
        · refine z_iinc (pc := 29) (v0 := (v6_2 + 1)) (al' := [(6, zI (v6_2 + 1)), (0, zR 5 0), (1, zL p1), (4, zI p3), (5, zI v5_1)]) 4 (zdg D_X9_minutesFree 14 (29, .iinc 6 1, 3) rfl) rfl rfl (by decide) rfl ?_
          refine z_goto (pc := 32) 6 (zdg D_X9_minutesFree 15 (32, .goto (-26), 3) rfl) rfl ?_
          refine z_sub (al' := [(0, zR 5 0), (1, zL p1), (4, zI p3), (5, zI v5_1), (6, zI (v6_2 + 1))]) [1, 2, 3, 4, 0] rfl ?_
          exact hi (v5_1, (v6_2 + 1)) hf
        · refine z_iinc (pc := 26) (v0 := (v5_1 + 1)) (al' := [(5, zI (v5_1 + 1)), (0, zR 5 0), (1, zL p1), (4, zI p3), (6, zI v6_2)]) 3 (zdg D_X9_minutesFree 13 (26, .iinc 5 1, 3) rfl) rfl rfl (by decide) rfl ?_
          refine z_iinc (pc := 29) (v0 := (v6_2 + 1)) (al' := [(6, zI (v6_2 + 1)), (5, zI (v5_1 + 1)), (0, zR 5 0), (1, zL p1), (4, zI p3)]) 4 (zdg D_X9_minutesFree 14 (29, .iinc 6 1, 3) rfl) rfl rfl (by decide) rfl ?_
          refine z_goto (pc := 32) 6 (zdg D_X9_minutesFree 15 (32, .goto (-26), 3) rfl) rfl ?_
          refine z_sub (al' := [(0, zR 5 0), (1, zL p1), (4, zI p3), (5, zI (v5_1 + 1)), (6, zI (v6_2 + 1))]) [2, 3, 4, 1, 0] rfl ?_
          exact hi ((v5_1 + 1), (v6_2 + 1)) hf

def L_X9_bestStep : List (Nat × Instr × Nat) := [(0, .iconst 0, 1), (1, .istore_n 3, 1), (2, .iconst (-1), 1), (3, .istore 4, 2), (5, .iconst 0, 1), (6, .istore 5, 2), (8, .iload 5, 2), (10, .aload_n 0, 1), (11, .getfield 22, 3), (14, .getfield 69, 3), (17, .aload_n 0, 1), (18, .getfield 22, 3), (21, .getfield 72, 3), (24, .isub, 1), (25, .if_icmp .gt 47, 3), (28, .aload_n 0, 1), (29, .aload_n 0, 1), (30, .getfield 22, 3), (33, .iload 5, 2), (35, .aload_n 0, 1), (36, .getfield 22, 3), (39, .getfield 72, 3), (42, .invokevirtual 75, 3), (45, .iload_n 1, 1), (46, .iload_n 2, 1), (47, .invokevirtual 79, 3), (50, .istore 6, 2), (52, .iload 6, 2), (54, .iload 4, 2), (56, .if_icmp .le 10, 3), (59, .iload 6, 2), (61, .istore 4, 2), (63, .iload 5, 2), (65, .istore_n 3, 1), (66, .iinc 5 1, 3), (69, .goto (-61), 3), (72, .iload_n 3, 1), (73, .ireturn, 1)]
set_option maxRecDepth 100000 in
theorem D_X9_bestStep : zdecs cX9_bestStep L_X9_bestStep = true := by decide +kernel
noncomputable def b_X9_bestStep_8 (σ : zG) (p1 : Int32) (p2 : Int32) (v3_1 : Int32) (v4_2 : Int32) (v5_3 : Int32) : Option ((Int32 × Int32 × Int32) ⊕ (Int32)) :=
  if v5_3 ≤ ((σ.1 1 0 0) - (σ.1 1 0 4)) then (f_X1_columns 0 v5_3 (σ.1 1 0 4) σ).bind (fun q4 => (f_X9_minutesFree q4 p1 p2 σ).bind (fun q5 => if v4_2 < q5 then some (Sum.inl (v5_3, q5, (v5_3 + 1))) else some (Sum.inl (v3_1, v4_2, (v5_3 + 1))))) else some (Sum.inr v3_1)
noncomputable def f_X9_bestStep (p1 : Int32) (p2 : Int32) (σ : zG) : Option (Int32) :=
  (zlp (fun q : Int32 × Int32 × Int32 => b_X9_bestStep_8 σ p1 p2 q.1 q.2.1 q.2.2) ((0 : Int32), (-1 : Int32), (0 : Int32))).bind (fun e6 : Int32 => some e6)
set_option maxRecDepth 100000 in
set_option maxHeartbeats 4000000 in
theorem c_X9_bestStep (l : Launch) (p1 : Int32) (p2 : Int32) (σ : zG) (q : Int32) (hq : f_X9_bestStep p1 p2 σ = some q) : zMet l zsyC m_X9_bestStep yX9_bestStep [zR 5 0, zI p1, zI p2] σ (some (zI q)) σ := by
  refine zEnter [(0, zR 5 0), (1, zI p1), (2, zI p2)] (by decide) rfl (fun _ => Nat.le_of_ble_eq_true rfl) (fun _ => rfl) (fun w h => ?_) (fun K hv hs => ?_)
  · exact zokm rfl h
  · have hP : ∀ x, f_X9_bestStep p1 p2 σ = some x → zKv K = some (zI x) ∧ zKs K = σ := fun x h => by rw [hq] at h; cases h; exact ⟨hv, hs⟩
    have hn : f_X9_bestStep p1 p2 σ ≠ none := fun z => by rw [hq] at z; cases z
    have hf := f_X9_bestStep.eq_1 p1 p2 σ
    refine z_iconst (pc := 0) (v := 0) (zdg D_X9_bestStep 0 (0, .iconst 0, 1) rfl) rfl ?_
    refine z_istore_n (pc := 1) (al' := [(3, zI (0 : Int32)), (0, zR 5 0), (1, zI p1), (2, zI p2)]) (zdg D_X9_bestStep 1 (1, .istore_n 3, 1) rfl) rfl (by decide) rfl ?_
    refine z_iconst (pc := 2) (v := -1) (zdg D_X9_bestStep 2 (2, .iconst (-1), 1) rfl) rfl ?_
    refine z_istore (pc := 3) (al' := [(4, zI (-1 : Int32)), (3, zI (0 : Int32)), (0, zR 5 0), (1, zI p1), (2, zI p2)]) (zdg D_X9_bestStep 3 (3, .istore 4, 2) rfl) (by decide) rfl ?_
    refine z_iconst (pc := 5) (v := 0) (zdg D_X9_bestStep 4 (5, .iconst 0, 1) rfl) rfl ?_
    refine z_istore (pc := 6) (al' := [(5, zI (0 : Int32)), (4, zI (-1 : Int32)), (3, zI (0 : Int32)), (0, zR 5 0), (1, zI p1), (2, zI p2)]) (zdg D_X9_bestStep 5 (6, .istore 5, 2) rfl) (by decide) rfl ?_
    refine z_sub (al' := [(0, zR 5 0), (1, zI p1), (2, zI p2), (3, zI (0 : Int32)), (4, zI (-1 : Int32)), (5, zI (0 : Int32))]) [3, 4, 5, 2, 1, 0] rfl ?_
    refine z_loop (f := (fun q : Int32 × Int32 × Int32 => b_X9_bestStep_8 σ p1 p2 q.1 q.2.1 q.2.2)) (a := ((0 : Int32), (-1 : Int32), (0 : Int32))) (fun q : Int32 × Int32 × Int32 => zX zsyC m_X9_bestStep K 8 [(0, zR 5 0), (1, zI p1), (2, zI p2), (3, zI q.1), (4, zI q.2.1), (5, zI q.2.2)] [] σ) (fun e6 : Int32 => zX zsyC m_X9_bestStep K 72 [(3, zI e6)] [] σ) hn hf ?_ ?_
    · intro e6 hf
      refine z_iload_n (pc := 72) 0 (zdg D_X9_bestStep 36 (72, .iload_n 3, 1) rfl) rfl rfl ?_
      exact z_iret (pc := 73) rfl rfl (zdg D_X9_bestStep 37 (73, .ireturn, 1) rfl) (hP _ hf)
    · rintro ⟨v3_1, v4_2, v5_3⟩ hn hi hx
      have hf := b_X9_bestStep_8.eq_1 σ p1 p2 v3_1 v4_2 v5_3
      refine z_iload (pc := 8) 5 (zdg D_X9_bestStep 6 (8, .iload 5, 2) rfl) rfl ?_
      refine z_aload_n (pc := 10) 0 (zdg D_X9_bestStep 7 (10, .aload_n 0, 1) rfl) rfl rfl ?_
      refine z_getR (pc := 11) (g := 1) (j := 0) lf_X9_22 rfl rfl rfl (zdg D_X9_bestStep 8 (11, .getfield 22, 3) rfl) ?_
      refine z_getI (pc := 14) lf_X9_69 rfl rfl (zdg D_X9_bestStep 9 (14, .getfield 69, 3) rfl) ?_
      refine z_aload_n (pc := 17) 0 (zdg D_X9_bestStep 10 (17, .aload_n 0, 1) rfl) rfl rfl ?_
      refine z_getR (pc := 18) (g := 1) (j := 0) lf_X9_22 rfl rfl rfl (zdg D_X9_bestStep 11 (18, .getfield 22, 3) rfl) ?_
      refine z_getI (pc := 21) lf_X9_72 rfl rfl (zdg D_X9_bestStep 12 (21, .getfield 72, 3) rfl) ?_
      refine z_isub (pc := 24) (zdg D_X9_bestStep 13 (24, .isub, 1) rfl) ?_
      refine z_icmp_gt (pc := 25) 72 (zdg D_X9_bestStep 14 (25, .if_icmp .gt 47, 3) rfl) rfl hf (fun hf => ?_) (fun hf => ?_)
      · refine z_sub (al' := [(3, zI v3_1)]) [3] rfl ?_
        exact hx v3_1 hf
      · refine z_aload_n (pc := 28) 0 (zdg D_X9_bestStep 15 (28, .aload_n 0, 1) rfl) rfl rfl ?_
        refine z_aload_n (pc := 29) 0 (zdg D_X9_bestStep 16 (29, .aload_n 0, 1) rfl) rfl rfl ?_
        refine z_getR (pc := 30) (g := 1) (j := 0) lf_X9_22 rfl rfl rfl (zdg D_X9_bestStep 17 (30, .getfield 22, 3) rfl) ?_
        refine z_iload (pc := 33) 5 (zdg D_X9_bestStep 18 (33, .iload 5, 2) rfl) rfl ?_
        refine z_aload_n (pc := 35) 0 (zdg D_X9_bestStep 19 (35, .aload_n 0, 1) rfl) rfl rfl ?_
        refine z_getR (pc := 36) (g := 1) (j := 0) lf_X9_22 rfl rfl rfl (zdg D_X9_bestStep 20 (36, .getfield 22, 3) rfl) ?_
        refine z_getI (pc := 39) lf_X9_72 rfl rfl (zdg D_X9_bestStep 21 (39, .getfield 72, 3) rfl) ?_
        refine z_bind hn hf (fun q4 hq hf => ?_)
        refine z_callV (pc := 42) (rest := [zR 5 0]) (st2 := [zL q4, zR 5 0]) (fun l => c_X1_columns l 0 v5_3 (σ.1 1 0 4) σ q4 hq) zv_X1_columns lm_X9_75 rfl rfl rfl rfl rfl rfl (Nat.le_of_ble_eq_true rfl) ⟨Nat.le_of_ble_eq_true rfl, Nat.le_of_ble_eq_true rfl⟩ (zdg D_X9_bestStep 22 (42, .invokevirtual 75, 3) rfl) ?_
        refine z_iload_n (pc := 45) 1 (zdg D_X9_bestStep 23 (45, .iload_n 1, 1) rfl) rfl rfl ?_
        refine z_iload_n (pc := 46) 2 (zdg D_X9_bestStep 24 (46, .iload_n 2, 1) rfl) rfl rfl ?_
        refine z_bind hn hf (fun q5 hq hf => ?_)
        refine z_callV (pc := 47) (rest := []) (st2 := [zI q5]) (fun l => c_X9_minutesFree l q4 p1 p2 σ q5 hq) zv_X9_minutesFree lm_X9_79 rfl rfl rfl rfl rfl rfl (Nat.le_of_ble_eq_true rfl) ⟨Nat.le_of_ble_eq_true rfl, Nat.le_of_ble_eq_true rfl⟩ (zdg D_X9_bestStep 25 (47, .invokevirtual 79, 3) rfl) ?_
        refine z_istore (pc := 50) (al' := [(6, zI q5), (0, zR 5 0), (1, zI p1), (2, zI p2), (3, zI v3_1), (4, zI v4_2), (5, zI v5_3)]) (zdg D_X9_bestStep 26 (50, .istore 6, 2) rfl) (by decide) rfl ?_
        refine z_iload (pc := 52) 0 (zdg D_X9_bestStep 27 (52, .iload 6, 2) rfl) rfl ?_
        refine z_iload (pc := 54) 5 (zdg D_X9_bestStep 28 (54, .iload 4, 2) rfl) rfl ?_
        refine z_icmp_le (pc := 56) 66 (zdg D_X9_bestStep 29 (56, .if_icmp .le 10, 3) rfl) rfl hf (fun hf => ?_) (fun hf => ?_)
        · refine z_iinc (pc := 66) (v0 := (v5_3 + 1)) (al' := [(5, zI (v5_3 + 1)), (6, zI q5), (0, zR 5 0), (1, zI p1), (2, zI p2), (3, zI v3_1), (4, zI v4_2)]) 6 (zdg D_X9_bestStep 34 (66, .iinc 5 1, 3) rfl) rfl rfl (by decide) rfl ?_
          refine z_goto (pc := 69) 8 (zdg D_X9_bestStep 35 (69, .goto (-61), 3) rfl) rfl ?_
          refine z_sub (al' := [(0, zR 5 0), (1, zI p1), (2, zI p2), (3, zI v3_1), (4, zI v4_2), (5, zI (v5_3 + 1))]) [2, 3, 4, 5, 6, 0] rfl ?_
          exact hi (v3_1, v4_2, (v5_3 + 1)) hf
        · refine z_iload (pc := 59) 0 (zdg D_X9_bestStep 30 (59, .iload 6, 2) rfl) rfl ?_
          refine z_istore (pc := 61) (al' := [(4, zI q5), (6, zI q5), (0, zR 5 0), (1, zI p1), (2, zI p2), (3, zI v3_1), (5, zI v5_3)]) (zdg D_X9_bestStep 31 (61, .istore 4, 2) rfl) (by decide) rfl ?_
          refine z_iload (pc := 63) 6 (zdg D_X9_bestStep 32 (63, .iload 5, 2) rfl) rfl ?_
          refine z_istore_n (pc := 65) (al' := [(3, zI v5_3), (4, zI q5), (6, zI q5), (0, zR 5 0), (1, zI p1), (2, zI p2), (5, zI v5_3)]) (zdg D_X9_bestStep 33 (65, .istore_n 3, 1) rfl) rfl (by decide) rfl ?_
          refine z_iinc (pc := 66) (v0 := (v5_3 + 1)) (al' := [(5, zI (v5_3 + 1)), (3, zI v5_3), (4, zI q5), (6, zI q5), (0, zR 5 0), (1, zI p1), (2, zI p2)]) 6 (zdg D_X9_bestStep 34 (66, .iinc 5 1, 3) rfl) rfl rfl (by decide) rfl ?_
          refine z_goto (pc := 69) 8 (zdg D_X9_bestStep 35 (69, .goto (-61), 3) rfl) rfl ?_
          refine z_sub (al' := [(0, zR 5 0), (1, zI p1), (2, zI p2), (3, zI v5_3), (4, zI q5), (5, zI (v5_3 + 1))]) [4, 5, 6, 1, 2, 0] rfl ?_
          exact hi (v5_3, q5, (v5_3 + 1)) hf

def L_X9_neverClear : List (Nat × Instr × Nat) := [(0, .aload_n 0, 1), (1, .getfield 22, 3), (4, .invokevirtual 54, 3), (7, .lstore_n 3, 1), (8, .iload_n 1, 1), (9, .istore 5, 2), (11, .iload 5, 2), (13, .iload_n 2, 1), (14, .if_icmp .gt 21, 3), (17, .lload_n 3, 1), (18, .aload_n 0, 1), (19, .getfield 22, 3), (22, .iload 5, 2), (24, .invokevirtual 83, 3), (27, .land, 1), (28, .lstore_n 3, 1), (29, .iinc 5 1, 3), (32, .goto (-21), 3), (35, .lload_n 3, 1), (36, .lreturn, 1)]
set_option maxRecDepth 100000 in
theorem D_X9_neverClear : zdecs cX9_neverClear L_X9_neverClear = true := by decide +kernel
noncomputable def b_X9_neverClear_11 (p2 : Int32) (σ : zG) (v3_2 : Int64) (v5_3 : Int32) : Option ((Int64 × Int32) ⊕ (Int64)) :=
  if v5_3 ≤ p2 then (f_X1_coverIn 0 v5_3 σ).bind (fun q4 => some (Sum.inl ((v3_2 &&& q4), (v5_3 + 1)))) else some (Sum.inr v3_2)
noncomputable def f_X9_neverClear (p1 : Int32) (p2 : Int32) (σ : zG) : Option (Int64) :=
  (f_X1_viewNow 0 σ).bind (fun q1 => (zlp (fun q : Int64 × Int32 => b_X9_neverClear_11 p2 σ q.1 q.2) (q1, p1)).bind (fun e5 : Int64 => some e5))
set_option maxRecDepth 100000 in
set_option maxHeartbeats 4000000 in
theorem c_X9_neverClear (l : Launch) (p1 : Int32) (p2 : Int32) (σ : zG) (q : Int64) (hq : f_X9_neverClear p1 p2 σ = some q) : zMet l zsyC m_X9_neverClear yX9_neverClear [zR 5 0, zI p1, zI p2] σ (some (zL q)) σ := by
  refine zEnter [(0, zR 5 0), (1, zI p1), (2, zI p2)] (by decide) rfl (fun _ => Nat.le_of_ble_eq_true rfl) (fun _ => rfl) (fun w h => ?_) (fun K hv hs => ?_)
  · exact zokm rfl h
  · have hP : ∀ x, f_X9_neverClear p1 p2 σ = some x → zKv K = some (zL x) ∧ zKs K = σ := fun x h => by rw [hq] at h; cases h; exact ⟨hv, hs⟩
    have hn : f_X9_neverClear p1 p2 σ ≠ none := fun z => by rw [hq] at z; cases z
    have hf := f_X9_neverClear.eq_1 p1 p2 σ
    refine z_aload_n (pc := 0) 0 (zdg D_X9_neverClear 0 (0, .aload_n 0, 1) rfl) rfl rfl ?_
    refine z_getR (pc := 1) (g := 1) (j := 0) lf_X9_22 rfl rfl rfl (zdg D_X9_neverClear 1 (1, .getfield 22, 3) rfl) ?_
    refine z_bind hn hf (fun q1 hq hf => ?_)
    refine z_callV (pc := 4) (rest := []) (st2 := [zL q1]) (fun l => c_X1_viewNow l 0 σ q1 hq) zv_X1_viewNow lm_X9_54 rfl rfl rfl rfl rfl rfl (Nat.le_of_ble_eq_true rfl) ⟨Nat.le_of_ble_eq_true rfl, Nat.le_of_ble_eq_true rfl⟩ (zdg D_X9_neverClear 2 (4, .invokevirtual 54, 3) rfl) ?_
    refine z_lstore_n (pc := 7) (al' := [(3, zL q1), (0, zR 5 0), (1, zI p1), (2, zI p2)]) (zdg D_X9_neverClear 3 (7, .lstore_n 3, 1) rfl) rfl (by decide) rfl ?_
    refine z_iload_n (pc := 8) 2 (zdg D_X9_neverClear 4 (8, .iload_n 1, 1) rfl) rfl rfl ?_
    refine z_istore (pc := 9) (al' := [(5, zI p1), (3, zL q1), (0, zR 5 0), (1, zI p1), (2, zI p2)]) (zdg D_X9_neverClear 5 (9, .istore 5, 2) rfl) (by decide) rfl ?_
    refine z_sub (al' := [(0, zR 5 0), (2, zI p2), (3, zL q1), (5, zI p1)]) [2, 4, 1, 0] rfl ?_
    refine z_loop (f := (fun q : Int64 × Int32 => b_X9_neverClear_11 p2 σ q.1 q.2)) (a := (q1, p1)) (fun q : Int64 × Int32 => zX zsyC m_X9_neverClear K 11 [(0, zR 5 0), (2, zI p2), (3, zL q.1), (5, zI q.2)] [] σ) (fun e5 : Int64 => zX zsyC m_X9_neverClear K 35 [(3, zL e5)] [] σ) hn hf ?_ ?_
    · intro e5 hf
      refine z_lload_n (pc := 35) 0 (zdg D_X9_neverClear 18 (35, .lload_n 3, 1) rfl) rfl rfl ?_
      exact z_lret (pc := 36) rfl (zdg D_X9_neverClear 19 (36, .lreturn, 1) rfl) (hP _ hf)
    · rintro ⟨v3_2, v5_3⟩ hn hi hx
      have hf := b_X9_neverClear_11.eq_1 p2 σ v3_2 v5_3
      refine z_iload (pc := 11) 3 (zdg D_X9_neverClear 6 (11, .iload 5, 2) rfl) rfl ?_
      refine z_iload_n (pc := 13) 1 (zdg D_X9_neverClear 7 (13, .iload_n 2, 1) rfl) rfl rfl ?_
      refine z_icmp_gt (pc := 14) 35 (zdg D_X9_neverClear 8 (14, .if_icmp .gt 21, 3) rfl) rfl hf (fun hf => ?_) (fun hf => ?_)
      · refine z_sub (al' := [(3, zL v3_2)]) [2] rfl ?_
        exact hx v3_2 hf
      · refine z_lload_n (pc := 17) 2 (zdg D_X9_neverClear 9 (17, .lload_n 3, 1) rfl) rfl rfl ?_
        refine z_aload_n (pc := 18) 0 (zdg D_X9_neverClear 10 (18, .aload_n 0, 1) rfl) rfl rfl ?_
        refine z_getR (pc := 19) (g := 1) (j := 0) lf_X9_22 rfl rfl rfl (zdg D_X9_neverClear 11 (19, .getfield 22, 3) rfl) ?_
        refine z_iload (pc := 22) 3 (zdg D_X9_neverClear 12 (22, .iload 5, 2) rfl) rfl ?_
        refine z_bind hn hf (fun q4 hq hf => ?_)
        refine z_callV (pc := 24) (rest := [zL v3_2]) (st2 := [zL q4, zL v3_2]) (fun l => c_X1_coverIn l 0 v5_3 σ q4 hq) zv_X1_coverIn lm_X9_83 rfl rfl rfl rfl rfl rfl (Nat.le_of_ble_eq_true rfl) ⟨Nat.le_of_ble_eq_true rfl, Nat.le_of_ble_eq_true rfl⟩ (zdg D_X9_neverClear 13 (24, .invokevirtual 83, 3) rfl) ?_
        refine z_land (pc := 27) (zdg D_X9_neverClear 14 (27, .land, 1) rfl) ?_
        refine z_lstore_n (pc := 28) (al' := [(3, zL (v3_2 &&& q4)), (0, zR 5 0), (2, zI p2), (5, zI v5_3)]) (zdg D_X9_neverClear 15 (28, .lstore_n 3, 1) rfl) rfl (by decide) rfl ?_
        refine z_iinc (pc := 29) (v0 := (v5_3 + 1)) (al' := [(5, zI (v5_3 + 1)), (3, zL (v3_2 &&& q4)), (0, zR 5 0), (2, zI p2)]) 3 (zdg D_X9_neverClear 16 (29, .iinc 5 1, 3) rfl) rfl rfl (by decide) rfl ?_
        refine z_goto (pc := 32) 11 (zdg D_X9_neverClear 17 (32, .goto (-21), 3) rfl) rfl ?_
        refine z_sub (al' := [(0, zR 5 0), (2, zI p2), (3, zL (v3_2 &&& q4)), (5, zI (v5_3 + 1))]) [2, 3, 1, 0] rfl ?_
        exact hi ((v3_2 &&& q4), (v5_3 + 1)) hf

def L_X9_minutesCovered : List (Nat × Instr × Nat) := [(0, .iconst 0, 1), (1, .istore 4, 2), (3, .iload_n 1, 1), (4, .istore 5, 2), (6, .iload 5, 2), (8, .iload_n 2, 1), (9, .if_icmp .gt 28, 3), (12, .aload_n 0, 1), (13, .getfield 22, 3), (16, .iload 5, 2), (18, .invokevirtual 83, 3), (21, .iload_n 3, 1), (22, .invokestatic 87, 3), (25, .ifCond .eq 6, 3), (28, .iinc 4 1, 3), (31, .iinc 5 1, 3), (34, .goto (-28), 3), (37, .iload 4, 2), (39, .ireturn, 1)]
set_option maxRecDepth 100000 in
theorem D_X9_minutesCovered : zdecs cX9_minutesCovered L_X9_minutesCovered = true := by decide +kernel
noncomputable def b_X9_minutesCovered_6 (p2 : Int32) (σ : zG) (p3 : Int32) (v4_1 : Int32) (v5_2 : Int32) : Option ((Int32 × Int32) ⊕ (Int32)) :=
  if v5_2 ≤ p2 then (f_X1_coverIn 0 v5_2 σ).bind (fun q3 => if (f_X11_holds q3 p3) = 0 then some (Sum.inl (v4_1, (v5_2 + 1))) else some (Sum.inl ((v4_1 + 1), (v5_2 + 1)))) else some (Sum.inr v4_1)
noncomputable def f_X9_minutesCovered (p1 : Int32) (p2 : Int32) (p3 : Int32) (σ : zG) : Option (Int32) :=
  (zlp (fun q : Int32 × Int32 => b_X9_minutesCovered_6 p2 σ p3 q.1 q.2) ((0 : Int32), p1)).bind (fun e4 : Int32 => some e4)
set_option maxRecDepth 100000 in
set_option maxHeartbeats 4000000 in
theorem c_X9_minutesCovered (l : Launch) (p1 : Int32) (p2 : Int32) (p3 : Int32) (σ : zG) (q : Int32) (hq : f_X9_minutesCovered p1 p2 p3 σ = some q) : zMet l zsyC m_X9_minutesCovered yX9_minutesCovered [zR 5 0, zI p1, zI p2, zI p3] σ (some (zI q)) σ := by
  refine zEnter [(0, zR 5 0), (1, zI p1), (2, zI p2), (3, zI p3)] (by decide) rfl (fun _ => Nat.le_of_ble_eq_true rfl) (fun _ => rfl) (fun w h => ?_) (fun K hv hs => ?_)
  · exact zokm rfl h
  · have hP : ∀ x, f_X9_minutesCovered p1 p2 p3 σ = some x → zKv K = some (zI x) ∧ zKs K = σ := fun x h => by rw [hq] at h; cases h; exact ⟨hv, hs⟩
    have hn : f_X9_minutesCovered p1 p2 p3 σ ≠ none := fun z => by rw [hq] at z; cases z
    have hf := f_X9_minutesCovered.eq_1 p1 p2 p3 σ
    refine z_iconst (pc := 0) (v := 0) (zdg D_X9_minutesCovered 0 (0, .iconst 0, 1) rfl) rfl ?_
    refine z_istore (pc := 1) (al' := [(4, zI (0 : Int32)), (0, zR 5 0), (1, zI p1), (2, zI p2), (3, zI p3)]) (zdg D_X9_minutesCovered 1 (1, .istore 4, 2) rfl) (by decide) rfl ?_
    refine z_iload_n (pc := 3) 2 (zdg D_X9_minutesCovered 2 (3, .iload_n 1, 1) rfl) rfl rfl ?_
    refine z_istore (pc := 4) (al' := [(5, zI p1), (4, zI (0 : Int32)), (0, zR 5 0), (1, zI p1), (2, zI p2), (3, zI p3)]) (zdg D_X9_minutesCovered 3 (4, .istore 5, 2) rfl) (by decide) rfl ?_
    refine z_sub (al' := [(0, zR 5 0), (2, zI p2), (3, zI p3), (4, zI (0 : Int32)), (5, zI p1)]) [2, 4, 5, 1, 0] rfl ?_
    refine z_loop (f := (fun q : Int32 × Int32 => b_X9_minutesCovered_6 p2 σ p3 q.1 q.2)) (a := ((0 : Int32), p1)) (fun q : Int32 × Int32 => zX zsyC m_X9_minutesCovered K 6 [(0, zR 5 0), (2, zI p2), (3, zI p3), (4, zI q.1), (5, zI q.2)] [] σ) (fun e4 : Int32 => zX zsyC m_X9_minutesCovered K 37 [(4, zI e4)] [] σ) hn hf ?_ ?_
    · intro e4 hf
      refine z_iload (pc := 37) 0 (zdg D_X9_minutesCovered 17 (37, .iload 4, 2) rfl) rfl ?_
      exact z_iret (pc := 39) rfl rfl (zdg D_X9_minutesCovered 18 (39, .ireturn, 1) rfl) (hP _ hf)
    · rintro ⟨v4_1, v5_2⟩ hn hi hx
      have hf := b_X9_minutesCovered_6.eq_1 p2 σ p3 v4_1 v5_2
      refine z_iload (pc := 6) 4 (zdg D_X9_minutesCovered 4 (6, .iload 5, 2) rfl) rfl ?_
      refine z_iload_n (pc := 8) 1 (zdg D_X9_minutesCovered 5 (8, .iload_n 2, 1) rfl) rfl rfl ?_
      refine z_icmp_gt (pc := 9) 37 (zdg D_X9_minutesCovered 6 (9, .if_icmp .gt 28, 3) rfl) rfl hf (fun hf => ?_) (fun hf => ?_)
      · refine z_sub (al' := [(4, zI v4_1)]) [3] rfl ?_
        exact hx v4_1 hf
      · refine z_aload_n (pc := 12) 0 (zdg D_X9_minutesCovered 7 (12, .aload_n 0, 1) rfl) rfl rfl ?_
        refine z_getR (pc := 13) (g := 1) (j := 0) lf_X9_22 rfl rfl rfl (zdg D_X9_minutesCovered 8 (13, .getfield 22, 3) rfl) ?_
        refine z_iload (pc := 16) 4 (zdg D_X9_minutesCovered 9 (16, .iload 5, 2) rfl) rfl ?_
        refine z_bind hn hf (fun q3 hq hf => ?_)
        refine z_callV (pc := 18) (rest := []) (st2 := [zL q3]) (fun l => c_X1_coverIn l 0 v5_2 σ q3 hq) zv_X1_coverIn lm_X9_83 rfl rfl rfl rfl rfl rfl (Nat.le_of_ble_eq_true rfl) ⟨Nat.le_of_ble_eq_true rfl, Nat.le_of_ble_eq_true rfl⟩ (zdg D_X9_minutesCovered 10 (18, .invokevirtual 83, 3) rfl) ?_
        refine z_iload_n (pc := 21) 2 (zdg D_X9_minutesCovered 11 (21, .iload_n 3, 1) rfl) rfl rfl ?_
        refine z_callSN (pc := 22) (rest := []) (st2 := [zI (f_X11_holds q3 p3)]) (host := "NobodyThere") (fun l => c_X11_holds l q3 p3 σ) zs_X11_holds (by decide +kernel) rfl rfl rfl (Nat.le_of_ble_eq_true rfl) ⟨Nat.le_of_ble_eq_true rfl, Nat.le_of_ble_eq_true rfl⟩ (zdg D_X9_minutesCovered 12 (22, .invokestatic 87, 3) rfl) ?_
        refine z_if_eq (pc := 25) 31 (zdg D_X9_minutesCovered 13 (25, .ifCond .eq 6, 3) rfl) rfl hf (fun hf => ?_) (fun hf => ?_)
        · refine z_iinc (pc := 31) (v0 := (v5_2 + 1)) (al' := [(5, zI (v5_2 + 1)), (0, zR 5 0), (2, zI p2), (3, zI p3), (4, zI v4_1)]) 4 (zdg D_X9_minutesCovered 15 (31, .iinc 5 1, 3) rfl) rfl rfl (by decide) rfl ?_
          refine z_goto (pc := 34) 6 (zdg D_X9_minutesCovered 16 (34, .goto (-28), 3) rfl) rfl ?_
          refine z_sub (al' := [(0, zR 5 0), (2, zI p2), (3, zI p3), (4, zI v4_1), (5, zI (v5_2 + 1))]) [1, 2, 3, 4, 0] rfl ?_
          exact hi (v4_1, (v5_2 + 1)) hf
        · refine z_iinc (pc := 28) (v0 := (v4_1 + 1)) (al' := [(4, zI (v4_1 + 1)), (0, zR 5 0), (2, zI p2), (3, zI p3), (5, zI v5_2)]) 3 (zdg D_X9_minutesCovered 14 (28, .iinc 4 1, 3) rfl) rfl rfl (by decide) rfl ?_
          refine z_iinc (pc := 31) (v0 := (v5_2 + 1)) (al' := [(5, zI (v5_2 + 1)), (4, zI (v4_1 + 1)), (0, zR 5 0), (2, zI p2), (3, zI p3)]) 4 (zdg D_X9_minutesCovered 15 (31, .iinc 5 1, 3) rfl) rfl rfl (by decide) rfl ?_
          refine z_goto (pc := 34) 6 (zdg D_X9_minutesCovered 16 (34, .goto (-28), 3) rfl) rfl ?_
          refine z_sub (al' := [(0, zR 5 0), (2, zI p2), (3, zI p3), (4, zI (v4_1 + 1)), (5, zI (v5_2 + 1))]) [2, 3, 4, 1, 0] rfl ?_
          exact hi ((v4_1 + 1), (v5_2 + 1)) hf
