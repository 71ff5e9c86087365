/-! METHODS, by program: functions and contracts -/
def L_X12_stander : List (Nat × Instr × Nat) := [(0, .iload_n 1, 1), (1, .iconst 0, 1), (2, .iconst 2, 1), (3, .invokestatic 64, 3), (6, .ifCond .ne 5, 3), (9, .iconst (-1), 1), (10, .ireturn, 1), (11, .iconst (-1), 1), (12, .istore_n 2, 1), (13, .iconst 0, 1), (14, .istore_n 3, 1), (15, .iconst (-1), 1), (16, .istore 4, 2), (18, .iconst 0, 1), (19, .istore 5, 2), (21, .iload 5, 2), (23, .aload_n 0, 1), (24, .getfield 7, 3), (27, .bipush 36, 2), (29, .iaload, 1), (30, .if_icmp .ge 40, 3), (33, .aload_n 0, 1), (34, .iload 5, 2), (36, .invokevirtual 424, 3), (39, .aload_n 0, 1), (40, .getfield 418, 3), (43, .iload_n 3, 1), (44, .if_icmp .gt 6, 3), (47, .goto 17, 3), (50, .iload 5, 2), (52, .istore_n 2, 1), (53, .aload_n 0, 1), (54, .getfield 418, 3), (57, .istore_n 3, 1), (58, .aload_n 0, 1), (59, .getfield 421, 3), (62, .istore 4, 2), (64, .iinc 5 1, 3), (67, .goto (-46), 3), (70, .iload_n 2, 1), (71, .iconst (-1), 1), (72, .if_icmp .eq 7, 3), (75, .iload_n 1, 1), (76, .ifCond .ne 7, 3), (79, .iload_n 2, 1), (80, .goto 14, 3), (83, .iload_n 1, 1), (84, .iconst 1, 1), (85, .if_icmp .ne 7, 3), (88, .iload_n 3, 1), (89, .goto 5, 3), (92, .iload 4, 2), (94, .ireturn, 1)]
set_option maxRecDepth 100000 in
theorem D_X12_stander : zdecs cX12_stander L_X12_stander = true := by decide +kernel
noncomputable def b_X12_stander_21  (v2_1 : Int32) (v3_2 : Int32) (v4_3 : Int32) (v5_4 : Int32) (s5 : zG) : Option ((Int32 × Int32 × Int32 × Int32 × zG) ⊕ (Int32 × Int32 × Int32 × zG)) :=
  if v5_4 < (s5.1 1 0 36) then (f_X12_laysStanding v5_4 s5).bind (fun q6 => if (q6.1 0 0 33) ≤ v3_2 then some (Sum.inl (v2_1, v3_2, v4_3, (v5_4 + 1), q6)) else some (Sum.inl (v5_4, (q6.1 0 0 33), (q6.1 0 0 34), (v5_4 + 1), q6))) else some (Sum.inr (v2_1, v3_2, v4_3, s5))
noncomputable def f_X12_stander (p1 : Int32) (σ : zG) : Option (Int32 × zG) :=
  if (f_X12_isIn p1 (0 : Int32) (2 : Int32)) = 0 then some ((-1 : Int32), σ) else (zlp (fun q : Int32 × Int32 × Int32 × Int32 × zG => b_X12_stander_21 q.1 q.2.1 q.2.2.1 q.2.2.2.1 q.2.2.2.2) ((-1 : Int32), (0 : Int32), (-1 : Int32), (0 : Int32), σ)).bind (fun e7 : Int32 × Int32 × Int32 × zG => if e7.1 = (-1 : Int32) then some (e7.1, e7.2.2.2) else if p1 = 0 then some (e7.1, e7.2.2.2) else if p1 = (1 : Int32) then some (e7.2.1, e7.2.2.2) else some (e7.2.2.1, e7.2.2.2))
set_option maxRecDepth 100000 in
set_option maxHeartbeats 4000000 in
theorem c_X12_stander (l : Launch) (p1 : Int32) (σ : zG) (q : Int32 × zG) (hq : f_X12_stander p1 σ = some q) : zMet l zsyM m_X12_stander yX12_stander [zR 0 0, zI p1] σ (some (zI q.1)) q.2 := by
  refine zEnter [(0, zR 0 0), (1, zI p1)] (by decide) rfl (fun _ => Nat.le_of_ble_eq_true rfl) (fun _ => rfl) (fun w h => ?_) (fun K hv hs => ?_)
  · exact zokm rfl h
  · have hP : ∀ x s, f_X12_stander p1 σ = some (x, s) → zKv K = some (zI x) ∧ zKs K = s := fun x s h => by rw [hq] at h; cases h; exact ⟨hv, hs⟩
    have hn : f_X12_stander p1 σ ≠ none := fun z => by rw [hq] at z; cases z
    have hf := f_X12_stander.eq_1 p1 σ
    refine z_iload_n (pc := 0) 1 (zdg D_X12_stander 0 (0, .iload_n 1, 1) rfl) rfl rfl ?_
    refine z_iconst (pc := 1) (v := 0) (zdg D_X12_stander 1 (1, .iconst 0, 1) rfl) rfl ?_
    refine z_iconst (pc := 2) (v := 2) (zdg D_X12_stander 2 (2, .iconst 2, 1) rfl) rfl ?_
    refine z_callS (pc := 3) (rest := []) (st2 := [zI (f_X12_isIn p1 (0 : Int32) (2 : Int32))]) (fun l => c_X12_isIn l p1 (0 : Int32) (2 : Int32) σ) zs_X12_isIn lm_X12_64 rfl rfl rfl (Nat.le_of_ble_eq_true rfl) ⟨Nat.le_of_ble_eq_true rfl, Nat.le_of_ble_eq_true rfl⟩ (zdg D_X12_stander 3 (3, .invokestatic 64, 3) rfl) ?_
    refine z_if_ne (pc := 6) 11 (zdg D_X12_stander 4 (6, .ifCond .ne 5, 3) rfl) rfl hf (fun hf => ?_) (fun hf => ?_)
    · refine z_iconst (pc := 11) (v := -1) (zdg D_X12_stander 7 (11, .iconst (-1), 1) rfl) rfl ?_
      refine z_istore_n (pc := 12) (al' := [(2, zI (-1 : Int32)), (0, zR 0 0), (1, zI p1)]) (zdg D_X12_stander 8 (12, .istore_n 2, 1) rfl) rfl (by decide) rfl ?_
      refine z_iconst (pc := 13) (v := 0) (zdg D_X12_stander 9 (13, .iconst 0, 1) rfl) rfl ?_
      refine z_istore_n (pc := 14) (al' := [(3, zI (0 : Int32)), (2, zI (-1 : Int32)), (0, zR 0 0), (1, zI p1)]) (zdg D_X12_stander 10 (14, .istore_n 3, 1) rfl) rfl (by decide) rfl ?_
      refine z_iconst (pc := 15) (v := -1) (zdg D_X12_stander 11 (15, .iconst (-1), 1) rfl) rfl ?_
      refine z_istore (pc := 16) (al' := [(4, zI (-1 : Int32)), (3, zI (0 : Int32)), (2, zI (-1 : Int32)), (0, zR 0 0), (1, zI p1)]) (zdg D_X12_stander 12 (16, .istore 4, 2) rfl) (by decide) rfl ?_
      refine z_iconst (pc := 18) (v := 0) (zdg D_X12_stander 13 (18, .iconst 0, 1) rfl) rfl ?_
      refine z_istore (pc := 19) (al' := [(5, zI (0 : Int32)), (4, zI (-1 : Int32)), (3, zI (0 : Int32)), (2, zI (-1 : Int32)), (0, zR 0 0), (1, zI p1)]) (zdg D_X12_stander 14 (19, .istore 5, 2) rfl) (by decide) rfl ?_
      refine z_sub (al' := [(0, zR 0 0), (1, zI p1), (2, zI (-1 : Int32)), (3, zI (0 : Int32)), (4, zI (-1 : Int32)), (5, zI (0 : Int32))]) [4, 5, 3, 2, 1, 0] rfl ?_
      refine z_loop (f := (fun q : Int32 × Int32 × Int32 × Int32 × zG => b_X12_stander_21 q.1 q.2.1 q.2.2.1 q.2.2.2.1 q.2.2.2.2)) (a := ((-1 : Int32), (0 : Int32), (-1 : Int32), (0 : Int32), σ)) (fun q : Int32 × Int32 × Int32 × Int32 × zG => zX zsyM m_X12_stander K 21 [(0, zR 0 0), (1, zI p1), (2, zI q.1), (3, zI q.2.1), (4, zI q.2.2.1), (5, zI q.2.2.2.1)] [] q.2.2.2.2) (fun e7 : Int32 × Int32 × Int32 × zG => zX zsyM m_X12_stander K 70 [(1, zI p1), (2, zI e7.1), (3, zI e7.2.1), (4, zI e7.2.2.1)] [] e7.2.2.2) hn hf ?_ ?_
      · intro e7 hf
        refine z_iload_n (pc := 70) 1 (zdg D_X12_stander 39 (70, .iload_n 2, 1) rfl) rfl rfl ?_
        refine z_iconst (pc := 71) (v := -1) (zdg D_X12_stander 40 (71, .iconst (-1), 1) rfl) rfl ?_
        refine z_icmp_eq (pc := 72) 79 (zdg D_X12_stander 41 (72, .if_icmp .eq 7, 3) rfl) rfl hf (fun hf => ?_) (fun hf => ?_)
        · refine z_iload_n (pc := 79) 1 (zdg D_X12_stander 44 (79, .iload_n 2, 1) rfl) rfl rfl ?_
          refine z_goto (pc := 80) 94 (zdg D_X12_stander 45 (80, .goto 14, 3) rfl) rfl ?_
          exact z_iret (pc := 94) rfl rfl (zdg D_X12_stander 52 (94, .ireturn, 1) rfl) (hP _ _ hf)
        · refine z_iload_n (pc := 75) 0 (zdg D_X12_stander 42 (75, .iload_n 1, 1) rfl) rfl rfl ?_
          refine z_if_ne (pc := 76) 83 (zdg D_X12_stander 43 (76, .ifCond .ne 7, 3) rfl) rfl hf (fun hf => ?_) (fun hf => ?_)
          · refine z_iload_n (pc := 83) 0 (zdg D_X12_stander 46 (83, .iload_n 1, 1) rfl) rfl rfl ?_
            refine z_iconst (pc := 84) (v := 1) (zdg D_X12_stander 47 (84, .iconst 1, 1) rfl) rfl ?_
            refine z_icmp_ne (pc := 85) 92 (zdg D_X12_stander 48 (85, .if_icmp .ne 7, 3) rfl) rfl hf (fun hf => ?_) (fun hf => ?_)
            · refine z_iload (pc := 92) 3 (zdg D_X12_stander 51 (92, .iload 4, 2) rfl) rfl ?_
              exact z_iret (pc := 94) rfl rfl (zdg D_X12_stander 52 (94, .ireturn, 1) rfl) (hP _ _ hf)
            · refine z_iload_n (pc := 88) 2 (zdg D_X12_stander 49 (88, .iload_n 3, 1) rfl) rfl rfl ?_
              refine z_goto (pc := 89) 94 (zdg D_X12_stander 50 (89, .goto 5, 3) rfl) rfl ?_
              exact z_iret (pc := 94) rfl rfl (zdg D_X12_stander 52 (94, .ireturn, 1) rfl) (hP _ _ hf)
          · refine z_iload_n (pc := 79) 1 (zdg D_X12_stander 44 (79, .iload_n 2, 1) rfl) rfl rfl ?_
            refine z_goto (pc := 80) 94 (zdg D_X12_stander 45 (80, .goto 14, 3) rfl) rfl ?_
            exact z_iret (pc := 94) rfl rfl (zdg D_X12_stander 52 (94, .ireturn, 1) rfl) (hP _ _ hf)
      · rintro ⟨v2_1, v3_2, v4_3, v5_4, s5⟩ hn hi hx
        have hf := b_X12_stander_21.eq_1  v2_1 v3_2 v4_3 v5_4 s5
        refine z_iload (pc := 21) 5 (zdg D_X12_stander 15 (21, .iload 5, 2) rfl) rfl ?_
        refine z_aload_n (pc := 23) 0 (zdg D_X12_stander 16 (23, .aload_n 0, 1) rfl) rfl rfl ?_
        refine z_getR (pc := 24) (g := 1) (j := 0) lf_X12_7 rfl rfl rfl (zdg D_X12_stander 17 (24, .getfield 7, 3) rfl) ?_
        refine z_bipush (pc := 27) (v := 36) (zdg D_X12_stander 18 (27, .bipush 36, 2) rfl) rfl ?_
        refine z_ialdC (pc := 29) (j := 36) rfl (fun _ => rfl) (zdg D_X12_stander 19 (29, .iaload, 1) rfl) rfl rfl ?_
        refine z_icmp_ge (pc := 30) 70 (zdg D_X12_stander 20 (30, .if_icmp .ge 40, 3) rfl) rfl hf (fun hf => ?_) (fun hf => ?_)
        · refine z_sub (al' := [(1, zI p1), (2, zI v2_1), (3, zI v3_2), (4, zI v4_3)]) [1, 2, 3, 4] rfl ?_
          exact hx (v2_1, v3_2, v4_3, s5) hf
        · refine z_aload_n (pc := 33) 0 (zdg D_X12_stander 21 (33, .aload_n 0, 1) rfl) rfl rfl ?_
          refine z_iload (pc := 34) 5 (zdg D_X12_stander 22 (34, .iload 5, 2) rfl) rfl ?_
          refine z_bind hn hf (fun q6 hq hf => ?_)
          refine z_callV (pc := 36) (rest := []) (st2 := []) (fun l => c_X12_laysStanding l v5_4 s5 q6 hq) zv_X12_laysStanding lm_X12_424 rfl rfl rfl rfl rfl rfl (Nat.le_of_ble_eq_true rfl) ⟨Nat.le_of_ble_eq_true rfl, Nat.le_of_ble_eq_true rfl⟩ (zdg D_X12_stander 23 (36, .invokevirtual 424, 3) rfl) ?_
          refine z_aload_n (pc := 39) 0 (zdg D_X12_stander 24 (39, .aload_n 0, 1) rfl) rfl rfl ?_
          refine z_getI (pc := 40) lf_X12_418 rfl rfl (zdg D_X12_stander 25 (40, .getfield 418, 3) rfl) ?_
          refine z_iload_n (pc := 43) 3 (zdg D_X12_stander 26 (43, .iload_n 3, 1) rfl) rfl rfl ?_
          refine z_icmp_gt (pc := 44) 50 (zdg D_X12_stander 27 (44, .if_icmp .gt 6, 3) rfl) rfl hf (fun hf => ?_) (fun hf => ?_)
          · refine z_iload (pc := 50) 5 (zdg D_X12_stander 29 (50, .iload 5, 2) rfl) rfl ?_
            refine z_istore_n (pc := 52) (al' := [(2, zI v5_4), (0, zR 0 0), (1, zI p1), (3, zI v3_2), (4, zI v4_3), (5, zI v5_4)]) (zdg D_X12_stander 30 (52, .istore_n 2, 1) rfl) rfl (by decide) rfl ?_
            refine z_aload_n (pc := 53) 1 (zdg D_X12_stander 31 (53, .aload_n 0, 1) rfl) rfl rfl ?_
            refine z_getI (pc := 54) lf_X12_418 rfl rfl (zdg D_X12_stander 32 (54, .getfield 418, 3) rfl) ?_
            refine z_istore_n (pc := 57) (al' := [(3, zI (q6.1 0 0 33)), (2, zI v5_4), (0, zR 0 0), (1, zI p1), (4, zI v4_3), (5, zI v5_4)]) (zdg D_X12_stander 33 (57, .istore_n 3, 1) rfl) rfl (by decide) rfl ?_
            refine z_aload_n (pc := 58) 2 (zdg D_X12_stander 34 (58, .aload_n 0, 1) rfl) rfl rfl ?_
            refine z_getI (pc := 59) lf_X12_421 rfl rfl (zdg D_X12_stander 35 (59, .getfield 421, 3) rfl) ?_
            refine z_istore (pc := 62) (al' := [(4, zI (q6.1 0 0 34)), (3, zI (q6.1 0 0 33)), (2, zI v5_4), (0, zR 0 0), (1, zI p1), (5, zI v5_4)]) (zdg D_X12_stander 36 (62, .istore 4, 2) rfl) (by decide) rfl ?_
            refine z_iinc (pc := 64) (v0 := (v5_4 + 1)) (al' := [(5, zI (v5_4 + 1)), (4, zI (q6.1 0 0 34)), (3, zI (q6.1 0 0 33)), (2, zI v5_4), (0, zR 0 0), (1, zI p1)]) 5 (zdg D_X12_stander 37 (64, .iinc 5 1, 3) rfl) rfl rfl (by decide) rfl ?_
            refine z_goto (pc := 67) 21 (zdg D_X12_stander 38 (67, .goto (-46), 3) rfl) rfl ?_
            refine z_sub (al' := [(0, zR 0 0), (1, zI p1), (2, zI v5_4), (3, zI (q6.1 0 0 33)), (4, zI (q6.1 0 0 34)), (5, zI (v5_4 + 1))]) [4, 5, 3, 2, 1, 0] rfl ?_
            exact hi (v5_4, (q6.1 0 0 33), (q6.1 0 0 34), (v5_4 + 1), q6) hf
          · refine z_goto (pc := 47) 64 (zdg D_X12_stander 28 (47, .goto 17, 3) rfl) rfl ?_
            refine z_iinc (pc := 64) (v0 := (v5_4 + 1)) (al' := [(5, zI (v5_4 + 1)), (0, zR 0 0), (1, zI p1), (2, zI v2_1), (3, zI v3_2), (4, zI v4_3)]) 5 (zdg D_X12_stander 37 (64, .iinc 5 1, 3) rfl) rfl rfl (by decide) rfl ?_
            refine z_goto (pc := 67) 21 (zdg D_X12_stander 38 (67, .goto (-46), 3) rfl) rfl ?_
            refine z_sub (al' := [(0, zR 0 0), (1, zI p1), (2, zI v2_1), (3, zI v3_2), (4, zI v4_3), (5, zI (v5_4 + 1))]) [1, 2, 3, 4, 5, 0] rfl ?_
            exact hi (v2_1, v3_2, v4_3, (v5_4 + 1), q6) hf
    · refine z_iconst (pc := 9) (v := -1) (zdg D_X12_stander 5 (9, .iconst (-1), 1) rfl) rfl ?_
      exact z_iret (pc := 10) rfl rfl (zdg D_X12_stander 6 (10, .ireturn, 1) rfl) (hP _ _ hf)

def L_X12_isSeenAll : List (Nat × Instr × Nat) := [(0, .iload_n 2, 1), (1, .istore 4, 2), (3, .iload 4, 2), (5, .iload_n 3, 1), (6, .if_icmp .gt 36, 3), (9, .aload_n 0, 1), (10, .iload_n 1, 1), (11, .iload 4, 2), (13, .invokevirtual 303, 3), (16, .iconst (-1), 1), (17, .if_icmp .eq 17, 3), (20, .aload_n 0, 1), (21, .aload_n 0, 1), (22, .iload_n 1, 1), (23, .iload 4, 2), (25, .invokevirtual 303, 3), (28, .invokevirtual 320, 3), (31, .ifCond .ne 5, 3), (34, .iconst 0, 1), (35, .ireturn, 1), (36, .iinc 4 1, 3), (39, .goto (-36), 3), (42, .iconst 1, 1), (43, .ireturn, 1)]
set_option maxRecDepth 100000 in
theorem D_X12_isSeenAll : zdecs cX12_isSeenAll L_X12_isSeenAll = true := by decide +kernel
noncomputable def b_X12_isSeenAll_3 (p3 : Int32) (p1 : Int32) (σ : zG) (v4_1 : Int32) : Option ((Int32) ⊕ ((Unit) ⊕ (Unit))) :=
  if v4_1 ≤ p3 then (f_X12_placeOf p1 v4_1 σ).bind (fun q2 => if q2 = (-1 : Int32) then some (Sum.inr (Sum.inl ())) else (f_X12_placeOf p1 v4_1 σ).bind (fun q3 => (f_X12_isInView q3 σ).bind (fun q4 => if q4 = 0 then some (Sum.inr (Sum.inl ())) else some (Sum.inl (v4_1 + 1))))) else some (Sum.inr (Sum.inr ()))
noncomputable def f_X12_isSeenAll (p1 : Int32) (p2 : Int32) (p3 : Int32) (σ : zG) : Option (Int32) :=
  (zlp (fun q : Int32 => b_X12_isSeenAll_3 p3 p1 σ q) p2).bind (Sum.elim (fun e5 : Unit => some (0 : Int32)) (fun e6 : Unit => some (1 : Int32)))
set_option maxRecDepth 100000 in
set_option maxHeartbeats 4000000 in
theorem c_X12_isSeenAll (l : Launch) (p1 : Int32) (p2 : Int32) (p3 : Int32) (σ : zG) (q : Int32) (hq : f_X12_isSeenAll p1 p2 p3 σ = some q) : zMet l zsyM m_X12_isSeenAll yX12_isSeenAll [zR 0 0, zI p1, zI p2, zI p3] σ (some (zI q)) σ := by
  refine zEnter [(0, zR 0 0), (1, zI p1), (2, zI p2), (3, zI p3)] (by decide) rfl (fun _ => Nat.le_of_ble_eq_true rfl) (fun _ => rfl) (fun w h => ?_) (fun K hv hs => ?_)
  · exact zokm rfl h
  · have hP : ∀ x, f_X12_isSeenAll p1 p2 p3 σ = some x → zKv K = some (zI x) ∧ zKs K = σ := fun x h => by rw [hq] at h; cases h; exact ⟨hv, hs⟩
    have hn : f_X12_isSeenAll p1 p2 p3 σ ≠ none := fun z => by rw [hq] at z; cases z
    have hf := f_X12_isSeenAll.eq_1 p1 p2 p3 σ
    refine z_iload_n (pc := 0) 2 (zdg D_X12_isSeenAll 0 (0, .iload_n 2, 1) rfl) rfl rfl ?_
    refine z_istore (pc := 1) (al' := [(4, zI p2), (0, zR 0 0), (1, zI p1), (2, zI p2), (3, zI p3)]) (zdg D_X12_isSeenAll 1 (1, .istore 4, 2) rfl) (by decide) rfl ?_
    refine z_sub (al' := [(0, zR 0 0), (1, zI p1), (3, zI p3), (4, zI p2)]) [1, 2, 4, 0] rfl ?_
    refine z_loop (f := (fun q : Int32 => b_X12_isSeenAll_3 p3 p1 σ q)) (a := p2) (fun q : Int32 => zX zsyM m_X12_isSeenAll K 3 [(0, zR 0 0), (1, zI p1), (3, zI p3), (4, zI q)] [] σ) (Sum.elim (fun e5 : Unit => zX zsyM m_X12_isSeenAll K 34 [] [] σ) (fun e6 : Unit => zX zsyM m_X12_isSeenAll K 42 [] [] σ)) hn hf ?_ ?_
    · intro b hf
      cases b with
      | inl e5 =>
        refine z_iconst (pc := 34) (v := 0) (zdg D_X12_isSeenAll 18 (34, .iconst 0, 1) rfl) rfl ?_
        exact z_iret (pc := 35) rfl rfl (zdg D_X12_isSeenAll 19 (35, .ireturn, 1) rfl) (hP _ hf)
      | inr b =>
        revert hf
        revert b
        intro e6 hf
        refine z_iconst (pc := 42) (v := 1) (zdg D_X12_isSeenAll 22 (42, .iconst 1, 1) rfl) rfl ?_
        exact z_iret (pc := 43) rfl rfl (zdg D_X12_isSeenAll 23 (43, .ireturn, 1) rfl) (hP _ hf)
    · intro v4_1 hn hi hx
      have hf := b_X12_isSeenAll_3.eq_1 p3 p1 σ v4_1
      refine z_iload (pc := 3) 3 (zdg D_X12_isSeenAll 2 (3, .iload 4, 2) rfl) rfl ?_
      refine z_iload_n (pc := 5) 2 (zdg D_X12_isSeenAll 3 (5, .iload_n 3, 1) rfl) rfl rfl ?_
      refine z_icmp_gt (pc := 6) 42 (zdg D_X12_isSeenAll 4 (6, .if_icmp .gt 36, 3) rfl) rfl hf (fun hf => ?_) (fun hf => ?_)
      · refine z_sub (al' := []) [] rfl ?_
        exact hx (Sum.inr ()) hf
      · refine z_aload_n (pc := 9) 0 (zdg D_X12_isSeenAll 5 (9, .aload_n 0, 1) rfl) rfl rfl ?_
        refine z_iload_n (pc := 10) 1 (zdg D_X12_isSeenAll 6 (10, .iload_n 1, 1) rfl) rfl rfl ?_
        refine z_iload (pc := 11) 3 (zdg D_X12_isSeenAll 7 (11, .iload 4, 2) rfl) rfl ?_
        refine z_bind hn hf (fun q2 hq hf => ?_)
        refine z_callV (pc := 13) (rest := []) (st2 := [zI q2]) (fun l => c_X12_placeOf l p1 v4_1 σ q2 hq) zv_X12_placeOf lm_X12_303 rfl rfl rfl rfl rfl rfl (Nat.le_of_ble_eq_true rfl) ⟨Nat.le_of_ble_eq_true rfl, Nat.le_of_ble_eq_true rfl⟩ (zdg D_X12_isSeenAll 8 (13, .invokevirtual 303, 3) rfl) ?_
        refine z_iconst (pc := 16) (v := -1) (zdg D_X12_isSeenAll 9 (16, .iconst (-1), 1) rfl) rfl ?_
        refine z_icmp_eq (pc := 17) 34 (zdg D_X12_isSeenAll 10 (17, .if_icmp .eq 17, 3) rfl) rfl hf (fun hf => ?_) (fun hf => ?_)
        · refine z_sub (al' := []) [] rfl ?_
          exact hx (Sum.inl ()) hf
        · refine z_aload_n (pc := 20) 0 (zdg D_X12_isSeenAll 11 (20, .aload_n 0, 1) rfl) rfl rfl ?_
          refine z_aload_n (pc := 21) 0 (zdg D_X12_isSeenAll 12 (21, .aload_n 0, 1) rfl) rfl rfl ?_
          refine z_iload_n (pc := 22) 1 (zdg D_X12_isSeenAll 13 (22, .iload_n 1, 1) rfl) rfl rfl ?_
          refine z_iload (pc := 23) 3 (zdg D_X12_isSeenAll 14 (23, .iload 4, 2) rfl) rfl ?_
          refine z_bind hn hf (fun q3 hq hf => ?_)
          refine z_callV (pc := 25) (rest := [zR 0 0]) (st2 := [zI q3, zR 0 0]) (fun l => c_X12_placeOf l p1 v4_1 σ q3 hq) zv_X12_placeOf lm_X12_303 rfl rfl rfl rfl rfl rfl (Nat.le_of_ble_eq_true rfl) ⟨Nat.le_of_ble_eq_true rfl, Nat.le_of_ble_eq_true rfl⟩ (zdg D_X12_isSeenAll 15 (25, .invokevirtual 303, 3) rfl) ?_
          refine z_bind hn hf (fun q4 hq hf => ?_)
          refine z_callV (pc := 28) (rest := []) (st2 := [zI q4]) (fun l => c_X12_isInView l q3 σ q4 hq) zv_X12_isInView lm_X12_320 rfl rfl rfl rfl rfl rfl (Nat.le_of_ble_eq_true rfl) ⟨Nat.le_of_ble_eq_true rfl, Nat.le_of_ble_eq_true rfl⟩ (zdg D_X12_isSeenAll 16 (28, .invokevirtual 320, 3) rfl) ?_
          refine z_if_ne (pc := 31) 36 (zdg D_X12_isSeenAll 17 (31, .ifCond .ne 5, 3) rfl) rfl hf (fun hf => ?_) (fun hf => ?_)
          · refine z_iinc (pc := 36) (v0 := (v4_1 + 1)) (al' := [(4, zI (v4_1 + 1)), (0, zR 0 0), (1, zI p1), (3, zI p3)]) 3 (zdg D_X12_isSeenAll 20 (36, .iinc 4 1, 3) rfl) rfl rfl (by decide) rfl ?_
            refine z_goto (pc := 39) 3 (zdg D_X12_isSeenAll 21 (39, .goto (-36), 3) rfl) rfl ?_
            refine z_sub (al' := [(0, zR 0 0), (1, zI p1), (3, zI p3), (4, zI (v4_1 + 1))]) [1, 2, 3, 0] rfl ?_
            exact hi (v4_1 + 1) hf
          · refine z_sub (al' := []) [] rfl ?_
            exact hx (Sum.inl ()) hf

def L_X12_with : List (Nat × Instr × Nat) := [(0, .iload_n 1, 1), (1, .iload_n 2, 1), (2, .invokestatic 373, 3), (5, .ifCond .ne 5, 3), (8, .iconst (-1), 1), (9, .ireturn, 1), (10, .iconst 0, 1), (11, .istore_n 3, 1), (12, .iconst 0, 1), (13, .istore 4, 2), (15, .iload 4, 2), (17, .aload_n 0, 1), (18, .getfield 7, 3), (21, .bipush 36, 2), (23, .iaload, 1), (24, .if_icmp .ge 31, 3), (27, .iload_n 3, 1), (28, .aload_n 0, 1), (29, .iload 4, 2), (31, .iload_n 1, 1), (32, .iload_n 2, 1), (33, .invokevirtual 427, 3), (36, .ifCond .eq 10, 3), (39, .iconst 1, 1), (40, .iload 4, 2), (42, .ishl, 1), (43, .goto 4, 3), (46, .iconst 0, 1), (47, .ior, 1), (48, .istore_n 3, 1), (49, .iinc 4 1, 3), (52, .goto (-37), 3), (55, .iload_n 3, 1), (56, .ireturn, 1)]
set_option maxRecDepth 100000 in
theorem D_X12_with : zdecs cX12_with L_X12_with = true := by decide +kernel
noncomputable def b_X12_with_15 (σ : zG) (p1 : Int32) (p2 : Int32) (v3_1 : Int32) (v4_2 : Int32) : Option ((Int32 × Int32) ⊕ (Int32)) :=
  if v4_2 < (σ.1 1 0 36) then (f_X12_isSeenAll v4_2 p1 p2 σ).bind (fun q3 => if q3 = 0 then some (Sum.inl ((v3_1 ||| (0 : Int32)), (v4_2 + 1))) else some (Sum.inl ((v3_1 ||| (zshl (1 : Int32) v4_2)), (v4_2 + 1)))) else some (Sum.inr v3_1)
noncomputable def f_X12_with (p1 : Int32) (p2 : Int32) (σ : zG) : Option (Int32) :=
  if (f_X12_areMinutes p1 p2) = 0 then some (-1 : Int32) else (zlp (fun q : Int32 × Int32 => b_X12_with_15 σ p1 p2 q.1 q.2) ((0 : Int32), (0 : Int32))).bind (fun e4 : Int32 => some e4)
set_option maxRecDepth 100000 in
set_option maxHeartbeats 4000000 in
theorem c_X12_with (l : Launch) (p1 : Int32) (p2 : Int32) (σ : zG) (q : Int32) (hq : f_X12_with p1 p2 σ = some q) : zMet l zsyM m_X12_with yX12_with [zR 0 0, zI p1, zI p2] σ (some (zI q)) σ := by
  refine zEnter [(0, zR 0 0), (1, zI p1), (2, zI p2)] (by decide) rfl (fun _ => Nat.le_of_ble_eq_true rfl) (fun _ => rfl) (fun w h => ?_) (fun K hv hs => ?_)
  · exact zokm rfl h
  · have hP : ∀ x, f_X12_with p1 p2 σ = some x → zKv K = some (zI x) ∧ zKs K = σ := fun x h => by rw [hq] at h; cases h; exact ⟨hv, hs⟩
    have hn : f_X12_with p1 p2 σ ≠ none := fun z => by rw [hq] at z; cases z
    have hf := f_X12_with.eq_1 p1 p2 σ
    refine z_iload_n (pc := 0) 1 (zdg D_X12_with 0 (0, .iload_n 1, 1) rfl) rfl rfl ?_
    refine z_iload_n (pc := 1) 2 (zdg D_X12_with 1 (1, .iload_n 2, 1) rfl) rfl rfl ?_
    refine z_callS (pc := 2) (rest := []) (st2 := [zI (f_X12_areMinutes p1 p2)]) (fun l => c_X12_areMinutes l p1 p2 σ) zs_X12_areMinutes lm_X12_373 rfl rfl rfl (Nat.le_of_ble_eq_true rfl) ⟨Nat.le_of_ble_eq_true rfl, Nat.le_of_ble_eq_true rfl⟩ (zdg D_X12_with 2 (2, .invokestatic 373, 3) rfl) ?_
    refine z_if_ne (pc := 5) 10 (zdg D_X12_with 3 (5, .ifCond .ne 5, 3) rfl) rfl hf (fun hf => ?_) (fun hf => ?_)
    · refine z_iconst (pc := 10) (v := 0) (zdg D_X12_with 6 (10, .iconst 0, 1) rfl) rfl ?_
      refine z_istore_n (pc := 11) (al' := [(3, zI (0 : Int32)), (0, zR 0 0), (1, zI p1), (2, zI p2)]) (zdg D_X12_with 7 (11, .istore_n 3, 1) rfl) rfl (by decide) rfl ?_
      refine z_iconst (pc := 12) (v := 0) (zdg D_X12_with 8 (12, .iconst 0, 1) rfl) rfl ?_
      refine z_istore (pc := 13) (al' := [(4, zI (0 : Int32)), (3, zI (0 : Int32)), (0, zR 0 0), (1, zI p1), (2, zI p2)]) (zdg D_X12_with 9 (13, .istore 4, 2) rfl) (by decide) rfl ?_
      refine z_sub (al' := [(0, zR 0 0), (1, zI p1), (2, zI p2), (3, zI (0 : Int32)), (4, zI (0 : Int32))]) [2, 3, 4, 1, 0] rfl ?_
      refine z_loop (f := (fun q : Int32 × Int32 => b_X12_with_15 σ p1 p2 q.1 q.2)) (a := ((0 : Int32), (0 : Int32))) (fun q : Int32 × Int32 => zX zsyM m_X12_with K 15 [(0, zR 0 0), (1, zI p1), (2, zI p2), (3, zI q.1), (4, zI q.2)] [] σ) (fun e4 : Int32 => zX zsyM m_X12_with K 55 [(3, zI e4)] [] σ) hn hf ?_ ?_
      · intro e4 hf
        refine z_iload_n (pc := 55) 0 (zdg D_X12_with 32 (55, .iload_n 3, 1) rfl) rfl rfl ?_
        exact z_iret (pc := 56) rfl rfl (zdg D_X12_with 33 (56, .ireturn, 1) rfl) (hP _ hf)
      · rintro ⟨v3_1, v4_2⟩ hn hi hx
        have hf := b_X12_with_15.eq_1 σ p1 p2 v3_1 v4_2
        refine z_iload (pc := 15) 4 (zdg D_X12_with 10 (15, .iload 4, 2) rfl) rfl ?_
        refine z_aload_n (pc := 17) 0 (zdg D_X12_with 11 (17, .aload_n 0, 1) rfl) rfl rfl ?_
        refine z_getR (pc := 18) (g := 1) (j := 0) lf_X12_7 rfl rfl rfl (zdg D_X12_with 12 (18, .getfield 7, 3) rfl) ?_
        refine z_bipush (pc := 21) (v := 36) (zdg D_X12_with 13 (21, .bipush 36, 2) rfl) rfl ?_
        refine z_ialdC (pc := 23) (j := 36) rfl (fun _ => rfl) (zdg D_X12_with 14 (23, .iaload, 1) rfl) rfl rfl ?_
        refine z_icmp_ge (pc := 24) 55 (zdg D_X12_with 15 (24, .if_icmp .ge 31, 3) rfl) rfl hf (fun hf => ?_) (fun hf => ?_)
        · refine z_sub (al' := [(3, zI v3_1)]) [3] rfl ?_
          exact hx v3_1 hf
        · refine z_iload_n (pc := 27) 3 (zdg D_X12_with 16 (27, .iload_n 3, 1) rfl) rfl rfl ?_
          refine z_aload_n (pc := 28) 0 (zdg D_X12_with 17 (28, .aload_n 0, 1) rfl) rfl rfl ?_
          refine z_iload (pc := 29) 4 (zdg D_X12_with 18 (29, .iload 4, 2) rfl) rfl ?_
          refine z_iload_n (pc := 31) 1 (zdg D_X12_with 19 (31, .iload_n 1, 1) rfl) rfl rfl ?_
          refine z_iload_n (pc := 32) 2 (zdg D_X12_with 20 (32, .iload_n 2, 1) rfl) rfl rfl ?_
          refine z_bind hn hf (fun q3 hq hf => ?_)
          refine z_callV (pc := 33) (rest := [zI v3_1]) (st2 := [zI q3, zI v3_1]) (fun l => c_X12_isSeenAll l v4_2 p1 p2 σ q3 hq) zv_X12_isSeenAll lm_X12_427 rfl rfl rfl rfl rfl rfl (Nat.le_of_ble_eq_true rfl) ⟨Nat.le_of_ble_eq_true rfl, Nat.le_of_ble_eq_true rfl⟩ (zdg D_X12_with 21 (33, .invokevirtual 427, 3) rfl) ?_
          refine z_if_eq (pc := 36) 46 (zdg D_X12_with 22 (36, .ifCond .eq 10, 3) rfl) rfl hf (fun hf => ?_) (fun hf => ?_)
          · refine z_iconst (pc := 46) (v := 0) (zdg D_X12_with 27 (46, .iconst 0, 1) rfl) rfl ?_
            refine z_ior (pc := 47) (zdg D_X12_with 28 (47, .ior, 1) rfl) ?_
            refine z_istore_n (pc := 48) (al' := [(3, zI (v3_1 ||| (0 : Int32))), (0, zR 0 0), (1, zI p1), (2, zI p2), (4, zI v4_2)]) (zdg D_X12_with 29 (48, .istore_n 3, 1) rfl) rfl (by decide) rfl ?_
            refine z_iinc (pc := 49) (v0 := (v4_2 + 1)) (al' := [(4, zI (v4_2 + 1)), (3, zI (v3_1 ||| (0 : Int32))), (0, zR 0 0), (1, zI p1), (2, zI p2)]) 4 (zdg D_X12_with 30 (49, .iinc 4 1, 3) rfl) rfl rfl (by decide) rfl ?_
            refine z_goto (pc := 52) 15 (zdg D_X12_with 31 (52, .goto (-37), 3) rfl) rfl ?_
            refine z_sub (al' := [(0, zR 0 0), (1, zI p1), (2, zI p2), (3, zI (v3_1 ||| (0 : Int32))), (4, zI (v4_2 + 1))]) [2, 3, 4, 1, 0] rfl ?_
            exact hi ((v3_1 ||| (0 : Int32)), (v4_2 + 1)) hf
          · refine z_iconst (pc := 39) (v := 1) (zdg D_X12_with 23 (39, .iconst 1, 1) rfl) rfl ?_
            refine z_iload (pc := 40) 4 (zdg D_X12_with 24 (40, .iload 4, 2) rfl) rfl ?_
            refine z_ishl (pc := 42) (zdg D_X12_with 25 (42, .ishl, 1) rfl) ?_
            refine z_goto (pc := 43) 47 (zdg D_X12_with 26 (43, .goto 4, 3) rfl) rfl ?_
            refine z_ior (pc := 47) (zdg D_X12_with 28 (47, .ior, 1) rfl) ?_
            refine z_istore_n (pc := 48) (al' := [(3, zI (v3_1 ||| (zshl (1 : Int32) v4_2))), (0, zR 0 0), (1, zI p1), (2, zI p2), (4, zI v4_2)]) (zdg D_X12_with 29 (48, .istore_n 3, 1) rfl) rfl (by decide) rfl ?_
            refine z_iinc (pc := 49) (v0 := (v4_2 + 1)) (al' := [(4, zI (v4_2 + 1)), (3, zI (v3_1 ||| (zshl (1 : Int32) v4_2))), (0, zR 0 0), (1, zI p1), (2, zI p2)]) 4 (zdg D_X12_with 30 (49, .iinc 4 1, 3) rfl) rfl rfl (by decide) rfl ?_
            refine z_goto (pc := 52) 15 (zdg D_X12_with 31 (52, .goto (-37), 3) rfl) rfl ?_
            refine z_sub (al' := [(0, zR 0 0), (1, zI p1), (2, zI p2), (3, zI (v3_1 ||| (zshl (1 : Int32) v4_2))), (4, zI (v4_2 + 1))]) [2, 3, 4, 1, 0] rfl ?_
            exact hi ((v3_1 ||| (zshl (1 : Int32) v4_2)), (v4_2 + 1)) hf
    · refine z_iconst (pc := 8) (v := -1) (zdg D_X12_with 4 (8, .iconst (-1), 1) rfl) rfl ?_
      exact z_iret (pc := 9) rfl rfl (zdg D_X12_with 5 (9, .ireturn, 1) rfl) (hP _ hf)

def L_X12_apart : List (Nat × Instr × Nat) := [(0, .iload_n 0, 1), (1, .bipush 8, 2), (3, .irem, 1), (4, .iload_n 1, 1), (5, .bipush 8, 2), (7, .irem, 1), (8, .isub, 1), (9, .istore_n 2, 1), (10, .iload_n 0, 1), (11, .bipush 8, 2), (13, .idiv, 1), (14, .iload_n 1, 1), (15, .bipush 8, 2), (17, .idiv, 1), (18, .isub, 1), (19, .istore_n 3, 1), (20, .iload_n 2, 1), (21, .ifCond .ge 8, 3), (24, .iload_n 2, 1), (25, .ineg, 1), (26, .goto 4, 3), (29, .iload_n 2, 1), (30, .iload_n 3, 1), (31, .ifCond .ge 8, 3), (34, .iload_n 3, 1), (35, .ineg, 1), (36, .goto 4, 3), (39, .iload_n 3, 1), (40, .iadd, 1), (41, .ireturn, 1)]
set_option maxRecDepth 100000 in
theorem D_X12_apart : zdecs cX12_apart L_X12_apart = true := by decide +kernel
noncomputable def j_X12_apart_30 (w3_1 : Int32) (t2 : Int32) : Int32 :=
  if w3_1 < 0 then (t2 + (-w3_1)) else (t2 + w3_1)
noncomputable def f_X12_apart (p1 : Int32) (p2 : Int32) : Int32 :=
  if ((zrem p1 (8 : Int32)) - (zrem p2 (8 : Int32))) < 0 then j_X12_apart_30 ((p1 / (8 : Int32)) - (p2 / (8 : Int32))) (-((zrem p1 (8 : Int32)) - (zrem p2 (8 : Int32)))) else j_X12_apart_30 ((p1 / (8 : Int32)) - (p2 / (8 : Int32))) ((zrem p1 (8 : Int32)) - (zrem p2 (8 : Int32)))
set_option maxRecDepth 100000 in
set_option maxHeartbeats 4000000 in
theorem c_X12_apart (l : Launch) (p1 : Int32) (p2 : Int32) (σ : zG) : zMet l zsyM m_X12_apart yX12_apart [zI p1, zI p2] σ (some (zI (f_X12_apart p1 p2))) σ := by
  refine zEnter [(0, zI p1), (1, zI p2)] (by decide) rfl (fun _ => Nat.le_of_ble_eq_true rfl) (fun _ => rfl) (fun w h => ?_) (fun K hv hs => ?_)
  · exact zokm rfl h
  · have hP : ∀ x, f_X12_apart p1 p2 = x → zKv K = some (zI x) ∧ zKs K = σ := fun x h => by rw [h] at hv; exact ⟨hv, hs⟩
    have hf := f_X12_apart.eq_1 p1 p2
    have t_30 : ∀ (w3_1 : Int32) (t2 : Int32), f_X12_apart p1 p2 = j_X12_apart_30 w3_1 t2 → zX zsyM m_X12_apart K 30 [(3, zI w3_1)] [zI t2] σ := by
      intro w3_1 t2 hf
      replace hf := hf.trans (j_X12_apart_30.eq_1 w3_1 t2)
      refine z_iload_n (pc := 30) 0 (zdg D_X12_apart 22 (30, .iload_n 3, 1) rfl) rfl rfl ?_
      refine z_if_ge (pc := 31) 39 (zdg D_X12_apart 23 (31, .ifCond .ge 8, 3) rfl) rfl hf (fun hf => ?_) (fun hf => ?_)
      · refine z_iload_n (pc := 39) 0 (zdg D_X12_apart 27 (39, .iload_n 3, 1) rfl) rfl rfl ?_
        refine z_iadd (pc := 40) (zdg D_X12_apart 28 (40, .iadd, 1) rfl) ?_
        exact z_iret (pc := 41) rfl rfl (zdg D_X12_apart 29 (41, .ireturn, 1) rfl) (hP _ hf)
      · refine z_iload_n (pc := 34) 0 (zdg D_X12_apart 24 (34, .iload_n 3, 1) rfl) rfl rfl ?_
        refine z_ineg (pc := 35) (zdg D_X12_apart 25 (35, .ineg, 1) rfl) ?_
        refine z_goto (pc := 36) 40 (zdg D_X12_apart 26 (36, .goto 4, 3) rfl) rfl ?_
        refine z_iadd (pc := 40) (zdg D_X12_apart 28 (40, .iadd, 1) rfl) ?_
        exact z_iret (pc := 41) rfl rfl (zdg D_X12_apart 29 (41, .ireturn, 1) rfl) (hP _ hf)
    refine z_iload_n (pc := 0) 0 (zdg D_X12_apart 0 (0, .iload_n 0, 1) rfl) rfl rfl ?_
    refine z_bipush (pc := 1) (v := 8) (zdg D_X12_apart 1 (1, .bipush 8, 2) rfl) rfl ?_
    refine z_iremK (pc := 3) (zdg D_X12_apart 2 (3, .irem, 1) rfl) rfl ?_
    refine z_iload_n (pc := 4) 1 (zdg D_X12_apart 3 (4, .iload_n 1, 1) rfl) rfl rfl ?_
    refine z_bipush (pc := 5) (v := 8) (zdg D_X12_apart 4 (5, .bipush 8, 2) rfl) rfl ?_
    refine z_iremK (pc := 7) (zdg D_X12_apart 5 (7, .irem, 1) rfl) rfl ?_
    refine z_isub (pc := 8) (zdg D_X12_apart 6 (8, .isub, 1) rfl) ?_
    refine z_istore_n (pc := 9) (al' := [(2, zI ((zrem p1 (8 : Int32)) - (zrem p2 (8 : Int32)))), (0, zI p1), (1, zI p2)]) (zdg D_X12_apart 7 (9, .istore_n 2, 1) rfl) rfl (by decide) rfl ?_
    refine z_iload_n (pc := 10) 1 (zdg D_X12_apart 8 (10, .iload_n 0, 1) rfl) rfl rfl ?_
    refine z_bipush (pc := 11) (v := 8) (zdg D_X12_apart 9 (11, .bipush 8, 2) rfl) rfl ?_
    refine z_idivK (pc := 13) (zdg D_X12_apart 10 (13, .idiv, 1) rfl) rfl ?_
    refine z_iload_n (pc := 14) 2 (zdg D_X12_apart 11 (14, .iload_n 1, 1) rfl) rfl rfl ?_
    refine z_bipush (pc := 15) (v := 8) (zdg D_X12_apart 12 (15, .bipush 8, 2) rfl) rfl ?_
    refine z_idivK (pc := 17) (zdg D_X12_apart 13 (17, .idiv, 1) rfl) rfl ?_
    refine z_isub (pc := 18) (zdg D_X12_apart 14 (18, .isub, 1) rfl) ?_
    refine z_istore_n (pc := 19) (al' := [(3, zI ((p1 / (8 : Int32)) - (p2 / (8 : Int32)))), (2, zI ((zrem p1 (8 : Int32)) - (zrem p2 (8 : Int32)))), (0, zI p1), (1, zI p2)]) (zdg D_X12_apart 15 (19, .istore_n 3, 1) rfl) rfl (by decide) rfl ?_
    refine z_iload_n (pc := 20) 1 (zdg D_X12_apart 16 (20, .iload_n 2, 1) rfl) rfl rfl ?_
    refine z_if_ge (pc := 21) 29 (zdg D_X12_apart 17 (21, .ifCond .ge 8, 3) rfl) rfl hf (fun hf => ?_) (fun hf => ?_)
    · refine z_iload_n (pc := 29) 1 (zdg D_X12_apart 21 (29, .iload_n 2, 1) rfl) rfl rfl ?_
      refine z_sub (al' := [(3, zI ((p1 / (8 : Int32)) - (p2 / (8 : Int32))))]) [0] rfl ?_
      exact t_30 ((p1 / (8 : Int32)) - (p2 / (8 : Int32))) ((zrem p1 (8 : Int32)) - (zrem p2 (8 : Int32))) hf
    · refine z_iload_n (pc := 24) 1 (zdg D_X12_apart 18 (24, .iload_n 2, 1) rfl) rfl rfl ?_
      refine z_ineg (pc := 25) (zdg D_X12_apart 19 (25, .ineg, 1) rfl) ?_
      refine z_goto (pc := 26) 30 (zdg D_X12_apart 20 (26, .goto 4, 3) rfl) rfl ?_
      refine z_sub (al' := [(3, zI ((p1 / (8 : Int32)) - (p2 / (8 : Int32))))]) [0] rfl ?_
      exact t_30 ((p1 / (8 : Int32)) - (p2 / (8 : Int32))) (-((zrem p1 (8 : Int32)) - (zrem p2 (8 : Int32)))) hf

def L_X12_twos : List (Nat × Instr × Nat) := [(0, .iload_n 1, 1), (1, .invokestatic 350, 3), (4, .ifCond .ne 5, 3), (7, .iconst (-1), 1), (8, .ireturn, 1), (9, .iconst 0, 1), (10, .istore_n 2, 1), (11, .iconst 0, 1), (12, .istore_n 3, 1), (13, .iload_n 3, 1), (14, .aload_n 0, 1), (15, .getfield 7, 3), (18, .bipush 36, 2), (20, .iaload, 1), (21, .if_icmp .ge 73, 3), (24, .iconst 0, 1), (25, .istore 4, 2), (27, .iload 4, 2), (29, .iload_n 3, 1), (30, .if_icmp .ge 58, 3), (33, .iload_n 2, 1), (34, .aload_n 0, 1), (35, .iload_n 3, 1), (36, .iload_n 1, 1), (37, .invokevirtual 303, 3), (40, .iconst (-1), 1), (41, .if_icmp .eq 38, 3), (44, .aload_n 0, 1), (45, .iload 4, 2), (47, .iload_n 1, 1), (48, .invokevirtual 303, 3), (51, .iconst (-1), 1), (52, .if_icmp .eq 27, 3), (55, .aload_n 0, 1), (56, .iload_n 3, 1), (57, .iload_n 1, 1), (58, .invokevirtual 303, 3), (61, .aload_n 0, 1), (62, .iload 4, 2), (64, .iload_n 1, 1), (65, .invokevirtual 303, 3), (68, .invokestatic 430, 3), (71, .iconst 2, 1), (72, .if_icmp .ge 7, 3), (75, .iconst 1, 1), (76, .goto 4, 3), (79, .iconst 0, 1), (80, .iadd, 1), (81, .istore_n 2, 1), (82, .iinc 4 1, 3), (85, .goto (-58), 3), (88, .iinc 3 1, 3), (91, .goto (-78), 3), (94, .iload_n 2, 1), (95, .ireturn, 1)]
set_option maxRecDepth 100000 in
theorem D_X12_twos : zdecs cX12_twos L_X12_twos = true := by decide +kernel
noncomputable def b_X12_twos_27 (v3_3 : Int32) (p1 : Int32) (σ : zG) (v2_4 : Int32) (v4_5 : Int32) : Option ((Int32 × Int32) ⊕ (Int32)) :=
  if v4_5 < v3_3 then (f_X12_placeOf v3_3 p1 σ).bind (fun q6 => if q6 = (-1 : Int32) then some (Sum.inl ((v2_4 + (0 : Int32)), (v4_5 + 1))) else (f_X12_placeOf v4_5 p1 σ).bind (fun q7 => if q7 = (-1 : Int32) then some (Sum.inl ((v2_4 + (0 : Int32)), (v4_5 + 1))) else (f_X12_placeOf v3_3 p1 σ).bind (fun q8 => (f_X12_placeOf v4_5 p1 σ).bind (fun q9 => if (f_X12_apart q8 q9) < (2 : Int32) then some (Sum.inl ((v2_4 + (1 : Int32)), (v4_5 + 1))) else some (Sum.inl ((v2_4 + (0 : Int32)), (v4_5 + 1))))))) else some (Sum.inr v2_4)
noncomputable def b_X12_twos_13 (σ : zG) (p1 : Int32) (v2_2 : Int32) (v3_3 : Int32) : Option ((Int32 × Int32) ⊕ (Int32)) :=
  if v3_3 < (σ.1 1 0 36) then (zlp (fun q : Int32 × Int32 => b_X12_twos_27 v3_3 p1 σ q.1 q.2) (v2_2, (0 : Int32))).bind (fun e10 : Int32 => some (Sum.inl (e10, (v3_3 + 1)))) else some (Sum.inr v2_2)
noncomputable def f_X12_twos (p1 : Int32) (σ : zG) : Option (Int32) :=
  (f_X12_isMinute p1).bind (fun q1 => if q1 = 0 then some (-1 : Int32) else (zlp (fun q : Int32 × Int32 => b_X12_twos_13 σ p1 q.1 q.2) ((0 : Int32), (0 : Int32))).bind (fun e11 : Int32 => some e11))
set_option maxRecDepth 100000 in
set_option maxHeartbeats 4000000 in
theorem c_X12_twos (l : Launch) (p1 : Int32) (σ : zG) (q : Int32) (hq : f_X12_twos p1 σ = some q) : zMet l zsyM m_X12_twos yX12_twos [zR 0 0, zI p1] σ (some (zI q)) σ := by
  refine zEnter [(0, zR 0 0), (1, zI p1)] (by decide) rfl (fun _ => Nat.le_of_ble_eq_true rfl) (fun _ => rfl) (fun w h => ?_) (fun K hv hs => ?_)
  · exact zokm rfl h
  · have hP : ∀ x, f_X12_twos p1 σ = some x → zKv K = some (zI x) ∧ zKs K = σ := fun x h => by rw [hq] at h; cases h; exact ⟨hv, hs⟩
    have hn : f_X12_twos p1 σ ≠ none := fun z => by rw [hq] at z; cases z
    have hf := f_X12_twos.eq_1 p1 σ
    refine z_iload_n (pc := 0) 1 (zdg D_X12_twos 0 (0, .iload_n 1, 1) rfl) rfl rfl ?_
    refine z_bind hn hf (fun q1 hq hf => ?_)
    refine z_callS (pc := 1) (rest := []) (st2 := [zI q1]) (fun l => c_X12_isMinute l p1 σ q1 hq) zs_X12_isMinute lm_X12_350 rfl rfl rfl (Nat.le_of_ble_eq_true rfl) ⟨Nat.le_of_ble_eq_true rfl, Nat.le_of_ble_eq_true rfl⟩ (zdg D_X12_twos 1 (1, .invokestatic 350, 3) rfl) ?_
    refine z_if_ne (pc := 4) 9 (zdg D_X12_twos 2 (4, .ifCond .ne 5, 3) rfl) rfl hf (fun hf => ?_) (fun hf => ?_)
    · refine z_iconst (pc := 9) (v := 0) (zdg D_X12_twos 5 (9, .iconst 0, 1) rfl) rfl ?_
      refine z_istore_n (pc := 10) (al' := [(2, zI (0 : Int32)), (0, zR 0 0), (1, zI p1)]) (zdg D_X12_twos 6 (10, .istore_n 2, 1) rfl) rfl (by decide) rfl ?_
      refine z_iconst (pc := 11) (v := 0) (zdg D_X12_twos 7 (11, .iconst 0, 1) rfl) rfl ?_
      refine z_istore_n (pc := 12) (al' := [(3, zI (0 : Int32)), (2, zI (0 : Int32)), (0, zR 0 0), (1, zI p1)]) (zdg D_X12_twos 8 (12, .istore_n 3, 1) rfl) rfl (by decide) rfl ?_
      refine z_sub (al' := [(0, zR 0 0), (1, zI p1), (2, zI (0 : Int32)), (3, zI (0 : Int32))]) [2, 3, 1, 0] rfl ?_
      refine z_loop (f := (fun q : Int32 × Int32 => b_X12_twos_13 σ p1 q.1 q.2)) (a := ((0 : Int32), (0 : Int32))) (fun q : Int32 × Int32 => zX zsyM m_X12_twos K 13 [(0, zR 0 0), (1, zI p1), (2, zI q.1), (3, zI q.2)] [] σ) (fun e11 : Int32 => zX zsyM m_X12_twos K 94 [(2, zI e11)] [] σ) hn hf ?_ ?_
      · intro e11 hf
        refine z_iload_n (pc := 94) 0 (zdg D_X12_twos 53 (94, .iload_n 2, 1) rfl) rfl rfl ?_
        exact z_iret (pc := 95) rfl rfl (zdg D_X12_twos 54 (95, .ireturn, 1) rfl) (hP _ hf)
      · rintro ⟨v2_2, v3_3⟩ hn hi hx
        have hf := b_X12_twos_13.eq_1 σ p1 v2_2 v3_3
        refine z_iload_n (pc := 13) 3 (zdg D_X12_twos 9 (13, .iload_n 3, 1) rfl) rfl rfl ?_
        refine z_aload_n (pc := 14) 0 (zdg D_X12_twos 10 (14, .aload_n 0, 1) rfl) rfl rfl ?_
        refine z_getR (pc := 15) (g := 1) (j := 0) lf_X12_7 rfl rfl rfl (zdg D_X12_twos 11 (15, .getfield 7, 3) rfl) ?_
        refine z_bipush (pc := 18) (v := 36) (zdg D_X12_twos 12 (18, .bipush 36, 2) rfl) rfl ?_
        refine z_ialdC (pc := 20) (j := 36) rfl (fun _ => rfl) (zdg D_X12_twos 13 (20, .iaload, 1) rfl) rfl rfl ?_
        refine z_icmp_ge (pc := 21) 94 (zdg D_X12_twos 14 (21, .if_icmp .ge 73, 3) rfl) rfl hf (fun hf => ?_) (fun hf => ?_)
        · refine z_sub (al' := [(2, zI v2_2)]) [2] rfl ?_
          exact hx v2_2 hf
        · refine z_iconst (pc := 24) (v := 0) (zdg D_X12_twos 15 (24, .iconst 0, 1) rfl) rfl ?_
          refine z_istore (pc := 25) (al' := [(4, zI (0 : Int32)), (0, zR 0 0), (1, zI p1), (2, zI v2_2), (3, zI v3_3)]) (zdg D_X12_twos 16 (25, .istore 4, 2) rfl) (by decide) rfl ?_
          refine z_sub (al' := [(0, zR 0 0), (1, zI p1), (2, zI v2_2), (3, zI v3_3), (4, zI (0 : Int32))]) [1, 2, 3, 4, 0] rfl ?_
          refine z_loop (f := (fun q : Int32 × Int32 => b_X12_twos_27 v3_3 p1 σ q.1 q.2)) (a := (v2_2, (0 : Int32))) (fun q : Int32 × Int32 => zX zsyM m_X12_twos K 27 [(0, zR 0 0), (1, zI p1), (2, zI q.1), (3, zI v3_3), (4, zI q.2)] [] σ) (fun e10 : Int32 => zX zsyM m_X12_twos K 88 [(0, zR 0 0), (1, zI p1), (2, zI e10), (3, zI v3_3)] [] σ) hn hf ?_ ?_
          · intro e10 hf
            refine z_iinc (pc := 88) (v0 := (v3_3 + 1)) (al' := [(3, zI (v3_3 + 1)), (0, zR 0 0), (1, zI p1), (2, zI e10)]) 3 (zdg D_X12_twos 51 (88, .iinc 3 1, 3) rfl) rfl rfl (by decide) rfl ?_
            refine z_goto (pc := 91) 13 (zdg D_X12_twos 52 (91, .goto (-78), 3) rfl) rfl ?_
            refine z_sub (al' := [(0, zR 0 0), (1, zI p1), (2, zI e10), (3, zI (v3_3 + 1))]) [1, 2, 3, 0] rfl ?_
            exact hi (e10, (v3_3 + 1)) hf
          · rintro ⟨v2_4, v4_5⟩ hn hi hx
            have hf := b_X12_twos_27.eq_1 v3_3 p1 σ v2_4 v4_5
            refine z_iload (pc := 27) 4 (zdg D_X12_twos 17 (27, .iload 4, 2) rfl) rfl ?_
            refine z_iload_n (pc := 29) 3 (zdg D_X12_twos 18 (29, .iload_n 3, 1) rfl) rfl rfl ?_
            refine z_icmp_ge (pc := 30) 88 (zdg D_X12_twos 19 (30, .if_icmp .ge 58, 3) rfl) rfl hf (fun hf => ?_) (fun hf => ?_)
            · refine z_sub (al' := [(0, zR 0 0), (1, zI p1), (2, zI v2_4), (3, zI v3_3)]) [0, 1, 2, 3] rfl ?_
              exact hx v2_4 hf
            · refine z_iload_n (pc := 33) 2 (zdg D_X12_twos 20 (33, .iload_n 2, 1) rfl) rfl rfl ?_
              refine z_aload_n (pc := 34) 0 (zdg D_X12_twos 21 (34, .aload_n 0, 1) rfl) rfl rfl ?_
              refine z_iload_n (pc := 35) 3 (zdg D_X12_twos 22 (35, .iload_n 3, 1) rfl) rfl rfl ?_
              refine z_iload_n (pc := 36) 1 (zdg D_X12_twos 23 (36, .iload_n 1, 1) rfl) rfl rfl ?_
              refine z_bind hn hf (fun q6 hq hf => ?_)
              refine z_callV (pc := 37) (rest := [zI v2_4]) (st2 := [zI q6, zI v2_4]) (fun l => c_X12_placeOf l v3_3 p1 σ q6 hq) zv_X12_placeOf lm_X12_303 rfl rfl rfl rfl rfl rfl (Nat.le_of_ble_eq_true rfl) ⟨Nat.le_of_ble_eq_true rfl, Nat.le_of_ble_eq_true rfl⟩ (zdg D_X12_twos 24 (37, .invokevirtual 303, 3) rfl) ?_
              refine z_iconst (pc := 40) (v := -1) (zdg D_X12_twos 25 (40, .iconst (-1), 1) rfl) rfl ?_
              refine z_icmp_eq (pc := 41) 79 (zdg D_X12_twos 26 (41, .if_icmp .eq 38, 3) rfl) rfl hf (fun hf => ?_) (fun hf => ?_)
              · refine z_iconst (pc := 79) (v := 0) (zdg D_X12_twos 46 (79, .iconst 0, 1) rfl) rfl ?_
                refine z_iadd (pc := 80) (zdg D_X12_twos 47 (80, .iadd, 1) rfl) ?_
                refine z_istore_n (pc := 81) (al' := [(2, zI (v2_4 + (0 : Int32))), (0, zR 0 0), (1, zI p1), (3, zI v3_3), (4, zI v4_5)]) (zdg D_X12_twos 48 (81, .istore_n 2, 1) rfl) rfl (by decide) rfl ?_
                refine z_iinc (pc := 82) (v0 := (v4_5 + 1)) (al' := [(4, zI (v4_5 + 1)), (2, zI (v2_4 + (0 : Int32))), (0, zR 0 0), (1, zI p1), (3, zI v3_3)]) 4 (zdg D_X12_twos 49 (82, .iinc 4 1, 3) rfl) rfl rfl (by decide) rfl ?_
                refine z_goto (pc := 85) 27 (zdg D_X12_twos 50 (85, .goto (-58), 3) rfl) rfl ?_
                refine z_sub (al' := [(0, zR 0 0), (1, zI p1), (2, zI (v2_4 + (0 : Int32))), (3, zI v3_3), (4, zI (v4_5 + 1))]) [2, 3, 1, 4, 0] rfl ?_
                exact hi ((v2_4 + (0 : Int32)), (v4_5 + 1)) hf
              · refine z_aload_n (pc := 44) 0 (zdg D_X12_twos 27 (44, .aload_n 0, 1) rfl) rfl rfl ?_
                refine z_iload (pc := 45) 4 (zdg D_X12_twos 28 (45, .iload 4, 2) rfl) rfl ?_
                refine z_iload_n (pc := 47) 1 (zdg D_X12_twos 29 (47, .iload_n 1, 1) rfl) rfl rfl ?_
                refine z_bind hn hf (fun q7 hq hf => ?_)
                refine z_callV (pc := 48) (rest := [zI v2_4]) (st2 := [zI q7, zI v2_4]) (fun l => c_X12_placeOf l v4_5 p1 σ q7 hq) zv_X12_placeOf lm_X12_303 rfl rfl rfl rfl rfl rfl (Nat.le_of_ble_eq_true rfl) ⟨Nat.le_of_ble_eq_true rfl, Nat.le_of_ble_eq_true rfl⟩ (zdg D_X12_twos 30 (48, .invokevirtual 303, 3) rfl) ?_
                refine z_iconst (pc := 51) (v := -1) (zdg D_X12_twos 31 (51, .iconst (-1), 1) rfl) rfl ?_
                refine z_icmp_eq (pc := 52) 79 (zdg D_X12_twos 32 (52, .if_icmp .eq 27, 3) rfl) rfl hf (fun hf => ?_) (fun hf => ?_)
                · refine z_iconst (pc := 79) (v := 0) (zdg D_X12_twos 46 (79, .iconst 0, 1) rfl) rfl ?_
                  refine z_iadd (pc := 80) (zdg D_X12_twos 47 (80, .iadd, 1) rfl) ?_
                  refine z_istore_n (pc := 81) (al' := [(2, zI (v2_4 + (0 : Int32))), (0, zR 0 0), (1, zI p1), (3, zI v3_3), (4, zI v4_5)]) (zdg D_X12_twos 48 (81, .istore_n 2, 1) rfl) rfl (by decide) rfl ?_
                  refine z_iinc (pc := 82) (v0 := (v4_5 + 1)) (al' := [(4, zI (v4_5 + 1)), (2, zI (v2_4 + (0 : Int32))), (0, zR 0 0), (1, zI p1), (3, zI v3_3)]) 4 (zdg D_X12_twos 49 (82, .iinc 4 1, 3) rfl) rfl rfl (by decide) rfl ?_
                  refine z_goto (pc := 85) 27 (zdg D_X12_twos 50 (85, .goto (-58), 3) rfl) rfl ?_
                  refine z_sub (al' := [(0, zR 0 0), (1, zI p1), (2, zI (v2_4 + (0 : Int32))), (3, zI v3_3), (4, zI (v4_5 + 1))]) [2, 3, 1, 4, 0] rfl ?_
                  exact hi ((v2_4 + (0 : Int32)), (v4_5 + 1)) hf
                · refine z_aload_n (pc := 55) 0 (zdg D_X12_twos 33 (55, .aload_n 0, 1) rfl) rfl rfl ?_
                  refine z_iload_n (pc := 56) 3 (zdg D_X12_twos 34 (56, .iload_n 3, 1) rfl) rfl rfl ?_
                  refine z_iload_n (pc := 57) 1 (zdg D_X12_twos 35 (57, .iload_n 1, 1) rfl) rfl rfl ?_
                  refine z_bind hn hf (fun q8 hq hf => ?_)
                  refine z_callV (pc := 58) (rest := [zI v2_4]) (st2 := [zI q8, zI v2_4]) (fun l => c_X12_placeOf l v3_3 p1 σ q8 hq) zv_X12_placeOf lm_X12_303 rfl rfl rfl rfl rfl rfl (Nat.le_of_ble_eq_true rfl) ⟨Nat.le_of_ble_eq_true rfl, Nat.le_of_ble_eq_true rfl⟩ (zdg D_X12_twos 36 (58, .invokevirtual 303, 3) rfl) ?_
                  refine z_aload_n (pc := 61) 0 (zdg D_X12_twos 37 (61, .aload_n 0, 1) rfl) rfl rfl ?_
                  refine z_iload (pc := 62) 4 (zdg D_X12_twos 38 (62, .iload 4, 2) rfl) rfl ?_
                  refine z_iload_n (pc := 64) 1 (zdg D_X12_twos 39 (64, .iload_n 1, 1) rfl) rfl rfl ?_
                  refine z_bind hn hf (fun q9 hq hf => ?_)
                  refine z_callV (pc := 65) (rest := [zI q8, zI v2_4]) (st2 := [zI q9, zI q8, zI v2_4]) (fun l => c_X12_placeOf l v4_5 p1 σ q9 hq) zv_X12_placeOf lm_X12_303 rfl rfl rfl rfl rfl rfl (Nat.le_of_ble_eq_true rfl) ⟨Nat.le_of_ble_eq_true rfl, Nat.le_of_ble_eq_true rfl⟩ (zdg D_X12_twos 40 (65, .invokevirtual 303, 3) rfl) ?_
                  refine z_callS (pc := 68) (rest := [zI v2_4]) (st2 := [zI (f_X12_apart q8 q9), zI v2_4]) (fun l => c_X12_apart l q8 q9 σ) zs_X12_apart lm_X12_430 rfl rfl rfl (Nat.le_of_ble_eq_true rfl) ⟨Nat.le_of_ble_eq_true rfl, Nat.le_of_ble_eq_true rfl⟩ (zdg D_X12_twos 41 (68, .invokestatic 430, 3) rfl) ?_
                  refine z_iconst (pc := 71) (v := 2) (zdg D_X12_twos 42 (71, .iconst 2, 1) rfl) rfl ?_
                  refine z_icmp_ge (pc := 72) 79 (zdg D_X12_twos 43 (72, .if_icmp .ge 7, 3) rfl) rfl hf (fun hf => ?_) (fun hf => ?_)
                  · refine z_iconst (pc := 79) (v := 0) (zdg D_X12_twos 46 (79, .iconst 0, 1) rfl) rfl ?_
                    refine z_iadd (pc := 80) (zdg D_X12_twos 47 (80, .iadd, 1) rfl) ?_
                    refine z_istore_n (pc := 81) (al' := [(2, zI (v2_4 + (0 : Int32))), (0, zR 0 0), (1, zI p1), (3, zI v3_3), (4, zI v4_5)]) (zdg D_X12_twos 48 (81, .istore_n 2, 1) rfl) rfl (by decide) rfl ?_
                    refine z_iinc (pc := 82) (v0 := (v4_5 + 1)) (al' := [(4, zI (v4_5 + 1)), (2, zI (v2_4 + (0 : Int32))), (0, zR 0 0), (1, zI p1), (3, zI v3_3)]) 4 (zdg D_X12_twos 49 (82, .iinc 4 1, 3) rfl) rfl rfl (by decide) rfl ?_
                    refine z_goto (pc := 85) 27 (zdg D_X12_twos 50 (85, .goto (-58), 3) rfl) rfl ?_
                    refine z_sub (al' := [(0, zR 0 0), (1, zI p1), (2, zI (v2_4 + (0 : Int32))), (3, zI v3_3), (4, zI (v4_5 + 1))]) [2, 3, 1, 4, 0] rfl ?_
                    exact hi ((v2_4 + (0 : Int32)), (v4_5 + 1)) hf
                  · refine z_iconst (pc := 75) (v := 1) (zdg D_X12_twos 44 (75, .iconst 1, 1) rfl) rfl ?_
                    refine z_goto (pc := 76) 80 (zdg D_X12_twos 45 (76, .goto 4, 3) rfl) rfl ?_
                    refine z_iadd (pc := 80) (zdg D_X12_twos 47 (80, .iadd, 1) rfl) ?_
                    refine z_istore_n (pc := 81) (al' := [(2, zI (v2_4 + (1 : Int32))), (0, zR 0 0), (1, zI p1), (3, zI v3_3), (4, zI v4_5)]) (zdg D_X12_twos 48 (81, .istore_n 2, 1) rfl) rfl (by decide) rfl ?_
                    refine z_iinc (pc := 82) (v0 := (v4_5 + 1)) (al' := [(4, zI (v4_5 + 1)), (2, zI (v2_4 + (1 : Int32))), (0, zR 0 0), (1, zI p1), (3, zI v3_3)]) 4 (zdg D_X12_twos 49 (82, .iinc 4 1, 3) rfl) rfl rfl (by decide) rfl ?_
                    refine z_goto (pc := 85) 27 (zdg D_X12_twos 50 (85, .goto (-58), 3) rfl) rfl ?_
                    refine z_sub (al' := [(0, zR 0 0), (1, zI p1), (2, zI (v2_4 + (1 : Int32))), (3, zI v3_3), (4, zI (v4_5 + 1))]) [2, 3, 1, 4, 0] rfl ?_
                    exact hi ((v2_4 + (1 : Int32)), (v4_5 + 1)) hf
    · refine z_iconst (pc := 7) (v := -1) (zdg D_X12_twos 3 (7, .iconst (-1), 1) rfl) rfl ?_
      exact z_iret (pc := 8) rfl rfl (zdg D_X12_twos 4 (8, .ireturn, 1) rfl) (hP _ hf)

def L_X12_two : List (Nat × Instr × Nat) := [(0, .iload_n 1, 1), (1, .iconst 0, 1), (2, .iconst 1, 1), (3, .invokestatic 64, 3), (6, .ifCond .ne 5, 3), (9, .iconst (-1), 1), (10, .ireturn, 1), (11, .sipush 500, 3), (14, .aload_n 0, 1), (15, .getfield 7, 3), (18, .iconst 0, 1), (19, .iaload, 1), (20, .bipush 60, 2), (22, .iadd, 1), (23, .invokestatic 290, 3), (26, .istore_n 2, 1), (27, .aload_n 0, 1), (28, .getfield 7, 3), (31, .iconst 0, 1), (32, .iaload, 1), (33, .istore_n 3, 1), (34, .iload_n 3, 1), (35, .iload_n 2, 1), (36, .if_icmp .gt 78, 3), (39, .aload_n 0, 1), (40, .getfield 54, 3), (43, .iload_n 3, 1), (44, .aload_n 0, 1), (45, .getfield 7, 3), (48, .iconst 0, 1), (49, .iaload, 1), (50, .isub, 1), (51, .lconst 0, 1), (52, .lastore, 1), (53, .iconst 0, 1), (54, .istore 4, 2), (56, .iload 4, 2), (58, .bipush 64, 2), (60, .if_icmp .ge 48, 3), (63, .aload_n 0, 1), (64, .iload 4, 2), (66, .invokevirtual 320, 3), (69, .ifCond .eq 33, 3), (72, .aload_n 0, 1), (73, .iload 4, 2), (75, .iload_n 3, 1), (76, .invokevirtual 323, 3), (79, .ifCond .eq 23, 3), (82, .aload_n 0, 1), (83, .getfield 54, 3), (86, .iload_n 3, 1), (87, .aload_n 0, 1), (88, .getfield 7, 3), (91, .iconst 0, 1), (92, .iaload, 1), (93, .isub, 1), (94, .dup2, 1), (95, .laload, 1), (96, .lconst 1, 1), (97, .iload 4, 2), (99, .lshl, 1), (100, .lor, 1), (101, .lastore, 1), (102, .iinc 4 1, 3), (105, .goto (-49), 3), (108, .iinc 3 1, 3), (111, .goto (-77), 3), (114, .iconst 0, 1), (115, .istore_n 3, 1), (116, .iload_n 3, 1), (117, .iload_n 2, 1), (118, .aload_n 0, 1), (119, .getfield 7, 3), (122, .iconst 0, 1), (123, .iaload, 1), (124, .isub, 1), (125, .if_icmp .ge 70, 3), (128, .iload_n 3, 1), (129, .iconst 1, 1), (130, .iadd, 1), (131, .istore 4, 2), (133, .iload 4, 2), (135, .iload_n 2, 1), (136, .aload_n 0, 1), (137, .getfield 7, 3), (140, .iconst 0, 1), (141, .iaload, 1), (142, .isub, 1), (143, .if_icmp .gt 46, 3), (146, .aload_n 0, 1), (147, .getfield 54, 3), (150, .iload_n 3, 1), (151, .laload, 1), (152, .aload_n 0, 1), (153, .getfield 54, 3), (156, .iload 4, 2), (158, .laload, 1), (159, .land, 1), (160, .lconst 0, 1), (161, .lcmp, 1), (162, .ifCond .ne 21, 3), (165, .aload_n 0, 1), (166, .getfield 7, 3), (169, .iconst 0, 1), (170, .iaload, 1), (171, .iload_n 1, 1), (172, .ifCond .ne 7, 3), (175, .iload_n 3, 1), (176, .goto 5, 3), (179, .iload 4, 2), (181, .iadd, 1), (182, .ireturn, 1), (183, .iinc 4 1, 3), (186, .goto (-53), 3), (189, .iinc 3 1, 3), (192, .goto (-76), 3), (195, .iconst (-1), 1), (196, .ireturn, 1)]
set_option maxRecDepth 100000 in
theorem D_X12_two : zdecs cX12_two L_X12_two = true := by decide +kernel
noncomputable def b_X12_two_56 (v3_1 : Int32) (v4_4 : Int32) (s5 : zG) : Option ((Int32 × zG) ⊕ (zG)) :=
  if v4_4 < (64 : Int32) then (f_X12_isInView v4_4 s5).bind (fun q6 => if q6 = 0 then some (Sum.inl ((v4_4 + 1), s5)) else (f_X12_isCovered v4_4 v3_1 s5).bind (fun q7 => if q7 = 0 then some (Sum.inl ((v4_4 + 1), s5)) else zg (zin (v3_1 - (s5.1 1 0 0)) 61) (zg (zin (v3_1 - (s5.1 1 0 0)) 61) (zb (zwL s5 14 0 (v3_1 - (s5.1 1 0 0)).toNatClampNeg ((s5.2 14 0 (v3_1 - (s5.1 1 0 0)).toNatClampNeg) ||| (zlshl (1 : Int64) v4_4))) (fun s8 => some (Sum.inl ((v4_4 + 1), s8))))))) else some (Sum.inr s5)
noncomputable def b_X12_two_34 (σ : zG) (v3_1 : Int32) (s2 : zG) : Option ((Int32 × zG) ⊕ (zG)) :=
  if v3_1 ≤ (f_X12_lesser (500 : Int32) ((σ.1 1 0 0) + (60 : Int32))) then zg (zin (v3_1 - (s2.1 1 0 0)) 61) (zb (zwL s2 14 0 (v3_1 - (s2.1 1 0 0)).toNatClampNeg (0 : Int64)) (fun s3 => (zlp (fun q : Int32 × zG => b_X12_two_56 v3_1 q.1 q.2) ((0 : Int32), s3)).bind (fun e9 : zG => some (Sum.inl ((v3_1 + 1), e9))))) else some (Sum.inr s2)
noncomputable def b_X12_two_133 (σ : zG) (e10 : zG) (v3_11 : Int32) (v4_12 : Int32) : Option ((Int32) ⊕ ((Int32) ⊕ (Unit))) :=
  if v4_12 ≤ ((f_X12_lesser (500 : Int32) ((σ.1 1 0 0) + (60 : Int32))) - (e10.1 1 0 0)) then zg (zin v3_11 61) (zg (zin v4_12 61) (if (lg_cmp ((e10.2 14 0 v3_11.toNatClampNeg) &&& (e10.2 14 0 v4_12.toNatClampNeg)) (0 : Int64)) = 0 then some (Sum.inr (Sum.inl v4_12)) else some (Sum.inl (v4_12 + 1)))) else some (Sum.inr (Sum.inr ()))
noncomputable def b_X12_two_116 (σ : zG) (e10 : zG) (v3_11 : Int32) : Option ((Int32) ⊕ ((Int32 × Int32) ⊕ (Unit))) :=
  if v3_11 < ((f_X12_lesser (500 : Int32) ((σ.1 1 0 0) + (60 : Int32))) - (e10.1 1 0 0)) then (zlp (fun q : Int32 => b_X12_two_133 σ e10 v3_11 q) (v3_11 + (1 : Int32))).bind (Sum.elim (fun e13 : Int32 => some (Sum.inr (Sum.inl (v3_11, e13)))) (fun e14 : Unit => some (Sum.inl (v3_11 + 1)))) else some (Sum.inr (Sum.inr ()))
noncomputable def f_X12_two (p1 : Int32) (σ : zG) : Option (Int32 × zG) :=
  if (f_X12_isIn p1 (0 : Int32) (1 : Int32)) = 0 then some ((-1 : Int32), σ) else (zlp (fun q : Int32 × zG => b_X12_two_34 σ q.1 q.2) ((σ.1 1 0 0), σ)).bind (fun e10 : zG => (zlp (fun q : Int32 => b_X12_two_116 σ e10 q) (0 : Int32)).bind (Sum.elim (fun e15 : Int32 × Int32 => if p1 = 0 then some (((e10.1 1 0 0) + e15.1), e10) else some (((e10.1 1 0 0) + e15.2), e10)) (fun e16 : Unit => some ((-1 : Int32), e10))))
set_option maxRecDepth 100000 in
set_option maxHeartbeats 4000000 in
theorem c_X12_two (l : Launch) (p1 : Int32) (σ : zG) (q : Int32 × zG) (hq : f_X12_two p1 σ = some q) : zMet l zsyM m_X12_two yX12_two [zR 0 0, zI p1] σ (some (zI q.1)) q.2 := by
  refine zEnter [(0, zR 0 0), (1, zI p1)] (by decide) rfl (fun _ => Nat.le_of_ble_eq_true rfl) (fun _ => rfl) (fun w h => ?_) (fun K hv hs => ?_)
  · exact zokm rfl h
  · have hP : ∀ x s, f_X12_two p1 σ = some (x, s) → zKv K = some (zI x) ∧ zKs K = s := fun x s h => by rw [hq] at h; cases h; exact ⟨hv, hs⟩
    have hn : f_X12_two p1 σ ≠ none := fun z => by rw [hq] at z; cases z
    have hf := f_X12_two.eq_1 p1 σ
    refine z_iload_n (pc := 0) 1 (zdg D_X12_two 0 (0, .iload_n 1, 1) rfl) rfl rfl ?_
    refine z_iconst (pc := 1) (v := 0) (zdg D_X12_two 1 (1, .iconst 0, 1) rfl) rfl ?_
    refine z_iconst (pc := 2) (v := 1) (zdg D_X12_two 2 (2, .iconst 1, 1) rfl) rfl ?_
    refine z_callS (pc := 3) (rest := []) (st2 := [zI (f_X12_isIn p1 (0 : Int32) (1 : Int32))]) (fun l => c_X12_isIn l p1 (0 : Int32) (1 : Int32) σ) zs_X12_isIn lm_X12_64 rfl rfl rfl (Nat.le_of_ble_eq_true rfl) ⟨Nat.le_of_ble_eq_true rfl, Nat.le_of_ble_eq_true rfl⟩ (zdg D_X12_two 3 (3, .invokestatic 64, 3) rfl) ?_
    refine z_if_ne (pc := 6) 11 (zdg D_X12_two 4 (6, .ifCond .ne 5, 3) rfl) rfl hf (fun hf => ?_) (fun hf => ?_)
    · refine z_sipush (pc := 11) (v := 500) (zdg D_X12_two 7 (11, .sipush 500, 3) rfl) rfl ?_
      refine z_aload_n (pc := 14) 0 (zdg D_X12_two 8 (14, .aload_n 0, 1) rfl) rfl rfl ?_
      refine z_getR (pc := 15) (g := 1) (j := 0) lf_X12_7 rfl rfl rfl (zdg D_X12_two 9 (15, .getfield 7, 3) rfl) ?_
      refine z_iconst (pc := 18) (v := 0) (zdg D_X12_two 10 (18, .iconst 0, 1) rfl) rfl ?_
      refine z_ialdC (pc := 19) (j := 0) rfl (fun _ => rfl) (zdg D_X12_two 11 (19, .iaload, 1) rfl) rfl rfl ?_
      refine z_bipush (pc := 20) (v := 60) (zdg D_X12_two 12 (20, .bipush 60, 2) rfl) rfl ?_
      refine z_iadd (pc := 22) (zdg D_X12_two 13 (22, .iadd, 1) rfl) ?_
      refine z_callS (pc := 23) (rest := []) (st2 := [zI (f_X12_lesser (500 : Int32) ((σ.1 1 0 0) + (60 : Int32)))]) (fun l => c_X12_lesser l (500 : Int32) ((σ.1 1 0 0) + (60 : Int32)) σ) zs_X12_lesser lm_X12_290 rfl rfl rfl (Nat.le_of_ble_eq_true rfl) ⟨Nat.le_of_ble_eq_true rfl, Nat.le_of_ble_eq_true rfl⟩ (zdg D_X12_two 14 (23, .invokestatic 290, 3) rfl) ?_
      refine z_istore_n (pc := 26) (al' := [(2, zI (f_X12_lesser (500 : Int32) ((σ.1 1 0 0) + (60 : Int32)))), (0, zR 0 0), (1, zI p1)]) (zdg D_X12_two 15 (26, .istore_n 2, 1) rfl) rfl (by decide) rfl ?_
      refine z_aload_n (pc := 27) 1 (zdg D_X12_two 16 (27, .aload_n 0, 1) rfl) rfl rfl ?_
      refine z_getR (pc := 28) (g := 1) (j := 0) lf_X12_7 rfl rfl rfl (zdg D_X12_two 17 (28, .getfield 7, 3) rfl) ?_
      refine z_iconst (pc := 31) (v := 0) (zdg D_X12_two 18 (31, .iconst 0, 1) rfl) rfl ?_
      refine z_ialdC (pc := 32) (j := 0) rfl (fun _ => rfl) (zdg D_X12_two 19 (32, .iaload, 1) rfl) rfl rfl ?_
      refine z_istore_n (pc := 33) (al' := [(3, zI (σ.1 1 0 0)), (2, zI (f_X12_lesser (500 : Int32) ((σ.1 1 0 0) + (60 : Int32)))), (0, zR 0 0), (1, zI p1)]) (zdg D_X12_two 20 (33, .istore_n 3, 1) rfl) rfl (by decide) rfl ?_
      refine z_sub (al' := [(0, zR 0 0), (1, zI p1), (2, zI (f_X12_lesser (500 : Int32) ((σ.1 1 0 0) + (60 : Int32)))), (3, zI (σ.1 1 0 0))]) [2, 3, 1, 0] rfl ?_
      refine z_loop (f := (fun q : Int32 × zG => b_X12_two_34 σ q.1 q.2)) (a := ((σ.1 1 0 0), σ)) (fun q : Int32 × zG => zX zsyM m_X12_two K 34 [(0, zR 0 0), (1, zI p1), (2, zI (f_X12_lesser (500 : Int32) ((σ.1 1 0 0) + (60 : Int32)))), (3, zI q.1)] [] q.2) (fun e10 : zG => zX zsyM m_X12_two K 114 [(0, zR 0 0), (1, zI p1), (2, zI (f_X12_lesser (500 : Int32) ((σ.1 1 0 0) + (60 : Int32))))] [] e10) hn hf ?_ ?_
      · intro e10 hf
        refine z_iconst (pc := 114) (v := 0) (zdg D_X12_two 67 (114, .iconst 0, 1) rfl) rfl ?_
        refine z_istore_n (pc := 115) (al' := [(3, zI (0 : Int32)), (0, zR 0 0), (1, zI p1), (2, zI (f_X12_lesser (500 : Int32) ((σ.1 1 0 0) + (60 : Int32))))]) (zdg D_X12_two 68 (115, .istore_n 3, 1) rfl) rfl (by decide) rfl ?_
        refine z_sub (al' := [(0, zR 0 0), (1, zI p1), (2, zI (f_X12_lesser (500 : Int32) ((σ.1 1 0 0) + (60 : Int32)))), (3, zI (0 : Int32))]) [1, 2, 3, 0] rfl ?_
        refine z_loop (f := (fun q : Int32 => b_X12_two_116 σ e10 q)) (a := (0 : Int32)) (fun q : Int32 => zX zsyM m_X12_two K 116 [(0, zR 0 0), (1, zI p1), (2, zI (f_X12_lesser (500 : Int32) ((σ.1 1 0 0) + (60 : Int32)))), (3, zI q)] [] e10) (Sum.elim (fun e15 : Int32 × Int32 => zX zsyM m_X12_two K 165 [(0, zR 0 0), (1, zI p1), (3, zI e15.1), (4, zI e15.2)] [] e10) (fun e16 : Unit => zX zsyM m_X12_two K 195 [] [] e10)) hn hf ?_ ?_
        · intro b hf
          cases b with
          | inl e15 =>
            refine z_aload_n (pc := 165) 0 (zdg D_X12_two 101 (165, .aload_n 0, 1) rfl) rfl rfl ?_
            refine z_getR (pc := 166) (g := 1) (j := 0) lf_X12_7 rfl rfl rfl (zdg D_X12_two 102 (166, .getfield 7, 3) rfl) ?_
            refine z_iconst (pc := 169) (v := 0) (zdg D_X12_two 103 (169, .iconst 0, 1) rfl) rfl ?_
            refine z_ialdC (pc := 170) (j := 0) rfl (fun _ => rfl) (zdg D_X12_two 104 (170, .iaload, 1) rfl) rfl rfl ?_
            refine z_iload_n (pc := 171) 1 (zdg D_X12_two 105 (171, .iload_n 1, 1) rfl) rfl rfl ?_
            refine z_if_ne (pc := 172) 179 (zdg D_X12_two 106 (172, .ifCond .ne 7, 3) rfl) rfl hf (fun hf => ?_) (fun hf => ?_)
            · refine z_iload (pc := 179) 3 (zdg D_X12_two 109 (179, .iload 4, 2) rfl) rfl ?_
              refine z_iadd (pc := 181) (zdg D_X12_two 110 (181, .iadd, 1) rfl) ?_
              exact z_iret (pc := 182) rfl rfl (zdg D_X12_two 111 (182, .ireturn, 1) rfl) (hP _ _ hf)
            · refine z_iload_n (pc := 175) 2 (zdg D_X12_two 107 (175, .iload_n 3, 1) rfl) rfl rfl ?_
              refine z_goto (pc := 176) 181 (zdg D_X12_two 108 (176, .goto 5, 3) rfl) rfl ?_
              refine z_iadd (pc := 181) (zdg D_X12_two 110 (181, .iadd, 1) rfl) ?_
              exact z_iret (pc := 182) rfl rfl (zdg D_X12_two 111 (182, .ireturn, 1) rfl) (hP _ _ hf)
          | inr b =>
            revert hf
            revert b
            intro e16 hf
            refine z_iconst (pc := 195) (v := -1) (zdg D_X12_two 116 (195, .iconst (-1), 1) rfl) rfl ?_
            exact z_iret (pc := 196) rfl rfl (zdg D_X12_two 117 (196, .ireturn, 1) rfl) (hP _ _ hf)
        · intro v3_11 hn hi hx
          have hf := b_X12_two_116.eq_1 σ e10 v3_11
          refine z_iload_n (pc := 116) 3 (zdg D_X12_two 69 (116, .iload_n 3, 1) rfl) rfl rfl ?_
          refine z_iload_n (pc := 117) 2 (zdg D_X12_two 70 (117, .iload_n 2, 1) rfl) rfl rfl ?_
          refine z_aload_n (pc := 118) 0 (zdg D_X12_two 71 (118, .aload_n 0, 1) rfl) rfl rfl ?_
          refine z_getR (pc := 119) (g := 1) (j := 0) lf_X12_7 rfl rfl rfl (zdg D_X12_two 72 (119, .getfield 7, 3) rfl) ?_
          refine z_iconst (pc := 122) (v := 0) (zdg D_X12_two 73 (122, .iconst 0, 1) rfl) rfl ?_
          refine z_ialdC (pc := 123) (j := 0) rfl (fun _ => rfl) (zdg D_X12_two 74 (123, .iaload, 1) rfl) rfl rfl ?_
          refine z_isub (pc := 124) (zdg D_X12_two 75 (124, .isub, 1) rfl) ?_
          refine z_icmp_ge (pc := 125) 195 (zdg D_X12_two 76 (125, .if_icmp .ge 70, 3) rfl) rfl hf (fun hf => ?_) (fun hf => ?_)
          · refine z_sub (al' := []) [] rfl ?_
            exact hx (Sum.inr ()) hf
          · refine z_iload_n (pc := 128) 3 (zdg D_X12_two 77 (128, .iload_n 3, 1) rfl) rfl rfl ?_
            refine z_iconst (pc := 129) (v := 1) (zdg D_X12_two 78 (129, .iconst 1, 1) rfl) rfl ?_
            refine z_iadd (pc := 130) (zdg D_X12_two 79 (130, .iadd, 1) rfl) ?_
            refine z_istore (pc := 131) (al' := [(4, zI (v3_11 + (1 : Int32))), (0, zR 0 0), (1, zI p1), (2, zI (f_X12_lesser (500 : Int32) ((σ.1 1 0 0) + (60 : Int32)))), (3, zI v3_11)]) (zdg D_X12_two 80 (131, .istore 4, 2) rfl) (by decide) rfl ?_
            refine z_sub (al' := [(0, zR 0 0), (1, zI p1), (2, zI (f_X12_lesser (500 : Int32) ((σ.1 1 0 0) + (60 : Int32)))), (3, zI v3_11), (4, zI (v3_11 + (1 : Int32)))]) [1, 2, 3, 4, 0] rfl ?_
            refine z_loop (f := (fun q : Int32 => b_X12_two_133 σ e10 v3_11 q)) (a := (v3_11 + (1 : Int32))) (fun q : Int32 => zX zsyM m_X12_two K 133 [(0, zR 0 0), (1, zI p1), (2, zI (f_X12_lesser (500 : Int32) ((σ.1 1 0 0) + (60 : Int32)))), (3, zI v3_11), (4, zI q)] [] e10) (Sum.elim (fun e13 : Int32 => zX zsyM m_X12_two K 165 [(0, zR 0 0), (1, zI p1), (3, zI v3_11), (4, zI e13)] [] e10) (fun e14 : Unit => zX zsyM m_X12_two K 189 [(0, zR 0 0), (1, zI p1), (2, zI (f_X12_lesser (500 : Int32) ((σ.1 1 0 0) + (60 : Int32)))), (3, zI v3_11)] [] e10)) hn hf ?_ ?_
            · intro b hf
              cases b with
              | inl e13 =>
                exact hx (Sum.inl (v3_11, e13)) hf
              | inr b =>
                revert hf
                revert b
                intro e14 hf
                refine z_iinc (pc := 189) (v0 := (v3_11 + 1)) (al' := [(3, zI (v3_11 + 1)), (0, zR 0 0), (1, zI p1), (2, zI (f_X12_lesser (500 : Int32) ((σ.1 1 0 0) + (60 : Int32))))]) 3 (zdg D_X12_two 114 (189, .iinc 3 1, 3) rfl) rfl rfl (by decide) rfl ?_
                refine z_goto (pc := 192) 116 (zdg D_X12_two 115 (192, .goto (-76), 3) rfl) rfl ?_
                refine z_sub (al' := [(0, zR 0 0), (1, zI p1), (2, zI (f_X12_lesser (500 : Int32) ((σ.1 1 0 0) + (60 : Int32)))), (3, zI (v3_11 + 1))]) [1, 2, 3, 0] rfl ?_
                exact hi (v3_11 + 1) hf
            · intro v4_12 hn hi hx
              have hf := b_X12_two_133.eq_1 σ e10 v3_11 v4_12
              refine z_iload (pc := 133) 4 (zdg D_X12_two 81 (133, .iload 4, 2) rfl) rfl ?_
              refine z_iload_n (pc := 135) 2 (zdg D_X12_two 82 (135, .iload_n 2, 1) rfl) rfl rfl ?_
              refine z_aload_n (pc := 136) 0 (zdg D_X12_two 83 (136, .aload_n 0, 1) rfl) rfl rfl ?_
              refine z_getR (pc := 137) (g := 1) (j := 0) lf_X12_7 rfl rfl rfl (zdg D_X12_two 84 (137, .getfield 7, 3) rfl) ?_
              refine z_iconst (pc := 140) (v := 0) (zdg D_X12_two 85 (140, .iconst 0, 1) rfl) rfl ?_
              refine z_ialdC (pc := 141) (j := 0) rfl (fun _ => rfl) (zdg D_X12_two 86 (141, .iaload, 1) rfl) rfl rfl ?_
              refine z_isub (pc := 142) (zdg D_X12_two 87 (142, .isub, 1) rfl) ?_
              refine z_icmp_gt (pc := 143) 189 (zdg D_X12_two 88 (143, .if_icmp .gt 46, 3) rfl) rfl hf (fun hf => ?_) (fun hf => ?_)
              · refine z_sub (al' := [(0, zR 0 0), (1, zI p1), (2, zI (f_X12_lesser (500 : Int32) ((σ.1 1 0 0) + (60 : Int32)))), (3, zI v3_11)]) [0, 1, 2, 3] rfl ?_
                exact hx (Sum.inr ()) hf
              · refine z_aload_n (pc := 146) 0 (zdg D_X12_two 89 (146, .aload_n 0, 1) rfl) rfl rfl ?_
                refine z_getR (pc := 147) (g := 14) (j := 0) lf_X12_54 rfl rfl rfl (zdg D_X12_two 90 (147, .getfield 54, 3) rfl) ?_
                refine z_iload_n (pc := 150) 3 (zdg D_X12_two 91 (150, .iload_n 3, 1) rfl) rfl rfl ?_
                refine z_lald (pc := 151) rfl (fun _ => rfl) (zdg D_X12_two 92 (151, .laload, 1) rfl) hn hf (fun hf => ?_)
                refine z_aload_n (pc := 152) 0 (zdg D_X12_two 93 (152, .aload_n 0, 1) rfl) rfl rfl ?_
                refine z_getR (pc := 153) (g := 14) (j := 0) lf_X12_54 rfl rfl rfl (zdg D_X12_two 94 (153, .getfield 54, 3) rfl) ?_
                refine z_iload (pc := 156) 4 (zdg D_X12_two 95 (156, .iload 4, 2) rfl) rfl ?_
                refine z_lald (pc := 158) rfl (fun _ => rfl) (zdg D_X12_two 96 (158, .laload, 1) rfl) hn hf (fun hf => ?_)
                refine z_land (pc := 159) (zdg D_X12_two 97 (159, .land, 1) rfl) ?_
                refine z_lconst (pc := 160) (v := 0) (zdg D_X12_two 98 (160, .lconst 0, 1) rfl) rfl ?_
                refine z_lcmp (pc := 161) (zdg D_X12_two 99 (161, .lcmp, 1) rfl) ?_
                refine z_if_ne (pc := 162) 183 (zdg D_X12_two 100 (162, .ifCond .ne 21, 3) rfl) rfl hf (fun hf => ?_) (fun hf => ?_)
                · refine z_iinc (pc := 183) (v0 := (v4_12 + 1)) (al' := [(4, zI (v4_12 + 1)), (0, zR 0 0), (1, zI p1), (2, zI (f_X12_lesser (500 : Int32) ((σ.1 1 0 0) + (60 : Int32)))), (3, zI v3_11)]) 4 (zdg D_X12_two 112 (183, .iinc 4 1, 3) rfl) rfl rfl (by decide) rfl ?_
                  refine z_goto (pc := 186) 133 (zdg D_X12_two 113 (186, .goto (-53), 3) rfl) rfl ?_
                  refine z_sub (al' := [(0, zR 0 0), (1, zI p1), (2, zI (f_X12_lesser (500 : Int32) ((σ.1 1 0 0) + (60 : Int32)))), (3, zI v3_11), (4, zI (v4_12 + 1))]) [1, 2, 3, 4, 0] rfl ?_
                  exact hi (v4_12 + 1) hf
                · refine z_sub (al' := [(0, zR 0 0), (1, zI p1), (3, zI v3_11), (4, zI v4_12)]) [0, 1, 3, 4] rfl ?_
                  exact hx (Sum.inl v4_12) hf
      · rintro ⟨v3_1, s2⟩ hn hi hx
        have hf := b_X12_two_34.eq_1 σ v3_1 s2
        refine z_iload_n (pc := 34) 3 (zdg D_X12_two 21 (34, .iload_n 3, 1) rfl) rfl rfl ?_
        refine z_iload_n (pc := 35) 2 (zdg D_X12_two 22 (35, .iload_n 2, 1) rfl) rfl rfl ?_
        refine z_icmp_gt (pc := 36) 114 (zdg D_X12_two 23 (36, .if_icmp .gt 78, 3) rfl) rfl hf (fun hf => ?_) (fun hf => ?_)
        · refine z_sub (al' := [(0, zR 0 0), (1, zI p1), (2, zI (f_X12_lesser (500 : Int32) ((σ.1 1 0 0) + (60 : Int32))))]) [0, 1, 2] rfl ?_
          exact hx s2 hf
        · refine z_aload_n (pc := 39) 0 (zdg D_X12_two 24 (39, .aload_n 0, 1) rfl) rfl rfl ?_
          refine z_getR (pc := 40) (g := 14) (j := 0) lf_X12_54 rfl rfl rfl (zdg D_X12_two 25 (40, .getfield 54, 3) rfl) ?_
          refine z_iload_n (pc := 43) 3 (zdg D_X12_two 26 (43, .iload_n 3, 1) rfl) rfl rfl ?_
          refine z_aload_n (pc := 44) 0 (zdg D_X12_two 27 (44, .aload_n 0, 1) rfl) rfl rfl ?_
          refine z_getR (pc := 45) (g := 1) (j := 0) lf_X12_7 rfl rfl rfl (zdg D_X12_two 28 (45, .getfield 7, 3) rfl) ?_
          refine z_iconst (pc := 48) (v := 0) (zdg D_X12_two 29 (48, .iconst 0, 1) rfl) rfl ?_
          refine z_ialdC (pc := 49) (j := 0) rfl (fun _ => rfl) (zdg D_X12_two 30 (49, .iaload, 1) rfl) rfl rfl ?_
          refine z_isub (pc := 50) (zdg D_X12_two 31 (50, .isub, 1) rfl) ?_
          refine z_lconst (pc := 51) (v := 0) (zdg D_X12_two 32 (51, .lconst 0, 1) rfl) rfl ?_
          refine z_last (pc := 52) rfl (fun _ => rfl) (zdg D_X12_two 33 (52, .lastore, 1) rfl) hn hf (fun hf => ?_)
          refine z_nmS hf (fun s3 hf => ?_)
          refine z_iconst (pc := 53) (v := 0) (zdg D_X12_two 34 (53, .iconst 0, 1) rfl) rfl ?_
          refine z_istore (pc := 54) (al' := [(4, zI (0 : Int32)), (0, zR 0 0), (1, zI p1), (2, zI (f_X12_lesser (500 : Int32) ((σ.1 1 0 0) + (60 : Int32)))), (3, zI v3_1)]) (zdg D_X12_two 35 (54, .istore 4, 2) rfl) (by decide) rfl ?_
          refine z_sub (al' := [(0, zR 0 0), (1, zI p1), (2, zI (f_X12_lesser (500 : Int32) ((σ.1 1 0 0) + (60 : Int32)))), (3, zI v3_1), (4, zI (0 : Int32))]) [1, 2, 3, 4, 0] rfl ?_
          refine z_loop (f := (fun q : Int32 × zG => b_X12_two_56 v3_1 q.1 q.2)) (a := ((0 : Int32), s3)) (fun q : Int32 × zG => zX zsyM m_X12_two K 56 [(0, zR 0 0), (1, zI p1), (2, zI (f_X12_lesser (500 : Int32) ((σ.1 1 0 0) + (60 : Int32)))), (3, zI v3_1), (4, zI q.1)] [] q.2) (fun e9 : zG => zX zsyM m_X12_two K 108 [(0, zR 0 0), (1, zI p1), (2, zI (f_X12_lesser (500 : Int32) ((σ.1 1 0 0) + (60 : Int32)))), (3, zI v3_1)] [] e9) hn hf ?_ ?_
          · intro e9 hf
            refine z_iinc (pc := 108) (v0 := (v3_1 + 1)) (al' := [(3, zI (v3_1 + 1)), (0, zR 0 0), (1, zI p1), (2, zI (f_X12_lesser (500 : Int32) ((σ.1 1 0 0) + (60 : Int32))))]) 3 (zdg D_X12_two 65 (108, .iinc 3 1, 3) rfl) rfl rfl (by decide) rfl ?_
            refine z_goto (pc := 111) 34 (zdg D_X12_two 66 (111, .goto (-77), 3) rfl) rfl ?_
            refine z_sub (al' := [(0, zR 0 0), (1, zI p1), (2, zI (f_X12_lesser (500 : Int32) ((σ.1 1 0 0) + (60 : Int32)))), (3, zI (v3_1 + 1))]) [1, 2, 3, 0] rfl ?_
            exact hi ((v3_1 + 1), e9) hf
          · rintro ⟨v4_4, s5⟩ hn hi hx
            have hf := b_X12_two_56.eq_1 v3_1 v4_4 s5
            refine z_iload (pc := 56) 4 (zdg D_X12_two 36 (56, .iload 4, 2) rfl) rfl ?_
            refine z_bipush (pc := 58) (v := 64) (zdg D_X12_two 37 (58, .bipush 64, 2) rfl) rfl ?_
            refine z_icmp_ge (pc := 60) 108 (zdg D_X12_two 38 (60, .if_icmp .ge 48, 3) rfl) rfl hf (fun hf => ?_) (fun hf => ?_)
            · refine z_sub (al' := [(0, zR 0 0), (1, zI p1), (2, zI (f_X12_lesser (500 : Int32) ((σ.1 1 0 0) + (60 : Int32)))), (3, zI v3_1)]) [0, 1, 2, 3] rfl ?_
              exact hx s5 hf
            · refine z_aload_n (pc := 63) 0 (zdg D_X12_two 39 (63, .aload_n 0, 1) rfl) rfl rfl ?_
              refine z_iload (pc := 64) 4 (zdg D_X12_two 40 (64, .iload 4, 2) rfl) rfl ?_
              refine z_bind hn hf (fun q6 hq hf => ?_)
              refine z_callV (pc := 66) (rest := []) (st2 := [zI q6]) (fun l => c_X12_isInView l v4_4 s5 q6 hq) zv_X12_isInView lm_X12_320 rfl rfl rfl rfl rfl rfl (Nat.le_of_ble_eq_true rfl) ⟨Nat.le_of_ble_eq_true rfl, Nat.le_of_ble_eq_true rfl⟩ (zdg D_X12_two 41 (66, .invokevirtual 320, 3) rfl) ?_
              refine z_if_eq (pc := 69) 102 (zdg D_X12_two 42 (69, .ifCond .eq 33, 3) rfl) rfl hf (fun hf => ?_) (fun hf => ?_)
              · refine z_iinc (pc := 102) (v0 := (v4_4 + 1)) (al' := [(4, zI (v4_4 + 1)), (0, zR 0 0), (1, zI p1), (2, zI (f_X12_lesser (500 : Int32) ((σ.1 1 0 0) + (60 : Int32)))), (3, zI v3_1)]) 4 (zdg D_X12_two 63 (102, .iinc 4 1, 3) rfl) rfl rfl (by decide) rfl ?_
                refine z_goto (pc := 105) 56 (zdg D_X12_two 64 (105, .goto (-49), 3) rfl) rfl ?_
                refine z_sub (al' := [(0, zR 0 0), (1, zI p1), (2, zI (f_X12_lesser (500 : Int32) ((σ.1 1 0 0) + (60 : Int32)))), (3, zI v3_1), (4, zI (v4_4 + 1))]) [1, 2, 3, 4, 0] rfl ?_
                exact hi ((v4_4 + 1), s5) hf
              · refine z_aload_n (pc := 72) 0 (zdg D_X12_two 43 (72, .aload_n 0, 1) rfl) rfl rfl ?_
                refine z_iload (pc := 73) 4 (zdg D_X12_two 44 (73, .iload 4, 2) rfl) rfl ?_
                refine z_iload_n (pc := 75) 3 (zdg D_X12_two 45 (75, .iload_n 3, 1) rfl) rfl rfl ?_
                refine z_bind hn hf (fun q7 hq hf => ?_)
                refine z_callV (pc := 76) (rest := []) (st2 := [zI q7]) (fun l => c_X12_isCovered l v4_4 v3_1 s5 q7 hq) zv_X12_isCovered lm_X12_323 rfl rfl rfl rfl rfl rfl (Nat.le_of_ble_eq_true rfl) ⟨Nat.le_of_ble_eq_true rfl, Nat.le_of_ble_eq_true rfl⟩ (zdg D_X12_two 46 (76, .invokevirtual 323, 3) rfl) ?_
                refine z_if_eq (pc := 79) 102 (zdg D_X12_two 47 (79, .ifCond .eq 23, 3) rfl) rfl hf (fun hf => ?_) (fun hf => ?_)
                · refine z_iinc (pc := 102) (v0 := (v4_4 + 1)) (al' := [(4, zI (v4_4 + 1)), (0, zR 0 0), (1, zI p1), (2, zI (f_X12_lesser (500 : Int32) ((σ.1 1 0 0) + (60 : Int32)))), (3, zI v3_1)]) 4 (zdg D_X12_two 63 (102, .iinc 4 1, 3) rfl) rfl rfl (by decide) rfl ?_
                  refine z_goto (pc := 105) 56 (zdg D_X12_two 64 (105, .goto (-49), 3) rfl) rfl ?_
                  refine z_sub (al' := [(0, zR 0 0), (1, zI p1), (2, zI (f_X12_lesser (500 : Int32) ((σ.1 1 0 0) + (60 : Int32)))), (3, zI v3_1), (4, zI (v4_4 + 1))]) [1, 2, 3, 4, 0] rfl ?_
                  exact hi ((v4_4 + 1), s5) hf
                · refine z_aload_n (pc := 82) 0 (zdg D_X12_two 48 (82, .aload_n 0, 1) rfl) rfl rfl ?_
                  refine z_getR (pc := 83) (g := 14) (j := 0) lf_X12_54 rfl rfl rfl (zdg D_X12_two 49 (83, .getfield 54, 3) rfl) ?_
                  refine z_iload_n (pc := 86) 3 (zdg D_X12_two 50 (86, .iload_n 3, 1) rfl) rfl rfl ?_
                  refine z_aload_n (pc := 87) 0 (zdg D_X12_two 51 (87, .aload_n 0, 1) rfl) rfl rfl ?_
                  refine z_getR (pc := 88) (g := 1) (j := 0) lf_X12_7 rfl rfl rfl (zdg D_X12_two 52 (88, .getfield 7, 3) rfl) ?_
                  refine z_iconst (pc := 91) (v := 0) (zdg D_X12_two 53 (91, .iconst 0, 1) rfl) rfl ?_
                  refine z_ialdC (pc := 92) (j := 0) rfl (fun _ => rfl) (zdg D_X12_two 54 (92, .iaload, 1) rfl) rfl rfl ?_
                  refine z_isub (pc := 93) (zdg D_X12_two 55 (93, .isub, 1) rfl) ?_
                  refine z_dup2 (pc := 94) rfl rfl (zdg D_X12_two 56 (94, .dup2, 1) rfl) ?_
                  refine z_lald (pc := 95) rfl (fun _ => rfl) (zdg D_X12_two 57 (95, .laload, 1) rfl) hn hf (fun hf => ?_)
                  refine z_lconst (pc := 96) (v := 1) (zdg D_X12_two 58 (96, .lconst 1, 1) rfl) rfl ?_
                  refine z_iload (pc := 97) 4 (zdg D_X12_two 59 (97, .iload 4, 2) rfl) rfl ?_
                  refine z_lshl (pc := 99) (zdg D_X12_two 60 (99, .lshl, 1) rfl) ?_
                  refine z_lor (pc := 100) (zdg D_X12_two 61 (100, .lor, 1) rfl) ?_
                  refine z_last (pc := 101) rfl (fun _ => rfl) (zdg D_X12_two 62 (101, .lastore, 1) rfl) hn hf (fun hf => ?_)
                  refine z_nmS hf (fun s8 hf => ?_)
                  refine z_iinc (pc := 102) (v0 := (v4_4 + 1)) (al' := [(4, zI (v4_4 + 1)), (0, zR 0 0), (1, zI p1), (2, zI (f_X12_lesser (500 : Int32) ((σ.1 1 0 0) + (60 : Int32)))), (3, zI v3_1)]) 4 (zdg D_X12_two 63 (102, .iinc 4 1, 3) rfl) rfl rfl (by decide) rfl ?_
                  refine z_goto (pc := 105) 56 (zdg D_X12_two 64 (105, .goto (-49), 3) rfl) rfl ?_
                  refine z_sub (al' := [(0, zR 0 0), (1, zI p1), (2, zI (f_X12_lesser (500 : Int32) ((σ.1 1 0 0) + (60 : Int32)))), (3, zI v3_1), (4, zI (v4_4 + 1))]) [1, 2, 3, 4, 0] rfl ?_
                  exact hi ((v4_4 + 1), s8) hf
    · refine z_iconst (pc := 9) (v := -1) (zdg D_X12_two 5 (9, .iconst (-1), 1) rfl) rfl ?_
      exact z_iret (pc := 10) rfl rfl (zdg D_X12_two 6 (10, .ireturn, 1) rfl) (hP _ _ hf)

def L_X12_paste : List (Nat × Instr × Nat) := [(0, .aload_n 0, 1), (1, .iload_n 1, 1), (2, .invokevirtual 236, 3), (5, .ifCond .eq 16, 3), (8, .iload_n 2, 1), (9, .iconst (-1), 1), (10, .if_icmp .eq 13, 3), (13, .aload_n 0, 1), (14, .iload_n 2, 1), (15, .invokevirtual 361, 3), (18, .ifCond .ne 5, 3), (21, .iconst 0, 1), (22, .ireturn, 1), (23, .aload_n 0, 1), (24, .getfield 7, 3), (27, .bipush 40, 2), (29, .iload_n 1, 1), (30, .iadd, 1), (31, .iload_n 2, 1), (32, .iastore, 1), (33, .aload_n 0, 1), (34, .invokevirtual 72, 3), (37, .iconst 1, 1), (38, .ireturn, 1)]
set_option maxRecDepth 100000 in
theorem D_X12_paste : zdecs cX12_paste L_X12_paste = true := by decide +kernel
noncomputable def j_X12_paste_23 (p1 : Int32) (p2 : Int32) (s2 : zG) : Option (Int32 × zG) :=
  zg (zin ((40 : Int32) + p1) 9248) (zb (zwI s2 1 0 ((40 : Int32) + p1).toNatClampNeg p2) (fun s3 => zb (f_X12_forgets s3) (fun s4 => some ((1 : Int32), s4))))
noncomputable def f_X12_paste (p1 : Int32) (p2 : Int32) (σ : zG) : Option (Int32 × zG) :=
  (f_X12_isSpot p1 σ).bind (fun q1 => if q1 = 0 then some ((0 : Int32), σ) else if p2 = (-1 : Int32) then j_X12_paste_23 p1 p2 σ else (f_X12_isShot p2 σ).bind (fun q5 => if q5 = 0 then some ((0 : Int32), σ) else j_X12_paste_23 p1 p2 σ))
set_option maxRecDepth 100000 in
set_option maxHeartbeats 4000000 in
theorem c_X12_paste (l : Launch) (p1 : Int32) (p2 : Int32) (σ : zG) (q : Int32 × zG) (hq : f_X12_paste p1 p2 σ = some q) : zMet l zsyM m_X12_paste yX12_paste [zR 0 0, zI p1, zI p2] σ (some (zI q.1)) q.2 := by
  refine zEnter [(0, zR 0 0), (1, zI p1), (2, zI p2)] (by decide) rfl (fun _ => Nat.le_of_ble_eq_true rfl) (fun _ => rfl) (fun w h => ?_) (fun K hv hs => ?_)
  · exact zokm rfl h
  · have hP : ∀ x s, f_X12_paste p1 p2 σ = some (x, s) → zKv K = some (zI x) ∧ zKs K = s := fun x s h => by rw [hq] at h; cases h; exact ⟨hv, hs⟩
    have hn : f_X12_paste p1 p2 σ ≠ none := fun z => by rw [hq] at z; cases z
    have hf := f_X12_paste.eq_1 p1 p2 σ
    have t_23 : ∀ (s2 : zG), f_X12_paste p1 p2 σ = j_X12_paste_23 p1 p2 s2 → zX zsyM m_X12_paste K 23 [(0, zR 0 0), (1, zI p1), (2, zI p2)] [] s2 := by
      intro s2 hf
      replace hf := hf.trans (j_X12_paste_23.eq_1 p1 p2 s2)
      refine z_aload_n (pc := 23) 0 (zdg D_X12_paste 13 (23, .aload_n 0, 1) rfl) rfl rfl ?_
      refine z_getR (pc := 24) (g := 1) (j := 0) lf_X12_7 rfl rfl rfl (zdg D_X12_paste 14 (24, .getfield 7, 3) rfl) ?_
      refine z_bipush (pc := 27) (v := 40) (zdg D_X12_paste 15 (27, .bipush 40, 2) rfl) rfl ?_
      refine z_iload_n (pc := 29) 1 (zdg D_X12_paste 16 (29, .iload_n 1, 1) rfl) rfl rfl ?_
      refine z_iadd (pc := 30) (zdg D_X12_paste 17 (30, .iadd, 1) rfl) ?_
      refine z_iload_n (pc := 31) 2 (zdg D_X12_paste 18 (31, .iload_n 2, 1) rfl) rfl rfl ?_
      refine z_iast (pc := 32) rfl (fun _ => rfl) (zdg D_X12_paste 19 (32, .iastore, 1) rfl) hn hf (fun hf => ?_)
      refine z_nmS hf (fun s3 hf => ?_)
      refine z_aload_n (pc := 33) 0 (zdg D_X12_paste 20 (33, .aload_n 0, 1) rfl) rfl rfl ?_
      refine z_callV (pc := 34) (rest := []) (st2 := []) (fun l => c_X12_forgets l s3) zv_X12_forgets lm_X12_72 rfl rfl rfl rfl rfl rfl (Nat.le_of_ble_eq_true rfl) ⟨Nat.le_of_ble_eq_true rfl, Nat.le_of_ble_eq_true rfl⟩ (zdg D_X12_paste 21 (34, .invokevirtual 72, 3) rfl) ?_
      refine z_nmS hf (fun s4 hf => ?_)
      refine z_iconst (pc := 37) (v := 1) (zdg D_X12_paste 22 (37, .iconst 1, 1) rfl) rfl ?_
      exact z_iret (pc := 38) rfl rfl (zdg D_X12_paste 23 (38, .ireturn, 1) rfl) (hP _ _ hf)
    refine z_aload_n (pc := 0) 0 (zdg D_X12_paste 0 (0, .aload_n 0, 1) rfl) rfl rfl ?_
    refine z_iload_n (pc := 1) 1 (zdg D_X12_paste 1 (1, .iload_n 1, 1) rfl) rfl rfl ?_
    refine z_bind hn hf (fun q1 hq hf => ?_)
    refine z_callV (pc := 2) (rest := []) (st2 := [zI q1]) (fun l => c_X12_isSpot l p1 σ q1 hq) zv_X12_isSpot lm_X12_236 rfl rfl rfl rfl rfl rfl (Nat.le_of_ble_eq_true rfl) ⟨Nat.le_of_ble_eq_true rfl, Nat.le_of_ble_eq_true rfl⟩ (zdg D_X12_paste 2 (2, .invokevirtual 236, 3) rfl) ?_
    refine z_if_eq (pc := 5) 21 (zdg D_X12_paste 3 (5, .ifCond .eq 16, 3) rfl) rfl hf (fun hf => ?_) (fun hf => ?_)
    · refine z_iconst (pc := 21) (v := 0) (zdg D_X12_paste 11 (21, .iconst 0, 1) rfl) rfl ?_
      exact z_iret (pc := 22) rfl rfl (zdg D_X12_paste 12 (22, .ireturn, 1) rfl) (hP _ _ hf)
    · refine z_iload_n (pc := 8) 2 (zdg D_X12_paste 4 (8, .iload_n 2, 1) rfl) rfl rfl ?_
      refine z_iconst (pc := 9) (v := -1) (zdg D_X12_paste 5 (9, .iconst (-1), 1) rfl) rfl ?_
      refine z_icmp_eq (pc := 10) 23 (zdg D_X12_paste 6 (10, .if_icmp .eq 13, 3) rfl) rfl hf (fun hf => ?_) (fun hf => ?_)
      · exact t_23 σ hf
      · refine z_aload_n (pc := 13) 0 (zdg D_X12_paste 7 (13, .aload_n 0, 1) rfl) rfl rfl ?_
        refine z_iload_n (pc := 14) 2 (zdg D_X12_paste 8 (14, .iload_n 2, 1) rfl) rfl rfl ?_
        refine z_bind hn hf (fun q5 hq hf => ?_)
        refine z_callV (pc := 15) (rest := []) (st2 := [zI q5]) (fun l => c_X12_isShot l p2 σ q5 hq) zv_X12_isShot lm_X12_361 rfl rfl rfl rfl rfl rfl (Nat.le_of_ble_eq_true rfl) ⟨Nat.le_of_ble_eq_true rfl, Nat.le_of_ble_eq_true rfl⟩ (zdg D_X12_paste 9 (15, .invokevirtual 361, 3) rfl) ?_
        refine z_if_ne (pc := 18) 23 (zdg D_X12_paste 10 (18, .ifCond .ne 5, 3) rfl) rfl hf (fun hf => ?_) (fun hf => ?_)
        · exact t_23 σ hf
        · refine z_iconst (pc := 21) (v := 0) (zdg D_X12_paste 11 (21, .iconst 0, 1) rfl) rfl ?_
          exact z_iret (pc := 22) rfl rfl (zdg D_X12_paste 12 (22, .ireturn, 1) rfl) (hP _ _ hf)

def L_X12_from : List (Nat × Instr × Nat) := [(0, .aload_n 0, 1), (1, .getfield 7, 3), (4, .bipush 40, 2), (6, .iload_n 1, 1), (7, .iadd, 1), (8, .iaload, 1), (9, .ireturn, 1)]
set_option maxRecDepth 100000 in
theorem D_X12_from : zdecs cX12_from L_X12_from = true := by decide +kernel
noncomputable def f_X12_from (p1 : Int32) (σ : zG) : Option (Int32) :=
  zg (zin ((40 : Int32) + p1) 9248) (some (σ.1 1 0 ((40 : Int32) + p1).toNatClampNeg))
set_option maxRecDepth 100000 in
set_option maxHeartbeats 4000000 in
theorem c_X12_from (l : Launch) (p1 : Int32) (σ : zG) (q : Int32) (hq : f_X12_from p1 σ = some q) : zMet l zsyM m_X12_from yX12_from [zR 0 0, zI p1] σ (some (zI q)) σ := by
  refine zEnter [(0, zR 0 0), (1, zI p1)] (by decide) rfl (fun _ => Nat.le_of_ble_eq_true rfl) (fun _ => rfl) (fun w h => ?_) (fun K hv hs => ?_)
  · exact zokm rfl h
  · have hP : ∀ x, f_X12_from p1 σ = some x → zKv K = some (zI x) ∧ zKs K = σ := fun x h => by rw [hq] at h; cases h; exact ⟨hv, hs⟩
    have hn : f_X12_from p1 σ ≠ none := fun z => by rw [hq] at z; cases z
    have hf := f_X12_from.eq_1 p1 σ
    refine z_aload_n (pc := 0) 0 (zdg D_X12_from 0 (0, .aload_n 0, 1) rfl) rfl rfl ?_
    refine z_getR (pc := 1) (g := 1) (j := 0) lf_X12_7 rfl rfl rfl (zdg D_X12_from 1 (1, .getfield 7, 3) rfl) ?_
    refine z_bipush (pc := 4) (v := 40) (zdg D_X12_from 2 (4, .bipush 40, 2) rfl) rfl ?_
    refine z_iload_n (pc := 6) 1 (zdg D_X12_from 3 (6, .iload_n 1, 1) rfl) rfl rfl ?_
    refine z_iadd (pc := 7) (zdg D_X12_from 4 (7, .iadd, 1) rfl) ?_
    refine z_iald (pc := 8) rfl (fun _ => rfl) (zdg D_X12_from 5 (8, .iaload, 1) rfl) hn hf (fun hf => ?_)
    exact z_iret (pc := 9) rfl rfl (zdg D_X12_from 6 (9, .ireturn, 1) rfl) (hP _ hf)

def L_X12_isPasted : List (Nat × Instr × Nat) := [(0, .aload_n 0, 1), (1, .iload_n 1, 1), (2, .invokevirtual 236, 3), (5, .ifCond .eq 29, 3), (8, .aload_n 0, 1), (9, .iload_n 1, 1), (10, .invokevirtual 433, 3), (13, .iconst (-1), 1), (14, .if_icmp .eq 20, 3), (17, .aload_n 0, 1), (18, .aload_n 0, 1), (19, .iload_n 1, 1), (20, .invokevirtual 433, 3), (23, .iload_n 1, 1), (24, .invokevirtual 367, 3), (27, .ifCond .eq 7, 3), (30, .iconst 1, 1), (31, .goto 4, 3), (34, .iconst 0, 1), (35, .ireturn, 1)]
set_option maxRecDepth 100000 in
theorem D_X12_isPasted : zdecs cX12_isPasted L_X12_isPasted = true := by decide +kernel
noncomputable def f_X12_isPasted (p1 : Int32) (σ : zG) : Option (Int32) :=
  (f_X12_isSpot p1 σ).bind (fun q1 => if q1 = 0 then some (0 : Int32) else (f_X12_from p1 σ).bind (fun q2 => if q2 = (-1 : Int32) then some (0 : Int32) else (f_X12_from p1 σ).bind (fun q3 => (f_X12_hasInView q3 p1 σ).bind (fun q4 => if q4 = 0 then some (0 : Int32) else some (1 : Int32)))))
set_option maxRecDepth 100000 in
set_option maxHeartbeats 4000000 in
theorem c_X12_isPasted (l : Launch) (p1 : Int32) (σ : zG) (q : Int32) (hq : f_X12_isPasted p1 σ = some q) : zMet l zsyM m_X12_isPasted yX12_isPasted [zR 0 0, zI p1] σ (some (zI q)) σ := by
  refine zEnter [(0, zR 0 0), (1, zI p1)] (by decide) rfl (fun _ => Nat.le_of_ble_eq_true rfl) (fun _ => rfl) (fun w h => ?_) (fun K hv hs => ?_)
  · exact zokm rfl h
  · have hP : ∀ x, f_X12_isPasted p1 σ = some x → zKv K = some (zI x) ∧ zKs K = σ := fun x h => by rw [hq] at h; cases h; exact ⟨hv, hs⟩
    have hn : f_X12_isPasted p1 σ ≠ none := fun z => by rw [hq] at z; cases z
    have hf := f_X12_isPasted.eq_1 p1 σ
    refine z_aload_n (pc := 0) 0 (zdg D_X12_isPasted 0 (0, .aload_n 0, 1) rfl) rfl rfl ?_
    refine z_iload_n (pc := 1) 1 (zdg D_X12_isPasted 1 (1, .iload_n 1, 1) rfl) rfl rfl ?_
    refine z_bind hn hf (fun q1 hq hf => ?_)
    refine z_callV (pc := 2) (rest := []) (st2 := [zI q1]) (fun l => c_X12_isSpot l p1 σ q1 hq) zv_X12_isSpot lm_X12_236 rfl rfl rfl rfl rfl rfl (Nat.le_of_ble_eq_true rfl) ⟨Nat.le_of_ble_eq_true rfl, Nat.le_of_ble_eq_true rfl⟩ (zdg D_X12_isPasted 2 (2, .invokevirtual 236, 3) rfl) ?_
    refine z_if_eq (pc := 5) 34 (zdg D_X12_isPasted 3 (5, .ifCond .eq 29, 3) rfl) rfl hf (fun hf => ?_) (fun hf => ?_)
    · refine z_iconst (pc := 34) (v := 0) (zdg D_X12_isPasted 18 (34, .iconst 0, 1) rfl) rfl ?_
      exact z_iret (pc := 35) rfl rfl (zdg D_X12_isPasted 19 (35, .ireturn, 1) rfl) (hP _ hf)
    · refine z_aload_n (pc := 8) 0 (zdg D_X12_isPasted 4 (8, .aload_n 0, 1) rfl) rfl rfl ?_
      refine z_iload_n (pc := 9) 1 (zdg D_X12_isPasted 5 (9, .iload_n 1, 1) rfl) rfl rfl ?_
      refine z_bind hn hf (fun q2 hq hf => ?_)
      refine z_callV (pc := 10) (rest := []) (st2 := [zI q2]) (fun l => c_X12_from l p1 σ q2 hq) zv_X12_from lm_X12_433 rfl rfl rfl rfl rfl rfl (Nat.le_of_ble_eq_true rfl) ⟨Nat.le_of_ble_eq_true rfl, Nat.le_of_ble_eq_true rfl⟩ (zdg D_X12_isPasted 6 (10, .invokevirtual 433, 3) rfl) ?_
      refine z_iconst (pc := 13) (v := -1) (zdg D_X12_isPasted 7 (13, .iconst (-1), 1) rfl) rfl ?_
      refine z_icmp_eq (pc := 14) 34 (zdg D_X12_isPasted 8 (14, .if_icmp .eq 20, 3) rfl) rfl hf (fun hf => ?_) (fun hf => ?_)
      · refine z_iconst (pc := 34) (v := 0) (zdg D_X12_isPasted 18 (34, .iconst 0, 1) rfl) rfl ?_
        exact z_iret (pc := 35) rfl rfl (zdg D_X12_isPasted 19 (35, .ireturn, 1) rfl) (hP _ hf)
      · refine z_aload_n (pc := 17) 0 (zdg D_X12_isPasted 9 (17, .aload_n 0, 1) rfl) rfl rfl ?_
        refine z_aload_n (pc := 18) 0 (zdg D_X12_isPasted 10 (18, .aload_n 0, 1) rfl) rfl rfl ?_
        refine z_iload_n (pc := 19) 1 (zdg D_X12_isPasted 11 (19, .iload_n 1, 1) rfl) rfl rfl ?_
        refine z_bind hn hf (fun q3 hq hf => ?_)
        refine z_callV (pc := 20) (rest := [zR 0 0]) (st2 := [zI q3, zR 0 0]) (fun l => c_X12_from l p1 σ q3 hq) zv_X12_from lm_X12_433 rfl rfl rfl rfl rfl rfl (Nat.le_of_ble_eq_true rfl) ⟨Nat.le_of_ble_eq_true rfl, Nat.le_of_ble_eq_true rfl⟩ (zdg D_X12_isPasted 12 (20, .invokevirtual 433, 3) rfl) ?_
        refine z_iload_n (pc := 23) 1 (zdg D_X12_isPasted 13 (23, .iload_n 1, 1) rfl) rfl rfl ?_
        refine z_bind hn hf (fun q4 hq hf => ?_)
        refine z_callV (pc := 24) (rest := []) (st2 := [zI q4]) (fun l => c_X12_hasInView l q3 p1 σ q4 hq) zv_X12_hasInView lm_X12_367 rfl rfl rfl rfl rfl rfl (Nat.le_of_ble_eq_true rfl) ⟨Nat.le_of_ble_eq_true rfl, Nat.le_of_ble_eq_true rfl⟩ (zdg D_X12_isPasted 14 (24, .invokevirtual 367, 3) rfl) ?_
        refine z_if_eq (pc := 27) 34 (zdg D_X12_isPasted 15 (27, .ifCond .eq 7, 3) rfl) rfl hf (fun hf => ?_) (fun hf => ?_)
        · refine z_iconst (pc := 34) (v := 0) (zdg D_X12_isPasted 18 (34, .iconst 0, 1) rfl) rfl ?_
          exact z_iret (pc := 35) rfl rfl (zdg D_X12_isPasted 19 (35, .ireturn, 1) rfl) (hP _ hf)
        · refine z_iconst (pc := 30) (v := 1) (zdg D_X12_isPasted 16 (30, .iconst 1, 1) rfl) rfl ?_
          refine z_goto (pc := 31) 35 (zdg D_X12_isPasted 17 (31, .goto 4, 3) rfl) rfl ?_
          exact z_iret (pc := 35) rfl rfl (zdg D_X12_isPasted 19 (35, .ireturn, 1) rfl) (hP _ hf)

def L_X12_feet : List (Nat × Instr × Nat) := [(0, .iconst 0, 1), (1, .istore_n 1, 1), (2, .iconst 0, 1), (3, .istore_n 2, 1), (4, .iload_n 2, 1), (5, .bipush 64, 2), (7, .if_icmp .ge 49, 3), (10, .aload_n 0, 1), (11, .iload_n 2, 1), (12, .invokevirtual 436, 3), (15, .ifCond .ne 6, 3), (18, .goto 32, 3), (21, .aload_n 0, 1), (22, .aload_n 0, 1), (23, .iload_n 2, 1), (24, .invokevirtual 433, 3), (27, .iconst 4, 1), (28, .iload_n 2, 1), (29, .iadd, 1), (30, .invokevirtual 358, 3), (33, .istore_n 3, 1), (34, .iload_n 3, 1), (35, .iconst 0, 1), (36, .bipush 11, 2), (38, .invokestatic 64, 3), (41, .ifCond .eq 9, 3), (44, .iload_n 1, 1), (45, .iconst 1, 1), (46, .iload_n 3, 1), (47, .ishl, 1), (48, .ior, 1), (49, .istore_n 1, 1), (50, .iinc 2 1, 3), (53, .goto (-49), 3), (56, .iload_n 1, 1), (57, .ireturn, 1)]
set_option maxRecDepth 100000 in
theorem D_X12_feet : zdecs cX12_feet L_X12_feet = true := by decide +kernel
noncomputable def b_X12_feet_4 (σ : zG) (v1_1 : Int32) (v2_2 : Int32) : Option ((Int32 × Int32) ⊕ (Int32)) :=
  if v2_2 < (64 : Int32) then (f_X12_isPasted v2_2 σ).bind (fun q3 => if q3 = 0 then some (Sum.inl (v1_1, (v2_2 + 1))) else (f_X12_from v2_2 σ).bind (fun q4 => (f_X12_ofShot q4 ((4 : Int32) + v2_2) σ).bind (fun q5 => if (f_X12_isIn q5 (0 : Int32) (11 : Int32)) = 0 then some (Sum.inl (v1_1, (v2_2 + 1))) else some (Sum.inl ((v1_1 ||| (zshl (1 : Int32) q5)), (v2_2 + 1)))))) else some (Sum.inr v1_1)
noncomputable def f_X12_feet (σ : zG) : Option (Int32) :=
  (zlp (fun q : Int32 × Int32 => b_X12_feet_4 σ q.1 q.2) ((0 : Int32), (0 : Int32))).bind (fun e6 : Int32 => some e6)
set_option maxRecDepth 100000 in
set_option maxHeartbeats 4000000 in
theorem c_X12_feet (l : Launch)  (σ : zG) (q : Int32) (hq : f_X12_feet σ = some q) : zMet l zsyM m_X12_feet yX12_feet [zR 0 0] σ (some (zI q)) σ := by
  refine zEnter [(0, zR 0 0)] (by decide) rfl (fun _ => Nat.le_of_ble_eq_true rfl) (fun _ => rfl) (fun w h => ?_) (fun K hv hs => ?_)
  · exact zokm rfl h
  · have hP : ∀ x, f_X12_feet σ = some x → zKv K = some (zI x) ∧ zKs K = σ := fun x h => by rw [hq] at h; cases h; exact ⟨hv, hs⟩
    have hn : f_X12_feet σ ≠ none := fun z => by rw [hq] at z; cases z
    have hf := f_X12_feet.eq_1 σ
    refine z_iconst (pc := 0) (v := 0) (zdg D_X12_feet 0 (0, .iconst 0, 1) rfl) rfl ?_
    refine z_istore_n (pc := 1) (al' := [(1, zI (0 : Int32)), (0, zR 0 0)]) (zdg D_X12_feet 1 (1, .istore_n 1, 1) rfl) rfl (by decide) rfl ?_
    refine z_iconst (pc := 2) (v := 0) (zdg D_X12_feet 2 (2, .iconst 0, 1) rfl) rfl ?_
    refine z_istore_n (pc := 3) (al' := [(2, zI (0 : Int32)), (1, zI (0 : Int32)), (0, zR 0 0)]) (zdg D_X12_feet 3 (3, .istore_n 2, 1) rfl) rfl (by decide) rfl ?_
    refine z_sub (al' := [(0, zR 0 0), (1, zI (0 : Int32)), (2, zI (0 : Int32))]) [2, 1, 0] rfl ?_
    refine z_loop (f := (fun q : Int32 × Int32 => b_X12_feet_4 σ q.1 q.2)) (a := ((0 : Int32), (0 : Int32))) (fun q : Int32 × Int32 => zX zsyM m_X12_feet K 4 [(0, zR 0 0), (1, zI q.1), (2, zI q.2)] [] σ) (fun e6 : Int32 => zX zsyM m_X12_feet K 56 [(1, zI e6)] [] σ) hn hf ?_ ?_
    · intro e6 hf
      refine z_iload_n (pc := 56) 0 (zdg D_X12_feet 34 (56, .iload_n 1, 1) rfl) rfl rfl ?_
      exact z_iret (pc := 57) rfl rfl (zdg D_X12_feet 35 (57, .ireturn, 1) rfl) (hP _ hf)
    · rintro ⟨v1_1, v2_2⟩ hn hi hx
      have hf := b_X12_feet_4.eq_1 σ v1_1 v2_2
      refine z_iload_n (pc := 4) 2 (zdg D_X12_feet 4 (4, .iload_n 2, 1) rfl) rfl rfl ?_
      refine z_bipush (pc := 5) (v := 64) (zdg D_X12_feet 5 (5, .bipush 64, 2) rfl) rfl ?_
      refine z_icmp_ge (pc := 7) 56 (zdg D_X12_feet 6 (7, .if_icmp .ge 49, 3) rfl) rfl hf (fun hf => ?_) (fun hf => ?_)
      · refine z_sub (al' := [(1, zI v1_1)]) [1] rfl ?_
        exact hx v1_1 hf
      · refine z_aload_n (pc := 10) 0 (zdg D_X12_feet 7 (10, .aload_n 0, 1) rfl) rfl rfl ?_
        refine z_iload_n (pc := 11) 2 (zdg D_X12_feet 8 (11, .iload_n 2, 1) rfl) rfl rfl ?_
        refine z_bind hn hf (fun q3 hq hf => ?_)
        refine z_callV (pc := 12) (rest := []) (st2 := [zI q3]) (fun l => c_X12_isPasted l v2_2 σ q3 hq) zv_X12_isPasted lm_X12_436 rfl rfl rfl rfl rfl rfl (Nat.le_of_ble_eq_true rfl) ⟨Nat.le_of_ble_eq_true rfl, Nat.le_of_ble_eq_true rfl⟩ (zdg D_X12_feet 9 (12, .invokevirtual 436, 3) rfl) ?_
        refine z_if_ne (pc := 15) 21 (zdg D_X12_feet 10 (15, .ifCond .ne 6, 3) rfl) rfl hf (fun hf => ?_) (fun hf => ?_)
        · refine z_aload_n (pc := 21) 0 (zdg D_X12_feet 12 (21, .aload_n 0, 1) rfl) rfl rfl ?_
          refine z_aload_n (pc := 22) 0 (zdg D_X12_feet 13 (22, .aload_n 0, 1) rfl) rfl rfl ?_
          refine z_iload_n (pc := 23) 2 (zdg D_X12_feet 14 (23, .iload_n 2, 1) rfl) rfl rfl ?_
          refine z_bind hn hf (fun q4 hq hf => ?_)
          refine z_callV (pc := 24) (rest := [zR 0 0]) (st2 := [zI q4, zR 0 0]) (fun l => c_X12_from l v2_2 σ q4 hq) zv_X12_from lm_X12_433 rfl rfl rfl rfl rfl rfl (Nat.le_of_ble_eq_true rfl) ⟨Nat.le_of_ble_eq_true rfl, Nat.le_of_ble_eq_true rfl⟩ (zdg D_X12_feet 15 (24, .invokevirtual 433, 3) rfl) ?_
          refine z_iconst (pc := 27) (v := 4) (zdg D_X12_feet 16 (27, .iconst 4, 1) rfl) rfl ?_
          refine z_iload_n (pc := 28) 2 (zdg D_X12_feet 17 (28, .iload_n 2, 1) rfl) rfl rfl ?_
          refine z_iadd (pc := 29) (zdg D_X12_feet 18 (29, .iadd, 1) rfl) ?_
          refine z_bind hn hf (fun q5 hq hf => ?_)
          refine z_callV (pc := 30) (rest := []) (st2 := [zI q5]) (fun l => c_X12_ofShot l q4 ((4 : Int32) + v2_2) σ q5 hq) zv_X12_ofShot lm_X12_358 rfl rfl rfl rfl rfl rfl (Nat.le_of_ble_eq_true rfl) ⟨Nat.le_of_ble_eq_true rfl, Nat.le_of_ble_eq_true rfl⟩ (zdg D_X12_feet 19 (30, .invokevirtual 358, 3) rfl) ?_
          refine z_istore_n (pc := 33) (al' := [(3, zI q5), (0, zR 0 0), (1, zI v1_1), (2, zI v2_2)]) (zdg D_X12_feet 20 (33, .istore_n 3, 1) rfl) rfl (by decide) rfl ?_
          refine z_iload_n (pc := 34) 0 (zdg D_X12_feet 21 (34, .iload_n 3, 1) rfl) rfl rfl ?_
          refine z_iconst (pc := 35) (v := 0) (zdg D_X12_feet 22 (35, .iconst 0, 1) rfl) rfl ?_
          refine z_bipush (pc := 36) (v := 11) (zdg D_X12_feet 23 (36, .bipush 11, 2) rfl) rfl ?_
          refine z_callS (pc := 38) (rest := []) (st2 := [zI (f_X12_isIn q5 (0 : Int32) (11 : Int32))]) (fun l => c_X12_isIn l q5 (0 : Int32) (11 : Int32) σ) zs_X12_isIn lm_X12_64 rfl rfl rfl (Nat.le_of_ble_eq_true rfl) ⟨Nat.le_of_ble_eq_true rfl, Nat.le_of_ble_eq_true rfl⟩ (zdg D_X12_feet 24 (38, .invokestatic 64, 3) rfl) ?_
          refine z_if_eq (pc := 41) 50 (zdg D_X12_feet 25 (41, .ifCond .eq 9, 3) rfl) rfl hf (fun hf => ?_) (fun hf => ?_)
          · refine z_iinc (pc := 50) (v0 := (v2_2 + 1)) (al' := [(2, zI (v2_2 + 1)), (3, zI q5), (0, zR 0 0), (1, zI v1_1)]) 3 (zdg D_X12_feet 32 (50, .iinc 2 1, 3) rfl) rfl rfl (by decide) rfl ?_
            refine z_goto (pc := 53) 4 (zdg D_X12_feet 33 (53, .goto (-49), 3) rfl) rfl ?_
            refine z_sub (al' := [(0, zR 0 0), (1, zI v1_1), (2, zI (v2_2 + 1))]) [2, 3, 0] rfl ?_
            exact hi (v1_1, (v2_2 + 1)) hf
          · refine z_iload_n (pc := 44) 2 (zdg D_X12_feet 26 (44, .iload_n 1, 1) rfl) rfl rfl ?_
            refine z_iconst (pc := 45) (v := 1) (zdg D_X12_feet 27 (45, .iconst 1, 1) rfl) rfl ?_
            refine z_iload_n (pc := 46) 0 (zdg D_X12_feet 28 (46, .iload_n 3, 1) rfl) rfl rfl ?_
            refine z_ishl (pc := 47) (zdg D_X12_feet 29 (47, .ishl, 1) rfl) ?_
            refine z_ior (pc := 48) (zdg D_X12_feet 30 (48, .ior, 1) rfl) ?_
            refine z_istore_n (pc := 49) (al' := [(1, zI (v1_1 ||| (zshl (1 : Int32) q5))), (3, zI q5), (0, zR 0 0), (2, zI v2_2)]) (zdg D_X12_feet 31 (49, .istore_n 1, 1) rfl) rfl (by decide) rfl ?_
            refine z_iinc (pc := 50) (v0 := (v2_2 + 1)) (al' := [(2, zI (v2_2 + 1)), (1, zI (v1_1 ||| (zshl (1 : Int32) q5))), (3, zI q5), (0, zR 0 0)]) 3 (zdg D_X12_feet 32 (50, .iinc 2 1, 3) rfl) rfl rfl (by decide) rfl ?_
            refine z_goto (pc := 53) 4 (zdg D_X12_feet 33 (53, .goto (-49), 3) rfl) rfl ?_
            refine z_sub (al' := [(0, zR 0 0), (1, zI (v1_1 ||| (zshl (1 : Int32) q5))), (2, zI (v2_2 + 1))]) [3, 1, 0] rfl ?_
            exact hi ((v1_1 ||| (zshl (1 : Int32) q5)), (v2_2 + 1)) hf
        · refine z_goto (pc := 18) 50 (zdg D_X12_feet 11 (18, .goto 32, 3) rfl) rfl ?_
          refine z_iinc (pc := 50) (v0 := (v2_2 + 1)) (al' := [(2, zI (v2_2 + 1)), (0, zR 0 0), (1, zI v1_1)]) 2 (zdg D_X12_feet 32 (50, .iinc 2 1, 3) rfl) rfl rfl (by decide) rfl ?_
          refine z_goto (pc := 53) 4 (zdg D_X12_feet 33 (53, .goto (-49), 3) rfl) rfl ?_
          refine z_sub (al' := [(0, zR 0 0), (1, zI v1_1), (2, zI (v2_2 + 1))]) [1, 2, 0] rfl ?_
          exact hi (v1_1, (v2_2 + 1)) hf

def L_X12_holes : List (Nat × Instr × Nat) := [(0, .iconst 0, 1), (1, .istore_n 1, 1), (2, .iconst 0, 1), (3, .istore_n 2, 1), (4, .iload_n 2, 1), (5, .bipush 64, 2), (7, .if_icmp .ge 33, 3), (10, .iload_n 1, 1), (11, .aload_n 0, 1), (12, .iload_n 2, 1), (13, .invokevirtual 320, 3), (16, .ifCond .eq 15, 3), (19, .aload_n 0, 1), (20, .iload_n 2, 1), (21, .invokevirtual 436, 3), (24, .ifCond .ne 7, 3), (27, .iconst 1, 1), (28, .goto 4, 3), (31, .iconst 0, 1), (32, .iadd, 1), (33, .istore_n 1, 1), (34, .iinc 2 1, 3), (37, .goto (-33), 3), (40, .iload_n 1, 1), (41, .ireturn, 1)]
set_option maxRecDepth 100000 in
theorem D_X12_holes : zdecs cX12_holes L_X12_holes = true := by decide +kernel
noncomputable def b_X12_holes_4 (σ : zG) (v1_1 : Int32) (v2_2 : Int32) : Option ((Int32 × Int32) ⊕ (Int32)) :=
  if v2_2 < (64 : Int32) then (f_X12_isInView v2_2 σ).bind (fun q3 => if q3 = 0 then some (Sum.inl ((v1_1 + (0 : Int32)), (v2_2 + 1))) else (f_X12_isPasted v2_2 σ).bind (fun q4 => if q4 = 0 then some (Sum.inl ((v1_1 + (1 : Int32)), (v2_2 + 1))) else some (Sum.inl ((v1_1 + (0 : Int32)), (v2_2 + 1))))) else some (Sum.inr v1_1)
noncomputable def f_X12_holes (σ : zG) : Option (Int32) :=
  (zlp (fun q : Int32 × Int32 => b_X12_holes_4 σ q.1 q.2) ((0 : Int32), (0 : Int32))).bind (fun e5 : Int32 => some e5)
set_option maxRecDepth 100000 in
set_option maxHeartbeats 4000000 in
theorem c_X12_holes (l : Launch)  (σ : zG) (q : Int32) (hq : f_X12_holes σ = some q) : zMet l zsyM m_X12_holes yX12_holes [zR 0 0] σ (some (zI q)) σ := by
  refine zEnter [(0, zR 0 0)] (by decide) rfl (fun _ => Nat.le_of_ble_eq_true rfl) (fun _ => rfl) (fun w h => ?_) (fun K hv hs => ?_)
  · exact zokm rfl h
  · have hP : ∀ x, f_X12_holes σ = some x → zKv K = some (zI x) ∧ zKs K = σ := fun x h => by rw [hq] at h; cases h; exact ⟨hv, hs⟩
    have hn : f_X12_holes σ ≠ none := fun z => by rw [hq] at z; cases z
    have hf := f_X12_holes.eq_1 σ
    refine z_iconst (pc := 0) (v := 0) (zdg D_X12_holes 0 (0, .iconst 0, 1) rfl) rfl ?_
    refine z_istore_n (pc := 1) (al' := [(1, zI (0 : Int32)), (0, zR 0 0)]) (zdg D_X12_holes 1 (1, .istore_n 1, 1) rfl) rfl (by decide) rfl ?_
    refine z_iconst (pc := 2) (v := 0) (zdg D_X12_holes 2 (2, .iconst 0, 1) rfl) rfl ?_
    refine z_istore_n (pc := 3) (al' := [(2, zI (0 : Int32)), (1, zI (0 : Int32)), (0, zR 0 0)]) (zdg D_X12_holes 3 (3, .istore_n 2, 1) rfl) rfl (by decide) rfl ?_
    refine z_sub (al' := [(0, zR 0 0), (1, zI (0 : Int32)), (2, zI (0 : Int32))]) [2, 1, 0] rfl ?_
    refine z_loop (f := (fun q : Int32 × Int32 => b_X12_holes_4 σ q.1 q.2)) (a := ((0 : Int32), (0 : Int32))) (fun q : Int32 × Int32 => zX zsyM m_X12_holes K 4 [(0, zR 0 0), (1, zI q.1), (2, zI q.2)] [] σ) (fun e5 : Int32 => zX zsyM m_X12_holes K 40 [(1, zI e5)] [] σ) hn hf ?_ ?_
    · intro e5 hf
      refine z_iload_n (pc := 40) 0 (zdg D_X12_holes 23 (40, .iload_n 1, 1) rfl) rfl rfl ?_
      exact z_iret (pc := 41) rfl rfl (zdg D_X12_holes 24 (41, .ireturn, 1) rfl) (hP _ hf)
    · rintro ⟨v1_1, v2_2⟩ hn hi hx
      have hf := b_X12_holes_4.eq_1 σ v1_1 v2_2
      refine z_iload_n (pc := 4) 2 (zdg D_X12_holes 4 (4, .iload_n 2, 1) rfl) rfl rfl ?_
      refine z_bipush (pc := 5) (v := 64) (zdg D_X12_holes 5 (5, .bipush 64, 2) rfl) rfl ?_
      refine z_icmp_ge (pc := 7) 40 (zdg D_X12_holes 6 (7, .if_icmp .ge 33, 3) rfl) rfl hf (fun hf => ?_) (fun hf => ?_)
      · refine z_sub (al' := [(1, zI v1_1)]) [1] rfl ?_
        exact hx v1_1 hf
      · refine z_iload_n (pc := 10) 1 (zdg D_X12_holes 7 (10, .iload_n 1, 1) rfl) rfl rfl ?_
        refine z_aload_n (pc := 11) 0 (zdg D_X12_holes 8 (11, .aload_n 0, 1) rfl) rfl rfl ?_
        refine z_iload_n (pc := 12) 2 (zdg D_X12_holes 9 (12, .iload_n 2, 1) rfl) rfl rfl ?_
        refine z_bind hn hf (fun q3 hq hf => ?_)
        refine z_callV (pc := 13) (rest := [zI v1_1]) (st2 := [zI q3, zI v1_1]) (fun l => c_X12_isInView l v2_2 σ q3 hq) zv_X12_isInView lm_X12_320 rfl rfl rfl rfl rfl rfl (Nat.le_of_ble_eq_true rfl) ⟨Nat.le_of_ble_eq_true rfl, Nat.le_of_ble_eq_true rfl⟩ (zdg D_X12_holes 10 (13, .invokevirtual 320, 3) rfl) ?_
        refine z_if_eq (pc := 16) 31 (zdg D_X12_holes 11 (16, .ifCond .eq 15, 3) rfl) rfl hf (fun hf => ?_) (fun hf => ?_)
        · refine z_iconst (pc := 31) (v := 0) (zdg D_X12_holes 18 (31, .iconst 0, 1) rfl) rfl ?_
          refine z_iadd (pc := 32) (zdg D_X12_holes 19 (32, .iadd, 1) rfl) ?_
          refine z_istore_n (pc := 33) (al' := [(1, zI (v1_1 + (0 : Int32))), (0, zR 0 0), (2, zI v2_2)]) (zdg D_X12_holes 20 (33, .istore_n 1, 1) rfl) rfl (by decide) rfl ?_
          refine z_iinc (pc := 34) (v0 := (v2_2 + 1)) (al' := [(2, zI (v2_2 + 1)), (1, zI (v1_1 + (0 : Int32))), (0, zR 0 0)]) 2 (zdg D_X12_holes 21 (34, .iinc 2 1, 3) rfl) rfl rfl (by decide) rfl ?_
          refine z_goto (pc := 37) 4 (zdg D_X12_holes 22 (37, .goto (-33), 3) rfl) rfl ?_
          refine z_sub (al' := [(0, zR 0 0), (1, zI (v1_1 + (0 : Int32))), (2, zI (v2_2 + 1))]) [2, 1, 0] rfl ?_
          exact hi ((v1_1 + (0 : Int32)), (v2_2 + 1)) hf
        · refine z_aload_n (pc := 19) 0 (zdg D_X12_holes 12 (19, .aload_n 0, 1) rfl) rfl rfl ?_
          refine z_iload_n (pc := 20) 2 (zdg D_X12_holes 13 (20, .iload_n 2, 1) rfl) rfl rfl ?_
          refine z_bind hn hf (fun q4 hq hf => ?_)
          refine z_callV (pc := 21) (rest := [zI v1_1]) (st2 := [zI q4, zI v1_1]) (fun l => c_X12_isPasted l v2_2 σ q4 hq) zv_X12_isPasted lm_X12_436 rfl rfl rfl rfl rfl rfl (Nat.le_of_ble_eq_true rfl) ⟨Nat.le_of_ble_eq_true rfl, Nat.le_of_ble_eq_true rfl⟩ (zdg D_X12_holes 14 (21, .invokevirtual 436, 3) rfl) ?_
          refine z_if_ne (pc := 24) 31 (zdg D_X12_holes 15 (24, .ifCond .ne 7, 3) rfl) rfl hf (fun hf => ?_) (fun hf => ?_)
          · refine z_iconst (pc := 31) (v := 0) (zdg D_X12_holes 18 (31, .iconst 0, 1) rfl) rfl ?_
            refine z_iadd (pc := 32) (zdg D_X12_holes 19 (32, .iadd, 1) rfl) ?_
            refine z_istore_n (pc := 33) (al' := [(1, zI (v1_1 + (0 : Int32))), (0, zR 0 0), (2, zI v2_2)]) (zdg D_X12_holes 20 (33, .istore_n 1, 1) rfl) rfl (by decide) rfl ?_
            refine z_iinc (pc := 34) (v0 := (v2_2 + 1)) (al' := [(2, zI (v2_2 + 1)), (1, zI (v1_1 + (0 : Int32))), (0, zR 0 0)]) 2 (zdg D_X12_holes 21 (34, .iinc 2 1, 3) rfl) rfl rfl (by decide) rfl ?_
            refine z_goto (pc := 37) 4 (zdg D_X12_holes 22 (37, .goto (-33), 3) rfl) rfl ?_
            refine z_sub (al' := [(0, zR 0 0), (1, zI (v1_1 + (0 : Int32))), (2, zI (v2_2 + 1))]) [2, 1, 0] rfl ?_
            exact hi ((v1_1 + (0 : Int32)), (v2_2 + 1)) hf
          · refine z_iconst (pc := 27) (v := 1) (zdg D_X12_holes 16 (27, .iconst 1, 1) rfl) rfl ?_
            refine z_goto (pc := 28) 32 (zdg D_X12_holes 17 (28, .goto 4, 3) rfl) rfl ?_
            refine z_iadd (pc := 32) (zdg D_X12_holes 19 (32, .iadd, 1) rfl) ?_
            refine z_istore_n (pc := 33) (al' := [(1, zI (v1_1 + (1 : Int32))), (0, zR 0 0), (2, zI v2_2)]) (zdg D_X12_holes 20 (33, .istore_n 1, 1) rfl) rfl (by decide) rfl ?_
            refine z_iinc (pc := 34) (v0 := (v2_2 + 1)) (al' := [(2, zI (v2_2 + 1)), (1, zI (v1_1 + (1 : Int32))), (0, zR 0 0)]) 2 (zdg D_X12_holes 21 (34, .iinc 2 1, 3) rfl) rfl rfl (by decide) rfl ?_
            refine z_goto (pc := 37) 4 (zdg D_X12_holes 22 (37, .goto (-33), 3) rfl) rfl ?_
            refine z_sub (al' := [(0, zR 0 0), (1, zI (v1_1 + (1 : Int32))), (2, zI (v2_2 + 1))]) [2, 1, 0] rfl ?_
            exact hi ((v1_1 + (1 : Int32)), (v2_2 + 1)) hf

def L_X12_isSeam : List (Nat × Instr × Nat) := [(0, .aload_n 0, 1), (1, .iload_n 1, 1), (2, .invokevirtual 436, 3), (5, .ifCond .eq 28, 3), (8, .aload_n 0, 1), (9, .iload_n 2, 1), (10, .invokevirtual 436, 3), (13, .ifCond .eq 20, 3), (16, .aload_n 0, 1), (17, .iload_n 1, 1), (18, .invokevirtual 433, 3), (21, .aload_n 0, 1), (22, .iload_n 2, 1), (23, .invokevirtual 433, 3), (26, .if_icmp .eq 7, 3), (29, .iconst 1, 1), (30, .goto 4, 3), (33, .iconst 0, 1), (34, .ireturn, 1)]
set_option maxRecDepth 100000 in
theorem D_X12_isSeam : zdecs cX12_isSeam L_X12_isSeam = true := by decide +kernel
noncomputable def f_X12_isSeam (p1 : Int32) (p2 : Int32) (σ : zG) : Option (Int32) :=
  (f_X12_isPasted p1 σ).bind (fun q1 => if q1 = 0 then some (0 : Int32) else (f_X12_isPasted p2 σ).bind (fun q2 => if q2 = 0 then some (0 : Int32) else (f_X12_from p1 σ).bind (fun q3 => (f_X12_from p2 σ).bind (fun q4 => if q3 = q4 then some (0 : Int32) else some (1 : Int32)))))
set_option maxRecDepth 100000 in
set_option maxHeartbeats 4000000 in
theorem c_X12_isSeam (l : Launch) (p1 : Int32) (p2 : Int32) (σ : zG) (q : Int32) (hq : f_X12_isSeam p1 p2 σ = some q) : zMet l zsyM m_X12_isSeam yX12_isSeam [zR 0 0, zI p1, zI p2] σ (some (zI q)) σ := by
  refine zEnter [(0, zR 0 0), (1, zI p1), (2, zI p2)] (by decide) rfl (fun _ => Nat.le_of_ble_eq_true rfl) (fun _ => rfl) (fun w h => ?_) (fun K hv hs => ?_)
  · exact zokm rfl h
  · have hP : ∀ x, f_X12_isSeam p1 p2 σ = some x → zKv K = some (zI x) ∧ zKs K = σ := fun x h => by rw [hq] at h; cases h; exact ⟨hv, hs⟩
    have hn : f_X12_isSeam p1 p2 σ ≠ none := fun z => by rw [hq] at z; cases z
    have hf := f_X12_isSeam.eq_1 p1 p2 σ
    refine z_aload_n (pc := 0) 0 (zdg D_X12_isSeam 0 (0, .aload_n 0, 1) rfl) rfl rfl ?_
    refine z_iload_n (pc := 1) 1 (zdg D_X12_isSeam 1 (1, .iload_n 1, 1) rfl) rfl rfl ?_
    refine z_bind hn hf (fun q1 hq hf => ?_)
    refine z_callV (pc := 2) (rest := []) (st2 := [zI q1]) (fun l => c_X12_isPasted l p1 σ q1 hq) zv_X12_isPasted lm_X12_436 rfl rfl rfl rfl rfl rfl (Nat.le_of_ble_eq_true rfl) ⟨Nat.le_of_ble_eq_true rfl, Nat.le_of_ble_eq_true rfl⟩ (zdg D_X12_isSeam 2 (2, .invokevirtual 436, 3) rfl) ?_
    refine z_if_eq (pc := 5) 33 (zdg D_X12_isSeam 3 (5, .ifCond .eq 28, 3) rfl) rfl hf (fun hf => ?_) (fun hf => ?_)
    · refine z_iconst (pc := 33) (v := 0) (zdg D_X12_isSeam 17 (33, .iconst 0, 1) rfl) rfl ?_
      exact z_iret (pc := 34) rfl rfl (zdg D_X12_isSeam 18 (34, .ireturn, 1) rfl) (hP _ hf)
    · refine z_aload_n (pc := 8) 0 (zdg D_X12_isSeam 4 (8, .aload_n 0, 1) rfl) rfl rfl ?_
      refine z_iload_n (pc := 9) 2 (zdg D_X12_isSeam 5 (9, .iload_n 2, 1) rfl) rfl rfl ?_
      refine z_bind hn hf (fun q2 hq hf => ?_)
      refine z_callV (pc := 10) (rest := []) (st2 := [zI q2]) (fun l => c_X12_isPasted l p2 σ q2 hq) zv_X12_isPasted lm_X12_436 rfl rfl rfl rfl rfl rfl (Nat.le_of_ble_eq_true rfl) ⟨Nat.le_of_ble_eq_true rfl, Nat.le_of_ble_eq_true rfl⟩ (zdg D_X12_isSeam 6 (10, .invokevirtual 436, 3) rfl) ?_
      refine z_if_eq (pc := 13) 33 (zdg D_X12_isSeam 7 (13, .ifCond .eq 20, 3) rfl) rfl hf (fun hf => ?_) (fun hf => ?_)
      · refine z_iconst (pc := 33) (v := 0) (zdg D_X12_isSeam 17 (33, .iconst 0, 1) rfl) rfl ?_
        exact z_iret (pc := 34) rfl rfl (zdg D_X12_isSeam 18 (34, .ireturn, 1) rfl) (hP _ hf)
      · refine z_aload_n (pc := 16) 0 (zdg D_X12_isSeam 8 (16, .aload_n 0, 1) rfl) rfl rfl ?_
        refine z_iload_n (pc := 17) 1 (zdg D_X12_isSeam 9 (17, .iload_n 1, 1) rfl) rfl rfl ?_
        refine z_bind hn hf (fun q3 hq hf => ?_)
        refine z_callV (pc := 18) (rest := []) (st2 := [zI q3]) (fun l => c_X12_from l p1 σ q3 hq) zv_X12_from lm_X12_433 rfl rfl rfl rfl rfl rfl (Nat.le_of_ble_eq_true rfl) ⟨Nat.le_of_ble_eq_true rfl, Nat.le_of_ble_eq_true rfl⟩ (zdg D_X12_isSeam 10 (18, .invokevirtual 433, 3) rfl) ?_
        refine z_aload_n (pc := 21) 0 (zdg D_X12_isSeam 11 (21, .aload_n 0, 1) rfl) rfl rfl ?_
        refine z_iload_n (pc := 22) 2 (zdg D_X12_isSeam 12 (22, .iload_n 2, 1) rfl) rfl rfl ?_
        refine z_bind hn hf (fun q4 hq hf => ?_)
        refine z_callV (pc := 23) (rest := [zI q3]) (st2 := [zI q4, zI q3]) (fun l => c_X12_from l p2 σ q4 hq) zv_X12_from lm_X12_433 rfl rfl rfl rfl rfl rfl (Nat.le_of_ble_eq_true rfl) ⟨Nat.le_of_ble_eq_true rfl, Nat.le_of_ble_eq_true rfl⟩ (zdg D_X12_isSeam 13 (23, .invokevirtual 433, 3) rfl) ?_
        refine z_icmp_eq (pc := 26) 33 (zdg D_X12_isSeam 14 (26, .if_icmp .eq 7, 3) rfl) rfl hf (fun hf => ?_) (fun hf => ?_)
        · refine z_iconst (pc := 33) (v := 0) (zdg D_X12_isSeam 17 (33, .iconst 0, 1) rfl) rfl ?_
          exact z_iret (pc := 34) rfl rfl (zdg D_X12_isSeam 18 (34, .ireturn, 1) rfl) (hP _ hf)
        · refine z_iconst (pc := 29) (v := 1) (zdg D_X12_isSeam 15 (29, .iconst 1, 1) rfl) rfl ?_
          refine z_goto (pc := 30) 34 (zdg D_X12_isSeam 16 (30, .goto 4, 3) rfl) rfl ?_
          exact z_iret (pc := 34) rfl rfl (zdg D_X12_isSeam 18 (34, .ireturn, 1) rfl) (hP _ hf)

def L_X12_seams : List (Nat × Instr × Nat) := [(0, .iconst 0, 1), (1, .istore_n 1, 1), (2, .iconst 0, 1), (3, .istore_n 2, 1), (4, .iload_n 2, 1), (5, .bipush 64, 2), (7, .if_icmp .ge 58, 3), (10, .iload_n 2, 1), (11, .bipush 8, 2), (13, .irem, 1), (14, .iconst 1, 1), (15, .iadd, 1), (16, .bipush 8, 2), (18, .if_icmp .ge 17, 3), (21, .aload_n 0, 1), (22, .iload_n 2, 1), (23, .iload_n 2, 1), (24, .iconst 1, 1), (25, .iadd, 1), (26, .invokevirtual 439, 3), (29, .ifCond .eq 6, 3), (32, .iinc 1 1, 3), (35, .iload_n 2, 1), (36, .bipush 8, 2), (38, .iadd, 1), (39, .bipush 64, 2), (41, .if_icmp .ge 18, 3), (44, .aload_n 0, 1), (45, .iload_n 2, 1), (46, .iload_n 2, 1), (47, .bipush 8, 2), (49, .iadd, 1), (50, .invokevirtual 439, 3), (53, .ifCond .eq 6, 3), (56, .iinc 1 1, 3), (59, .iinc 2 1, 3), (62, .goto (-58), 3), (65, .iload_n 1, 1), (66, .ireturn, 1)]
set_option maxRecDepth 100000 in
theorem D_X12_seams : zdecs cX12_seams L_X12_seams = true := by decide +kernel
noncomputable def j_X12_seams_35_4 (σ : zG) (w1_3 : Int32) (w2_4 : Int32) : Option ((Int32 × Int32) ⊕ (Int32)) :=
  if (w2_4 + (8 : Int32)) < (64 : Int32) then (f_X12_isSeam w2_4 (w2_4 + (8 : Int32)) σ).bind (fun q5 => if q5 = 0 then some (Sum.inl (w1_3, (w2_4 + 1))) else some (Sum.inl ((w1_3 + 1), (w2_4 + 1)))) else some (Sum.inl (w1_3, (w2_4 + 1)))
noncomputable def b_X12_seams_4 (σ : zG) (v1_1 : Int32) (v2_2 : Int32) : Option ((Int32 × Int32) ⊕ (Int32)) :=
  if v2_2 < (64 : Int32) then if ((zrem v2_2 (8 : Int32)) + (1 : Int32)) < (8 : Int32) then (f_X12_isSeam v2_2 (v2_2 + (1 : Int32)) σ).bind (fun q6 => if q6 = 0 then j_X12_seams_35_4 σ v1_1 v2_2 else j_X12_seams_35_4 σ (v1_1 + 1) v2_2) else j_X12_seams_35_4 σ v1_1 v2_2 else some (Sum.inr v1_1)
noncomputable def f_X12_seams (σ : zG) : Option (Int32) :=
  (zlp (fun q : Int32 × Int32 => b_X12_seams_4 σ q.1 q.2) ((0 : Int32), (0 : Int32))).bind (fun e7 : Int32 => some e7)
set_option maxRecDepth 100000 in
set_option maxHeartbeats 4000000 in
theorem c_X12_seams (l : Launch)  (σ : zG) (q : Int32) (hq : f_X12_seams σ = some q) : zMet l zsyM m_X12_seams yX12_seams [zR 0 0] σ (some (zI q)) σ := by
  refine zEnter [(0, zR 0 0)] (by decide) rfl (fun _ => Nat.le_of_ble_eq_true rfl) (fun _ => rfl) (fun w h => ?_) (fun K hv hs => ?_)
  · exact zokm rfl h
  · have hP : ∀ x, f_X12_seams σ = some x → zKv K = some (zI x) ∧ zKs K = σ := fun x h => by rw [hq] at h; cases h; exact ⟨hv, hs⟩
    have hn : f_X12_seams σ ≠ none := fun z => by rw [hq] at z; cases z
    have hf := f_X12_seams.eq_1 σ
    refine z_iconst (pc := 0) (v := 0) (zdg D_X12_seams 0 (0, .iconst 0, 1) rfl) rfl ?_
    refine z_istore_n (pc := 1) (al' := [(1, zI (0 : Int32)), (0, zR 0 0)]) (zdg D_X12_seams 1 (1, .istore_n 1, 1) rfl) rfl (by decide) rfl ?_
    refine z_iconst (pc := 2) (v := 0) (zdg D_X12_seams 2 (2, .iconst 0, 1) rfl) rfl ?_
    refine z_istore_n (pc := 3) (al' := [(2, zI (0 : Int32)), (1, zI (0 : Int32)), (0, zR 0 0)]) (zdg D_X12_seams 3 (3, .istore_n 2, 1) rfl) rfl (by decide) rfl ?_
    refine z_sub (al' := [(0, zR 0 0), (1, zI (0 : Int32)), (2, zI (0 : Int32))]) [2, 1, 0] rfl ?_
    refine z_loop (f := (fun q : Int32 × Int32 => b_X12_seams_4 σ q.1 q.2)) (a := ((0 : Int32), (0 : Int32))) (fun q : Int32 × Int32 => zX zsyM m_X12_seams K 4 [(0, zR 0 0), (1, zI q.1), (2, zI q.2)] [] σ) (fun e7 : Int32 => zX zsyM m_X12_seams K 65 [(1, zI e7)] [] σ) hn hf ?_ ?_
    · intro e7 hf
      refine z_iload_n (pc := 65) 0 (zdg D_X12_seams 37 (65, .iload_n 1, 1) rfl) rfl rfl ?_
      exact z_iret (pc := 66) rfl rfl (zdg D_X12_seams 38 (66, .ireturn, 1) rfl) (hP _ hf)
    · rintro ⟨v1_1, v2_2⟩ hn hi hx
      have hf := b_X12_seams_4.eq_1 σ v1_1 v2_2
      have t_35 : ∀ (w1_3 : Int32) (w2_4 : Int32), b_X12_seams_4 σ v1_1 v2_2 = j_X12_seams_35_4 σ w1_3 w2_4 → zX zsyM m_X12_seams K 35 [(0, zR 0 0), (1, zI w1_3), (2, zI w2_4)] [] σ := by
        intro w1_3 w2_4 hf
        replace hf := hf.trans (j_X12_seams_35_4.eq_1 σ w1_3 w2_4)
        refine z_iload_n (pc := 35) 2 (zdg D_X12_seams 22 (35, .iload_n 2, 1) rfl) rfl rfl ?_
        refine z_bipush (pc := 36) (v := 8) (zdg D_X12_seams 23 (36, .bipush 8, 2) rfl) rfl ?_
        refine z_iadd (pc := 38) (zdg D_X12_seams 24 (38, .iadd, 1) rfl) ?_
        refine z_bipush (pc := 39) (v := 64) (zdg D_X12_seams 25 (39, .bipush 64, 2) rfl) rfl ?_
        refine z_icmp_ge (pc := 41) 59 (zdg D_X12_seams 26 (41, .if_icmp .ge 18, 3) rfl) rfl hf (fun hf => ?_) (fun hf => ?_)
        · refine z_iinc (pc := 59) (v0 := (w2_4 + 1)) (al' := [(2, zI (w2_4 + 1)), (0, zR 0 0), (1, zI w1_3)]) 2 (zdg D_X12_seams 35 (59, .iinc 2 1, 3) rfl) rfl rfl (by decide) rfl ?_
          refine z_goto (pc := 62) 4 (zdg D_X12_seams 36 (62, .goto (-58), 3) rfl) rfl ?_
          refine z_sub (al' := [(0, zR 0 0), (1, zI w1_3), (2, zI (w2_4 + 1))]) [1, 2, 0] rfl ?_
          exact hi (w1_3, (w2_4 + 1)) hf
        · refine z_aload_n (pc := 44) 0 (zdg D_X12_seams 27 (44, .aload_n 0, 1) rfl) rfl rfl ?_
          refine z_iload_n (pc := 45) 2 (zdg D_X12_seams 28 (45, .iload_n 2, 1) rfl) rfl rfl ?_
          refine z_iload_n (pc := 46) 2 (zdg D_X12_seams 29 (46, .iload_n 2, 1) rfl) rfl rfl ?_
          refine z_bipush (pc := 47) (v := 8) (zdg D_X12_seams 30 (47, .bipush 8, 2) rfl) rfl ?_
          refine z_iadd (pc := 49) (zdg D_X12_seams 31 (49, .iadd, 1) rfl) ?_
          refine z_bind hn hf (fun q5 hq hf => ?_)
          refine z_callV (pc := 50) (rest := []) (st2 := [zI q5]) (fun l => c_X12_isSeam l w2_4 (w2_4 + (8 : Int32)) σ q5 hq) zv_X12_isSeam lm_X12_439 rfl rfl rfl rfl rfl rfl (Nat.le_of_ble_eq_true rfl) ⟨Nat.le_of_ble_eq_true rfl, Nat.le_of_ble_eq_true rfl⟩ (zdg D_X12_seams 32 (50, .invokevirtual 439, 3) rfl) ?_
          refine z_if_eq (pc := 53) 59 (zdg D_X12_seams 33 (53, .ifCond .eq 6, 3) rfl) rfl hf (fun hf => ?_) (fun hf => ?_)
          · refine z_iinc (pc := 59) (v0 := (w2_4 + 1)) (al' := [(2, zI (w2_4 + 1)), (0, zR 0 0), (1, zI w1_3)]) 2 (zdg D_X12_seams 35 (59, .iinc 2 1, 3) rfl) rfl rfl (by decide) rfl ?_
            refine z_goto (pc := 62) 4 (zdg D_X12_seams 36 (62, .goto (-58), 3) rfl) rfl ?_
            refine z_sub (al' := [(0, zR 0 0), (1, zI w1_3), (2, zI (w2_4 + 1))]) [1, 2, 0] rfl ?_
            exact hi (w1_3, (w2_4 + 1)) hf
          · refine z_iinc (pc := 56) (v0 := (w1_3 + 1)) (al' := [(1, zI (w1_3 + 1)), (0, zR 0 0), (2, zI w2_4)]) 1 (zdg D_X12_seams 34 (56, .iinc 1 1, 3) rfl) rfl rfl (by decide) rfl ?_
            refine z_iinc (pc := 59) (v0 := (w2_4 + 1)) (al' := [(2, zI (w2_4 + 1)), (1, zI (w1_3 + 1)), (0, zR 0 0)]) 2 (zdg D_X12_seams 35 (59, .iinc 2 1, 3) rfl) rfl rfl (by decide) rfl ?_
            refine z_goto (pc := 62) 4 (zdg D_X12_seams 36 (62, .goto (-58), 3) rfl) rfl ?_
            refine z_sub (al' := [(0, zR 0 0), (1, zI (w1_3 + 1)), (2, zI (w2_4 + 1))]) [2, 1, 0] rfl ?_
            exact hi ((w1_3 + 1), (w2_4 + 1)) hf
      refine z_iload_n (pc := 4) 2 (zdg D_X12_seams 4 (4, .iload_n 2, 1) rfl) rfl rfl ?_
      refine z_bipush (pc := 5) (v := 64) (zdg D_X12_seams 5 (5, .bipush 64, 2) rfl) rfl ?_
      refine z_icmp_ge (pc := 7) 65 (zdg D_X12_seams 6 (7, .if_icmp .ge 58, 3) rfl) rfl hf (fun hf => ?_) (fun hf => ?_)
      · refine z_sub (al' := [(1, zI v1_1)]) [1] rfl ?_
        exact hx v1_1 hf
      · refine z_iload_n (pc := 10) 2 (zdg D_X12_seams 7 (10, .iload_n 2, 1) rfl) rfl rfl ?_
        refine z_bipush (pc := 11) (v := 8) (zdg D_X12_seams 8 (11, .bipush 8, 2) rfl) rfl ?_
        refine z_iremK (pc := 13) (zdg D_X12_seams 9 (13, .irem, 1) rfl) rfl ?_
        refine z_iconst (pc := 14) (v := 1) (zdg D_X12_seams 10 (14, .iconst 1, 1) rfl) rfl ?_
        refine z_iadd (pc := 15) (zdg D_X12_seams 11 (15, .iadd, 1) rfl) ?_
        refine z_bipush (pc := 16) (v := 8) (zdg D_X12_seams 12 (16, .bipush 8, 2) rfl) rfl ?_
        refine z_icmp_ge (pc := 18) 35 (zdg D_X12_seams 13 (18, .if_icmp .ge 17, 3) rfl) rfl hf (fun hf => ?_) (fun hf => ?_)
        · exact t_35 v1_1 v2_2 hf
        · refine z_aload_n (pc := 21) 0 (zdg D_X12_seams 14 (21, .aload_n 0, 1) rfl) rfl rfl ?_
          refine z_iload_n (pc := 22) 2 (zdg D_X12_seams 15 (22, .iload_n 2, 1) rfl) rfl rfl ?_
          refine z_iload_n (pc := 23) 2 (zdg D_X12_seams 16 (23, .iload_n 2, 1) rfl) rfl rfl ?_
          refine z_iconst (pc := 24) (v := 1) (zdg D_X12_seams 17 (24, .iconst 1, 1) rfl) rfl ?_
          refine z_iadd (pc := 25) (zdg D_X12_seams 18 (25, .iadd, 1) rfl) ?_
          refine z_bind hn hf (fun q6 hq hf => ?_)
          refine z_callV (pc := 26) (rest := []) (st2 := [zI q6]) (fun l => c_X12_isSeam l v2_2 (v2_2 + (1 : Int32)) σ q6 hq) zv_X12_isSeam lm_X12_439 rfl rfl rfl rfl rfl rfl (Nat.le_of_ble_eq_true rfl) ⟨Nat.le_of_ble_eq_true rfl, Nat.le_of_ble_eq_true rfl⟩ (zdg D_X12_seams 19 (26, .invokevirtual 439, 3) rfl) ?_
          refine z_if_eq (pc := 29) 35 (zdg D_X12_seams 20 (29, .ifCond .eq 6, 3) rfl) rfl hf (fun hf => ?_) (fun hf => ?_)
          · exact t_35 v1_1 v2_2 hf
          · refine z_iinc (pc := 32) (v0 := (v1_1 + 1)) (al' := [(1, zI (v1_1 + 1)), (0, zR 0 0), (2, zI v2_2)]) 1 (zdg D_X12_seams 21 (32, .iinc 1 1, 3) rfl) rfl rfl (by decide) rfl ?_
            refine z_sub (al' := [(0, zR 0 0), (1, zI (v1_1 + 1)), (2, zI v2_2)]) [1, 0, 2] rfl ?_
            exact t_35 (v1_1 + 1) v2_2 hf

def L_X12_picture : List (Nat × Instr × Nat) := [(0, .iload_n 1, 1), (1, .tableswitch 42 0 2 #[27, 32, 37], 27), (28, .aload_n 0, 1), (29, .invokevirtual 442, 3), (32, .ireturn, 1), (33, .aload_n 0, 1), (34, .invokevirtual 445, 3), (37, .ireturn, 1), (38, .aload_n 0, 1), (39, .invokevirtual 448, 3), (42, .ireturn, 1), (43, .iload_n 1, 1), (44, .bipush 9, 2), (46, .if_icmp .le 25, 3), (49, .aload_n 0, 1), (50, .iload_n 1, 1), (51, .bipush 10, 2), (53, .isub, 1), (54, .invokevirtual 236, 3), (57, .ifCond .eq 14, 3), (60, .aload_n 0, 1), (61, .iload_n 1, 1), (62, .bipush 10, 2), (64, .isub, 1), (65, .invokevirtual 433, 3), (68, .goto 5, 3), (71, .bipush (-2), 2), (73, .ireturn, 1)]
set_option maxRecDepth 100000 in
theorem D_X12_picture : zdecs cX12_picture L_X12_picture = true := by decide +kernel
noncomputable def f_X12_picture (p1 : Int32) (σ : zG) : Option (Int32) :=
  if p1 = 0 then (f_X12_feet σ).bind (fun q1 => some q1) else if p1 = 1 then (f_X12_holes σ).bind (fun q2 => some q2) else if p1 = 2 then (f_X12_seams σ).bind (fun q3 => some q3) else if (9 : Int32) < p1 then (f_X12_isSpot (p1 - (10 : Int32)) σ).bind (fun q4 => if q4 = 0 then some (-2 : Int32) else (f_X12_from (p1 - (10 : Int32)) σ).bind (fun q5 => some q5)) else some (-2 : Int32)
set_option maxRecDepth 100000 in
set_option maxHeartbeats 4000000 in
theorem c_X12_picture (l : Launch) (p1 : Int32) (σ : zG) (q : Int32) (hq : f_X12_picture p1 σ = some q) : zMet l zsyM m_X12_picture yX12_picture [zR 0 0, zI p1] σ (some (zI q)) σ := by
  refine zEnter [(0, zR 0 0), (1, zI p1)] (by decide) rfl (fun _ => Nat.le_of_ble_eq_true rfl) (fun _ => rfl) (fun w h => ?_) (fun K hv hs => ?_)
  · exact zokm rfl h
  · have hP : ∀ x, f_X12_picture p1 σ = some x → zKv K = some (zI x) ∧ zKs K = σ := fun x h => by rw [hq] at h; cases h; exact ⟨hv, hs⟩
    have hn : f_X12_picture p1 σ ≠ none := fun z => by rw [hq] at z; cases z
    have hf := f_X12_picture.eq_1 p1 σ
    refine z_iload_n (pc := 0) 1 (zdg D_X12_picture 0 (0, .iload_n 1, 1) rfl) rfl rfl ?_
    refine zif hf (fun hc0 hf => ?_) (fun hc0 hf => ?_)
    · refine z_tsIn (pc := 1) (c := 0) (j := 0) 28 (zdg D_X12_picture 1 (1, .tableswitch 42 0 2 #[27, 32, 37], 27) rfl) hc0 (by decide) (by decide) rfl rfl rfl ?_
      refine z_aload_n (pc := 28) 0 (zdg D_X12_picture 2 (28, .aload_n 0, 1) rfl) rfl rfl ?_
      refine z_bind hn hf (fun q1 hq hf => ?_)
      refine z_callV (pc := 29) (rest := []) (st2 := [zI q1]) (fun l => c_X12_feet l σ q1 hq) zv_X12_feet lm_X12_442 rfl rfl rfl rfl rfl rfl (Nat.le_of_ble_eq_true rfl) ⟨Nat.le_of_ble_eq_true rfl, Nat.le_of_ble_eq_true rfl⟩ (zdg D_X12_picture 3 (29, .invokevirtual 442, 3) rfl) ?_
      exact z_iret (pc := 32) rfl rfl (zdg D_X12_picture 4 (32, .ireturn, 1) rfl) (hP _ hf)
    · skip
      refine zif hf (fun hc1 hf => ?_) (fun hc1 hf => ?_)
      · refine z_tsIn (pc := 1) (c := 1) (j := 1) 33 (zdg D_X12_picture 1 (1, .tableswitch 42 0 2 #[27, 32, 37], 27) rfl) hc1 (by decide) (by decide) rfl rfl rfl ?_
        refine z_aload_n (pc := 33) 0 (zdg D_X12_picture 5 (33, .aload_n 0, 1) rfl) rfl rfl ?_
        refine z_bind hn hf (fun q2 hq hf => ?_)
        refine z_callV (pc := 34) (rest := []) (st2 := [zI q2]) (fun l => c_X12_holes l σ q2 hq) zv_X12_holes lm_X12_445 rfl rfl rfl rfl rfl rfl (Nat.le_of_ble_eq_true rfl) ⟨Nat.le_of_ble_eq_true rfl, Nat.le_of_ble_eq_true rfl⟩ (zdg D_X12_picture 6 (34, .invokevirtual 445, 3) rfl) ?_
        exact z_iret (pc := 37) rfl rfl (zdg D_X12_picture 7 (37, .ireturn, 1) rfl) (hP _ hf)
      · skip
        refine zif hf (fun hc2 hf => ?_) (fun hc2 hf => ?_)
        · refine z_tsIn (pc := 1) (c := 2) (j := 2) 38 (zdg D_X12_picture 1 (1, .tableswitch 42 0 2 #[27, 32, 37], 27) rfl) hc2 (by decide) (by decide) rfl rfl rfl ?_
          refine z_aload_n (pc := 38) 0 (zdg D_X12_picture 8 (38, .aload_n 0, 1) rfl) rfl rfl ?_
          refine z_bind hn hf (fun q3 hq hf => ?_)
          refine z_callV (pc := 39) (rest := []) (st2 := [zI q3]) (fun l => c_X12_seams l σ q3 hq) zv_X12_seams lm_X12_448 rfl rfl rfl rfl rfl rfl (Nat.le_of_ble_eq_true rfl) ⟨Nat.le_of_ble_eq_true rfl, Nat.le_of_ble_eq_true rfl⟩ (zdg D_X12_picture 9 (39, .invokevirtual 448, 3) rfl) ?_
          exact z_iret (pc := 42) rfl rfl (zdg D_X12_picture 10 (42, .ireturn, 1) rfl) (hP _ hf)
        · skip
          refine z_tsOut (pc := 1) 43 (zdg D_X12_picture 1 (1, .tableswitch 42 0 2 #[27, 32, 37], 27) rfl) (by have e0 := lv_neT hc0 (k := 0) (a := 0) rfl; have e1 := lv_neT hc1 (k := 1) (a := 1) rfl; have e2 := lv_neT hc2 (k := 2) (a := 2) rfl; omega) rfl ?_
          refine z_iload_n (pc := 43) 1 (zdg D_X12_picture 11 (43, .iload_n 1, 1) rfl) rfl rfl ?_
          refine z_bipush (pc := 44) (v := 9) (zdg D_X12_picture 12 (44, .bipush 9, 2) rfl) rfl ?_
          refine z_icmp_le (pc := 46) 71 (zdg D_X12_picture 13 (46, .if_icmp .le 25, 3) rfl) rfl hf (fun hf => ?_) (fun hf => ?_)
          · refine z_bipush (pc := 71) (v := -2) (zdg D_X12_picture 26 (71, .bipush (-2), 2) rfl) rfl ?_
            exact z_iret (pc := 73) rfl rfl (zdg D_X12_picture 27 (73, .ireturn, 1) rfl) (hP _ hf)
          · refine z_aload_n (pc := 49) 0 (zdg D_X12_picture 14 (49, .aload_n 0, 1) rfl) rfl rfl ?_
            refine z_iload_n (pc := 50) 1 (zdg D_X12_picture 15 (50, .iload_n 1, 1) rfl) rfl rfl ?_
            refine z_bipush (pc := 51) (v := 10) (zdg D_X12_picture 16 (51, .bipush 10, 2) rfl) rfl ?_
            refine z_isub (pc := 53) (zdg D_X12_picture 17 (53, .isub, 1) rfl) ?_
            refine z_bind hn hf (fun q4 hq hf => ?_)
            refine z_callV (pc := 54) (rest := []) (st2 := [zI q4]) (fun l => c_X12_isSpot l (p1 - (10 : Int32)) σ q4 hq) zv_X12_isSpot lm_X12_236 rfl rfl rfl rfl rfl rfl (Nat.le_of_ble_eq_true rfl) ⟨Nat.le_of_ble_eq_true rfl, Nat.le_of_ble_eq_true rfl⟩ (zdg D_X12_picture 18 (54, .invokevirtual 236, 3) rfl) ?_
            refine z_if_eq (pc := 57) 71 (zdg D_X12_picture 19 (57, .ifCond .eq 14, 3) rfl) rfl hf (fun hf => ?_) (fun hf => ?_)
            · refine z_bipush (pc := 71) (v := -2) (zdg D_X12_picture 26 (71, .bipush (-2), 2) rfl) rfl ?_
              exact z_iret (pc := 73) rfl rfl (zdg D_X12_picture 27 (73, .ireturn, 1) rfl) (hP _ hf)
            · refine z_aload_n (pc := 60) 0 (zdg D_X12_picture 20 (60, .aload_n 0, 1) rfl) rfl rfl ?_
              refine z_iload_n (pc := 61) 1 (zdg D_X12_picture 21 (61, .iload_n 1, 1) rfl) rfl rfl ?_
              refine z_bipush (pc := 62) (v := 10) (zdg D_X12_picture 22 (62, .bipush 10, 2) rfl) rfl ?_
              refine z_isub (pc := 64) (zdg D_X12_picture 23 (64, .isub, 1) rfl) ?_
              refine z_bind hn hf (fun q5 hq hf => ?_)
              refine z_callV (pc := 65) (rest := []) (st2 := [zI q5]) (fun l => c_X12_from l (p1 - (10 : Int32)) σ q5 hq) zv_X12_from lm_X12_433 rfl rfl rfl rfl rfl rfl (Nat.le_of_ble_eq_true rfl) ⟨Nat.le_of_ble_eq_true rfl, Nat.le_of_ble_eq_true rfl⟩ (zdg D_X12_picture 24 (65, .invokevirtual 433, 3) rfl) ?_
              refine z_goto (pc := 68) 73 (zdg D_X12_picture 25 (68, .goto 5, 3) rfl) rfl ?_
              exact z_iret (pc := 73) rfl rfl (zdg D_X12_picture 27 (73, .ireturn, 1) rfl) (hP _ hf)

def L_X12_image : List (Nat × Instr × Nat) := [(0, .iload_n 1, 1), (1, .ifCond .ne 12, 3), (4, .aload_n 0, 1), (5, .getfield 451, 3), (8, .ifCond .ne 5, 3), (11, .iconst 0, 1), (12, .ireturn, 1), (13, .iconst 0, 1), (14, .istore_n 2, 1), (15, .iload_n 2, 1), (16, .sipush 9248, 3), (19, .if_icmp .ge 40, 3), (22, .iload_n 1, 1), (23, .ifCond .eq 18, 3), (26, .aload_n 0, 1), (27, .getfield 13, 3), (30, .iload_n 2, 1), (31, .aload_n 0, 1), (32, .getfield 7, 3), (35, .iload_n 2, 1), (36, .iaload, 1), (37, .iastore, 1), (38, .goto 15, 3), (41, .aload_n 0, 1), (42, .getfield 7, 3), (45, .iload_n 2, 1), (46, .aload_n 0, 1), (47, .getfield 13, 3), (50, .iload_n 2, 1), (51, .iaload, 1), (52, .iastore, 1), (53, .iinc 2 1, 3), (56, .goto (-41), 3), (59, .iload_n 1, 1), (60, .ifCond .ne 7, 3), (63, .aload_n 0, 1), (64, .invokevirtual 72, 3), (67, .aload_n 0, 1), (68, .iconst 1, 1), (69, .putfield 451, 3), (72, .iconst 1, 1), (73, .ireturn, 1)]
set_option maxRecDepth 100000 in
theorem D_X12_image : zdecs cX12_image L_X12_image = true := by decide +kernel
noncomputable def b_X12_image_15 (p1 : Int32) (v2_2 : Int32) (s3 : zG) : Option ((Int32 × zG) ⊕ (zG)) :=
  if v2_2 < (9248 : Int32) then if p1 = 0 then zg (zin v2_2 9248) (zg (zin v2_2 9248) (zb (zwI s3 1 0 v2_2.toNatClampNeg (s3.1 2 0 v2_2.toNatClampNeg)) (fun s4 => some (Sum.inl ((v2_2 + 1), s4))))) else zg (zin v2_2 9248) (zg (zin v2_2 9248) (zb (zwI s3 2 0 v2_2.toNatClampNeg (s3.1 1 0 v2_2.toNatClampNeg)) (fun s5 => some (Sum.inl ((v2_2 + 1), s5))))) else some (Sum.inr s3)
noncomputable def j_X12_image_13 (p1 : Int32) (s1 : zG) : Option (Int32 × zG) :=
  (zlp (fun q : Int32 × zG => b_X12_image_15 p1 q.1 q.2) ((0 : Int32), s1)).bind (fun e6 : zG => if p1 = 0 then zb (f_X12_forgets e6) (fun s8 => zb (zwI s8 0 0 4 (1 : Int32)) (fun s9 => some ((1 : Int32), s9))) else zb (zwI e6 0 0 4 (1 : Int32)) (fun s7 => some ((1 : Int32), s7)))
noncomputable def f_X12_image (p1 : Int32) (σ : zG) : Option (Int32 × zG) :=
  if p1 = 0 then if (σ.1 0 0 4) = 0 then some ((0 : Int32), σ) else j_X12_image_13 p1 σ else j_X12_image_13 p1 σ
set_option maxRecDepth 100000 in
set_option maxHeartbeats 4000000 in
theorem c_X12_image (l : Launch) (p1 : Int32) (σ : zG) (q : Int32 × zG) (hq : f_X12_image p1 σ = some q) : zMet l zsyM m_X12_image yX12_image [zR 0 0, zI p1] σ (some (zI q.1)) q.2 := by
  refine zEnter [(0, zR 0 0), (1, zI p1)] (by decide) rfl (fun _ => Nat.le_of_ble_eq_true rfl) (fun _ => rfl) (fun w h => ?_) (fun K hv hs => ?_)
  · exact zokm rfl h
  · have hP : ∀ x s, f_X12_image p1 σ = some (x, s) → zKv K = some (zI x) ∧ zKs K = s := fun x s h => by rw [hq] at h; cases h; exact ⟨hv, hs⟩
    have hn : f_X12_image p1 σ ≠ none := fun z => by rw [hq] at z; cases z
    have hf := f_X12_image.eq_1 p1 σ
    have t_13 : ∀ (s1 : zG), f_X12_image p1 σ = j_X12_image_13 p1 s1 → zX zsyM m_X12_image K 13 [(0, zR 0 0), (1, zI p1)] [] s1 := by
      intro s1 hf
      replace hf := hf.trans (j_X12_image_13.eq_1 p1 s1)
      refine z_iconst (pc := 13) (v := 0) (zdg D_X12_image 7 (13, .iconst 0, 1) rfl) rfl ?_
      refine z_istore_n (pc := 14) (al' := [(2, zI (0 : Int32)), (0, zR 0 0), (1, zI p1)]) (zdg D_X12_image 8 (14, .istore_n 2, 1) rfl) rfl (by decide) rfl ?_
      refine z_sub (al' := [(0, zR 0 0), (1, zI p1), (2, zI (0 : Int32))]) [1, 2, 0] rfl ?_
      refine z_loop (f := (fun q : Int32 × zG => b_X12_image_15 p1 q.1 q.2)) (a := ((0 : Int32), s1)) (fun q : Int32 × zG => zX zsyM m_X12_image K 15 [(0, zR 0 0), (1, zI p1), (2, zI q.1)] [] q.2) (fun e6 : zG => zX zsyM m_X12_image K 59 [(0, zR 0 0), (1, zI p1)] [] e6) hn hf ?_ ?_
      · intro e6 hf
        refine z_iload_n (pc := 59) 1 (zdg D_X12_image 33 (59, .iload_n 1, 1) rfl) rfl rfl ?_
        refine z_if_ne (pc := 60) 67 (zdg D_X12_image 34 (60, .ifCond .ne 7, 3) rfl) rfl hf (fun hf => ?_) (fun hf => ?_)
        · refine z_aload_n (pc := 67) 0 (zdg D_X12_image 37 (67, .aload_n 0, 1) rfl) rfl rfl ?_
          refine z_iconst (pc := 68) (v := 1) (zdg D_X12_image 38 (68, .iconst 1, 1) rfl) rfl ?_
          refine z_putI (pc := 69) lw_X12_451 rfl rfl rfl rfl (zdg D_X12_image 39 (69, .putfield 451, 3) rfl) ?_
          refine z_nmS hf (fun s7 hf => ?_)
          refine z_iconst (pc := 72) (v := 1) (zdg D_X12_image 40 (72, .iconst 1, 1) rfl) rfl ?_
          exact z_iret (pc := 73) rfl rfl (zdg D_X12_image 41 (73, .ireturn, 1) rfl) (hP _ _ hf)
        · refine z_aload_n (pc := 63) 0 (zdg D_X12_image 35 (63, .aload_n 0, 1) rfl) rfl rfl ?_
          refine z_callV (pc := 64) (rest := []) (st2 := []) (fun l => c_X12_forgets l e6) zv_X12_forgets lm_X12_72 rfl rfl rfl rfl rfl rfl (Nat.le_of_ble_eq_true rfl) ⟨Nat.le_of_ble_eq_true rfl, Nat.le_of_ble_eq_true rfl⟩ (zdg D_X12_image 36 (64, .invokevirtual 72, 3) rfl) ?_
          refine z_nmS hf (fun s8 hf => ?_)
          refine z_aload_n (pc := 67) 0 (zdg D_X12_image 37 (67, .aload_n 0, 1) rfl) rfl rfl ?_
          refine z_iconst (pc := 68) (v := 1) (zdg D_X12_image 38 (68, .iconst 1, 1) rfl) rfl ?_
          refine z_putI (pc := 69) lw_X12_451 rfl rfl rfl rfl (zdg D_X12_image 39 (69, .putfield 451, 3) rfl) ?_
          refine z_nmS hf (fun s9 hf => ?_)
          refine z_iconst (pc := 72) (v := 1) (zdg D_X12_image 40 (72, .iconst 1, 1) rfl) rfl ?_
          exact z_iret (pc := 73) rfl rfl (zdg D_X12_image 41 (73, .ireturn, 1) rfl) (hP _ _ hf)
      · rintro ⟨v2_2, s3⟩ hn hi hx
        have hf := b_X12_image_15.eq_1 p1 v2_2 s3
        refine z_iload_n (pc := 15) 2 (zdg D_X12_image 9 (15, .iload_n 2, 1) rfl) rfl rfl ?_
        refine z_sipush (pc := 16) (v := 9248) (zdg D_X12_image 10 (16, .sipush 9248, 3) rfl) rfl ?_
        refine z_icmp_ge (pc := 19) 59 (zdg D_X12_image 11 (19, .if_icmp .ge 40, 3) rfl) rfl hf (fun hf => ?_) (fun hf => ?_)
        · refine z_sub (al' := [(0, zR 0 0), (1, zI p1)]) [0, 1] rfl ?_
          exact hx s3 hf
        · refine z_iload_n (pc := 22) 1 (zdg D_X12_image 12 (22, .iload_n 1, 1) rfl) rfl rfl ?_
          refine z_if_eq (pc := 23) 41 (zdg D_X12_image 13 (23, .ifCond .eq 18, 3) rfl) rfl hf (fun hf => ?_) (fun hf => ?_)
          · refine z_aload_n (pc := 41) 0 (zdg D_X12_image 23 (41, .aload_n 0, 1) rfl) rfl rfl ?_
            refine z_getR (pc := 42) (g := 1) (j := 0) lf_X12_7 rfl rfl rfl (zdg D_X12_image 24 (42, .getfield 7, 3) rfl) ?_
            refine z_iload_n (pc := 45) 2 (zdg D_X12_image 25 (45, .iload_n 2, 1) rfl) rfl rfl ?_
            refine z_aload_n (pc := 46) 0 (zdg D_X12_image 26 (46, .aload_n 0, 1) rfl) rfl rfl ?_
            refine z_getR (pc := 47) (g := 2) (j := 0) lf_X12_13 rfl rfl rfl (zdg D_X12_image 27 (47, .getfield 13, 3) rfl) ?_
            refine z_iload_n (pc := 50) 2 (zdg D_X12_image 28 (50, .iload_n 2, 1) rfl) rfl rfl ?_
            refine z_iald (pc := 51) rfl (fun _ => rfl) (zdg D_X12_image 29 (51, .iaload, 1) rfl) hn hf (fun hf => ?_)
            refine z_iast (pc := 52) rfl (fun _ => rfl) (zdg D_X12_image 30 (52, .iastore, 1) rfl) hn hf (fun hf => ?_)
            refine z_nmS hf (fun s4 hf => ?_)
            refine z_iinc (pc := 53) (v0 := (v2_2 + 1)) (al' := [(2, zI (v2_2 + 1)), (0, zR 0 0), (1, zI p1)]) 2 (zdg D_X12_image 31 (53, .iinc 2 1, 3) rfl) rfl rfl (by decide) rfl ?_
            refine z_goto (pc := 56) 15 (zdg D_X12_image 32 (56, .goto (-41), 3) rfl) rfl ?_
            refine z_sub (al' := [(0, zR 0 0), (1, zI p1), (2, zI (v2_2 + 1))]) [1, 2, 0] rfl ?_
            exact hi ((v2_2 + 1), s4) hf
          · refine z_aload_n (pc := 26) 0 (zdg D_X12_image 14 (26, .aload_n 0, 1) rfl) rfl rfl ?_
            refine z_getR (pc := 27) (g := 2) (j := 0) lf_X12_13 rfl rfl rfl (zdg D_X12_image 15 (27, .getfield 13, 3) rfl) ?_
            refine z_iload_n (pc := 30) 2 (zdg D_X12_image 16 (30, .iload_n 2, 1) rfl) rfl rfl ?_
            refine z_aload_n (pc := 31) 0 (zdg D_X12_image 17 (31, .aload_n 0, 1) rfl) rfl rfl ?_
            refine z_getR (pc := 32) (g := 1) (j := 0) lf_X12_7 rfl rfl rfl (zdg D_X12_image 18 (32, .getfield 7, 3) rfl) ?_
            refine z_iload_n (pc := 35) 2 (zdg D_X12_image 19 (35, .iload_n 2, 1) rfl) rfl rfl ?_
            refine z_iald (pc := 36) rfl (fun _ => rfl) (zdg D_X12_image 20 (36, .iaload, 1) rfl) hn hf (fun hf => ?_)
            refine z_iast (pc := 37) rfl (fun _ => rfl) (zdg D_X12_image 21 (37, .iastore, 1) rfl) hn hf (fun hf => ?_)
            refine z_nmS hf (fun s5 hf => ?_)
            refine z_goto (pc := 38) 53 (zdg D_X12_image 22 (38, .goto 15, 3) rfl) rfl ?_
            refine z_iinc (pc := 53) (v0 := (v2_2 + 1)) (al' := [(2, zI (v2_2 + 1)), (0, zR 0 0), (1, zI p1)]) 2 (zdg D_X12_image 31 (53, .iinc 2 1, 3) rfl) rfl rfl (by decide) rfl ?_
            refine z_goto (pc := 56) 15 (zdg D_X12_image 32 (56, .goto (-41), 3) rfl) rfl ?_
            refine z_sub (al' := [(0, zR 0 0), (1, zI p1), (2, zI (v2_2 + 1))]) [1, 2, 0] rfl ?_
            exact hi ((v2_2 + 1), s5) hf
    refine z_iload_n (pc := 0) 1 (zdg D_X12_image 0 (0, .iload_n 1, 1) rfl) rfl rfl ?_
    refine z_if_ne (pc := 1) 13 (zdg D_X12_image 1 (1, .ifCond .ne 12, 3) rfl) rfl hf (fun hf => ?_) (fun hf => ?_)
    · exact t_13 σ hf
    · refine z_aload_n (pc := 4) 0 (zdg D_X12_image 2 (4, .aload_n 0, 1) rfl) rfl rfl ?_
      refine z_getI (pc := 5) lf_X12_451 rfl rfl (zdg D_X12_image 3 (5, .getfield 451, 3) rfl) ?_
      refine z_if_ne (pc := 8) 13 (zdg D_X12_image 4 (8, .ifCond .ne 5, 3) rfl) rfl hf (fun hf => ?_) (fun hf => ?_)
      · exact t_13 σ hf
      · refine z_iconst (pc := 11) (v := 0) (zdg D_X12_image 5 (11, .iconst 0, 1) rfl) rfl ?_
        exact z_iret (pc := 12) rfl rfl (zdg D_X12_image 6 (12, .ireturn, 1) rfl) (hP _ _ hf)

def L_X12_look : List (Nat × Instr × Nat) := [(0, .iload_n 1, 1), (1, .tableswitch 151 0 11 #[63, 71, 79, 86, 94, 101, 109, 116, 123, 130, 138, 146], 63), (64, .aload_n 0, 1), (65, .getfield 7, 3), (68, .bipush 30, 2), (70, .iaload, 1), (71, .ireturn, 1), (72, .aload_n 0, 1), (73, .getfield 7, 3), (76, .bipush 31, 2), (78, .iaload, 1), (79, .ireturn, 1), (80, .aload_n 0, 1), (81, .getfield 7, 3), (84, .iconst 0, 1), (85, .iaload, 1), (86, .ireturn, 1), (87, .aload_n 0, 1), (88, .getfield 7, 3), (91, .bipush 32, 2), (93, .iaload, 1), (94, .ireturn, 1), (95, .aload_n 0, 1), (96, .getfield 7, 3), (99, .iconst 1, 1), (100, .iaload, 1), (101, .ireturn, 1), (102, .aload_n 0, 1), (103, .getfield 7, 3), (106, .bipush 36, 2), (108, .iaload, 1), (109, .ireturn, 1), (110, .aload_n 0, 1), (111, .getfield 7, 3), (114, .iconst 3, 1), (115, .iaload, 1), (116, .ireturn, 1), (117, .aload_n 0, 1), (118, .getfield 7, 3), (121, .iconst 4, 1), (122, .iaload, 1), (123, .ireturn, 1), (124, .aload_n 0, 1), (125, .getfield 7, 3), (128, .iconst 2, 1), (129, .iaload, 1), (130, .ireturn, 1), (131, .aload_n 0, 1), (132, .getfield 7, 3), (135, .bipush 37, 2), (137, .iaload, 1), (138, .ireturn, 1), (139, .aload_n 0, 1), (140, .getfield 7, 3), (143, .bipush 38, 2), (145, .iaload, 1), (146, .ireturn, 1), (147, .aload_n 0, 1), (148, .getfield 61, 3), (151, .ireturn, 1), (152, .iload_n 1, 1), (153, .bipush 12, 2), (155, .bipush 14, 2), (157, .invokestatic 64, 3), (160, .ifCond .eq 18, 3), (163, .aload_n 0, 1), (164, .getfield 7, 3), (167, .bipush 33, 2), (169, .iload_n 1, 1), (170, .iadd, 1), (171, .bipush 12, 2), (173, .isub, 1), (174, .iaload, 1), (175, .goto 4, 3), (178, .iconst (-1), 1), (179, .ireturn, 1)]
set_option maxRecDepth 100000 in
theorem D_X12_look : zdecs cX12_look L_X12_look = true := by decide +kernel
noncomputable def f_X12_look (p1 : Int32) (σ : zG) : Option (Int32) :=
  if p1 = 0 then some (σ.1 1 0 30) else if p1 = 1 then some (σ.1 1 0 31) else if p1 = 2 then some (σ.1 1 0 0) else if p1 = 3 then some (σ.1 1 0 32) else if p1 = 4 then some (σ.1 1 0 1) else if p1 = 5 then some (σ.1 1 0 36) else if p1 = 6 then some (σ.1 1 0 3) else if p1 = 7 then some (σ.1 1 0 4) else if p1 = 8 then some (σ.1 1 0 2) else if p1 = 9 then some (σ.1 1 0 37) else if p1 = 10 then some (σ.1 1 0 38) else if p1 = 11 then some (σ.1 0 0 3) else if (f_X12_isIn p1 (12 : Int32) (14 : Int32)) = 0 then some (-1 : Int32) else zg (zin (((33 : Int32) + p1) - (12 : Int32)) 9248) (some (σ.1 1 0 (((33 : Int32) + p1) - (12 : Int32)).toNatClampNeg))
set_option maxRecDepth 100000 in
set_option maxHeartbeats 4000000 in
theorem c_X12_look (l : Launch) (p1 : Int32) (σ : zG) (q : Int32) (hq : f_X12_look p1 σ = some q) : zMet l zsyM m_X12_look yX12_look [zR 0 0, zI p1] σ (some (zI q)) σ := by
  refine zEnter [(0, zR 0 0), (1, zI p1)] (by decide) rfl (fun _ => Nat.le_of_ble_eq_true rfl) (fun _ => rfl) (fun w h => ?_) (fun K hv hs => ?_)
  · exact zokm rfl h
  · have hP : ∀ x, f_X12_look p1 σ = some x → zKv K = some (zI x) ∧ zKs K = σ := fun x h => by rw [hq] at h; cases h; exact ⟨hv, hs⟩
    have hn : f_X12_look p1 σ ≠ none := fun z => by rw [hq] at z; cases z
    have hf := f_X12_look.eq_1 p1 σ
    refine z_iload_n (pc := 0) 1 (zdg D_X12_look 0 (0, .iload_n 1, 1) rfl) rfl rfl ?_
    refine zif hf (fun hc0 hf => ?_) (fun hc0 hf => ?_)
    · refine z_tsIn (pc := 1) (c := 0) (j := 0) 64 (zdg D_X12_look 1 (1, .tableswitch 151 0 11 #[63, 71, 79, 86, 94, 101, 109, 116, 123, 130, 138, 146], 63) rfl) hc0 (by decide) (by decide) rfl rfl rfl ?_
      refine z_aload_n (pc := 64) 0 (zdg D_X12_look 2 (64, .aload_n 0, 1) rfl) rfl rfl ?_
      refine z_getR (pc := 65) (g := 1) (j := 0) lf_X12_7 rfl rfl rfl (zdg D_X12_look 3 (65, .getfield 7, 3) rfl) ?_
      refine z_bipush (pc := 68) (v := 30) (zdg D_X12_look 4 (68, .bipush 30, 2) rfl) rfl ?_
      refine z_ialdC (pc := 70) (j := 30) rfl (fun _ => rfl) (zdg D_X12_look 5 (70, .iaload, 1) rfl) rfl rfl ?_
      exact z_iret (pc := 71) rfl rfl (zdg D_X12_look 6 (71, .ireturn, 1) rfl) (hP _ hf)
    · skip
      refine zif hf (fun hc1 hf => ?_) (fun hc1 hf => ?_)
      · refine z_tsIn (pc := 1) (c := 1) (j := 1) 72 (zdg D_X12_look 1 (1, .tableswitch 151 0 11 #[63, 71, 79, 86, 94, 101, 109, 116, 123, 130, 138, 146], 63) rfl) hc1 (by decide) (by decide) rfl rfl rfl ?_
        refine z_aload_n (pc := 72) 0 (zdg D_X12_look 7 (72, .aload_n 0, 1) rfl) rfl rfl ?_
        refine z_getR (pc := 73) (g := 1) (j := 0) lf_X12_7 rfl rfl rfl (zdg D_X12_look 8 (73, .getfield 7, 3) rfl) ?_
        refine z_bipush (pc := 76) (v := 31) (zdg D_X12_look 9 (76, .bipush 31, 2) rfl) rfl ?_
        refine z_ialdC (pc := 78) (j := 31) rfl (fun _ => rfl) (zdg D_X12_look 10 (78, .iaload, 1) rfl) rfl rfl ?_
        exact z_iret (pc := 79) rfl rfl (zdg D_X12_look 11 (79, .ireturn, 1) rfl) (hP _ hf)
      · skip
        refine zif hf (fun hc2 hf => ?_) (fun hc2 hf => ?_)
        · refine z_tsIn (pc := 1) (c := 2) (j := 2) 80 (zdg D_X12_look 1 (1, .tableswitch 151 0 11 #[63, 71, 79, 86, 94, 101, 109, 116, 123, 130, 138, 146], 63) rfl) hc2 (by decide) (by decide) rfl rfl rfl ?_
          refine z_aload_n (pc := 80) 0 (zdg D_X12_look 12 (80, .aload_n 0, 1) rfl) rfl rfl ?_
          refine z_getR (pc := 81) (g := 1) (j := 0) lf_X12_7 rfl rfl rfl (zdg D_X12_look 13 (81, .getfield 7, 3) rfl) ?_
          refine z_iconst (pc := 84) (v := 0) (zdg D_X12_look 14 (84, .iconst 0, 1) rfl) rfl ?_
          refine z_ialdC (pc := 85) (j := 0) rfl (fun _ => rfl) (zdg D_X12_look 15 (85, .iaload, 1) rfl) rfl rfl ?_
          exact z_iret (pc := 86) rfl rfl (zdg D_X12_look 16 (86, .ireturn, 1) rfl) (hP _ hf)
        · skip
          refine zif hf (fun hc3 hf => ?_) (fun hc3 hf => ?_)
          · refine z_tsIn (pc := 1) (c := 3) (j := 3) 87 (zdg D_X12_look 1 (1, .tableswitch 151 0 11 #[63, 71, 79, 86, 94, 101, 109, 116, 123, 130, 138, 146], 63) rfl) hc3 (by decide) (by decide) rfl rfl rfl ?_
            refine z_aload_n (pc := 87) 0 (zdg D_X12_look 17 (87, .aload_n 0, 1) rfl) rfl rfl ?_
            refine z_getR (pc := 88) (g := 1) (j := 0) lf_X12_7 rfl rfl rfl (zdg D_X12_look 18 (88, .getfield 7, 3) rfl) ?_
            refine z_bipush (pc := 91) (v := 32) (zdg D_X12_look 19 (91, .bipush 32, 2) rfl) rfl ?_
            refine z_ialdC (pc := 93) (j := 32) rfl (fun _ => rfl) (zdg D_X12_look 20 (93, .iaload, 1) rfl) rfl rfl ?_
            exact z_iret (pc := 94) rfl rfl (zdg D_X12_look 21 (94, .ireturn, 1) rfl) (hP _ hf)
          · skip
            refine zif hf (fun hc4 hf => ?_) (fun hc4 hf => ?_)
            · refine z_tsIn (pc := 1) (c := 4) (j := 4) 95 (zdg D_X12_look 1 (1, .tableswitch 151 0 11 #[63, 71, 79, 86, 94, 101, 109, 116, 123, 130, 138, 146], 63) rfl) hc4 (by decide) (by decide) rfl rfl rfl ?_
              refine z_aload_n (pc := 95) 0 (zdg D_X12_look 22 (95, .aload_n 0, 1) rfl) rfl rfl ?_
              refine z_getR (pc := 96) (g := 1) (j := 0) lf_X12_7 rfl rfl rfl (zdg D_X12_look 23 (96, .getfield 7, 3) rfl) ?_
              refine z_iconst (pc := 99) (v := 1) (zdg D_X12_look 24 (99, .iconst 1, 1) rfl) rfl ?_
              refine z_ialdC (pc := 100) (j := 1) rfl (fun _ => rfl) (zdg D_X12_look 25 (100, .iaload, 1) rfl) rfl rfl ?_
              exact z_iret (pc := 101) rfl rfl (zdg D_X12_look 26 (101, .ireturn, 1) rfl) (hP _ hf)
            · skip
              refine zif hf (fun hc5 hf => ?_) (fun hc5 hf => ?_)
              · refine z_tsIn (pc := 1) (c := 5) (j := 5) 102 (zdg D_X12_look 1 (1, .tableswitch 151 0 11 #[63, 71, 79, 86, 94, 101, 109, 116, 123, 130, 138, 146], 63) rfl) hc5 (by decide) (by decide) rfl rfl rfl ?_
                refine z_aload_n (pc := 102) 0 (zdg D_X12_look 27 (102, .aload_n 0, 1) rfl) rfl rfl ?_
                refine z_getR (pc := 103) (g := 1) (j := 0) lf_X12_7 rfl rfl rfl (zdg D_X12_look 28 (103, .getfield 7, 3) rfl) ?_
                refine z_bipush (pc := 106) (v := 36) (zdg D_X12_look 29 (106, .bipush 36, 2) rfl) rfl ?_
                refine z_ialdC (pc := 108) (j := 36) rfl (fun _ => rfl) (zdg D_X12_look 30 (108, .iaload, 1) rfl) rfl rfl ?_
                exact z_iret (pc := 109) rfl rfl (zdg D_X12_look 31 (109, .ireturn, 1) rfl) (hP _ hf)
              · skip
                refine zif hf (fun hc6 hf => ?_) (fun hc6 hf => ?_)
                · refine z_tsIn (pc := 1) (c := 6) (j := 6) 110 (zdg D_X12_look 1 (1, .tableswitch 151 0 11 #[63, 71, 79, 86, 94, 101, 109, 116, 123, 130, 138, 146], 63) rfl) hc6 (by decide) (by decide) rfl rfl rfl ?_
                  refine z_aload_n (pc := 110) 0 (zdg D_X12_look 32 (110, .aload_n 0, 1) rfl) rfl rfl ?_
                  refine z_getR (pc := 111) (g := 1) (j := 0) lf_X12_7 rfl rfl rfl (zdg D_X12_look 33 (111, .getfield 7, 3) rfl) ?_
                  refine z_iconst (pc := 114) (v := 3) (zdg D_X12_look 34 (114, .iconst 3, 1) rfl) rfl ?_
                  refine z_ialdC (pc := 115) (j := 3) rfl (fun _ => rfl) (zdg D_X12_look 35 (115, .iaload, 1) rfl) rfl rfl ?_
                  exact z_iret (pc := 116) rfl rfl (zdg D_X12_look 36 (116, .ireturn, 1) rfl) (hP _ hf)
                · skip
                  refine zif hf (fun hc7 hf => ?_) (fun hc7 hf => ?_)
                  · refine z_tsIn (pc := 1) (c := 7) (j := 7) 117 (zdg D_X12_look 1 (1, .tableswitch 151 0 11 #[63, 71, 79, 86, 94, 101, 109, 116, 123, 130, 138, 146], 63) rfl) hc7 (by decide) (by decide) rfl rfl rfl ?_
                    refine z_aload_n (pc := 117) 0 (zdg D_X12_look 37 (117, .aload_n 0, 1) rfl) rfl rfl ?_
                    refine z_getR (pc := 118) (g := 1) (j := 0) lf_X12_7 rfl rfl rfl (zdg D_X12_look 38 (118, .getfield 7, 3) rfl) ?_
                    refine z_iconst (pc := 121) (v := 4) (zdg D_X12_look 39 (121, .iconst 4, 1) rfl) rfl ?_
                    refine z_ialdC (pc := 122) (j := 4) rfl (fun _ => rfl) (zdg D_X12_look 40 (122, .iaload, 1) rfl) rfl rfl ?_
                    exact z_iret (pc := 123) rfl rfl (zdg D_X12_look 41 (123, .ireturn, 1) rfl) (hP _ hf)
                  · skip
                    refine zif hf (fun hc8 hf => ?_) (fun hc8 hf => ?_)
                    · refine z_tsIn (pc := 1) (c := 8) (j := 8) 124 (zdg D_X12_look 1 (1, .tableswitch 151 0 11 #[63, 71, 79, 86, 94, 101, 109, 116, 123, 130, 138, 146], 63) rfl) hc8 (by decide) (by decide) rfl rfl rfl ?_
                      refine z_aload_n (pc := 124) 0 (zdg D_X12_look 42 (124, .aload_n 0, 1) rfl) rfl rfl ?_
                      refine z_getR (pc := 125) (g := 1) (j := 0) lf_X12_7 rfl rfl rfl (zdg D_X12_look 43 (125, .getfield 7, 3) rfl) ?_
                      refine z_iconst (pc := 128) (v := 2) (zdg D_X12_look 44 (128, .iconst 2, 1) rfl) rfl ?_
                      refine z_ialdC (pc := 129) (j := 2) rfl (fun _ => rfl) (zdg D_X12_look 45 (129, .iaload, 1) rfl) rfl rfl ?_
                      exact z_iret (pc := 130) rfl rfl (zdg D_X12_look 46 (130, .ireturn, 1) rfl) (hP _ hf)
                    · skip
                      refine zif hf (fun hc9 hf => ?_) (fun hc9 hf => ?_)
                      · refine z_tsIn (pc := 1) (c := 9) (j := 9) 131 (zdg D_X12_look 1 (1, .tableswitch 151 0 11 #[63, 71, 79, 86, 94, 101, 109, 116, 123, 130, 138, 146], 63) rfl) hc9 (by decide) (by decide) rfl rfl rfl ?_
                        refine z_aload_n (pc := 131) 0 (zdg D_X12_look 47 (131, .aload_n 0, 1) rfl) rfl rfl ?_
                        refine z_getR (pc := 132) (g := 1) (j := 0) lf_X12_7 rfl rfl rfl (zdg D_X12_look 48 (132, .getfield 7, 3) rfl) ?_
                        refine z_bipush (pc := 135) (v := 37) (zdg D_X12_look 49 (135, .bipush 37, 2) rfl) rfl ?_
                        refine z_ialdC (pc := 137) (j := 37) rfl (fun _ => rfl) (zdg D_X12_look 50 (137, .iaload, 1) rfl) rfl rfl ?_
                        exact z_iret (pc := 138) rfl rfl (zdg D_X12_look 51 (138, .ireturn, 1) rfl) (hP _ hf)
                      · skip
                        refine zif hf (fun hc10 hf => ?_) (fun hc10 hf => ?_)
                        · refine z_tsIn (pc := 1) (c := 10) (j := 10) 139 (zdg D_X12_look 1 (1, .tableswitch 151 0 11 #[63, 71, 79, 86, 94, 101, 109, 116, 123, 130, 138, 146], 63) rfl) hc10 (by decide) (by decide) rfl rfl rfl ?_
                          refine z_aload_n (pc := 139) 0 (zdg D_X12_look 52 (139, .aload_n 0, 1) rfl) rfl rfl ?_
                          refine z_getR (pc := 140) (g := 1) (j := 0) lf_X12_7 rfl rfl rfl (zdg D_X12_look 53 (140, .getfield 7, 3) rfl) ?_
                          refine z_bipush (pc := 143) (v := 38) (zdg D_X12_look 54 (143, .bipush 38, 2) rfl) rfl ?_
                          refine z_ialdC (pc := 145) (j := 38) rfl (fun _ => rfl) (zdg D_X12_look 55 (145, .iaload, 1) rfl) rfl rfl ?_
                          exact z_iret (pc := 146) rfl rfl (zdg D_X12_look 56 (146, .ireturn, 1) rfl) (hP _ hf)
                        · skip
                          refine zif hf (fun hc11 hf => ?_) (fun hc11 hf => ?_)
                          · refine z_tsIn (pc := 1) (c := 11) (j := 11) 147 (zdg D_X12_look 1 (1, .tableswitch 151 0 11 #[63, 71, 79, 86, 94, 101, 109, 116, 123, 130, 138, 146], 63) rfl) hc11 (by decide) (by decide) rfl rfl rfl ?_
                            refine z_aload_n (pc := 147) 0 (zdg D_X12_look 57 (147, .aload_n 0, 1) rfl) rfl rfl ?_
                            refine z_getI (pc := 148) lf_X12_61 rfl rfl (zdg D_X12_look 58 (148, .getfield 61, 3) rfl) ?_
                            exact z_iret (pc := 151) rfl rfl (zdg D_X12_look 59 (151, .ireturn, 1) rfl) (hP _ hf)
                          · skip
                            refine z_tsOut (pc := 1) 152 (zdg D_X12_look 1 (1, .tableswitch 151 0 11 #[63, 71, 79, 86, 94, 101, 109, 116, 123, 130, 138, 146], 63) rfl) (by have e0 := lv_neT hc0 (k := 0) (a := 0) rfl; have e1 := lv_neT hc1 (k := 1) (a := 1) rfl; have e2 := lv_neT hc2 (k := 2) (a := 2) rfl; have e3 := lv_neT hc3 (k := 3) (a := 3) rfl; have e4 := lv_neT hc4 (k := 4) (a := 4) rfl; have e5 := lv_neT hc5 (k := 5) (a := 5) rfl; have e6 := lv_neT hc6 (k := 6) (a := 6) rfl; have e7 := lv_neT hc7 (k := 7) (a := 7) rfl; have e8 := lv_neT hc8 (k := 8) (a := 8) rfl; have e9 := lv_neT hc9 (k := 9) (a := 9) rfl; have e10 := lv_neT hc10 (k := 10) (a := 10) rfl; have e11 := lv_neT hc11 (k := 11) (a := 11) rfl; omega) rfl ?_
                            refine z_iload_n (pc := 152) 1 (zdg D_X12_look 60 (152, .iload_n 1, 1) rfl) rfl rfl ?_
                            refine z_bipush (pc := 153) (v := 12) (zdg D_X12_look 61 (153, .bipush 12, 2) rfl) rfl ?_
                            refine z_bipush (pc := 155) (v := 14) (zdg D_X12_look 62 (155, .bipush 14, 2) rfl) rfl ?_
                            refine z_callS (pc := 157) (rest := []) (st2 := [zI (f_X12_isIn p1 (12 : Int32) (14 : Int32))]) (fun l => c_X12_isIn l p1 (12 : Int32) (14 : Int32) σ) zs_X12_isIn lm_X12_64 rfl rfl rfl (Nat.le_of_ble_eq_true rfl) ⟨Nat.le_of_ble_eq_true rfl, Nat.le_of_ble_eq_true rfl⟩ (zdg D_X12_look 63 (157, .invokestatic 64, 3) rfl) ?_
                            refine z_if_eq (pc := 160) 178 (zdg D_X12_look 64 (160, .ifCond .eq 18, 3) rfl) rfl hf (fun hf => ?_) (fun hf => ?_)
                            · refine z_iconst (pc := 178) (v := -1) (zdg D_X12_look 74 (178, .iconst (-1), 1) rfl) rfl ?_
                              exact z_iret (pc := 179) rfl rfl (zdg D_X12_look 75 (179, .ireturn, 1) rfl) (hP _ hf)
                            · refine z_aload_n (pc := 163) 0 (zdg D_X12_look 65 (163, .aload_n 0, 1) rfl) rfl rfl ?_
                              refine z_getR (pc := 164) (g := 1) (j := 0) lf_X12_7 rfl rfl rfl (zdg D_X12_look 66 (164, .getfield 7, 3) rfl) ?_
                              refine z_bipush (pc := 167) (v := 33) (zdg D_X12_look 67 (167, .bipush 33, 2) rfl) rfl ?_
                              refine z_iload_n (pc := 169) 1 (zdg D_X12_look 68 (169, .iload_n 1, 1) rfl) rfl rfl ?_
                              refine z_iadd (pc := 170) (zdg D_X12_look 69 (170, .iadd, 1) rfl) ?_
                              refine z_bipush (pc := 171) (v := 12) (zdg D_X12_look 70 (171, .bipush 12, 2) rfl) rfl ?_
                              refine z_isub (pc := 173) (zdg D_X12_look 71 (173, .isub, 1) rfl) ?_
                              refine z_iald (pc := 174) rfl (fun _ => rfl) (zdg D_X12_look 72 (174, .iaload, 1) rfl) hn hf (fun hf => ?_)
                              refine z_goto (pc := 175) 179 (zdg D_X12_look 73 (175, .goto 4, 3) rfl) rfl ?_
                              exact z_iret (pc := 179) rfl rfl (zdg D_X12_look 75 (179, .ireturn, 1) rfl) (hP _ hf)
