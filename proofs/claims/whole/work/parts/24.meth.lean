/-! METHODS, by program: functions and contracts -/
def L_X9_meanTone : List (Nat × Instr × Nat) := [(0, .iconst 0, 1), (1, .istore 4, 2), (3, .iload_n 1, 1), (4, .istore 5, 2), (6, .iload 5, 2), (8, .iload_n 2, 1), (9, .if_icmp .gt 24, 3), (12, .iload 4, 2), (14, .aload_n 0, 1), (15, .getfield 22, 3), (18, .iload_n 3, 1), (19, .iload 5, 2), (21, .invokevirtual 90, 3), (24, .iadd, 1), (25, .istore 4, 2), (27, .iinc 5 1, 3), (30, .goto (-24), 3), (33, .iload_n 2, 1), (34, .iload_n 1, 1), (35, .isub, 1), (36, .iconst 1, 1), (37, .iadd, 1), (38, .istore 5, 2), (40, .iload 5, 2), (42, .ifCond .le 11, 3), (45, .iload 4, 2), (47, .iload 5, 2), (49, .idiv, 1), (50, .goto 4, 3), (53, .iconst (-1), 1), (54, .ireturn, 1)]
set_option maxRecDepth 100000 in
theorem D_X9_meanTone : zdecs cX9_meanTone L_X9_meanTone = true := by decide +kernel
noncomputable def b_X9_meanTone_6 (p2 : Int32) (p3 : Int32) (v4_1 : Int32) (v5_2 : Int32) (s3 : zG) : Option ((Int32 × Int32 × zG) ⊕ (Int32 × zG)) :=
  if v5_2 ≤ p2 then (f_X1_toneOf 0 p3 v5_2 s3).bind (fun q4 => some (Sum.inl ((v4_1 + q4.1), (v5_2 + 1), q4.2))) else some (Sum.inr (v4_1, s3))
noncomputable def f_X9_meanTone (p1 : Int32) (p2 : Int32) (p3 : Int32) (σ : zG) : Option (Int32 × zG) :=
  (zlp (fun q : Int32 × Int32 × zG => b_X9_meanTone_6 p2 p3 q.1 q.2.1 q.2.2) ((0 : Int32), p1, σ)).bind (fun e5 : Int32 × zG => if 0 < ((p2 - p1) + (1 : Int32)) then zg (((p2 - p1) + (1 : Int32)) != 0) (some ((e5.1 / ((p2 - p1) + (1 : Int32))), e5.2)) else some ((-1 : Int32), e5.2))
set_option maxRecDepth 100000 in
set_option maxHeartbeats 4000000 in
theorem c_X9_meanTone (l : Launch) (p1 : Int32) (p2 : Int32) (p3 : Int32) (σ : zG) (q : Int32 × zG) (hq : f_X9_meanTone p1 p2 p3 σ = some q) : zMet l zsyC m_X9_meanTone yX9_meanTone [zR 5 0, zI p1, zI p2, zI p3] σ (some (zI q.1)) q.2 := by
  refine zEnter [(0, zR 5 0), (1, zI p1), (2, zI p2), (3, zI p3)] (by decide) rfl (fun _ => Nat.le_of_ble_eq_true rfl) (fun _ => rfl) (fun w h => ?_) (fun K hv hs => ?_)
  · exact zokm rfl h
  · have hP : ∀ x s, f_X9_meanTone p1 p2 p3 σ = some (x, s) → zKv K = some (zI x) ∧ zKs K = s := fun x s h => by rw [hq] at h; cases h; exact ⟨hv, hs⟩
    have hn : f_X9_meanTone p1 p2 p3 σ ≠ none := fun z => by rw [hq] at z; cases z
    have hf := f_X9_meanTone.eq_1 p1 p2 p3 σ
    refine z_iconst (pc := 0) (v := 0) (zdg D_X9_meanTone 0 (0, .iconst 0, 1) rfl) rfl ?_
    refine z_istore (pc := 1) (al' := [(4, zI (0 : Int32)), (0, zR 5 0), (1, zI p1), (2, zI p2), (3, zI p3)]) (zdg D_X9_meanTone 1 (1, .istore 4, 2) rfl) (by decide) rfl ?_
    refine z_iload_n (pc := 3) 2 (zdg D_X9_meanTone 2 (3, .iload_n 1, 1) rfl) rfl rfl ?_
    refine z_istore (pc := 4) (al' := [(5, zI p1), (4, zI (0 : Int32)), (0, zR 5 0), (1, zI p1), (2, zI p2), (3, zI p3)]) (zdg D_X9_meanTone 3 (4, .istore 5, 2) rfl) (by decide) rfl ?_
    refine z_sub (al' := [(0, zR 5 0), (1, zI p1), (2, zI p2), (3, zI p3), (4, zI (0 : Int32)), (5, zI p1)]) [2, 3, 4, 5, 1, 0] rfl ?_
    refine z_loop (f := (fun q : Int32 × Int32 × zG => b_X9_meanTone_6 p2 p3 q.1 q.2.1 q.2.2)) (a := ((0 : Int32), p1, σ)) (fun q : Int32 × Int32 × zG => zX zsyC m_X9_meanTone K 6 [(0, zR 5 0), (1, zI p1), (2, zI p2), (3, zI p3), (4, zI q.1), (5, zI q.2.1)] [] q.2.2) (fun e5 : Int32 × zG => zX zsyC m_X9_meanTone K 33 [(1, zI p1), (2, zI p2), (4, zI e5.1)] [] e5.2) hn hf ?_ ?_
    · intro e5 hf
      refine z_iload_n (pc := 33) 1 (zdg D_X9_meanTone 17 (33, .iload_n 2, 1) rfl) rfl rfl ?_
      refine z_iload_n (pc := 34) 0 (zdg D_X9_meanTone 18 (34, .iload_n 1, 1) rfl) rfl rfl ?_
      refine z_isub (pc := 35) (zdg D_X9_meanTone 19 (35, .isub, 1) rfl) ?_
      refine z_iconst (pc := 36) (v := 1) (zdg D_X9_meanTone 20 (36, .iconst 1, 1) rfl) rfl ?_
      refine z_iadd (pc := 37) (zdg D_X9_meanTone 21 (37, .iadd, 1) rfl) ?_
      refine z_istore (pc := 38) (al' := [(5, zI ((p2 - p1) + (1 : Int32))), (1, zI p1), (2, zI p2), (4, zI e5.1)]) (zdg D_X9_meanTone 22 (38, .istore 5, 2) rfl) (by decide) rfl ?_
      refine z_iload (pc := 40) 0 (zdg D_X9_meanTone 23 (40, .iload 5, 2) rfl) rfl ?_
      refine z_if_le (pc := 42) 53 (zdg D_X9_meanTone 24 (42, .ifCond .le 11, 3) rfl) rfl hf (fun hf => ?_) (fun hf => ?_)
      · refine z_iconst (pc := 53) (v := -1) (zdg D_X9_meanTone 29 (53, .iconst (-1), 1) rfl) rfl ?_
        exact z_iret (pc := 54) rfl rfl (zdg D_X9_meanTone 30 (54, .ireturn, 1) rfl) (hP _ _ hf)
      · refine z_iload (pc := 45) 3 (zdg D_X9_meanTone 25 (45, .iload 4, 2) rfl) rfl ?_
        refine z_iload (pc := 47) 0 (zdg D_X9_meanTone 26 (47, .iload 5, 2) rfl) rfl ?_
        refine z_idiv (pc := 49) (zdg D_X9_meanTone 27 (49, .idiv, 1) rfl) hn hf (fun hf => ?_)
        refine z_goto (pc := 50) 54 (zdg D_X9_meanTone 28 (50, .goto 4, 3) rfl) rfl ?_
        exact z_iret (pc := 54) rfl rfl (zdg D_X9_meanTone 30 (54, .ireturn, 1) rfl) (hP _ _ hf)
    · rintro ⟨v4_1, v5_2, s3⟩ hn hi hx
      have hf := b_X9_meanTone_6.eq_1 p2 p3 v4_1 v5_2 s3
      refine z_iload (pc := 6) 5 (zdg D_X9_meanTone 4 (6, .iload 5, 2) rfl) rfl ?_
      refine z_iload_n (pc := 8) 2 (zdg D_X9_meanTone 5 (8, .iload_n 2, 1) rfl) rfl rfl ?_
      refine z_icmp_gt (pc := 9) 33 (zdg D_X9_meanTone 6 (9, .if_icmp .gt 24, 3) rfl) rfl hf (fun hf => ?_) (fun hf => ?_)
      · refine z_sub (al' := [(1, zI p1), (2, zI p2), (4, zI v4_1)]) [1, 2, 4] rfl ?_
        exact hx (v4_1, s3) hf
      · refine z_iload (pc := 12) 4 (zdg D_X9_meanTone 7 (12, .iload 4, 2) rfl) rfl ?_
        refine z_aload_n (pc := 14) 0 (zdg D_X9_meanTone 8 (14, .aload_n 0, 1) rfl) rfl rfl ?_
        refine z_getR (pc := 15) (g := 1) (j := 0) lf_X9_22 rfl rfl rfl (zdg D_X9_meanTone 9 (15, .getfield 22, 3) rfl) ?_
        refine z_iload_n (pc := 18) 3 (zdg D_X9_meanTone 10 (18, .iload_n 3, 1) rfl) rfl rfl ?_
        refine z_iload (pc := 19) 5 (zdg D_X9_meanTone 11 (19, .iload 5, 2) rfl) rfl ?_
        refine z_bind hn hf (fun q4 hq hf => ?_)
        refine z_callV (pc := 21) (rest := [zI v4_1]) (st2 := [zI q4.1, zI v4_1]) (fun l => c_X1_toneOf l 0 p3 v5_2 s3 q4 hq) zv_X1_toneOf lm_X9_90 rfl rfl rfl rfl rfl rfl (Nat.le_of_ble_eq_true rfl) ⟨Nat.le_of_ble_eq_true rfl, Nat.le_of_ble_eq_true rfl⟩ (zdg D_X9_meanTone 12 (21, .invokevirtual 90, 3) rfl) ?_
        refine z_iadd (pc := 24) (zdg D_X9_meanTone 13 (24, .iadd, 1) rfl) ?_
        refine z_istore (pc := 25) (al' := [(4, zI (v4_1 + q4.1)), (0, zR 5 0), (1, zI p1), (2, zI p2), (3, zI p3), (5, zI v5_2)]) (zdg D_X9_meanTone 14 (25, .istore 4, 2) rfl) (by decide) rfl ?_
        refine z_iinc (pc := 27) (v0 := (v5_2 + 1)) (al' := [(5, zI (v5_2 + 1)), (4, zI (v4_1 + q4.1)), (0, zR 5 0), (1, zI p1), (2, zI p2), (3, zI p3)]) 5 (zdg D_X9_meanTone 15 (27, .iinc 5 1, 3) rfl) rfl rfl (by decide) rfl ?_
        refine z_goto (pc := 30) 6 (zdg D_X9_meanTone 16 (30, .goto (-24), 3) rfl) rfl ?_
        refine z_sub (al' := [(0, zR 5 0), (1, zI p1), (2, zI p2), (3, zI p3), (4, zI (v4_1 + q4.1)), (5, zI (v5_2 + 1))]) [2, 3, 4, 5, 1, 0] rfl ?_
        exact hi ((v4_1 + q4.1), (v5_2 + 1), q4.2) hf

def L_X9_countEach : List (Nat × Instr × Nat) := [(0, .iconst 0, 1), (1, .istore_n 3, 1), (2, .iload_n 3, 1), (3, .bipush 56, 2), (5, .if_icmp .ge 35, 3), (8, .lload_n 1, 1), (9, .iload_n 3, 1), (10, .lushr, 1), (11, .lconst 0, 1), (12, .lcmp, 1), (13, .ifCond .eq 27, 3), (16, .lload_n 1, 1), (17, .iload_n 3, 1), (18, .invokestatic 87, 3), (21, .ifCond .eq 13, 3), (24, .aload_n 0, 1), (25, .getfield 9, 3), (28, .iload_n 3, 1), (29, .dup2, 1), (30, .iaload, 1), (31, .iconst 1, 1), (32, .iadd, 1), (33, .iastore, 1), (34, .iinc 3 1, 3), (37, .goto (-35), 3), (40, .return_, 1)]
set_option maxRecDepth 100000 in
theorem D_X9_countEach : zdecs cX9_countEach L_X9_countEach = true := by decide +kernel
noncomputable def b_X9_countEach_2 (p1 : Int64) (v3_1 : Int32) (s2 : zG) : Option ((Int32 × zG) ⊕ (zG)) :=
  if v3_1 < (56 : Int32) then if (lg_cmp (zlushr p1 v3_1) (0 : Int64)) = 0 then some (Sum.inr s2) else if (f_X11_holds p1 v3_1) = 0 then some (Sum.inl ((v3_1 + 1), s2)) else zg (zin v3_1 56) (zg (zin v3_1 56) (zb (zwI s2 42 0 v3_1.toNatClampNeg ((s2.1 42 0 v3_1.toNatClampNeg) + (1 : Int32))) (fun s3 => some (Sum.inl ((v3_1 + 1), s3))))) else some (Sum.inr s2)
noncomputable def f_X9_countEach (p1 : Int64) (σ : zG) : Option (zG) :=
  (zlp (fun q : Int32 × zG => b_X9_countEach_2 p1 q.1 q.2) ((0 : Int32), σ)).bind (fun e4 : zG => some e4)
set_option maxRecDepth 100000 in
set_option maxHeartbeats 4000000 in
theorem c_X9_countEach (l : Launch) (p1 : Int64) (σ : zG) (q : zG) (hq : f_X9_countEach p1 σ = some q) : zMet l zsyC m_X9_countEach yX9_countEach [zR 5 0, zL p1] σ none q := by
  refine zEnter [(0, zR 5 0), (1, zL p1)] (by decide) rfl (fun _ => Nat.le_of_ble_eq_true rfl) (fun _ => rfl) (fun w h => ?_) (fun K hv hs => ?_)
  · exact zokm rfl h
  · have hP : ∀ s, f_X9_countEach p1 σ = some s → zKv K = none ∧ zKs K = s := fun s h => by rw [hq] at h; cases h; exact ⟨hv, hs⟩
    have hn : f_X9_countEach p1 σ ≠ none := fun z => by rw [hq] at z; cases z
    have hf := f_X9_countEach.eq_1 p1 σ
    refine z_iconst (pc := 0) (v := 0) (zdg D_X9_countEach 0 (0, .iconst 0, 1) rfl) rfl ?_
    refine z_istore_n (pc := 1) (al' := [(3, zI (0 : Int32)), (0, zR 5 0), (1, zL p1)]) (zdg D_X9_countEach 1 (1, .istore_n 3, 1) rfl) rfl (by decide) rfl ?_
    refine z_sub (al' := [(0, zR 5 0), (1, zL p1), (3, zI (0 : Int32))]) [1, 2, 0] rfl ?_
    refine z_loop (f := (fun q : Int32 × zG => b_X9_countEach_2 p1 q.1 q.2)) (a := ((0 : Int32), σ)) (fun q : Int32 × zG => zX zsyC m_X9_countEach K 2 [(0, zR 5 0), (1, zL p1), (3, zI q.1)] [] q.2) (fun e4 : zG => zX zsyC m_X9_countEach K 40 [] [] e4) hn hf ?_ ?_
    · intro e4 hf
      exact z_vret (pc := 40) rfl (zdg D_X9_countEach 25 (40, .return_, 1) rfl) (hP _ hf)
    · rintro ⟨v3_1, s2⟩ hn hi hx
      have hf := b_X9_countEach_2.eq_1 p1 v3_1 s2
      refine z_iload_n (pc := 2) 2 (zdg D_X9_countEach 2 (2, .iload_n 3, 1) rfl) rfl rfl ?_
      refine z_bipush (pc := 3) (v := 56) (zdg D_X9_countEach 3 (3, .bipush 56, 2) rfl) rfl ?_
      refine z_icmp_ge (pc := 5) 40 (zdg D_X9_countEach 4 (5, .if_icmp .ge 35, 3) rfl) rfl hf (fun hf => ?_) (fun hf => ?_)
      · refine z_sub (al' := []) [] rfl ?_
        exact hx s2 hf
      · refine z_lload_n (pc := 8) 1 (zdg D_X9_countEach 5 (8, .lload_n 1, 1) rfl) rfl rfl ?_
        refine z_iload_n (pc := 9) 2 (zdg D_X9_countEach 6 (9, .iload_n 3, 1) rfl) rfl rfl ?_
        refine z_lushr (pc := 10) (zdg D_X9_countEach 7 (10, .lushr, 1) rfl) ?_
        refine z_lconst (pc := 11) (v := 0) (zdg D_X9_countEach 8 (11, .lconst 0, 1) rfl) rfl ?_
        refine z_lcmp (pc := 12) (zdg D_X9_countEach 9 (12, .lcmp, 1) rfl) ?_
        refine z_if_eq (pc := 13) 40 (zdg D_X9_countEach 10 (13, .ifCond .eq 27, 3) rfl) rfl hf (fun hf => ?_) (fun hf => ?_)
        · refine z_sub (al' := []) [] rfl ?_
          exact hx s2 hf
        · refine z_lload_n (pc := 16) 1 (zdg D_X9_countEach 11 (16, .lload_n 1, 1) rfl) rfl rfl ?_
          refine z_iload_n (pc := 17) 2 (zdg D_X9_countEach 12 (17, .iload_n 3, 1) rfl) rfl rfl ?_
          refine z_callSN (pc := 18) (rest := []) (st2 := [zI (f_X11_holds p1 v3_1)]) (host := "NobodyThere") (fun l => c_X11_holds l p1 v3_1 s2) zs_X11_holds (by decide +kernel) rfl rfl rfl (Nat.le_of_ble_eq_true rfl) ⟨Nat.le_of_ble_eq_true rfl, Nat.le_of_ble_eq_true rfl⟩ (zdg D_X9_countEach 13 (18, .invokestatic 87, 3) rfl) ?_
          refine z_if_eq (pc := 21) 34 (zdg D_X9_countEach 14 (21, .ifCond .eq 13, 3) rfl) rfl hf (fun hf => ?_) (fun hf => ?_)
          · refine z_iinc (pc := 34) (v0 := (v3_1 + 1)) (al' := [(3, zI (v3_1 + 1)), (0, zR 5 0), (1, zL p1)]) 2 (zdg D_X9_countEach 23 (34, .iinc 3 1, 3) rfl) rfl rfl (by decide) rfl ?_
            refine z_goto (pc := 37) 2 (zdg D_X9_countEach 24 (37, .goto (-35), 3) rfl) rfl ?_
            refine z_sub (al' := [(0, zR 5 0), (1, zL p1), (3, zI (v3_1 + 1))]) [1, 2, 0] rfl ?_
            exact hi ((v3_1 + 1), s2) hf
          · refine z_aload_n (pc := 24) 0 (zdg D_X9_countEach 15 (24, .aload_n 0, 1) rfl) rfl rfl ?_
            refine z_getR (pc := 25) (g := 42) (j := 0) lf_X9_9 rfl rfl rfl (zdg D_X9_countEach 16 (25, .getfield 9, 3) rfl) ?_
            refine z_iload_n (pc := 28) 2 (zdg D_X9_countEach 17 (28, .iload_n 3, 1) rfl) rfl rfl ?_
            refine z_dup2 (pc := 29) rfl rfl (zdg D_X9_countEach 18 (29, .dup2, 1) rfl) ?_
            refine z_iald (pc := 30) rfl (fun _ => rfl) (zdg D_X9_countEach 19 (30, .iaload, 1) rfl) hn hf (fun hf => ?_)
            refine z_iconst (pc := 31) (v := 1) (zdg D_X9_countEach 20 (31, .iconst 1, 1) rfl) rfl ?_
            refine z_iadd (pc := 32) (zdg D_X9_countEach 21 (32, .iadd, 1) rfl) ?_
            refine z_iast (pc := 33) rfl (fun _ => rfl) (zdg D_X9_countEach 22 (33, .iastore, 1) rfl) hn hf (fun hf => ?_)
            refine z_nmS hf (fun s3 hf => ?_)
            refine z_iinc (pc := 34) (v0 := (v3_1 + 1)) (al' := [(3, zI (v3_1 + 1)), (0, zR 5 0), (1, zL p1)]) 2 (zdg D_X9_countEach 23 (34, .iinc 3 1, 3) rfl) rfl rfl (by decide) rfl ?_
            refine z_goto (pc := 37) 2 (zdg D_X9_countEach 24 (37, .goto (-35), 3) rfl) rfl ?_
            refine z_sub (al' := [(0, zR 5 0), (1, zL p1), (3, zI (v3_1 + 1))]) [1, 2, 0] rfl ?_
            exact hi ((v3_1 + 1), s3) hf

def L_X9_ghostSpots : List (Nat × Instr × Nat) := [(0, .aload_n 0, 1), (1, .getfield 9, 3), (4, .iconst 0, 1), (5, .invokestatic 93, 3), (8, .iload_n 1, 1), (9, .istore_n 3, 1), (10, .iload_n 3, 1), (11, .iload_n 2, 1), (12, .if_icmp .gt 21, 3), (15, .aload_n 0, 1), (16, .aload_n 0, 1), (17, .getfield 22, 3), (20, .iload_n 3, 1), (21, .invokevirtual 83, 3), (24, .invokevirtual 99, 3), (27, .iinc 3 1, 3), (30, .goto (-20), 3), (33, .lconst 0, 1), (34, .lstore_n 3, 1), (35, .iconst 0, 1), (36, .istore 5, 2), (38, .iload 5, 2), (40, .bipush 56, 2), (42, .if_icmp .ge 43, 3), (45, .aload_n 0, 1), (46, .getfield 9, 3), (49, .iload 5, 2), (51, .iaload, 1), (52, .ifCond .le 27, 3), (55, .iconst 2, 1), (56, .aload_n 0, 1), (57, .getfield 9, 3), (60, .iload 5, 2), (62, .iaload, 1), (63, .imul, 1), (64, .iload_n 2, 1), (65, .iload_n 1, 1), (66, .isub, 1), (67, .iconst 1, 1), (68, .iadd, 1), (69, .if_icmp .gt 10, 3), (72, .lload_n 3, 1), (73, .lconst 1, 1), (74, .iload 5, 2), (76, .lshl, 1), (77, .lor, 1), (78, .lstore_n 3, 1), (79, .iinc 5 1, 3), (82, .goto (-44), 3), (85, .lload_n 3, 1), (86, .lreturn, 1)]
set_option maxRecDepth 100000 in
theorem D_X9_ghostSpots : zdecs cX9_ghostSpots L_X9_ghostSpots = true := by decide +kernel
noncomputable def b_X9_ghostSpots_10 (p2 : Int32) (v3_2 : Int32) (s3 : zG) : Option ((Int32 × zG) ⊕ (zG)) :=
  if v3_2 ≤ p2 then (f_X1_coverIn 0 v3_2 s3).bind (fun q4 => (f_X9_countEach q4 s3).bind (fun q5 => some (Sum.inl ((v3_2 + 1), q5)))) else some (Sum.inr s3)
noncomputable def b_X9_ghostSpots_38 (e6 : zG) (p2 : Int32) (p1 : Int32) (v3_7 : Int64) (v5_8 : Int32) : Option ((Int64 × Int32) ⊕ (Int64)) :=
  if v5_8 < (56 : Int32) then zg (zin v5_8 56) (if 0 < (e6.1 42 0 v5_8.toNatClampNeg) then zg (zin v5_8 56) (if ((2 : Int32) * (e6.1 42 0 v5_8.toNatClampNeg)) ≤ ((p2 - p1) + (1 : Int32)) then some (Sum.inl ((v3_7 ||| (zlshl (1 : Int64) v5_8)), (v5_8 + 1))) else some (Sum.inl (v3_7, (v5_8 + 1)))) else some (Sum.inl (v3_7, (v5_8 + 1)))) else some (Sum.inr v3_7)
noncomputable def f_X9_ghostSpots (p1 : Int32) (p2 : Int32) (σ : zG) : Option (Int64 × zG) :=
  zb (zflI σ 42 0 56 (0 : Int32)) (fun s1 => (zlp (fun q : Int32 × zG => b_X9_ghostSpots_10 p2 q.1 q.2) (p1, s1)).bind (fun e6 : zG => (zlp (fun q : Int64 × Int32 => b_X9_ghostSpots_38 e6 p2 p1 q.1 q.2) ((0 : Int64), (0 : Int32))).bind (fun e9 : Int64 => some (e9, e6))))
set_option maxRecDepth 100000 in
set_option maxHeartbeats 4000000 in
theorem c_X9_ghostSpots (l : Launch) (p1 : Int32) (p2 : Int32) (σ : zG) (q : Int64 × zG) (hq : f_X9_ghostSpots p1 p2 σ = some q) : zMet l zsyC m_X9_ghostSpots yX9_ghostSpots [zR 5 0, zI p1, zI p2] σ (some (zL q.1)) q.2 := by
  refine zEnter [(0, zR 5 0), (1, zI p1), (2, zI p2)] (by decide) rfl (fun _ => Nat.le_of_ble_eq_true rfl) (fun _ => rfl) (fun w h => ?_) (fun K hv hs => ?_)
  · exact zokm rfl h
  · have hP : ∀ x s, f_X9_ghostSpots p1 p2 σ = some (x, s) → zKv K = some (zL x) ∧ zKs K = s := fun x s h => by rw [hq] at h; cases h; exact ⟨hv, hs⟩
    have hn : f_X9_ghostSpots p1 p2 σ ≠ none := fun z => by rw [hq] at z; cases z
    have hf := f_X9_ghostSpots.eq_1 p1 p2 σ
    refine z_aload_n (pc := 0) 0 (zdg D_X9_ghostSpots 0 (0, .aload_n 0, 1) rfl) rfl rfl ?_
    refine z_getR (pc := 1) (g := 42) (j := 0) lf_X9_9 rfl rfl rfl (zdg D_X9_ghostSpots 1 (1, .getfield 9, 3) rfl) ?_
    refine z_iconst (pc := 4) (v := 0) (zdg D_X9_ghostSpots 2 (4, .iconst 0, 1) rfl) rfl ?_
    refine z_callS (pc := 5) (rest := []) (st2 := []) (fun l => c_fillI l zsyC 42 0 56 (0 : Int32) σ rfl (fun _ => rfl) (by decide)) zs_J7_fill_53178 lm_X9_93 rfl rfl rfl (Nat.le_of_ble_eq_true rfl) ⟨Nat.le_of_ble_eq_true rfl, Nat.le_of_ble_eq_true rfl⟩ (zdg D_X9_ghostSpots 3 (5, .invokestatic 93, 3) rfl) ?_
    refine z_nmS hf (fun s1 hf => ?_)
    refine z_iload_n (pc := 8) 1 (zdg D_X9_ghostSpots 4 (8, .iload_n 1, 1) rfl) rfl rfl ?_
    refine z_istore_n (pc := 9) (al' := [(3, zI p1), (0, zR 5 0), (1, zI p1), (2, zI p2)]) (zdg D_X9_ghostSpots 5 (9, .istore_n 3, 1) rfl) rfl (by decide) rfl ?_
    refine z_sub (al' := [(0, zR 5 0), (1, zI p1), (2, zI p2), (3, zI p1)]) [1, 2, 3, 0] rfl ?_
    refine z_loop (f := (fun q : Int32 × zG => b_X9_ghostSpots_10 p2 q.1 q.2)) (a := (p1, s1)) (fun q : Int32 × zG => zX zsyC m_X9_ghostSpots K 10 [(0, zR 5 0), (1, zI p1), (2, zI p2), (3, zI q.1)] [] q.2) (fun e6 : zG => zX zsyC m_X9_ghostSpots K 33 [(0, zR 5 0), (1, zI p1), (2, zI p2)] [] e6) hn hf ?_ ?_
    · intro e6 hf
      refine z_lconst (pc := 33) (v := 0) (zdg D_X9_ghostSpots 17 (33, .lconst 0, 1) rfl) rfl ?_
      refine z_lstore_n (pc := 34) (al' := [(3, zL (0 : Int64)), (0, zR 5 0), (1, zI p1), (2, zI p2)]) (zdg D_X9_ghostSpots 18 (34, .lstore_n 3, 1) rfl) rfl (by decide) rfl ?_
      refine z_iconst (pc := 35) (v := 0) (zdg D_X9_ghostSpots 19 (35, .iconst 0, 1) rfl) rfl ?_
      refine z_istore (pc := 36) (al' := [(5, zI (0 : Int32)), (3, zL (0 : Int64)), (0, zR 5 0), (1, zI p1), (2, zI p2)]) (zdg D_X9_ghostSpots 20 (36, .istore 5, 2) rfl) (by decide) rfl ?_
      refine z_sub (al' := [(0, zR 5 0), (1, zI p1), (2, zI p2), (3, zL (0 : Int64)), (5, zI (0 : Int32))]) [2, 3, 4, 1, 0] rfl ?_
      refine z_loop (f := (fun q : Int64 × Int32 => b_X9_ghostSpots_38 e6 p2 p1 q.1 q.2)) (a := ((0 : Int64), (0 : Int32))) (fun q : Int64 × Int32 => zX zsyC m_X9_ghostSpots K 38 [(0, zR 5 0), (1, zI p1), (2, zI p2), (3, zL q.1), (5, zI q.2)] [] e6) (fun e9 : Int64 => zX zsyC m_X9_ghostSpots K 85 [(3, zL e9)] [] e6) hn hf ?_ ?_
      · intro e9 hf
        refine z_lload_n (pc := 85) 0 (zdg D_X9_ghostSpots 49 (85, .lload_n 3, 1) rfl) rfl rfl ?_
        exact z_lret (pc := 86) rfl (zdg D_X9_ghostSpots 50 (86, .lreturn, 1) rfl) (hP _ _ hf)
      · rintro ⟨v3_7, v5_8⟩ hn hi hx
        have hf := b_X9_ghostSpots_38.eq_1 e6 p2 p1 v3_7 v5_8
        refine z_iload (pc := 38) 4 (zdg D_X9_ghostSpots 21 (38, .iload 5, 2) rfl) rfl ?_
        refine z_bipush (pc := 40) (v := 56) (zdg D_X9_ghostSpots 22 (40, .bipush 56, 2) rfl) rfl ?_
        refine z_icmp_ge (pc := 42) 85 (zdg D_X9_ghostSpots 23 (42, .if_icmp .ge 43, 3) rfl) rfl hf (fun hf => ?_) (fun hf => ?_)
        · refine z_sub (al' := [(3, zL v3_7)]) [3] rfl ?_
          exact hx v3_7 hf
        · refine z_aload_n (pc := 45) 0 (zdg D_X9_ghostSpots 24 (45, .aload_n 0, 1) rfl) rfl rfl ?_
          refine z_getR (pc := 46) (g := 42) (j := 0) lf_X9_9 rfl rfl rfl (zdg D_X9_ghostSpots 25 (46, .getfield 9, 3) rfl) ?_
          refine z_iload (pc := 49) 4 (zdg D_X9_ghostSpots 26 (49, .iload 5, 2) rfl) rfl ?_
          refine z_iald (pc := 51) rfl (fun _ => rfl) (zdg D_X9_ghostSpots 27 (51, .iaload, 1) rfl) hn hf (fun hf => ?_)
          refine z_if_le (pc := 52) 79 (zdg D_X9_ghostSpots 28 (52, .ifCond .le 27, 3) rfl) rfl hf (fun hf => ?_) (fun hf => ?_)
          · refine z_iinc (pc := 79) (v0 := (v5_8 + 1)) (al' := [(5, zI (v5_8 + 1)), (0, zR 5 0), (1, zI p1), (2, zI p2), (3, zL v3_7)]) 4 (zdg D_X9_ghostSpots 47 (79, .iinc 5 1, 3) rfl) rfl rfl (by decide) rfl ?_
            refine z_goto (pc := 82) 38 (zdg D_X9_ghostSpots 48 (82, .goto (-44), 3) rfl) rfl ?_
            refine z_sub (al' := [(0, zR 5 0), (1, zI p1), (2, zI p2), (3, zL v3_7), (5, zI (v5_8 + 1))]) [1, 2, 3, 4, 0] rfl ?_
            exact hi (v3_7, (v5_8 + 1)) hf
          · refine z_iconst (pc := 55) (v := 2) (zdg D_X9_ghostSpots 29 (55, .iconst 2, 1) rfl) rfl ?_
            refine z_aload_n (pc := 56) 0 (zdg D_X9_ghostSpots 30 (56, .aload_n 0, 1) rfl) rfl rfl ?_
            refine z_getR (pc := 57) (g := 42) (j := 0) lf_X9_9 rfl rfl rfl (zdg D_X9_ghostSpots 31 (57, .getfield 9, 3) rfl) ?_
            refine z_iload (pc := 60) 4 (zdg D_X9_ghostSpots 32 (60, .iload 5, 2) rfl) rfl ?_
            refine z_iald (pc := 62) rfl (fun _ => rfl) (zdg D_X9_ghostSpots 33 (62, .iaload, 1) rfl) hn hf (fun hf => ?_)
            refine z_imul (pc := 63) (zdg D_X9_ghostSpots 34 (63, .imul, 1) rfl) ?_
            refine z_iload_n (pc := 64) 2 (zdg D_X9_ghostSpots 35 (64, .iload_n 2, 1) rfl) rfl rfl ?_
            refine z_iload_n (pc := 65) 1 (zdg D_X9_ghostSpots 36 (65, .iload_n 1, 1) rfl) rfl rfl ?_
            refine z_isub (pc := 66) (zdg D_X9_ghostSpots 37 (66, .isub, 1) rfl) ?_
            refine z_iconst (pc := 67) (v := 1) (zdg D_X9_ghostSpots 38 (67, .iconst 1, 1) rfl) rfl ?_
            refine z_iadd (pc := 68) (zdg D_X9_ghostSpots 39 (68, .iadd, 1) rfl) ?_
            refine z_icmp_gt (pc := 69) 79 (zdg D_X9_ghostSpots 40 (69, .if_icmp .gt 10, 3) rfl) rfl hf (fun hf => ?_) (fun hf => ?_)
            · refine z_iinc (pc := 79) (v0 := (v5_8 + 1)) (al' := [(5, zI (v5_8 + 1)), (0, zR 5 0), (1, zI p1), (2, zI p2), (3, zL v3_7)]) 4 (zdg D_X9_ghostSpots 47 (79, .iinc 5 1, 3) rfl) rfl rfl (by decide) rfl ?_
              refine z_goto (pc := 82) 38 (zdg D_X9_ghostSpots 48 (82, .goto (-44), 3) rfl) rfl ?_
              refine z_sub (al' := [(0, zR 5 0), (1, zI p1), (2, zI p2), (3, zL v3_7), (5, zI (v5_8 + 1))]) [1, 2, 3, 4, 0] rfl ?_
              exact hi (v3_7, (v5_8 + 1)) hf
            · refine z_lload_n (pc := 72) 3 (zdg D_X9_ghostSpots 41 (72, .lload_n 3, 1) rfl) rfl rfl ?_
              refine z_lconst (pc := 73) (v := 1) (zdg D_X9_ghostSpots 42 (73, .lconst 1, 1) rfl) rfl ?_
              refine z_iload (pc := 74) 4 (zdg D_X9_ghostSpots 43 (74, .iload 5, 2) rfl) rfl ?_
              refine z_lshl (pc := 76) (zdg D_X9_ghostSpots 44 (76, .lshl, 1) rfl) ?_
              refine z_lor (pc := 77) (zdg D_X9_ghostSpots 45 (77, .lor, 1) rfl) ?_
              refine z_lstore_n (pc := 78) (al' := [(3, zL (v3_7 ||| (zlshl (1 : Int64) v5_8))), (0, zR 5 0), (1, zI p1), (2, zI p2), (5, zI v5_8)]) (zdg D_X9_ghostSpots 46 (78, .lstore_n 3, 1) rfl) rfl (by decide) rfl ?_
              refine z_iinc (pc := 79) (v0 := (v5_8 + 1)) (al' := [(5, zI (v5_8 + 1)), (3, zL (v3_7 ||| (zlshl (1 : Int64) v5_8))), (0, zR 5 0), (1, zI p1), (2, zI p2)]) 4 (zdg D_X9_ghostSpots 47 (79, .iinc 5 1, 3) rfl) rfl rfl (by decide) rfl ?_
              refine z_goto (pc := 82) 38 (zdg D_X9_ghostSpots 48 (82, .goto (-44), 3) rfl) rfl ?_
              refine z_sub (al' := [(0, zR 5 0), (1, zI p1), (2, zI p2), (3, zL (v3_7 ||| (zlshl (1 : Int64) v5_8))), (5, zI (v5_8 + 1))]) [2, 3, 4, 1, 0] rfl ?_
              exact hi ((v3_7 ||| (zlshl (1 : Int64) v5_8)), (v5_8 + 1)) hf
    · rintro ⟨v3_2, s3⟩ hn hi hx
      have hf := b_X9_ghostSpots_10.eq_1 p2 v3_2 s3
      refine z_iload_n (pc := 10) 3 (zdg D_X9_ghostSpots 6 (10, .iload_n 3, 1) rfl) rfl rfl ?_
      refine z_iload_n (pc := 11) 2 (zdg D_X9_ghostSpots 7 (11, .iload_n 2, 1) rfl) rfl rfl ?_
      refine z_icmp_gt (pc := 12) 33 (zdg D_X9_ghostSpots 8 (12, .if_icmp .gt 21, 3) rfl) rfl hf (fun hf => ?_) (fun hf => ?_)
      · refine z_sub (al' := [(0, zR 5 0), (1, zI p1), (2, zI p2)]) [0, 1, 2] rfl ?_
        exact hx s3 hf
      · refine z_aload_n (pc := 15) 0 (zdg D_X9_ghostSpots 9 (15, .aload_n 0, 1) rfl) rfl rfl ?_
        refine z_aload_n (pc := 16) 0 (zdg D_X9_ghostSpots 10 (16, .aload_n 0, 1) rfl) rfl rfl ?_
        refine z_getR (pc := 17) (g := 1) (j := 0) lf_X9_22 rfl rfl rfl (zdg D_X9_ghostSpots 11 (17, .getfield 22, 3) rfl) ?_
        refine z_iload_n (pc := 20) 3 (zdg D_X9_ghostSpots 12 (20, .iload_n 3, 1) rfl) rfl rfl ?_
        refine z_bind hn hf (fun q4 hq hf => ?_)
        refine z_callV (pc := 21) (rest := [zR 5 0]) (st2 := [zL q4, zR 5 0]) (fun l => c_X1_coverIn l 0 v3_2 s3 q4 hq) zv_X1_coverIn lm_X9_83 rfl rfl rfl rfl rfl rfl (Nat.le_of_ble_eq_true rfl) ⟨Nat.le_of_ble_eq_true rfl, Nat.le_of_ble_eq_true rfl⟩ (zdg D_X9_ghostSpots 13 (21, .invokevirtual 83, 3) rfl) ?_
        refine z_bind hn hf (fun q5 hq hf => ?_)
        refine z_callV (pc := 24) (rest := []) (st2 := []) (fun l => c_X9_countEach l q4 s3 q5 hq) zv_X9_countEach lm_X9_99 rfl rfl rfl rfl rfl rfl (Nat.le_of_ble_eq_true rfl) ⟨Nat.le_of_ble_eq_true rfl, Nat.le_of_ble_eq_true rfl⟩ (zdg D_X9_ghostSpots 14 (24, .invokevirtual 99, 3) rfl) ?_
        refine z_iinc (pc := 27) (v0 := (v3_2 + 1)) (al' := [(3, zI (v3_2 + 1)), (0, zR 5 0), (1, zI p1), (2, zI p2)]) 3 (zdg D_X9_ghostSpots 15 (27, .iinc 3 1, 3) rfl) rfl rfl (by decide) rfl ?_
        refine z_goto (pc := 30) 10 (zdg D_X9_ghostSpots 16 (30, .goto (-20), 3) rfl) rfl ?_
        refine z_sub (al' := [(0, zR 5 0), (1, zI p1), (2, zI p2), (3, zI (v3_2 + 1))]) [1, 2, 3, 0] rfl ?_
        exact hi ((v3_2 + 1), q5) hf

def L_X11_part : List (Nat × Instr × Nat) := [(0, .iload_n 0, 1), (1, .iload_n 1, 1), (2, .imul, 1), (3, .sipush 1000, 3), (6, .idiv, 1), (7, .ireturn, 1)]
set_option maxRecDepth 100000 in
theorem D_X11_part : zdecs cX11_part L_X11_part = true := by decide +kernel
noncomputable def f_X11_part (p1 : Int32) (p2 : Int32) : Int32 :=
  ((p1 * p2) / (1000 : Int32))
set_option maxRecDepth 100000 in
set_option maxHeartbeats 4000000 in
theorem c_X11_part (l : Launch) (p1 : Int32) (p2 : Int32) (σ : zG) : zMet l zsyC m_X11_part yX11_part [zI p1, zI p2] σ (some (zI (f_X11_part p1 p2))) σ := by
  refine zEnter [(0, zI p1), (1, zI p2)] (by decide) rfl (fun _ => Nat.le_of_ble_eq_true rfl) (fun _ => rfl) (fun w h => ?_) (fun K hv hs => ?_)
  · exact zokm rfl h
  · have hP : ∀ x, f_X11_part p1 p2 = x → zKv K = some (zI x) ∧ zKs K = σ := fun x h => by rw [h] at hv; exact ⟨hv, hs⟩
    have hf := f_X11_part.eq_1 p1 p2
    refine z_iload_n (pc := 0) 0 (zdg D_X11_part 0 (0, .iload_n 0, 1) rfl) rfl rfl ?_
    refine z_iload_n (pc := 1) 1 (zdg D_X11_part 1 (1, .iload_n 1, 1) rfl) rfl rfl ?_
    refine z_imul (pc := 2) (zdg D_X11_part 2 (2, .imul, 1) rfl) ?_
    refine z_sipush (pc := 3) (v := 1000) (zdg D_X11_part 3 (3, .sipush 1000, 3) rfl) rfl ?_
    refine z_idivK (pc := 6) (zdg D_X11_part 4 (6, .idiv, 1) rfl) rfl ?_
    exact z_iret (pc := 7) rfl rfl (zdg D_X11_part 5 (7, .ireturn, 1) rfl) (hP _ hf)

def L_X9_mostRight : List (Nat × Instr × Nat) := [(0, .aload_n 0, 1), (1, .getfield 19, 3), (4, .iconst 0, 1), (5, .invokestatic 93, 3), (8, .aload_n 0, 1), (9, .getfield 19, 3), (12, .iconst 0, 1), (13, .ldc 103, 2), (15, .iastore, 1), (16, .iconst 1, 1), (17, .istore_n 3, 1), (18, .iload_n 3, 1), (19, .iload_n 1, 1), (20, .if_icmp .gt 81, 3), (23, .iload_n 3, 1), (24, .bipush 15, 2), (26, .if_icmp .gt 75, 3), (29, .iload_n 3, 1), (30, .istore 4, 2), (32, .iload 4, 2), (34, .ifCond .le 45, 3), (37, .aload_n 0, 1), (38, .getfield 19, 3), (41, .iload 4, 2), (43, .aload_n 0, 1), (44, .getfield 19, 3), (47, .iload 4, 2), (49, .iaload, 1), (50, .iload_n 2, 1), (51, .invokestatic 104, 3), (54, .aload_n 0, 1), (55, .getfield 19, 3), (58, .iload 4, 2), (60, .iconst 1, 1), (61, .isub, 1), (62, .iaload, 1), (63, .sipush 1000, 3), (66, .iload_n 2, 1), (67, .isub, 1), (68, .invokestatic 104, 3), (71, .iadd, 1), (72, .iastore, 1), (73, .iinc 4 (-1), 3), (76, .goto (-44), 3), (79, .aload_n 0, 1), (80, .getfield 19, 3), (83, .iconst 0, 1), (84, .aload_n 0, 1), (85, .getfield 19, 3), (88, .iconst 0, 1), (89, .iaload, 1), (90, .iload_n 2, 1), (91, .invokestatic 104, 3), (94, .iastore, 1), (95, .iinc 3 1, 3), (98, .goto (-80), 3), (101, .iconst 0, 1), (102, .istore_n 3, 1), (103, .iload_n 1, 1), (104, .iconst 2, 1), (105, .idiv, 1), (106, .iconst 1, 1), (107, .iadd, 1), (108, .istore 4, 2), (110, .iload 4, 2), (112, .iload_n 1, 1), (113, .if_icmp .gt 26, 3), (116, .iload 4, 2), (118, .bipush 15, 2), (120, .if_icmp .gt 19, 3), (123, .iload_n 3, 1), (124, .aload_n 0, 1), (125, .getfield 19, 3), (128, .iload 4, 2), (130, .iaload, 1), (131, .iadd, 1), (132, .istore_n 3, 1), (133, .iinc 4 1, 3), (136, .goto (-26), 3), (139, .iload_n 3, 1), (140, .ireturn, 1)]
set_option maxRecDepth 100000 in
theorem D_X9_mostRight : zdecs cX9_mostRight L_X9_mostRight = true := by decide +kernel
noncomputable def b_X9_mostRight_32 (p2 : Int32) (v4_5 : Int32) (s6 : zG) : Option ((Int32 × zG) ⊕ (zG)) :=
  if 0 < v4_5 then zg (zin v4_5 16) (zg (zin (v4_5 - (1 : Int32)) 16) (zg (zin v4_5 16) (zb (zwI s6 44 0 v4_5.toNatClampNeg ((f_X11_part (s6.1 44 0 v4_5.toNatClampNeg) p2) + (f_X11_part (s6.1 44 0 (v4_5 - (1 : Int32)).toNatClampNeg) ((1000 : Int32) - p2)))) (fun s7 => some (Sum.inl ((v4_5 + (-1)), s7)))))) else some (Sum.inr s6)
noncomputable def b_X9_mostRight_18 (p1 : Int32) (p2 : Int32) (v3_3 : Int32) (s4 : zG) : Option ((Int32 × zG) ⊕ (zG)) :=
  if v3_3 ≤ p1 then if v3_3 ≤ (15 : Int32) then (zlp (fun q : Int32 × zG => b_X9_mostRight_32 p2 q.1 q.2) (v3_3, s4)).bind (fun e8 : zG => zb (zwI e8 44 0 0 (f_X11_part (e8.1 44 0 0) p2)) (fun s9 => some (Sum.inl ((v3_3 + 1), s9)))) else some (Sum.inr s4) else some (Sum.inr s4)
noncomputable def b_X9_mostRight_110 (p1 : Int32) (s11 : zG) (v3_12 : Int32) (v4_13 : Int32) : Option ((Int32 × Int32) ⊕ (Int32)) :=
  if v4_13 ≤ p1 then if v4_13 ≤ (15 : Int32) then zg (zin v4_13 16) (some (Sum.inl ((v3_12 + (s11.1 44 0 v4_13.toNatClampNeg)), (v4_13 + 1)))) else some (Sum.inr v3_12) else some (Sum.inr v3_12)
noncomputable def j_X9_mostRight_101 (p1 : Int32) (s11 : zG) : Option (Int32 × zG) :=
  (zlp (fun q : Int32 × Int32 => b_X9_mostRight_110 p1 s11 q.1 q.2) ((0 : Int32), ((p1 / (2 : Int32)) + (1 : Int32)))).bind (fun e14 : Int32 => some (e14, s11))
noncomputable def f_X9_mostRight (p1 : Int32) (p2 : Int32) (σ : zG) : Option (Int32 × zG) :=
  zb (zflI σ 44 0 16 (0 : Int32)) (fun s1 => zb (zwI s1 44 0 0 (1000000 : Int32)) (fun s2 => (zlp (fun q : Int32 × zG => b_X9_mostRight_18 p1 p2 q.1 q.2) ((1 : Int32), s2)).bind (fun e10 : zG => j_X9_mostRight_101 p1 e10)))
set_option maxRecDepth 100000 in
set_option maxHeartbeats 4000000 in
theorem c_X9_mostRight (l : Launch) (p1 : Int32) (p2 : Int32) (σ : zG) (q : Int32 × zG) (hq : f_X9_mostRight p1 p2 σ = some q) : zMet l zsyC m_X9_mostRight yX9_mostRight [zR 5 0, zI p1, zI p2] σ (some (zI q.1)) q.2 := by
  refine zEnter [(0, zR 5 0), (1, zI p1), (2, zI p2)] (by decide) rfl (fun _ => Nat.le_of_ble_eq_true rfl) (fun _ => rfl) (fun w h => ?_) (fun K hv hs => ?_)
  · exact zokm rfl h
  · have hP : ∀ x s, f_X9_mostRight p1 p2 σ = some (x, s) → zKv K = some (zI x) ∧ zKs K = s := fun x s h => by rw [hq] at h; cases h; exact ⟨hv, hs⟩
    have hn : f_X9_mostRight p1 p2 σ ≠ none := fun z => by rw [hq] at z; cases z
    have hf := f_X9_mostRight.eq_1 p1 p2 σ
    have t_101 : ∀ (s11 : zG), f_X9_mostRight p1 p2 σ = j_X9_mostRight_101 p1 s11 → zX zsyC m_X9_mostRight K 101 [(0, zR 5 0), (1, zI p1)] [] s11 := by
      intro s11 hf
      replace hf := hf.trans (j_X9_mostRight_101.eq_1 p1 s11)
      refine z_iconst (pc := 101) (v := 0) (zdg D_X9_mostRight 56 (101, .iconst 0, 1) rfl) rfl ?_
      refine z_istore_n (pc := 102) (al' := [(3, zI (0 : Int32)), (0, zR 5 0), (1, zI p1)]) (zdg D_X9_mostRight 57 (102, .istore_n 3, 1) rfl) rfl (by decide) rfl ?_
      refine z_iload_n (pc := 103) 2 (zdg D_X9_mostRight 58 (103, .iload_n 1, 1) rfl) rfl rfl ?_
      refine z_iconst (pc := 104) (v := 2) (zdg D_X9_mostRight 59 (104, .iconst 2, 1) rfl) rfl ?_
      refine z_idivK (pc := 105) (zdg D_X9_mostRight 60 (105, .idiv, 1) rfl) rfl ?_
      refine z_iconst (pc := 106) (v := 1) (zdg D_X9_mostRight 61 (106, .iconst 1, 1) rfl) rfl ?_
      refine z_iadd (pc := 107) (zdg D_X9_mostRight 62 (107, .iadd, 1) rfl) ?_
      refine z_istore (pc := 108) (al' := [(4, zI ((p1 / (2 : Int32)) + (1 : Int32))), (3, zI (0 : Int32)), (0, zR 5 0), (1, zI p1)]) (zdg D_X9_mostRight 63 (108, .istore 4, 2) rfl) (by decide) rfl ?_
      refine z_sub (al' := [(0, zR 5 0), (1, zI p1), (3, zI (0 : Int32)), (4, zI ((p1 / (2 : Int32)) + (1 : Int32)))]) [2, 3, 1, 0] rfl ?_
      refine z_loop (f := (fun q : Int32 × Int32 => b_X9_mostRight_110 p1 s11 q.1 q.2)) (a := ((0 : Int32), ((p1 / (2 : Int32)) + (1 : Int32)))) (fun q : Int32 × Int32 => zX zsyC m_X9_mostRight K 110 [(0, zR 5 0), (1, zI p1), (3, zI q.1), (4, zI q.2)] [] s11) (fun e14 : Int32 => zX zsyC m_X9_mostRight K 139 [(3, zI e14)] [] s11) hn hf ?_ ?_
      · intro e14 hf
        refine z_iload_n (pc := 139) 0 (zdg D_X9_mostRight 79 (139, .iload_n 3, 1) rfl) rfl rfl ?_
        exact z_iret (pc := 140) rfl rfl (zdg D_X9_mostRight 80 (140, .ireturn, 1) rfl) (hP _ _ hf)
      · rintro ⟨v3_12, v4_13⟩ hn hi hx
        have hf := b_X9_mostRight_110.eq_1 p1 s11 v3_12 v4_13
        refine z_iload (pc := 110) 3 (zdg D_X9_mostRight 64 (110, .iload 4, 2) rfl) rfl ?_
        refine z_iload_n (pc := 112) 1 (zdg D_X9_mostRight 65 (112, .iload_n 1, 1) rfl) rfl rfl ?_
        refine z_icmp_gt (pc := 113) 139 (zdg D_X9_mostRight 66 (113, .if_icmp .gt 26, 3) rfl) rfl hf (fun hf => ?_) (fun hf => ?_)
        · refine z_sub (al' := [(3, zI v3_12)]) [2] rfl ?_
          exact hx v3_12 hf
        · refine z_iload (pc := 116) 3 (zdg D_X9_mostRight 67 (116, .iload 4, 2) rfl) rfl ?_
          refine z_bipush (pc := 118) (v := 15) (zdg D_X9_mostRight 68 (118, .bipush 15, 2) rfl) rfl ?_
          refine z_icmp_gt (pc := 120) 139 (zdg D_X9_mostRight 69 (120, .if_icmp .gt 19, 3) rfl) rfl hf (fun hf => ?_) (fun hf => ?_)
          · refine z_sub (al' := [(3, zI v3_12)]) [2] rfl ?_
            exact hx v3_12 hf
          · refine z_iload_n (pc := 123) 2 (zdg D_X9_mostRight 70 (123, .iload_n 3, 1) rfl) rfl rfl ?_
            refine z_aload_n (pc := 124) 0 (zdg D_X9_mostRight 71 (124, .aload_n 0, 1) rfl) rfl rfl ?_
            refine z_getR (pc := 125) (g := 44) (j := 0) lf_X9_19 rfl rfl rfl (zdg D_X9_mostRight 72 (125, .getfield 19, 3) rfl) ?_
            refine z_iload (pc := 128) 3 (zdg D_X9_mostRight 73 (128, .iload 4, 2) rfl) rfl ?_
            refine z_iald (pc := 130) rfl (fun _ => rfl) (zdg D_X9_mostRight 74 (130, .iaload, 1) rfl) hn hf (fun hf => ?_)
            refine z_iadd (pc := 131) (zdg D_X9_mostRight 75 (131, .iadd, 1) rfl) ?_
            refine z_istore_n (pc := 132) (al' := [(3, zI (v3_12 + (s11.1 44 0 v4_13.toNatClampNeg))), (0, zR 5 0), (1, zI p1), (4, zI v4_13)]) (zdg D_X9_mostRight 76 (132, .istore_n 3, 1) rfl) rfl (by decide) rfl ?_
            refine z_iinc (pc := 133) (v0 := (v4_13 + 1)) (al' := [(4, zI (v4_13 + 1)), (3, zI (v3_12 + (s11.1 44 0 v4_13.toNatClampNeg))), (0, zR 5 0), (1, zI p1)]) 3 (zdg D_X9_mostRight 77 (133, .iinc 4 1, 3) rfl) rfl rfl (by decide) rfl ?_
            refine z_goto (pc := 136) 110 (zdg D_X9_mostRight 78 (136, .goto (-26), 3) rfl) rfl ?_
            refine z_sub (al' := [(0, zR 5 0), (1, zI p1), (3, zI (v3_12 + (s11.1 44 0 v4_13.toNatClampNeg))), (4, zI (v4_13 + 1))]) [2, 3, 1, 0] rfl ?_
            exact hi ((v3_12 + (s11.1 44 0 v4_13.toNatClampNeg)), (v4_13 + 1)) hf
    refine z_aload_n (pc := 0) 0 (zdg D_X9_mostRight 0 (0, .aload_n 0, 1) rfl) rfl rfl ?_
    refine z_getR (pc := 1) (g := 44) (j := 0) lf_X9_19 rfl rfl rfl (zdg D_X9_mostRight 1 (1, .getfield 19, 3) rfl) ?_
    refine z_iconst (pc := 4) (v := 0) (zdg D_X9_mostRight 2 (4, .iconst 0, 1) rfl) rfl ?_
    refine z_callS (pc := 5) (rest := []) (st2 := []) (fun l => c_fillI l zsyC 44 0 16 (0 : Int32) σ rfl (fun _ => rfl) (by decide)) zs_J7_fill_53178 lm_X9_93 rfl rfl rfl (Nat.le_of_ble_eq_true rfl) ⟨Nat.le_of_ble_eq_true rfl, Nat.le_of_ble_eq_true rfl⟩ (zdg D_X9_mostRight 3 (5, .invokestatic 93, 3) rfl) ?_
    refine z_nmS hf (fun s1 hf => ?_)
    refine z_aload_n (pc := 8) 0 (zdg D_X9_mostRight 4 (8, .aload_n 0, 1) rfl) rfl rfl ?_
    refine z_getR (pc := 9) (g := 44) (j := 0) lf_X9_19 rfl rfl rfl (zdg D_X9_mostRight 5 (9, .getfield 19, 3) rfl) ?_
    refine z_iconst (pc := 12) (v := 0) (zdg D_X9_mostRight 6 (12, .iconst 0, 1) rfl) rfl ?_
    refine z_ldc (pc := 13) lc_X9_103 (zdg D_X9_mostRight 7 (13, .ldc 103, 2) rfl) ?_
    refine z_iastC (pc := 15) (j := 0) rfl (fun _ => rfl) (zdg D_X9_mostRight 8 (15, .iastore, 1) rfl) rfl rfl ?_
    refine z_nmS hf (fun s2 hf => ?_)
    refine z_iconst (pc := 16) (v := 1) (zdg D_X9_mostRight 9 (16, .iconst 1, 1) rfl) rfl ?_
    refine z_istore_n (pc := 17) (al' := [(3, zI (1 : Int32)), (0, zR 5 0), (1, zI p1), (2, zI p2)]) (zdg D_X9_mostRight 10 (17, .istore_n 3, 1) rfl) rfl (by decide) rfl ?_
    refine z_sub (al' := [(0, zR 5 0), (1, zI p1), (2, zI p2), (3, zI (1 : Int32))]) [1, 2, 3, 0] rfl ?_
    refine z_loop (f := (fun q : Int32 × zG => b_X9_mostRight_18 p1 p2 q.1 q.2)) (a := ((1 : Int32), s2)) (fun q : Int32 × zG => zX zsyC m_X9_mostRight K 18 [(0, zR 5 0), (1, zI p1), (2, zI p2), (3, zI q.1)] [] q.2) (fun e10 : zG => zX zsyC m_X9_mostRight K 101 [(0, zR 5 0), (1, zI p1)] [] e10) hn hf ?_ ?_
    · intro e10 hf
      exact t_101 e10 hf
    · rintro ⟨v3_3, s4⟩ hn hi hx
      have hf := b_X9_mostRight_18.eq_1 p1 p2 v3_3 s4
      refine z_iload_n (pc := 18) 3 (zdg D_X9_mostRight 11 (18, .iload_n 3, 1) rfl) rfl rfl ?_
      refine z_iload_n (pc := 19) 1 (zdg D_X9_mostRight 12 (19, .iload_n 1, 1) rfl) rfl rfl ?_
      refine z_icmp_gt (pc := 20) 101 (zdg D_X9_mostRight 13 (20, .if_icmp .gt 81, 3) rfl) rfl hf (fun hf => ?_) (fun hf => ?_)
      · refine z_sub (al' := [(0, zR 5 0), (1, zI p1)]) [0, 1] rfl ?_
        exact hx s4 hf
      · refine z_iload_n (pc := 23) 3 (zdg D_X9_mostRight 14 (23, .iload_n 3, 1) rfl) rfl rfl ?_
        refine z_bipush (pc := 24) (v := 15) (zdg D_X9_mostRight 15 (24, .bipush 15, 2) rfl) rfl ?_
        refine z_icmp_gt (pc := 26) 101 (zdg D_X9_mostRight 16 (26, .if_icmp .gt 75, 3) rfl) rfl hf (fun hf => ?_) (fun hf => ?_)
        · refine z_sub (al' := [(0, zR 5 0), (1, zI p1)]) [0, 1] rfl ?_
          exact hx s4 hf
        · refine z_iload_n (pc := 29) 3 (zdg D_X9_mostRight 17 (29, .iload_n 3, 1) rfl) rfl rfl ?_
          refine z_istore (pc := 30) (al' := [(4, zI v3_3), (0, zR 5 0), (1, zI p1), (2, zI p2), (3, zI v3_3)]) (zdg D_X9_mostRight 18 (30, .istore 4, 2) rfl) (by decide) rfl ?_
          refine z_sub (al' := [(0, zR 5 0), (1, zI p1), (2, zI p2), (3, zI v3_3), (4, zI v3_3)]) [1, 2, 3, 4, 0] rfl ?_
          refine z_loop (f := (fun q : Int32 × zG => b_X9_mostRight_32 p2 q.1 q.2)) (a := (v3_3, s4)) (fun q : Int32 × zG => zX zsyC m_X9_mostRight K 32 [(0, zR 5 0), (1, zI p1), (2, zI p2), (3, zI v3_3), (4, zI q.1)] [] q.2) (fun e8 : zG => zX zsyC m_X9_mostRight K 79 [(0, zR 5 0), (1, zI p1), (2, zI p2), (3, zI v3_3)] [] e8) hn hf ?_ ?_
          · intro e8 hf
            refine z_aload_n (pc := 79) 0 (zdg D_X9_mostRight 44 (79, .aload_n 0, 1) rfl) rfl rfl ?_
            refine z_getR (pc := 80) (g := 44) (j := 0) lf_X9_19 rfl rfl rfl (zdg D_X9_mostRight 45 (80, .getfield 19, 3) rfl) ?_
            refine z_iconst (pc := 83) (v := 0) (zdg D_X9_mostRight 46 (83, .iconst 0, 1) rfl) rfl ?_
            refine z_aload_n (pc := 84) 0 (zdg D_X9_mostRight 47 (84, .aload_n 0, 1) rfl) rfl rfl ?_
            refine z_getR (pc := 85) (g := 44) (j := 0) lf_X9_19 rfl rfl rfl (zdg D_X9_mostRight 48 (85, .getfield 19, 3) rfl) ?_
            refine z_iconst (pc := 88) (v := 0) (zdg D_X9_mostRight 49 (88, .iconst 0, 1) rfl) rfl ?_
            refine z_ialdC (pc := 89) (j := 0) rfl (fun _ => rfl) (zdg D_X9_mostRight 50 (89, .iaload, 1) rfl) rfl rfl ?_
            refine z_iload_n (pc := 90) 2 (zdg D_X9_mostRight 51 (90, .iload_n 2, 1) rfl) rfl rfl ?_
            refine z_callSN (pc := 91) (rest := [zI (0 : Int32), zR 44 0]) (st2 := [zI (f_X11_part (e8.1 44 0 0) p2), zI (0 : Int32), zR 44 0]) (host := "NobodyThere") (fun l => c_X11_part l (e8.1 44 0 0) p2 e8) zs_X11_part (by decide +kernel) rfl rfl rfl (Nat.le_of_ble_eq_true rfl) ⟨Nat.le_of_ble_eq_true rfl, Nat.le_of_ble_eq_true rfl⟩ (zdg D_X9_mostRight 52 (91, .invokestatic 104, 3) rfl) ?_
            refine z_iastC (pc := 94) (j := 0) rfl (fun _ => rfl) (zdg D_X9_mostRight 53 (94, .iastore, 1) rfl) rfl rfl ?_
            refine z_nmS hf (fun s9 hf => ?_)
            refine z_iinc (pc := 95) (v0 := (v3_3 + 1)) (al' := [(3, zI (v3_3 + 1)), (0, zR 5 0), (1, zI p1), (2, zI p2)]) 3 (zdg D_X9_mostRight 54 (95, .iinc 3 1, 3) rfl) rfl rfl (by decide) rfl ?_
            refine z_goto (pc := 98) 18 (zdg D_X9_mostRight 55 (98, .goto (-80), 3) rfl) rfl ?_
            refine z_sub (al' := [(0, zR 5 0), (1, zI p1), (2, zI p2), (3, zI (v3_3 + 1))]) [1, 2, 3, 0] rfl ?_
            exact hi ((v3_3 + 1), s9) hf
          · rintro ⟨v4_5, s6⟩ hn hi hx
            have hf := b_X9_mostRight_32.eq_1 p2 v4_5 s6
            refine z_iload (pc := 32) 4 (zdg D_X9_mostRight 19 (32, .iload 4, 2) rfl) rfl ?_
            refine z_if_le (pc := 34) 79 (zdg D_X9_mostRight 20 (34, .ifCond .le 45, 3) rfl) rfl hf (fun hf => ?_) (fun hf => ?_)
            · refine z_sub (al' := [(0, zR 5 0), (1, zI p1), (2, zI p2), (3, zI v3_3)]) [0, 1, 2, 3] rfl ?_
              exact hx s6 hf
            · refine z_aload_n (pc := 37) 0 (zdg D_X9_mostRight 21 (37, .aload_n 0, 1) rfl) rfl rfl ?_
              refine z_getR (pc := 38) (g := 44) (j := 0) lf_X9_19 rfl rfl rfl (zdg D_X9_mostRight 22 (38, .getfield 19, 3) rfl) ?_
              refine z_iload (pc := 41) 4 (zdg D_X9_mostRight 23 (41, .iload 4, 2) rfl) rfl ?_
              refine z_aload_n (pc := 43) 0 (zdg D_X9_mostRight 24 (43, .aload_n 0, 1) rfl) rfl rfl ?_
              refine z_getR (pc := 44) (g := 44) (j := 0) lf_X9_19 rfl rfl rfl (zdg D_X9_mostRight 25 (44, .getfield 19, 3) rfl) ?_
              refine z_iload (pc := 47) 4 (zdg D_X9_mostRight 26 (47, .iload 4, 2) rfl) rfl ?_
              refine z_iald (pc := 49) rfl (fun _ => rfl) (zdg D_X9_mostRight 27 (49, .iaload, 1) rfl) hn hf (fun hf => ?_)
              refine z_iload_n (pc := 50) 2 (zdg D_X9_mostRight 28 (50, .iload_n 2, 1) rfl) rfl rfl ?_
              refine z_callSN (pc := 51) (rest := [zI v4_5, zR 44 0]) (st2 := [zI (f_X11_part (s6.1 44 0 v4_5.toNatClampNeg) p2), zI v4_5, zR 44 0]) (host := "NobodyThere") (fun l => c_X11_part l (s6.1 44 0 v4_5.toNatClampNeg) p2 s6) zs_X11_part (by decide +kernel) rfl rfl rfl (Nat.le_of_ble_eq_true rfl) ⟨Nat.le_of_ble_eq_true rfl, Nat.le_of_ble_eq_true rfl⟩ (zdg D_X9_mostRight 29 (51, .invokestatic 104, 3) rfl) ?_
              refine z_aload_n (pc := 54) 0 (zdg D_X9_mostRight 30 (54, .aload_n 0, 1) rfl) rfl rfl ?_
              refine z_getR (pc := 55) (g := 44) (j := 0) lf_X9_19 rfl rfl rfl (zdg D_X9_mostRight 31 (55, .getfield 19, 3) rfl) ?_
              refine z_iload (pc := 58) 4 (zdg D_X9_mostRight 32 (58, .iload 4, 2) rfl) rfl ?_
              refine z_iconst (pc := 60) (v := 1) (zdg D_X9_mostRight 33 (60, .iconst 1, 1) rfl) rfl ?_
              refine z_isub (pc := 61) (zdg D_X9_mostRight 34 (61, .isub, 1) rfl) ?_
              refine z_iald (pc := 62) rfl (fun _ => rfl) (zdg D_X9_mostRight 35 (62, .iaload, 1) rfl) hn hf (fun hf => ?_)
              refine z_sipush (pc := 63) (v := 1000) (zdg D_X9_mostRight 36 (63, .sipush 1000, 3) rfl) rfl ?_
              refine z_iload_n (pc := 66) 2 (zdg D_X9_mostRight 37 (66, .iload_n 2, 1) rfl) rfl rfl ?_
              refine z_isub (pc := 67) (zdg D_X9_mostRight 38 (67, .isub, 1) rfl) ?_
              refine z_callSN (pc := 68) (rest := [zI (f_X11_part (s6.1 44 0 v4_5.toNatClampNeg) p2), zI v4_5, zR 44 0]) (st2 := [zI (f_X11_part (s6.1 44 0 (v4_5 - (1 : Int32)).toNatClampNeg) ((1000 : Int32) - p2)), zI (f_X11_part (s6.1 44 0 v4_5.toNatClampNeg) p2), zI v4_5, zR 44 0]) (host := "NobodyThere") (fun l => c_X11_part l (s6.1 44 0 (v4_5 - (1 : Int32)).toNatClampNeg) ((1000 : Int32) - p2) s6) zs_X11_part (by decide +kernel) rfl rfl rfl (Nat.le_of_ble_eq_true rfl) ⟨Nat.le_of_ble_eq_true rfl, Nat.le_of_ble_eq_true rfl⟩ (zdg D_X9_mostRight 39 (68, .invokestatic 104, 3) rfl) ?_
              refine z_iadd (pc := 71) (zdg D_X9_mostRight 40 (71, .iadd, 1) rfl) ?_
              refine z_iast (pc := 72) rfl (fun _ => rfl) (zdg D_X9_mostRight 41 (72, .iastore, 1) rfl) hn hf (fun hf => ?_)
              refine z_nmS hf (fun s7 hf => ?_)
              refine z_iinc (pc := 73) (v0 := (v4_5 + (-1))) (al' := [(4, zI (v4_5 + (-1))), (0, zR 5 0), (1, zI p1), (2, zI p2), (3, zI v3_3)]) 4 (zdg D_X9_mostRight 42 (73, .iinc 4 (-1), 3) rfl) rfl rfl (by decide) rfl ?_
              refine z_goto (pc := 76) 32 (zdg D_X9_mostRight 43 (76, .goto (-44), 3) rfl) rfl ?_
              refine z_sub (al' := [(0, zR 5 0), (1, zI p1), (2, zI p2), (3, zI v3_3), (4, zI (v4_5 + (-1)))]) [1, 2, 3, 4, 0] rfl ?_
              exact hi ((v4_5 + (-1)), s7) hf

def L_X9_longestStander : List (Nat × Instr × Nat) := [(0, .iconst (-1), 1), (1, .istore_n 2, 1), (2, .iconst 0, 1), (3, .istore_n 3, 1), (4, .iconst (-1), 1), (5, .istore 4, 2), (7, .iconst 0, 1), (8, .istore 5, 2), (10, .iload 5, 2), (12, .aload_n 0, 1), (13, .getfield 22, 3), (16, .getfield 116, 3), (19, .getfield 120, 3), (22, .if_icmp .ge 100, 3), (25, .iconst 0, 1), (26, .istore 6, 2), (28, .iconst (-1), 1), (29, .istore 7, 2), (31, .iconst 0, 1), (32, .istore 8, 2), (34, .iload 8, 2), (36, .sipush 500, 3), (39, .if_icmp .gt 77, 3), (42, .aload_n 0, 1), (43, .getfield 22, 3), (46, .getfield 125, 3), (49, .iload 5, 2), (51, .iload 8, 2), (53, .invokevirtual 129, 3), (56, .istore 9, 2), (58, .iload 9, 2), (60, .iconst (-1), 1), (61, .if_icmp .ne 7, 3), (64, .iconst 0, 1), (65, .goto 18, 3), (68, .iload 9, 2), (70, .iload 7, 2), (72, .if_icmp .ne 10, 3), (75, .iload 6, 2), (77, .iconst 1, 1), (78, .iadd, 1), (79, .goto 4, 3), (82, .iconst 1, 1), (83, .istore 6, 2), (85, .iload 9, 2), (87, .istore 7, 2), (89, .iload 6, 2), (91, .iload_n 3, 1), (92, .if_icmp .le 18, 3), (95, .iload 6, 2), (97, .istore_n 3, 1), (98, .iload 5, 2), (100, .istore_n 2, 1), (101, .iload 8, 2), (103, .iload 6, 2), (105, .isub, 1), (106, .iconst 1, 1), (107, .iadd, 1), (108, .istore 4, 2), (110, .iinc 8 1, 3), (113, .goto (-79), 3), (116, .iinc 5 1, 3), (119, .goto (-109), 3), (122, .iload_n 2, 1), (123, .iconst (-1), 1), (124, .if_icmp .ne 7, 3), (127, .iconst (-1), 1), (128, .goto 12, 3), (131, .iload_n 1, 1), (132, .iload_n 2, 1), (133, .iload_n 3, 1), (134, .iload 4, 2), (136, .iconst (-1), 1), (137, .invokestatic 50, 3), (140, .ireturn, 1)]
set_option maxRecDepth 100000 in
theorem D_X9_longestStander : zdecs cX9_longestStander L_X9_longestStander = true := by decide +kernel
noncomputable def j_X9_longestStander_83_34 (v5_4 : Int32) (w2_12 : Int32) (w3_13 : Int32) (w4_14 : Int32) (w8_15 : Int32) (w9_16 : Int32) (t17 : Int32) : Option ((Int32 × Int32 × Int32 × Int32 × Int32 × Int32) ⊕ (Int32 × Int32 × Int32)) :=
  if w3_13 < t17 then some (Sum.inl (v5_4, t17, ((w8_15 - t17) + (1 : Int32)), t17, w9_16, (w8_15 + 1))) else some (Sum.inl (w2_12, w3_13, w4_14, t17, w9_16, (w8_15 + 1)))
noncomputable def b_X9_longestStander_34 (v5_4 : Int32) (σ : zG) (v2_5 : Int32) (v3_6 : Int32) (v4_7 : Int32) (v6_8 : Int32) (v7_9 : Int32) (v8_10 : Int32) : Option ((Int32 × Int32 × Int32 × Int32 × Int32 × Int32) ⊕ (Int32 × Int32 × Int32)) :=
  if v8_10 ≤ (500 : Int32) then (f_X5_spotIn 0 v5_4 v8_10 σ).bind (fun q11 => if q11 = (-1 : Int32) then j_X9_longestStander_83_34 v5_4 v2_5 v3_6 v4_7 v8_10 q11 (0 : Int32) else if q11 = v7_9 then j_X9_longestStander_83_34 v5_4 v2_5 v3_6 v4_7 v8_10 q11 (v6_8 + (1 : Int32)) else j_X9_longestStander_83_34 v5_4 v2_5 v3_6 v4_7 v8_10 q11 (1 : Int32)) else some (Sum.inr (v2_5, v3_6, v4_7))
noncomputable def b_X9_longestStander_10 (σ : zG) (v2_1 : Int32) (v3_2 : Int32) (v4_3 : Int32) (v5_4 : Int32) : Option ((Int32 × Int32 × Int32 × Int32) ⊕ (Int32 × Int32 × Int32)) :=
  if v5_4 < (σ.1 8 0 0) then (zlp (fun q : Int32 × Int32 × Int32 × Int32 × Int32 × Int32 => b_X9_longestStander_34 v5_4 σ q.1 q.2.1 q.2.2.1 q.2.2.2.1 q.2.2.2.2.1 q.2.2.2.2.2) (v2_1, v3_2, v4_3, (0 : Int32), (-1 : Int32), (0 : Int32))).bind (fun e18 : Int32 × Int32 × Int32 => some (Sum.inl (e18.1, e18.2.1, e18.2.2, (v5_4 + 1)))) else some (Sum.inr (v2_1, v3_2, v4_3))
noncomputable def f_X9_longestStander (p1 : Int32) (σ : zG) : Option (Int32) :=
  (zlp (fun q : Int32 × Int32 × Int32 × Int32 => b_X9_longestStander_10 σ q.1 q.2.1 q.2.2.1 q.2.2.2) ((-1 : Int32), (0 : Int32), (-1 : Int32), (0 : Int32))).bind (fun e19 : Int32 × Int32 × Int32 => if e19.1 = (-1 : Int32) then some (-1 : Int32) else some (f_X11_oneOf p1 e19.1 e19.2.1 e19.2.2 (-1 : Int32)))
set_option maxRecDepth 100000 in
set_option maxHeartbeats 4000000 in
theorem c_X9_longestStander (l : Launch) (p1 : Int32) (σ : zG) (q : Int32) (hq : f_X9_longestStander p1 σ = some q) : zMet l zsyC m_X9_longestStander yX9_longestStander [zR 5 0, zI p1] σ (some (zI q)) σ := by
  refine zEnter [(0, zR 5 0), (1, zI p1)] (by decide) rfl (fun _ => Nat.le_of_ble_eq_true rfl) (fun _ => rfl) (fun w h => ?_) (fun K hv hs => ?_)
  · exact zokm rfl h
  · have hP : ∀ x, f_X9_longestStander p1 σ = some x → zKv K = some (zI x) ∧ zKs K = σ := fun x h => by rw [hq] at h; cases h; exact ⟨hv, hs⟩
    have hn : f_X9_longestStander p1 σ ≠ none := fun z => by rw [hq] at z; cases z
    have hf := f_X9_longestStander.eq_1 p1 σ
    refine z_iconst (pc := 0) (v := -1) (zdg D_X9_longestStander 0 (0, .iconst (-1), 1) rfl) rfl ?_
    refine z_istore_n (pc := 1) (al' := [(2, zI (-1 : Int32)), (0, zR 5 0), (1, zI p1)]) (zdg D_X9_longestStander 1 (1, .istore_n 2, 1) rfl) rfl (by decide) rfl ?_
    refine z_iconst (pc := 2) (v := 0) (zdg D_X9_longestStander 2 (2, .iconst 0, 1) rfl) rfl ?_
    refine z_istore_n (pc := 3) (al' := [(3, zI (0 : Int32)), (2, zI (-1 : Int32)), (0, zR 5 0), (1, zI p1)]) (zdg D_X9_longestStander 3 (3, .istore_n 3, 1) rfl) rfl (by decide) rfl ?_
    refine z_iconst (pc := 4) (v := -1) (zdg D_X9_longestStander 4 (4, .iconst (-1), 1) rfl) rfl ?_
    refine z_istore (pc := 5) (al' := [(4, zI (-1 : Int32)), (3, zI (0 : Int32)), (2, zI (-1 : Int32)), (0, zR 5 0), (1, zI p1)]) (zdg D_X9_longestStander 5 (5, .istore 4, 2) rfl) (by decide) rfl ?_
    refine z_iconst (pc := 7) (v := 0) (zdg D_X9_longestStander 6 (7, .iconst 0, 1) rfl) rfl ?_
    refine z_istore (pc := 8) (al' := [(5, zI (0 : Int32)), (4, zI (-1 : Int32)), (3, zI (0 : Int32)), (2, zI (-1 : Int32)), (0, zR 5 0), (1, zI p1)]) (zdg D_X9_longestStander 7 (8, .istore 5, 2) rfl) (by decide) rfl ?_
    refine z_sub (al' := [(0, zR 5 0), (1, zI p1), (2, zI (-1 : Int32)), (3, zI (0 : Int32)), (4, zI (-1 : Int32)), (5, zI (0 : Int32))]) [4, 5, 3, 2, 1, 0] rfl ?_
    refine z_loop (f := (fun q : Int32 × Int32 × Int32 × Int32 => b_X9_longestStander_10 σ q.1 q.2.1 q.2.2.1 q.2.2.2)) (a := ((-1 : Int32), (0 : Int32), (-1 : Int32), (0 : Int32))) (fun q : Int32 × Int32 × Int32 × Int32 => zX zsyC m_X9_longestStander K 10 [(0, zR 5 0), (1, zI p1), (2, zI q.1), (3, zI q.2.1), (4, zI q.2.2.1), (5, zI q.2.2.2)] [] σ) (fun e19 : Int32 × Int32 × Int32 => zX zsyC m_X9_longestStander K 122 [(1, zI p1), (2, zI e19.1), (3, zI e19.2.1), (4, zI e19.2.2)] [] σ) hn hf ?_ ?_
    · intro e19 hf
      refine z_iload_n (pc := 122) 1 (zdg D_X9_longestStander 63 (122, .iload_n 2, 1) rfl) rfl rfl ?_
      refine z_iconst (pc := 123) (v := -1) (zdg D_X9_longestStander 64 (123, .iconst (-1), 1) rfl) rfl ?_
      refine z_icmp_ne (pc := 124) 131 (zdg D_X9_longestStander 65 (124, .if_icmp .ne 7, 3) rfl) rfl hf (fun hf => ?_) (fun hf => ?_)
      · refine z_iload_n (pc := 131) 0 (zdg D_X9_longestStander 68 (131, .iload_n 1, 1) rfl) rfl rfl ?_
        refine z_iload_n (pc := 132) 1 (zdg D_X9_longestStander 69 (132, .iload_n 2, 1) rfl) rfl rfl ?_
        refine z_iload_n (pc := 133) 2 (zdg D_X9_longestStander 70 (133, .iload_n 3, 1) rfl) rfl rfl ?_
        refine z_iload (pc := 134) 3 (zdg D_X9_longestStander 71 (134, .iload 4, 2) rfl) rfl ?_
        refine z_iconst (pc := 136) (v := -1) (zdg D_X9_longestStander 72 (136, .iconst (-1), 1) rfl) rfl ?_
        refine z_callSN (pc := 137) (rest := []) (st2 := [zI (f_X11_oneOf p1 e19.1 e19.2.1 e19.2.2 (-1 : Int32))]) (host := "NobodyThere") (fun l => c_X11_oneOf l p1 e19.1 e19.2.1 e19.2.2 (-1 : Int32) σ) zs_X11_oneOf (by decide +kernel) rfl rfl rfl (Nat.le_of_ble_eq_true rfl) ⟨Nat.le_of_ble_eq_true rfl, Nat.le_of_ble_eq_true rfl⟩ (zdg D_X9_longestStander 73 (137, .invokestatic 50, 3) rfl) ?_
        exact z_iret (pc := 140) rfl rfl (zdg D_X9_longestStander 74 (140, .ireturn, 1) rfl) (hP _ hf)
      · refine z_iconst (pc := 127) (v := -1) (zdg D_X9_longestStander 66 (127, .iconst (-1), 1) rfl) rfl ?_
        refine z_goto (pc := 128) 140 (zdg D_X9_longestStander 67 (128, .goto 12, 3) rfl) rfl ?_
        exact z_iret (pc := 140) rfl rfl (zdg D_X9_longestStander 74 (140, .ireturn, 1) rfl) (hP _ hf)
    · rintro ⟨v2_1, v3_2, v4_3, v5_4⟩ hn hi hx
      have hf := b_X9_longestStander_10.eq_1 σ v2_1 v3_2 v4_3 v5_4
      refine z_iload (pc := 10) 5 (zdg D_X9_longestStander 8 (10, .iload 5, 2) rfl) rfl ?_
      refine z_aload_n (pc := 12) 0 (zdg D_X9_longestStander 9 (12, .aload_n 0, 1) rfl) rfl rfl ?_
      refine z_getR (pc := 13) (g := 1) (j := 0) lf_X9_22 rfl rfl rfl (zdg D_X9_longestStander 10 (13, .getfield 22, 3) rfl) ?_
      refine z_getR (pc := 16) (g := 8) (j := 0) lf_X9_116 rfl rfl rfl (zdg D_X9_longestStander 11 (16, .getfield 116, 3) rfl) ?_
      refine z_getI (pc := 19) lf_X9_120 rfl rfl (zdg D_X9_longestStander 12 (19, .getfield 120, 3) rfl) ?_
      refine z_icmp_ge (pc := 22) 122 (zdg D_X9_longestStander 13 (22, .if_icmp .ge 100, 3) rfl) rfl hf (fun hf => ?_) (fun hf => ?_)
      · refine z_sub (al' := [(1, zI p1), (2, zI v2_1), (3, zI v3_2), (4, zI v4_3)]) [1, 2, 3, 4] rfl ?_
        exact hx (v2_1, v3_2, v4_3) hf
      · refine z_iconst (pc := 25) (v := 0) (zdg D_X9_longestStander 14 (25, .iconst 0, 1) rfl) rfl ?_
        refine z_istore (pc := 26) (al' := [(6, zI (0 : Int32)), (0, zR 5 0), (1, zI p1), (2, zI v2_1), (3, zI v3_2), (4, zI v4_3), (5, zI v5_4)]) (zdg D_X9_longestStander 15 (26, .istore 6, 2) rfl) (by decide) rfl ?_
        refine z_iconst (pc := 28) (v := -1) (zdg D_X9_longestStander 16 (28, .iconst (-1), 1) rfl) rfl ?_
        refine z_istore (pc := 29) (al' := [(7, zI (-1 : Int32)), (6, zI (0 : Int32)), (0, zR 5 0), (1, zI p1), (2, zI v2_1), (3, zI v3_2), (4, zI v4_3), (5, zI v5_4)]) (zdg D_X9_longestStander 17 (29, .istore 7, 2) rfl) (by decide) rfl ?_
        refine z_iconst (pc := 31) (v := 0) (zdg D_X9_longestStander 18 (31, .iconst 0, 1) rfl) rfl ?_
        refine z_istore (pc := 32) (al' := [(8, zI (0 : Int32)), (7, zI (-1 : Int32)), (6, zI (0 : Int32)), (0, zR 5 0), (1, zI p1), (2, zI v2_1), (3, zI v3_2), (4, zI v4_3), (5, zI v5_4)]) (zdg D_X9_longestStander 19 (32, .istore 8, 2) rfl) (by decide) rfl ?_
        refine z_sub (al' := [(0, zR 5 0), (1, zI p1), (2, zI v2_1), (3, zI v3_2), (4, zI v4_3), (5, zI v5_4), (6, zI (0 : Int32)), (7, zI (-1 : Int32)), (8, zI (0 : Int32))]) [3, 4, 5, 6, 7, 8, 2, 1, 0] rfl ?_
        refine z_loop (f := (fun q : Int32 × Int32 × Int32 × Int32 × Int32 × Int32 => b_X9_longestStander_34 v5_4 σ q.1 q.2.1 q.2.2.1 q.2.2.2.1 q.2.2.2.2.1 q.2.2.2.2.2)) (a := (v2_1, v3_2, v4_3, (0 : Int32), (-1 : Int32), (0 : Int32))) (fun q : Int32 × Int32 × Int32 × Int32 × Int32 × Int32 => zX zsyC m_X9_longestStander K 34 [(0, zR 5 0), (1, zI p1), (2, zI q.1), (3, zI q.2.1), (4, zI q.2.2.1), (5, zI v5_4), (6, zI q.2.2.2.1), (7, zI q.2.2.2.2.1), (8, zI q.2.2.2.2.2)] [] σ) (fun e18 : Int32 × Int32 × Int32 => zX zsyC m_X9_longestStander K 116 [(0, zR 5 0), (1, zI p1), (2, zI e18.1), (3, zI e18.2.1), (4, zI e18.2.2), (5, zI v5_4)] [] σ) hn hf ?_ ?_
        · intro e18 hf
          refine z_iinc (pc := 116) (v0 := (v5_4 + 1)) (al' := [(5, zI (v5_4 + 1)), (0, zR 5 0), (1, zI p1), (2, zI e18.1), (3, zI e18.2.1), (4, zI e18.2.2)]) 5 (zdg D_X9_longestStander 61 (116, .iinc 5 1, 3) rfl) rfl rfl (by decide) rfl ?_
          refine z_goto (pc := 119) 10 (zdg D_X9_longestStander 62 (119, .goto (-109), 3) rfl) rfl ?_
          refine z_sub (al' := [(0, zR 5 0), (1, zI p1), (2, zI e18.1), (3, zI e18.2.1), (4, zI e18.2.2), (5, zI (v5_4 + 1))]) [1, 2, 3, 4, 5, 0] rfl ?_
          exact hi (e18.1, e18.2.1, e18.2.2, (v5_4 + 1)) hf
        · rintro ⟨v2_5, v3_6, v4_7, v6_8, v7_9, v8_10⟩ hn hi hx
          have hf := b_X9_longestStander_34.eq_1 v5_4 σ v2_5 v3_6 v4_7 v6_8 v7_9 v8_10
          have t_83 : ∀ (w2_12 : Int32) (w3_13 : Int32) (w4_14 : Int32) (w8_15 : Int32) (w9_16 : Int32) (t17 : Int32), b_X9_longestStander_34 v5_4 σ v2_5 v3_6 v4_7 v6_8 v7_9 v8_10 = j_X9_longestStander_83_34 v5_4 w2_12 w3_13 w4_14 w8_15 w9_16 t17 → zX zsyC m_X9_longestStander K 83 [(0, zR 5 0), (1, zI p1), (2, zI w2_12), (3, zI w3_13), (4, zI w4_14), (5, zI v5_4), (8, zI w8_15), (9, zI w9_16)] [zI t17] σ := by
            intro w2_12 w3_13 w4_14 w8_15 w9_16 t17 hf
            replace hf := hf.trans (j_X9_longestStander_83_34.eq_1 v5_4 w2_12 w3_13 w4_14 w8_15 w9_16 t17)
            refine z_istore (pc := 83) (al' := [(6, zI t17), (0, zR 5 0), (1, zI p1), (2, zI w2_12), (3, zI w3_13), (4, zI w4_14), (5, zI v5_4), (8, zI w8_15), (9, zI w9_16)]) (zdg D_X9_longestStander 43 (83, .istore 6, 2) rfl) (by decide) rfl ?_
            refine z_iload (pc := 85) 8 (zdg D_X9_longestStander 44 (85, .iload 9, 2) rfl) rfl ?_
            refine z_istore (pc := 87) (al' := [(7, zI w9_16), (6, zI t17), (0, zR 5 0), (1, zI p1), (2, zI w2_12), (3, zI w3_13), (4, zI w4_14), (5, zI v5_4), (8, zI w8_15), (9, zI w9_16)]) (zdg D_X9_longestStander 45 (87, .istore 7, 2) rfl) (by decide) rfl ?_
            refine z_iload (pc := 89) 1 (zdg D_X9_longestStander 46 (89, .iload 6, 2) rfl) rfl ?_
            refine z_iload_n (pc := 91) 5 (zdg D_X9_longestStander 47 (91, .iload_n 3, 1) rfl) rfl rfl ?_
            refine z_icmp_le (pc := 92) 110 (zdg D_X9_longestStander 48 (92, .if_icmp .le 18, 3) rfl) rfl hf (fun hf => ?_) (fun hf => ?_)
            · refine z_iinc (pc := 110) (v0 := (w8_15 + 1)) (al' := [(8, zI (w8_15 + 1)), (7, zI w9_16), (6, zI t17), (0, zR 5 0), (1, zI p1), (2, zI w2_12), (3, zI w3_13), (4, zI w4_14), (5, zI v5_4), (9, zI w9_16)]) 8 (zdg D_X9_longestStander 59 (110, .iinc 8 1, 3) rfl) rfl rfl (by decide) rfl ?_
              refine z_goto (pc := 113) 34 (zdg D_X9_longestStander 60 (113, .goto (-79), 3) rfl) rfl ?_
              refine z_sub (al' := [(0, zR 5 0), (1, zI p1), (2, zI w2_12), (3, zI w3_13), (4, zI w4_14), (5, zI v5_4), (6, zI t17), (7, zI w9_16), (8, zI (w8_15 + 1))]) [3, 4, 5, 6, 7, 8, 2, 1, 0] rfl ?_
              exact hi (w2_12, w3_13, w4_14, t17, w9_16, (w8_15 + 1)) hf
            · refine z_iload (pc := 95) 1 (zdg D_X9_longestStander 49 (95, .iload 6, 2) rfl) rfl ?_
              refine z_istore_n (pc := 97) (al' := [(3, zI t17), (7, zI w9_16), (6, zI t17), (0, zR 5 0), (1, zI p1), (2, zI w2_12), (4, zI w4_14), (5, zI v5_4), (8, zI w8_15), (9, zI w9_16)]) (zdg D_X9_longestStander 50 (97, .istore_n 3, 1) rfl) rfl (by decide) rfl ?_
              refine z_iload (pc := 98) 7 (zdg D_X9_longestStander 51 (98, .iload 5, 2) rfl) rfl ?_
              refine z_istore_n (pc := 100) (al' := [(2, zI v5_4), (3, zI t17), (7, zI w9_16), (6, zI t17), (0, zR 5 0), (1, zI p1), (4, zI w4_14), (5, zI v5_4), (8, zI w8_15), (9, zI w9_16)]) (zdg D_X9_longestStander 52 (100, .istore_n 2, 1) rfl) rfl (by decide) rfl ?_
              refine z_iload (pc := 101) 8 (zdg D_X9_longestStander 53 (101, .iload 8, 2) rfl) rfl ?_
              refine z_iload (pc := 103) 3 (zdg D_X9_longestStander 54 (103, .iload 6, 2) rfl) rfl ?_
              refine z_isub (pc := 105) (zdg D_X9_longestStander 55 (105, .isub, 1) rfl) ?_
              refine z_iconst (pc := 106) (v := 1) (zdg D_X9_longestStander 56 (106, .iconst 1, 1) rfl) rfl ?_
              refine z_iadd (pc := 107) (zdg D_X9_longestStander 57 (107, .iadd, 1) rfl) ?_
              refine z_istore (pc := 108) (al' := [(4, zI ((w8_15 - t17) + (1 : Int32))), (2, zI v5_4), (3, zI t17), (7, zI w9_16), (6, zI t17), (0, zR 5 0), (1, zI p1), (5, zI v5_4), (8, zI w8_15), (9, zI w9_16)]) (zdg D_X9_longestStander 58 (108, .istore 4, 2) rfl) (by decide) rfl ?_
              refine z_iinc (pc := 110) (v0 := (w8_15 + 1)) (al' := [(8, zI (w8_15 + 1)), (4, zI ((w8_15 - t17) + (1 : Int32))), (2, zI v5_4), (3, zI t17), (7, zI w9_16), (6, zI t17), (0, zR 5 0), (1, zI p1), (5, zI v5_4), (9, zI w9_16)]) 8 (zdg D_X9_longestStander 59 (110, .iinc 8 1, 3) rfl) rfl rfl (by decide) rfl ?_
              refine z_goto (pc := 113) 34 (zdg D_X9_longestStander 60 (113, .goto (-79), 3) rfl) rfl ?_
              refine z_sub (al' := [(0, zR 5 0), (1, zI p1), (2, zI v5_4), (3, zI t17), (4, zI ((w8_15 - t17) + (1 : Int32))), (5, zI v5_4), (6, zI t17), (7, zI w9_16), (8, zI (w8_15 + 1))]) [6, 7, 2, 3, 1, 8, 5, 4, 0] rfl ?_
              exact hi (v5_4, t17, ((w8_15 - t17) + (1 : Int32)), t17, w9_16, (w8_15 + 1)) hf
          refine z_iload (pc := 34) 8 (zdg D_X9_longestStander 20 (34, .iload 8, 2) rfl) rfl ?_
          refine z_sipush (pc := 36) (v := 500) (zdg D_X9_longestStander 21 (36, .sipush 500, 3) rfl) rfl ?_
          refine z_icmp_gt (pc := 39) 116 (zdg D_X9_longestStander 22 (39, .if_icmp .gt 77, 3) rfl) rfl hf (fun hf => ?_) (fun hf => ?_)
          · refine z_sub (al' := [(0, zR 5 0), (1, zI p1), (2, zI v2_5), (3, zI v3_6), (4, zI v4_7), (5, zI v5_4)]) [0, 1, 2, 3, 4, 5] rfl ?_
            exact hx (v2_5, v3_6, v4_7) hf
          · refine z_aload_n (pc := 42) 0 (zdg D_X9_longestStander 23 (42, .aload_n 0, 1) rfl) rfl rfl ?_
            refine z_getR (pc := 43) (g := 1) (j := 0) lf_X9_22 rfl rfl rfl (zdg D_X9_longestStander 24 (43, .getfield 22, 3) rfl) ?_
            refine z_getR (pc := 46) (g := 9) (j := 0) lf_X9_125 rfl rfl rfl (zdg D_X9_longestStander 25 (46, .getfield 125, 3) rfl) ?_
            refine z_iload (pc := 49) 5 (zdg D_X9_longestStander 26 (49, .iload 5, 2) rfl) rfl ?_
            refine z_iload (pc := 51) 8 (zdg D_X9_longestStander 27 (51, .iload 8, 2) rfl) rfl ?_
            refine z_bind hn hf (fun q11 hq hf => ?_)
            refine z_callV (pc := 53) (rest := []) (st2 := [zI q11]) (fun l => c_X5_spotIn l 0 v5_4 v8_10 σ q11 hq) zv_X5_spotIn lm_X9_129 rfl rfl rfl rfl rfl rfl (Nat.le_of_ble_eq_true rfl) ⟨Nat.le_of_ble_eq_true rfl, Nat.le_of_ble_eq_true rfl⟩ (zdg D_X9_longestStander 28 (53, .invokevirtual 129, 3) rfl) ?_
            refine z_istore (pc := 56) (al' := [(9, zI q11), (0, zR 5 0), (1, zI p1), (2, zI v2_5), (3, zI v3_6), (4, zI v4_7), (5, zI v5_4), (6, zI v6_8), (7, zI v7_9), (8, zI v8_10)]) (zdg D_X9_longestStander 29 (56, .istore 9, 2) rfl) (by decide) rfl ?_
            refine z_iload (pc := 58) 0 (zdg D_X9_longestStander 30 (58, .iload 9, 2) rfl) rfl ?_
            refine z_iconst (pc := 60) (v := -1) (zdg D_X9_longestStander 31 (60, .iconst (-1), 1) rfl) rfl ?_
            refine z_icmp_ne (pc := 61) 68 (zdg D_X9_longestStander 32 (61, .if_icmp .ne 7, 3) rfl) rfl hf (fun hf => ?_) (fun hf => ?_)
            · refine z_iload (pc := 68) 0 (zdg D_X9_longestStander 35 (68, .iload 9, 2) rfl) rfl ?_
              refine z_iload (pc := 70) 8 (zdg D_X9_longestStander 36 (70, .iload 7, 2) rfl) rfl ?_
              refine z_icmp_ne (pc := 72) 82 (zdg D_X9_longestStander 37 (72, .if_icmp .ne 10, 3) rfl) rfl hf (fun hf => ?_) (fun hf => ?_)
              · refine z_iconst (pc := 82) (v := 1) (zdg D_X9_longestStander 42 (82, .iconst 1, 1) rfl) rfl ?_
                refine z_sub (al' := [(0, zR 5 0), (1, zI p1), (2, zI v2_5), (3, zI v3_6), (4, zI v4_7), (5, zI v5_4), (8, zI v8_10), (9, zI q11)]) [1, 2, 3, 4, 5, 6, 9, 0] rfl ?_
                exact t_83 v2_5 v3_6 v4_7 v8_10 q11 (1 : Int32) hf
              · refine z_iload (pc := 75) 7 (zdg D_X9_longestStander 38 (75, .iload 6, 2) rfl) rfl ?_
                refine z_iconst (pc := 77) (v := 1) (zdg D_X9_longestStander 39 (77, .iconst 1, 1) rfl) rfl ?_
                refine z_iadd (pc := 78) (zdg D_X9_longestStander 40 (78, .iadd, 1) rfl) ?_
                refine z_goto (pc := 79) 83 (zdg D_X9_longestStander 41 (79, .goto 4, 3) rfl) rfl ?_
                refine z_sub (al' := [(0, zR 5 0), (1, zI p1), (2, zI v2_5), (3, zI v3_6), (4, zI v4_7), (5, zI v5_4), (8, zI v8_10), (9, zI q11)]) [1, 2, 3, 4, 5, 6, 9, 0] rfl ?_
                exact t_83 v2_5 v3_6 v4_7 v8_10 q11 (v6_8 + (1 : Int32)) hf
            · refine z_iconst (pc := 64) (v := 0) (zdg D_X9_longestStander 33 (64, .iconst 0, 1) rfl) rfl ?_
              refine z_goto (pc := 65) 83 (zdg D_X9_longestStander 34 (65, .goto 18, 3) rfl) rfl ?_
              refine z_sub (al' := [(0, zR 5 0), (1, zI p1), (2, zI v2_5), (3, zI v3_6), (4, zI v4_7), (5, zI v5_4), (8, zI v8_10), (9, zI q11)]) [1, 2, 3, 4, 5, 6, 9, 0] rfl ?_
              exact t_83 v2_5 v3_6 v4_7 v8_10 q11 (0 : Int32) hf

def L_X9_alwaysInView : List (Nat × Instr × Nat) := [(0, .aload_n 0, 1), (1, .getfield 22, 3), (4, .invokevirtual 54, 3), (7, .lstore_n 3, 1), (8, .iconst 1, 1), (9, .aload_n 0, 1), (10, .getfield 22, 3), (13, .getfield 116, 3), (16, .getfield 120, 3), (19, .ishl, 1), (20, .iconst 1, 1), (21, .isub, 1), (22, .istore 5, 2), (24, .iconst 0, 1), (25, .istore 6, 2), (27, .iload 6, 2), (29, .aload_n 0, 1), (30, .getfield 22, 3), (33, .getfield 116, 3), (36, .getfield 120, 3), (39, .if_icmp .ge 50, 3), (42, .iload_n 1, 1), (43, .istore 7, 2), (45, .iload 7, 2), (47, .iload_n 2, 1), (48, .if_icmp .gt 35, 3), (51, .aload_n 0, 1), (52, .getfield 22, 3), (55, .lload_n 3, 1), (56, .iload 6, 2), (58, .iload 7, 2), (60, .invokevirtual 134, 3), (63, .ifCond .ne 14, 3), (66, .iload 5, 2), (68, .iconst 1, 1), (69, .iload 6, 2), (71, .ishl, 1), (72, .iconst (-1), 1), (73, .ixor, 1), (74, .iand, 1), (75, .istore 5, 2), (77, .iinc 7 1, 3), (80, .goto (-35), 3), (83, .iinc 6 1, 3), (86, .goto (-59), 3), (89, .iload 5, 2), (91, .ireturn, 1)]
set_option maxRecDepth 100000 in
theorem D_X9_alwaysInView : zdecs cX9_alwaysInView L_X9_alwaysInView = true := by decide +kernel
noncomputable def b_X9_alwaysInView_45 (p2 : Int32) (q1 : Int64) (v6_3 : Int32) (σ : zG) (v5_4 : Int32) (v7_5 : Int32) : Option ((Int32 × Int32) ⊕ (Int32)) :=
  if v7_5 ≤ p2 then (f_X1_walksOn 0 q1 v6_3 v7_5 σ).bind (fun q6 => if q6 = 0 then some (Sum.inl ((v5_4 &&& ((zshl (1 : Int32) v6_3) ^^^ (-1 : Int32))), (v7_5 + 1))) else some (Sum.inl (v5_4, (v7_5 + 1)))) else some (Sum.inr v5_4)
noncomputable def b_X9_alwaysInView_27 (σ : zG) (p2 : Int32) (q1 : Int64) (p1 : Int32) (v5_2 : Int32) (v6_3 : Int32) : Option ((Int32 × Int32) ⊕ (Int32)) :=
  if v6_3 < (σ.1 8 0 0) then (zlp (fun q : Int32 × Int32 => b_X9_alwaysInView_45 p2 q1 v6_3 σ q.1 q.2) (v5_2, p1)).bind (fun e7 : Int32 => some (Sum.inl (e7, (v6_3 + 1)))) else some (Sum.inr v5_2)
noncomputable def f_X9_alwaysInView (p1 : Int32) (p2 : Int32) (σ : zG) : Option (Int32) :=
  (f_X1_viewNow 0 σ).bind (fun q1 => (zlp (fun q : Int32 × Int32 => b_X9_alwaysInView_27 σ p2 q1 p1 q.1 q.2) (((zshl (1 : Int32) (σ.1 8 0 0)) - (1 : Int32)), (0 : Int32))).bind (fun e8 : Int32 => some e8))
set_option maxRecDepth 100000 in
set_option maxHeartbeats 4000000 in
theorem c_X9_alwaysInView (l : Launch) (p1 : Int32) (p2 : Int32) (σ : zG) (q : Int32) (hq : f_X9_alwaysInView p1 p2 σ = some q) : zMet l zsyC m_X9_alwaysInView yX9_alwaysInView [zR 5 0, zI p1, zI p2] σ (some (zI q)) σ := by
  refine zEnter [(0, zR 5 0), (1, zI p1), (2, zI p2)] (by decide) rfl (fun _ => Nat.le_of_ble_eq_true rfl) (fun _ => rfl) (fun w h => ?_) (fun K hv hs => ?_)
  · exact zokm rfl h
  · have hP : ∀ x, f_X9_alwaysInView p1 p2 σ = some x → zKv K = some (zI x) ∧ zKs K = σ := fun x h => by rw [hq] at h; cases h; exact ⟨hv, hs⟩
    have hn : f_X9_alwaysInView p1 p2 σ ≠ none := fun z => by rw [hq] at z; cases z
    have hf := f_X9_alwaysInView.eq_1 p1 p2 σ
    refine z_aload_n (pc := 0) 0 (zdg D_X9_alwaysInView 0 (0, .aload_n 0, 1) rfl) rfl rfl ?_
    refine z_getR (pc := 1) (g := 1) (j := 0) lf_X9_22 rfl rfl rfl (zdg D_X9_alwaysInView 1 (1, .getfield 22, 3) rfl) ?_
    refine z_bind hn hf (fun q1 hq hf => ?_)
    refine z_callV (pc := 4) (rest := []) (st2 := [zL q1]) (fun l => c_X1_viewNow l 0 σ q1 hq) zv_X1_viewNow lm_X9_54 rfl rfl rfl rfl rfl rfl (Nat.le_of_ble_eq_true rfl) ⟨Nat.le_of_ble_eq_true rfl, Nat.le_of_ble_eq_true rfl⟩ (zdg D_X9_alwaysInView 2 (4, .invokevirtual 54, 3) rfl) ?_
    refine z_lstore_n (pc := 7) (al' := [(3, zL q1), (0, zR 5 0), (1, zI p1), (2, zI p2)]) (zdg D_X9_alwaysInView 3 (7, .lstore_n 3, 1) rfl) rfl (by decide) rfl ?_
    refine z_iconst (pc := 8) (v := 1) (zdg D_X9_alwaysInView 4 (8, .iconst 1, 1) rfl) rfl ?_
    refine z_aload_n (pc := 9) 1 (zdg D_X9_alwaysInView 5 (9, .aload_n 0, 1) rfl) rfl rfl ?_
    refine z_getR (pc := 10) (g := 1) (j := 0) lf_X9_22 rfl rfl rfl (zdg D_X9_alwaysInView 6 (10, .getfield 22, 3) rfl) ?_
    refine z_getR (pc := 13) (g := 8) (j := 0) lf_X9_116 rfl rfl rfl (zdg D_X9_alwaysInView 7 (13, .getfield 116, 3) rfl) ?_
    refine z_getI (pc := 16) lf_X9_120 rfl rfl (zdg D_X9_alwaysInView 8 (16, .getfield 120, 3) rfl) ?_
    refine z_ishl (pc := 19) (zdg D_X9_alwaysInView 9 (19, .ishl, 1) rfl) ?_
    refine z_iconst (pc := 20) (v := 1) (zdg D_X9_alwaysInView 10 (20, .iconst 1, 1) rfl) rfl ?_
    refine z_isub (pc := 21) (zdg D_X9_alwaysInView 11 (21, .isub, 1) rfl) ?_
    refine z_istore (pc := 22) (al' := [(5, zI ((zshl (1 : Int32) (σ.1 8 0 0)) - (1 : Int32))), (3, zL q1), (0, zR 5 0), (1, zI p1), (2, zI p2)]) (zdg D_X9_alwaysInView 12 (22, .istore 5, 2) rfl) (by decide) rfl ?_
    refine z_iconst (pc := 24) (v := 0) (zdg D_X9_alwaysInView 13 (24, .iconst 0, 1) rfl) rfl ?_
    refine z_istore (pc := 25) (al' := [(6, zI (0 : Int32)), (5, zI ((zshl (1 : Int32) (σ.1 8 0 0)) - (1 : Int32))), (3, zL q1), (0, zR 5 0), (1, zI p1), (2, zI p2)]) (zdg D_X9_alwaysInView 14 (25, .istore 6, 2) rfl) (by decide) rfl ?_
    refine z_sub (al' := [(0, zR 5 0), (1, zI p1), (2, zI p2), (3, zL q1), (5, zI ((zshl (1 : Int32) (σ.1 8 0 0)) - (1 : Int32))), (6, zI (0 : Int32))]) [3, 4, 5, 2, 1, 0] rfl ?_
    refine z_loop (f := (fun q : Int32 × Int32 => b_X9_alwaysInView_27 σ p2 q1 p1 q.1 q.2)) (a := (((zshl (1 : Int32) (σ.1 8 0 0)) - (1 : Int32)), (0 : Int32))) (fun q : Int32 × Int32 => zX zsyC m_X9_alwaysInView K 27 [(0, zR 5 0), (1, zI p1), (2, zI p2), (3, zL q1), (5, zI q.1), (6, zI q.2)] [] σ) (fun e8 : Int32 => zX zsyC m_X9_alwaysInView K 89 [(5, zI e8)] [] σ) hn hf ?_ ?_
    · intro e8 hf
      refine z_iload (pc := 89) 0 (zdg D_X9_alwaysInView 45 (89, .iload 5, 2) rfl) rfl ?_
      exact z_iret (pc := 91) rfl rfl (zdg D_X9_alwaysInView 46 (91, .ireturn, 1) rfl) (hP _ hf)
    · rintro ⟨v5_2, v6_3⟩ hn hi hx
      have hf := b_X9_alwaysInView_27.eq_1 σ p2 q1 p1 v5_2 v6_3
      refine z_iload (pc := 27) 5 (zdg D_X9_alwaysInView 15 (27, .iload 6, 2) rfl) rfl ?_
      refine z_aload_n (pc := 29) 0 (zdg D_X9_alwaysInView 16 (29, .aload_n 0, 1) rfl) rfl rfl ?_
      refine z_getR (pc := 30) (g := 1) (j := 0) lf_X9_22 rfl rfl rfl (zdg D_X9_alwaysInView 17 (30, .getfield 22, 3) rfl) ?_
      refine z_getR (pc := 33) (g := 8) (j := 0) lf_X9_116 rfl rfl rfl (zdg D_X9_alwaysInView 18 (33, .getfield 116, 3) rfl) ?_
      refine z_getI (pc := 36) lf_X9_120 rfl rfl (zdg D_X9_alwaysInView 19 (36, .getfield 120, 3) rfl) ?_
      refine z_icmp_ge (pc := 39) 89 (zdg D_X9_alwaysInView 20 (39, .if_icmp .ge 50, 3) rfl) rfl hf (fun hf => ?_) (fun hf => ?_)
      · refine z_sub (al' := [(5, zI v5_2)]) [4] rfl ?_
        exact hx v5_2 hf
      · refine z_iload_n (pc := 42) 1 (zdg D_X9_alwaysInView 21 (42, .iload_n 1, 1) rfl) rfl rfl ?_
        refine z_istore (pc := 43) (al' := [(7, zI p1), (0, zR 5 0), (1, zI p1), (2, zI p2), (3, zL q1), (5, zI v5_2), (6, zI v6_3)]) (zdg D_X9_alwaysInView 22 (43, .istore 7, 2) rfl) (by decide) rfl ?_
        refine z_sub (al' := [(0, zR 5 0), (1, zI p1), (2, zI p2), (3, zL q1), (5, zI v5_2), (6, zI v6_3), (7, zI p1)]) [1, 2, 3, 4, 5, 6, 0] rfl ?_
        refine z_loop (f := (fun q : Int32 × Int32 => b_X9_alwaysInView_45 p2 q1 v6_3 σ q.1 q.2)) (a := (v5_2, p1)) (fun q : Int32 × Int32 => zX zsyC m_X9_alwaysInView K 45 [(0, zR 5 0), (1, zI p1), (2, zI p2), (3, zL q1), (5, zI q.1), (6, zI v6_3), (7, zI q.2)] [] σ) (fun e7 : Int32 => zX zsyC m_X9_alwaysInView K 83 [(0, zR 5 0), (1, zI p1), (2, zI p2), (3, zL q1), (5, zI e7), (6, zI v6_3)] [] σ) hn hf ?_ ?_
        · intro e7 hf
          refine z_iinc (pc := 83) (v0 := (v6_3 + 1)) (al' := [(6, zI (v6_3 + 1)), (0, zR 5 0), (1, zI p1), (2, zI p2), (3, zL q1), (5, zI e7)]) 5 (zdg D_X9_alwaysInView 43 (83, .iinc 6 1, 3) rfl) rfl rfl (by decide) rfl ?_
          refine z_goto (pc := 86) 27 (zdg D_X9_alwaysInView 44 (86, .goto (-59), 3) rfl) rfl ?_
          refine z_sub (al' := [(0, zR 5 0), (1, zI p1), (2, zI p2), (3, zL q1), (5, zI e7), (6, zI (v6_3 + 1))]) [1, 2, 3, 4, 5, 0] rfl ?_
          exact hi (e7, (v6_3 + 1)) hf
        · rintro ⟨v5_4, v7_5⟩ hn hi hx
          have hf := b_X9_alwaysInView_45.eq_1 p2 q1 v6_3 σ v5_4 v7_5
          refine z_iload (pc := 45) 6 (zdg D_X9_alwaysInView 23 (45, .iload 7, 2) rfl) rfl ?_
          refine z_iload_n (pc := 47) 2 (zdg D_X9_alwaysInView 24 (47, .iload_n 2, 1) rfl) rfl rfl ?_
          refine z_icmp_gt (pc := 48) 83 (zdg D_X9_alwaysInView 25 (48, .if_icmp .gt 35, 3) rfl) rfl hf (fun hf => ?_) (fun hf => ?_)
          · refine z_sub (al' := [(0, zR 5 0), (1, zI p1), (2, zI p2), (3, zL q1), (5, zI v5_4), (6, zI v6_3)]) [0, 1, 2, 3, 4, 5] rfl ?_
            exact hx v5_4 hf
          · refine z_aload_n (pc := 51) 0 (zdg D_X9_alwaysInView 26 (51, .aload_n 0, 1) rfl) rfl rfl ?_
            refine z_getR (pc := 52) (g := 1) (j := 0) lf_X9_22 rfl rfl rfl (zdg D_X9_alwaysInView 27 (52, .getfield 22, 3) rfl) ?_
            refine z_lload_n (pc := 55) 3 (zdg D_X9_alwaysInView 28 (55, .lload_n 3, 1) rfl) rfl rfl ?_
            refine z_iload (pc := 56) 5 (zdg D_X9_alwaysInView 29 (56, .iload 6, 2) rfl) rfl ?_
            refine z_iload (pc := 58) 6 (zdg D_X9_alwaysInView 30 (58, .iload 7, 2) rfl) rfl ?_
            refine z_bind hn hf (fun q6 hq hf => ?_)
            refine z_callV (pc := 60) (rest := []) (st2 := [zI q6]) (fun l => c_X1_walksOn l 0 q1 v6_3 v7_5 σ q6 hq) zv_X1_walksOn lm_X9_134 rfl rfl rfl rfl rfl rfl (Nat.le_of_ble_eq_true rfl) ⟨Nat.le_of_ble_eq_true rfl, Nat.le_of_ble_eq_true rfl⟩ (zdg D_X9_alwaysInView 31 (60, .invokevirtual 134, 3) rfl) ?_
            refine z_if_ne (pc := 63) 77 (zdg D_X9_alwaysInView 32 (63, .ifCond .ne 14, 3) rfl) rfl hf (fun hf => ?_) (fun hf => ?_)
            · refine z_iinc (pc := 77) (v0 := (v7_5 + 1)) (al' := [(7, zI (v7_5 + 1)), (0, zR 5 0), (1, zI p1), (2, zI p2), (3, zL q1), (5, zI v5_4), (6, zI v6_3)]) 6 (zdg D_X9_alwaysInView 41 (77, .iinc 7 1, 3) rfl) rfl rfl (by decide) rfl ?_
              refine z_goto (pc := 80) 45 (zdg D_X9_alwaysInView 42 (80, .goto (-35), 3) rfl) rfl ?_
              refine z_sub (al' := [(0, zR 5 0), (1, zI p1), (2, zI p2), (3, zL q1), (5, zI v5_4), (6, zI v6_3), (7, zI (v7_5 + 1))]) [1, 2, 3, 4, 5, 6, 0] rfl ?_
              exact hi (v5_4, (v7_5 + 1)) hf
            · refine z_iload (pc := 66) 4 (zdg D_X9_alwaysInView 33 (66, .iload 5, 2) rfl) rfl ?_
              refine z_iconst (pc := 68) (v := 1) (zdg D_X9_alwaysInView 34 (68, .iconst 1, 1) rfl) rfl ?_
              refine z_iload (pc := 69) 5 (zdg D_X9_alwaysInView 35 (69, .iload 6, 2) rfl) rfl ?_
              refine z_ishl (pc := 71) (zdg D_X9_alwaysInView 36 (71, .ishl, 1) rfl) ?_
              refine z_iconst (pc := 72) (v := -1) (zdg D_X9_alwaysInView 37 (72, .iconst (-1), 1) rfl) rfl ?_
              refine z_ixor (pc := 73) (zdg D_X9_alwaysInView 38 (73, .ixor, 1) rfl) ?_
              refine z_iand (pc := 74) (zdg D_X9_alwaysInView 39 (74, .iand, 1) rfl) ?_
              refine z_istore (pc := 75) (al' := [(5, zI (v5_4 &&& ((zshl (1 : Int32) v6_3) ^^^ (-1 : Int32)))), (0, zR 5 0), (1, zI p1), (2, zI p2), (3, zL q1), (6, zI v6_3), (7, zI v7_5)]) (zdg D_X9_alwaysInView 40 (75, .istore 5, 2) rfl) (by decide) rfl ?_
              refine z_iinc (pc := 77) (v0 := (v7_5 + 1)) (al' := [(7, zI (v7_5 + 1)), (5, zI (v5_4 &&& ((zshl (1 : Int32) v6_3) ^^^ (-1 : Int32)))), (0, zR 5 0), (1, zI p1), (2, zI p2), (3, zL q1), (6, zI v6_3)]) 6 (zdg D_X9_alwaysInView 41 (77, .iinc 7 1, 3) rfl) rfl rfl (by decide) rfl ?_
              refine z_goto (pc := 80) 45 (zdg D_X9_alwaysInView 42 (80, .goto (-35), 3) rfl) rfl ?_
              refine z_sub (al' := [(0, zR 5 0), (1, zI p1), (2, zI p2), (3, zL q1), (5, zI (v5_4 &&& ((zshl (1 : Int32) v6_3) ^^^ (-1 : Int32)))), (6, zI v6_3), (7, zI (v7_5 + 1))]) [2, 3, 4, 5, 1, 6, 0] rfl ?_
              exact hi ((v5_4 &&& ((zshl (1 : Int32) v6_3) ^^^ (-1 : Int32))), (v7_5 + 1)) hf

def L_X9_areNear : List (Nat × Instr × Nat) := [(0, .iload_n 0, 1), (1, .iconst (-1), 1), (2, .if_icmp .eq 8, 3), (5, .iload_n 1, 1), (6, .iconst (-1), 1), (7, .if_icmp .ne 5, 3), (10, .iconst 0, 1), (11, .ireturn, 1), (12, .iload_n 0, 1), (13, .bipush 8, 2), (15, .irem, 1), (16, .iload_n 1, 1), (17, .bipush 8, 2), (19, .irem, 1), (20, .isub, 1), (21, .invokestatic 142, 3), (24, .istore_n 2, 1), (25, .iload_n 0, 1), (26, .bipush 8, 2), (28, .idiv, 1), (29, .iload_n 1, 1), (30, .bipush 8, 2), (32, .idiv, 1), (33, .isub, 1), (34, .invokestatic 142, 3), (37, .istore_n 3, 1), (38, .iload_n 2, 1), (39, .iload_n 3, 1), (40, .iadd, 1), (41, .iconst 1, 1), (42, .if_icmp .gt 7, 3), (45, .iconst 1, 1), (46, .goto 4, 3), (49, .iconst 0, 1), (50, .ireturn, 1)]
set_option maxRecDepth 100000 in
theorem D_X9_areNear : zdecs cX9_areNear L_X9_areNear = true := by decide +kernel
noncomputable def f_X9_areNear (p1 : Int32) (p2 : Int32) : Int32 :=
  if p1 = (-1 : Int32) then (0 : Int32) else if p2 = (-1 : Int32) then (0 : Int32) else if ((zabs ((zrem p1 (8 : Int32)) - (zrem p2 (8 : Int32)))) + (zabs ((p1 / (8 : Int32)) - (p2 / (8 : Int32))))) ≤ (1 : Int32) then (1 : Int32) else (0 : Int32)
set_option maxRecDepth 100000 in
set_option maxHeartbeats 4000000 in
theorem c_X9_areNear (l : Launch) (p1 : Int32) (p2 : Int32) (σ : zG) : zMet l zsyC m_X9_areNear yX9_areNear [zI p1, zI p2] σ (some (zI (f_X9_areNear p1 p2))) σ := by
  refine zEnter [(0, zI p1), (1, zI p2)] (by decide) rfl (fun _ => Nat.le_of_ble_eq_true rfl) (fun _ => rfl) (fun w h => ?_) (fun K hv hs => ?_)
  · exact zokm rfl h
  · have hP : ∀ x, f_X9_areNear p1 p2 = x → zKv K = some (zI x) ∧ zKs K = σ := fun x h => by rw [h] at hv; exact ⟨hv, hs⟩
    have hf := f_X9_areNear.eq_1 p1 p2
    refine z_iload_n (pc := 0) 0 (zdg D_X9_areNear 0 (0, .iload_n 0, 1) rfl) rfl rfl ?_
    refine z_iconst (pc := 1) (v := -1) (zdg D_X9_areNear 1 (1, .iconst (-1), 1) rfl) rfl ?_
    refine z_icmp_eq (pc := 2) 10 (zdg D_X9_areNear 2 (2, .if_icmp .eq 8, 3) rfl) rfl hf (fun hf => ?_) (fun hf => ?_)
    · refine z_iconst (pc := 10) (v := 0) (zdg D_X9_areNear 6 (10, .iconst 0, 1) rfl) rfl ?_
      exact z_iret (pc := 11) rfl rfl (zdg D_X9_areNear 7 (11, .ireturn, 1) rfl) (hP _ hf)
    · refine z_iload_n (pc := 5) 1 (zdg D_X9_areNear 3 (5, .iload_n 1, 1) rfl) rfl rfl ?_
      refine z_iconst (pc := 6) (v := -1) (zdg D_X9_areNear 4 (6, .iconst (-1), 1) rfl) rfl ?_
      refine z_icmp_ne (pc := 7) 12 (zdg D_X9_areNear 5 (7, .if_icmp .ne 5, 3) rfl) rfl hf (fun hf => ?_) (fun hf => ?_)
      · refine z_iload_n (pc := 12) 0 (zdg D_X9_areNear 8 (12, .iload_n 0, 1) rfl) rfl rfl ?_
        refine z_bipush (pc := 13) (v := 8) (zdg D_X9_areNear 9 (13, .bipush 8, 2) rfl) rfl ?_
        refine z_iremK (pc := 15) (zdg D_X9_areNear 10 (15, .irem, 1) rfl) rfl ?_
        refine z_iload_n (pc := 16) 1 (zdg D_X9_areNear 11 (16, .iload_n 1, 1) rfl) rfl rfl ?_
        refine z_bipush (pc := 17) (v := 8) (zdg D_X9_areNear 12 (17, .bipush 8, 2) rfl) rfl ?_
        refine z_iremK (pc := 19) (zdg D_X9_areNear 13 (19, .irem, 1) rfl) rfl ?_
        refine z_isub (pc := 20) (zdg D_X9_areNear 14 (20, .isub, 1) rfl) ?_
        refine z_mabs (pc := 21) lm_X9_142 (Nat.le_of_ble_eq_true rfl) (Nat.le_of_ble_eq_true rfl) (zdg D_X9_areNear 15 (21, .invokestatic 142, 3) rfl) ?_
        refine z_istore_n (pc := 24) (al' := [(2, zI (zabs ((zrem p1 (8 : Int32)) - (zrem p2 (8 : Int32))))), (0, zI p1), (1, zI p2)]) (zdg D_X9_areNear 16 (24, .istore_n 2, 1) rfl) rfl (by decide) rfl ?_
        refine z_iload_n (pc := 25) 1 (zdg D_X9_areNear 17 (25, .iload_n 0, 1) rfl) rfl rfl ?_
        refine z_bipush (pc := 26) (v := 8) (zdg D_X9_areNear 18 (26, .bipush 8, 2) rfl) rfl ?_
        refine z_idivK (pc := 28) (zdg D_X9_areNear 19 (28, .idiv, 1) rfl) rfl ?_
        refine z_iload_n (pc := 29) 2 (zdg D_X9_areNear 20 (29, .iload_n 1, 1) rfl) rfl rfl ?_
        refine z_bipush (pc := 30) (v := 8) (zdg D_X9_areNear 21 (30, .bipush 8, 2) rfl) rfl ?_
        refine z_idivK (pc := 32) (zdg D_X9_areNear 22 (32, .idiv, 1) rfl) rfl ?_
        refine z_isub (pc := 33) (zdg D_X9_areNear 23 (33, .isub, 1) rfl) ?_
        refine z_mabs (pc := 34) lm_X9_142 (Nat.le_of_ble_eq_true rfl) (Nat.le_of_ble_eq_true rfl) (zdg D_X9_areNear 24 (34, .invokestatic 142, 3) rfl) ?_
        refine z_istore_n (pc := 37) (al' := [(3, zI (zabs ((p1 / (8 : Int32)) - (p2 / (8 : Int32))))), (2, zI (zabs ((zrem p1 (8 : Int32)) - (zrem p2 (8 : Int32))))), (0, zI p1), (1, zI p2)]) (zdg D_X9_areNear 25 (37, .istore_n 3, 1) rfl) rfl (by decide) rfl ?_
        refine z_iload_n (pc := 38) 1 (zdg D_X9_areNear 26 (38, .iload_n 2, 1) rfl) rfl rfl ?_
        refine z_iload_n (pc := 39) 0 (zdg D_X9_areNear 27 (39, .iload_n 3, 1) rfl) rfl rfl ?_
        refine z_iadd (pc := 40) (zdg D_X9_areNear 28 (40, .iadd, 1) rfl) ?_
        refine z_iconst (pc := 41) (v := 1) (zdg D_X9_areNear 29 (41, .iconst 1, 1) rfl) rfl ?_
        refine z_icmp_gt (pc := 42) 49 (zdg D_X9_areNear 30 (42, .if_icmp .gt 7, 3) rfl) rfl hf (fun hf => ?_) (fun hf => ?_)
        · refine z_iconst (pc := 49) (v := 0) (zdg D_X9_areNear 33 (49, .iconst 0, 1) rfl) rfl ?_
          exact z_iret (pc := 50) rfl rfl (zdg D_X9_areNear 34 (50, .ireturn, 1) rfl) (hP _ hf)
        · refine z_iconst (pc := 45) (v := 1) (zdg D_X9_areNear 31 (45, .iconst 1, 1) rfl) rfl ?_
          refine z_goto (pc := 46) 50 (zdg D_X9_areNear 32 (46, .goto 4, 3) rfl) rfl ?_
          exact z_iret (pc := 50) rfl rfl (zdg D_X9_areNear 34 (50, .ireturn, 1) rfl) (hP _ hf)
      · refine z_iconst (pc := 10) (v := 0) (zdg D_X9_areNear 6 (10, .iconst 0, 1) rfl) rfl ?_
        exact z_iret (pc := 11) rfl rfl (zdg D_X9_areNear 7 (11, .ireturn, 1) rfl) (hP _ hf)

def L_X9_pairsIn : List (Nat × Instr × Nat) := [(0, .iconst 0, 1), (1, .istore_n 2, 1), (2, .iconst 0, 1), (3, .istore_n 3, 1), (4, .iload_n 3, 1), (5, .aload_n 0, 1), (6, .getfield 22, 3), (9, .getfield 116, 3), (12, .getfield 120, 3), (15, .if_icmp .ge 58, 3), (18, .iconst 0, 1), (19, .istore 4, 2), (21, .iload 4, 2), (23, .iload_n 3, 1), (24, .if_icmp .ge 43, 3), (27, .aload_n 0, 1), (28, .getfield 22, 3), (31, .getfield 125, 3), (34, .iload_n 3, 1), (35, .iload_n 1, 1), (36, .invokevirtual 129, 3), (39, .aload_n 0, 1), (40, .getfield 22, 3), (43, .getfield 125, 3), (46, .iload 4, 2), (48, .iload_n 1, 1), (49, .invokevirtual 129, 3), (52, .invokestatic 138, 3), (55, .ifCond .eq 6, 3), (58, .iinc 2 1, 3), (61, .iinc 4 1, 3), (64, .goto (-43), 3), (67, .iinc 3 1, 3), (70, .goto (-66), 3), (73, .iload_n 2, 1), (74, .ireturn, 1)]
set_option maxRecDepth 100000 in
theorem D_X9_pairsIn : zdecs cX9_pairsIn L_X9_pairsIn = true := by decide +kernel
noncomputable def b_X9_pairsIn_21 (v3_2 : Int32) (p1 : Int32) (σ : zG) (v2_3 : Int32) (v4_4 : Int32) : Option ((Int32 × Int32) ⊕ (Int32)) :=
  if v4_4 < v3_2 then (f_X5_spotIn 0 v3_2 p1 σ).bind (fun q5 => (f_X5_spotIn 0 v4_4 p1 σ).bind (fun q6 => if (f_X9_areNear q5 q6) = 0 then some (Sum.inl (v2_3, (v4_4 + 1))) else some (Sum.inl ((v2_3 + 1), (v4_4 + 1))))) else some (Sum.inr v2_3)
noncomputable def b_X9_pairsIn_4 (σ : zG) (p1 : Int32) (v2_1 : Int32) (v3_2 : Int32) : Option ((Int32 × Int32) ⊕ (Int32)) :=
  if v3_2 < (σ.1 8 0 0) then (zlp (fun q : Int32 × Int32 => b_X9_pairsIn_21 v3_2 p1 σ q.1 q.2) (v2_1, (0 : Int32))).bind (fun e7 : Int32 => some (Sum.inl (e7, (v3_2 + 1)))) else some (Sum.inr v2_1)
noncomputable def f_X9_pairsIn (p1 : Int32) (σ : zG) : Option (Int32) :=
  (zlp (fun q : Int32 × Int32 => b_X9_pairsIn_4 σ p1 q.1 q.2) ((0 : Int32), (0 : Int32))).bind (fun e8 : Int32 => some e8)
set_option maxRecDepth 100000 in
set_option maxHeartbeats 4000000 in
theorem c_X9_pairsIn (l : Launch) (p1 : Int32) (σ : zG) (q : Int32) (hq : f_X9_pairsIn p1 σ = some q) : zMet l zsyC m_X9_pairsIn yX9_pairsIn [zR 5 0, zI p1] σ (some (zI q)) σ := by
  refine zEnter [(0, zR 5 0), (1, zI p1)] (by decide) rfl (fun _ => Nat.le_of_ble_eq_true rfl) (fun _ => rfl) (fun w h => ?_) (fun K hv hs => ?_)
  · exact zokm rfl h
  · have hP : ∀ x, f_X9_pairsIn p1 σ = some x → zKv K = some (zI x) ∧ zKs K = σ := fun x h => by rw [hq] at h; cases h; exact ⟨hv, hs⟩
    have hn : f_X9_pairsIn p1 σ ≠ none := fun z => by rw [hq] at z; cases z
    have hf := f_X9_pairsIn.eq_1 p1 σ
    refine z_iconst (pc := 0) (v := 0) (zdg D_X9_pairsIn 0 (0, .iconst 0, 1) rfl) rfl ?_
    refine z_istore_n (pc := 1) (al' := [(2, zI (0 : Int32)), (0, zR 5 0), (1, zI p1)]) (zdg D_X9_pairsIn 1 (1, .istore_n 2, 1) rfl) rfl (by decide) rfl ?_
    refine z_iconst (pc := 2) (v := 0) (zdg D_X9_pairsIn 2 (2, .iconst 0, 1) rfl) rfl ?_
    refine z_istore_n (pc := 3) (al' := [(3, zI (0 : Int32)), (2, zI (0 : Int32)), (0, zR 5 0), (1, zI p1)]) (zdg D_X9_pairsIn 3 (3, .istore_n 3, 1) rfl) rfl (by decide) rfl ?_
    refine z_sub (al' := [(0, zR 5 0), (1, zI p1), (2, zI (0 : Int32)), (3, zI (0 : Int32))]) [2, 3, 1, 0] rfl ?_
    refine z_loop (f := (fun q : Int32 × Int32 => b_X9_pairsIn_4 σ p1 q.1 q.2)) (a := ((0 : Int32), (0 : Int32))) (fun q : Int32 × Int32 => zX zsyC m_X9_pairsIn K 4 [(0, zR 5 0), (1, zI p1), (2, zI q.1), (3, zI q.2)] [] σ) (fun e8 : Int32 => zX zsyC m_X9_pairsIn K 73 [(2, zI e8)] [] σ) hn hf ?_ ?_
    · intro e8 hf
      refine z_iload_n (pc := 73) 0 (zdg D_X9_pairsIn 34 (73, .iload_n 2, 1) rfl) rfl rfl ?_
      exact z_iret (pc := 74) rfl rfl (zdg D_X9_pairsIn 35 (74, .ireturn, 1) rfl) (hP _ hf)
    · rintro ⟨v2_1, v3_2⟩ hn hi hx
      have hf := b_X9_pairsIn_4.eq_1 σ p1 v2_1 v3_2
      refine z_iload_n (pc := 4) 3 (zdg D_X9_pairsIn 4 (4, .iload_n 3, 1) rfl) rfl rfl ?_
      refine z_aload_n (pc := 5) 0 (zdg D_X9_pairsIn 5 (5, .aload_n 0, 1) rfl) rfl rfl ?_
      refine z_getR (pc := 6) (g := 1) (j := 0) lf_X9_22 rfl rfl rfl (zdg D_X9_pairsIn 6 (6, .getfield 22, 3) rfl) ?_
      refine z_getR (pc := 9) (g := 8) (j := 0) lf_X9_116 rfl rfl rfl (zdg D_X9_pairsIn 7 (9, .getfield 116, 3) rfl) ?_
      refine z_getI (pc := 12) lf_X9_120 rfl rfl (zdg D_X9_pairsIn 8 (12, .getfield 120, 3) rfl) ?_
      refine z_icmp_ge (pc := 15) 73 (zdg D_X9_pairsIn 9 (15, .if_icmp .ge 58, 3) rfl) rfl hf (fun hf => ?_) (fun hf => ?_)
      · refine z_sub (al' := [(2, zI v2_1)]) [2] rfl ?_
        exact hx v2_1 hf
      · refine z_iconst (pc := 18) (v := 0) (zdg D_X9_pairsIn 10 (18, .iconst 0, 1) rfl) rfl ?_
        refine z_istore (pc := 19) (al' := [(4, zI (0 : Int32)), (0, zR 5 0), (1, zI p1), (2, zI v2_1), (3, zI v3_2)]) (zdg D_X9_pairsIn 11 (19, .istore 4, 2) rfl) (by decide) rfl ?_
        refine z_sub (al' := [(0, zR 5 0), (1, zI p1), (2, zI v2_1), (3, zI v3_2), (4, zI (0 : Int32))]) [1, 2, 3, 4, 0] rfl ?_
        refine z_loop (f := (fun q : Int32 × Int32 => b_X9_pairsIn_21 v3_2 p1 σ q.1 q.2)) (a := (v2_1, (0 : Int32))) (fun q : Int32 × Int32 => zX zsyC m_X9_pairsIn K 21 [(0, zR 5 0), (1, zI p1), (2, zI q.1), (3, zI v3_2), (4, zI q.2)] [] σ) (fun e7 : Int32 => zX zsyC m_X9_pairsIn K 67 [(0, zR 5 0), (1, zI p1), (2, zI e7), (3, zI v3_2)] [] σ) hn hf ?_ ?_
        · intro e7 hf
          refine z_iinc (pc := 67) (v0 := (v3_2 + 1)) (al' := [(3, zI (v3_2 + 1)), (0, zR 5 0), (1, zI p1), (2, zI e7)]) 3 (zdg D_X9_pairsIn 32 (67, .iinc 3 1, 3) rfl) rfl rfl (by decide) rfl ?_
          refine z_goto (pc := 70) 4 (zdg D_X9_pairsIn 33 (70, .goto (-66), 3) rfl) rfl ?_
          refine z_sub (al' := [(0, zR 5 0), (1, zI p1), (2, zI e7), (3, zI (v3_2 + 1))]) [1, 2, 3, 0] rfl ?_
          exact hi (e7, (v3_2 + 1)) hf
        · rintro ⟨v2_3, v4_4⟩ hn hi hx
          have hf := b_X9_pairsIn_21.eq_1 v3_2 p1 σ v2_3 v4_4
          refine z_iload (pc := 21) 4 (zdg D_X9_pairsIn 12 (21, .iload 4, 2) rfl) rfl ?_
          refine z_iload_n (pc := 23) 3 (zdg D_X9_pairsIn 13 (23, .iload_n 3, 1) rfl) rfl rfl ?_
          refine z_icmp_ge (pc := 24) 67 (zdg D_X9_pairsIn 14 (24, .if_icmp .ge 43, 3) rfl) rfl hf (fun hf => ?_) (fun hf => ?_)
          · refine z_sub (al' := [(0, zR 5 0), (1, zI p1), (2, zI v2_3), (3, zI v3_2)]) [0, 1, 2, 3] rfl ?_
            exact hx v2_3 hf
          · refine z_aload_n (pc := 27) 0 (zdg D_X9_pairsIn 15 (27, .aload_n 0, 1) rfl) rfl rfl ?_
            refine z_getR (pc := 28) (g := 1) (j := 0) lf_X9_22 rfl rfl rfl (zdg D_X9_pairsIn 16 (28, .getfield 22, 3) rfl) ?_
            refine z_getR (pc := 31) (g := 9) (j := 0) lf_X9_125 rfl rfl rfl (zdg D_X9_pairsIn 17 (31, .getfield 125, 3) rfl) ?_
            refine z_iload_n (pc := 34) 3 (zdg D_X9_pairsIn 18 (34, .iload_n 3, 1) rfl) rfl rfl ?_
            refine z_iload_n (pc := 35) 1 (zdg D_X9_pairsIn 19 (35, .iload_n 1, 1) rfl) rfl rfl ?_
            refine z_bind hn hf (fun q5 hq hf => ?_)
            refine z_callV (pc := 36) (rest := []) (st2 := [zI q5]) (fun l => c_X5_spotIn l 0 v3_2 p1 σ q5 hq) zv_X5_spotIn lm_X9_129 rfl rfl rfl rfl rfl rfl (Nat.le_of_ble_eq_true rfl) ⟨Nat.le_of_ble_eq_true rfl, Nat.le_of_ble_eq_true rfl⟩ (zdg D_X9_pairsIn 20 (36, .invokevirtual 129, 3) rfl) ?_
            refine z_aload_n (pc := 39) 0 (zdg D_X9_pairsIn 21 (39, .aload_n 0, 1) rfl) rfl rfl ?_
            refine z_getR (pc := 40) (g := 1) (j := 0) lf_X9_22 rfl rfl rfl (zdg D_X9_pairsIn 22 (40, .getfield 22, 3) rfl) ?_
            refine z_getR (pc := 43) (g := 9) (j := 0) lf_X9_125 rfl rfl rfl (zdg D_X9_pairsIn 23 (43, .getfield 125, 3) rfl) ?_
            refine z_iload (pc := 46) 4 (zdg D_X9_pairsIn 24 (46, .iload 4, 2) rfl) rfl ?_
            refine z_iload_n (pc := 48) 1 (zdg D_X9_pairsIn 25 (48, .iload_n 1, 1) rfl) rfl rfl ?_
            refine z_bind hn hf (fun q6 hq hf => ?_)
            refine z_callV (pc := 49) (rest := [zI q5]) (st2 := [zI q6, zI q5]) (fun l => c_X5_spotIn l 0 v4_4 p1 σ q6 hq) zv_X5_spotIn lm_X9_129 rfl rfl rfl rfl rfl rfl (Nat.le_of_ble_eq_true rfl) ⟨Nat.le_of_ble_eq_true rfl, Nat.le_of_ble_eq_true rfl⟩ (zdg D_X9_pairsIn 26 (49, .invokevirtual 129, 3) rfl) ?_
            refine z_callS (pc := 52) (rest := []) (st2 := [zI (f_X9_areNear q5 q6)]) (fun l => c_X9_areNear l q5 q6 σ) zs_X9_areNear lm_X9_138 rfl rfl rfl (Nat.le_of_ble_eq_true rfl) ⟨Nat.le_of_ble_eq_true rfl, Nat.le_of_ble_eq_true rfl⟩ (zdg D_X9_pairsIn 27 (52, .invokestatic 138, 3) rfl) ?_
            refine z_if_eq (pc := 55) 61 (zdg D_X9_pairsIn 28 (55, .ifCond .eq 6, 3) rfl) rfl hf (fun hf => ?_) (fun hf => ?_)
            · refine z_iinc (pc := 61) (v0 := (v4_4 + 1)) (al' := [(4, zI (v4_4 + 1)), (0, zR 5 0), (1, zI p1), (2, zI v2_3), (3, zI v3_2)]) 4 (zdg D_X9_pairsIn 30 (61, .iinc 4 1, 3) rfl) rfl rfl (by decide) rfl ?_
              refine z_goto (pc := 64) 21 (zdg D_X9_pairsIn 31 (64, .goto (-43), 3) rfl) rfl ?_
              refine z_sub (al' := [(0, zR 5 0), (1, zI p1), (2, zI v2_3), (3, zI v3_2), (4, zI (v4_4 + 1))]) [1, 2, 3, 4, 0] rfl ?_
              exact hi (v2_3, (v4_4 + 1)) hf
            · refine z_iinc (pc := 58) (v0 := (v2_3 + 1)) (al' := [(2, zI (v2_3 + 1)), (0, zR 5 0), (1, zI p1), (3, zI v3_2), (4, zI v4_4)]) 2 (zdg D_X9_pairsIn 29 (58, .iinc 2 1, 3) rfl) rfl rfl (by decide) rfl ?_
              refine z_iinc (pc := 61) (v0 := (v4_4 + 1)) (al' := [(4, zI (v4_4 + 1)), (2, zI (v2_3 + 1)), (0, zR 5 0), (1, zI p1), (3, zI v3_2)]) 4 (zdg D_X9_pairsIn 30 (61, .iinc 4 1, 3) rfl) rfl rfl (by decide) rfl ?_
              refine z_goto (pc := 64) 21 (zdg D_X9_pairsIn 31 (64, .goto (-43), 3) rfl) rfl ?_
              refine z_sub (al' := [(0, zR 5 0), (1, zI p1), (2, zI (v2_3 + 1)), (3, zI v3_2), (4, zI (v4_4 + 1))]) [2, 3, 1, 4, 0] rfl ?_
              exact hi ((v2_3 + 1), (v4_4 + 1)) hf

def L_X9_clearTogether : List (Nat × Instr × Nat) := [(0, .aload_n 0, 1), (1, .getfield 22, 3), (4, .invokevirtual 54, 3), (7, .lstore_n 2, 1), (8, .bipush 60, 2), (10, .sipush 500, 3), (13, .aload_n 0, 1), (14, .getfield 22, 3), (17, .getfield 58, 3), (20, .isub, 1), (21, .invokestatic 147, 3), (24, .iconst 1, 1), (25, .iadd, 1), (26, .istore 4, 2), (28, .iconst 0, 1), (29, .istore 5, 2), (31, .iload 5, 2), (33, .iload 4, 2), (35, .if_icmp .ge 42, 3), (38, .iload 5, 2), (40, .bipush 60, 2), (42, .if_icmp .gt 35, 3), (45, .aload_n 0, 1), (46, .getfield 15, 3), (49, .iload 5, 2), (51, .aload_n 0, 1), (52, .getfield 22, 3), (55, .aload_n 0, 1), (56, .getfield 22, 3), (59, .getfield 58, 3), (62, .iload 5, 2), (64, .iadd, 1), (65, .invokevirtual 83, 3), (68, .lload_n 2, 1), (69, .land, 1), (70, .lastore, 1), (71, .iinc 5 1, 3), (74, .goto (-43), 3), (77, .iconst 0, 1), (78, .istore 5, 2), (80, .iload 5, 2), (82, .iload 4, 2), (84, .if_icmp .ge 82, 3), (87, .iload 5, 2), (89, .bipush 60, 2), (91, .if_icmp .gt 75, 3), (94, .iload 5, 2), (96, .iconst 1, 1), (97, .iadd, 1), (98, .istore 6, 2), (100, .iload 6, 2), (102, .iload 4, 2), (104, .if_icmp .ge 56, 3), (107, .iload 6, 2), (109, .bipush 60, 2), (111, .if_icmp .gt 49, 3), (114, .aload_n 0, 1), (115, .getfield 15, 3), (118, .iload 5, 2), (120, .laload, 1), (121, .aload_n 0, 1), (122, .getfield 15, 3), (125, .iload 6, 2), (127, .laload, 1), (128, .land, 1), (129, .lconst 0, 1), (130, .lcmp, 1), (131, .ifCond .ne 23, 3), (134, .aload_n 0, 1), (135, .getfield 22, 3), (138, .getfield 58, 3), (141, .iload_n 1, 1), (142, .ifCond .ne 8, 3), (145, .iload 5, 2), (147, .goto 5, 3), (150, .iload 6, 2), (152, .iadd, 1), (153, .ireturn, 1), (154, .iinc 6 1, 3), (157, .goto (-57), 3), (160, .iinc 5 1, 3), (163, .goto (-83), 3), (166, .iconst (-1), 1), (167, .ireturn, 1)]
set_option maxRecDepth 100000 in
theorem D_X9_clearTogether : zdecs cX9_clearTogether L_X9_clearTogether = true := by decide +kernel
noncomputable def b_X9_clearTogether_31 (x2 : Int32) (q1 : Int64) (v5_3 : Int32) (s4 : zG) : Option ((Int32 × zG) ⊕ (zG)) :=
  if v5_3 < x2 then if v5_3 ≤ (60 : Int32) then (f_X1_coverIn 0 ((s4.1 1 0 3) + v5_3) s4).bind (fun q5 => zg (zin v5_3 61) (zb (zwL s4 43 0 v5_3.toNatClampNeg (q5 &&& q1)) (fun s6 => some (Sum.inl ((v5_3 + 1), s6))))) else some (Sum.inr s4) else some (Sum.inr s4)
noncomputable def b_X9_clearTogether_100 (w4_8 : Int32) (v5_10 : Int32) (s9 : zG) (v6_11 : Int32) : Option ((Int32) ⊕ ((Int32) ⊕ (Unit))) :=
  if v6_11 < w4_8 then if v6_11 ≤ (60 : Int32) then zg (zin v5_10 61) (zg (zin v6_11 61) (if (lg_cmp ((s9.2 43 0 v5_10.toNatClampNeg) &&& (s9.2 43 0 v6_11.toNatClampNeg)) (0 : Int64)) = 0 then some (Sum.inr (Sum.inl v6_11)) else some (Sum.inl (v6_11 + 1)))) else some (Sum.inr (Sum.inr ())) else some (Sum.inr (Sum.inr ()))
noncomputable def b_X9_clearTogether_80 (w4_8 : Int32) (s9 : zG) (v5_10 : Int32) : Option ((Int32) ⊕ ((Int32 × Int32) ⊕ (Unit))) :=
  if v5_10 < w4_8 then if v5_10 ≤ (60 : Int32) then (zlp (fun q : Int32 => b_X9_clearTogether_100 w4_8 v5_10 s9 q) (v5_10 + (1 : Int32))).bind (Sum.elim (fun e12 : Int32 => some (Sum.inr (Sum.inl (v5_10, e12)))) (fun e13 : Unit => some (Sum.inl (v5_10 + 1)))) else some (Sum.inr (Sum.inr ())) else some (Sum.inr (Sum.inr ()))
noncomputable def j_X9_clearTogether_77 (p1 : Int32) (w4_8 : Int32) (s9 : zG) : Option (Int32 × zG) :=
  (zlp (fun q : Int32 => b_X9_clearTogether_80 w4_8 s9 q) (0 : Int32)).bind (Sum.elim (fun e14 : Int32 × Int32 => if p1 = 0 then some (((s9.1 1 0 3) + e14.1), s9) else some (((s9.1 1 0 3) + e14.2), s9)) (fun e15 : Unit => some ((-1 : Int32), s9)))
noncomputable def f_X9_clearTogether (p1 : Int32) (σ : zG) : Option (Int32 × zG) :=
  (f_X1_viewNow 0 σ).bind (fun q1 => zb ((zmin (60 : Int32) ((500 : Int32) - (σ.1 1 0 3))) + (1 : Int32)) (fun x2 => (zlp (fun q : Int32 × zG => b_X9_clearTogether_31 x2 q1 q.1 q.2) ((0 : Int32), σ)).bind (fun e7 : zG => j_X9_clearTogether_77 p1 x2 e7)))
set_option maxRecDepth 100000 in
set_option maxHeartbeats 4000000 in
theorem c_X9_clearTogether (l : Launch) (p1 : Int32) (σ : zG) (q : Int32 × zG) (hq : f_X9_clearTogether p1 σ = some q) : zMet l zsyC m_X9_clearTogether yX9_clearTogether [zR 5 0, zI p1] σ (some (zI q.1)) q.2 := by
  refine zEnter [(0, zR 5 0), (1, zI p1)] (by decide) rfl (fun _ => Nat.le_of_ble_eq_true rfl) (fun _ => rfl) (fun w h => ?_) (fun K hv hs => ?_)
  · exact zokm rfl h
  · have hP : ∀ x s, f_X9_clearTogether p1 σ = some (x, s) → zKv K = some (zI x) ∧ zKs K = s := fun x s h => by rw [hq] at h; cases h; exact ⟨hv, hs⟩
    have hn : f_X9_clearTogether p1 σ ≠ none := fun z => by rw [hq] at z; cases z
    have hf := f_X9_clearTogether.eq_1 p1 σ
    have t_77 : ∀ (w4_8 : Int32) (s9 : zG), f_X9_clearTogether p1 σ = j_X9_clearTogether_77 p1 w4_8 s9 → zX zsyC m_X9_clearTogether K 77 [(0, zR 5 0), (1, zI p1), (4, zI w4_8)] [] s9 := by
      intro w4_8 s9 hf
      replace hf := hf.trans (j_X9_clearTogether_77.eq_1 p1 w4_8 s9)
      refine z_iconst (pc := 77) (v := 0) (zdg D_X9_clearTogether 38 (77, .iconst 0, 1) rfl) rfl ?_
      refine z_istore (pc := 78) (al' := [(5, zI (0 : Int32)), (0, zR 5 0), (1, zI p1), (4, zI w4_8)]) (zdg D_X9_clearTogether 39 (78, .istore 5, 2) rfl) (by decide) rfl ?_
      refine z_sub (al' := [(0, zR 5 0), (1, zI p1), (4, zI w4_8), (5, zI (0 : Int32))]) [1, 2, 3, 0] rfl ?_
      refine z_loop (f := (fun q : Int32 => b_X9_clearTogether_80 w4_8 s9 q)) (a := (0 : Int32)) (fun q : Int32 => zX zsyC m_X9_clearTogether K 80 [(0, zR 5 0), (1, zI p1), (4, zI w4_8), (5, zI q)] [] s9) (Sum.elim (fun e14 : Int32 × Int32 => zX zsyC m_X9_clearTogether K 134 [(0, zR 5 0), (1, zI p1), (5, zI e14.1), (6, zI e14.2)] [] s9) (fun e15 : Unit => zX zsyC m_X9_clearTogether K 166 [] [] s9)) hn hf ?_ ?_
      · intro b hf
        cases b with
        | inl e14 =>
          refine z_aload_n (pc := 134) 0 (zdg D_X9_clearTogether 68 (134, .aload_n 0, 1) rfl) rfl rfl ?_
          refine z_getR (pc := 135) (g := 1) (j := 0) lf_X9_22 rfl rfl rfl (zdg D_X9_clearTogether 69 (135, .getfield 22, 3) rfl) ?_
          refine z_getI (pc := 138) lf_X9_58 rfl rfl (zdg D_X9_clearTogether 70 (138, .getfield 58, 3) rfl) ?_
          refine z_iload_n (pc := 141) 1 (zdg D_X9_clearTogether 71 (141, .iload_n 1, 1) rfl) rfl rfl ?_
          refine z_if_ne (pc := 142) 150 (zdg D_X9_clearTogether 72 (142, .ifCond .ne 8, 3) rfl) rfl hf (fun hf => ?_) (fun hf => ?_)
          · refine z_iload (pc := 150) 3 (zdg D_X9_clearTogether 75 (150, .iload 6, 2) rfl) rfl ?_
            refine z_iadd (pc := 152) (zdg D_X9_clearTogether 76 (152, .iadd, 1) rfl) ?_
            exact z_iret (pc := 153) rfl rfl (zdg D_X9_clearTogether 77 (153, .ireturn, 1) rfl) (hP _ _ hf)
          · refine z_iload (pc := 145) 2 (zdg D_X9_clearTogether 73 (145, .iload 5, 2) rfl) rfl ?_
            refine z_goto (pc := 147) 152 (zdg D_X9_clearTogether 74 (147, .goto 5, 3) rfl) rfl ?_
            refine z_iadd (pc := 152) (zdg D_X9_clearTogether 76 (152, .iadd, 1) rfl) ?_
            exact z_iret (pc := 153) rfl rfl (zdg D_X9_clearTogether 77 (153, .ireturn, 1) rfl) (hP _ _ hf)
        | inr b =>
          revert hf
          revert b
          intro e15 hf
          refine z_iconst (pc := 166) (v := -1) (zdg D_X9_clearTogether 82 (166, .iconst (-1), 1) rfl) rfl ?_
          exact z_iret (pc := 167) rfl rfl (zdg D_X9_clearTogether 83 (167, .ireturn, 1) rfl) (hP _ _ hf)
      · intro v5_10 hn hi hx
        have hf := b_X9_clearTogether_80.eq_1 w4_8 s9 v5_10
        refine z_iload (pc := 80) 3 (zdg D_X9_clearTogether 40 (80, .iload 5, 2) rfl) rfl ?_
        refine z_iload (pc := 82) 2 (zdg D_X9_clearTogether 41 (82, .iload 4, 2) rfl) rfl ?_
        refine z_icmp_ge (pc := 84) 166 (zdg D_X9_clearTogether 42 (84, .if_icmp .ge 82, 3) rfl) rfl hf (fun hf => ?_) (fun hf => ?_)
        · refine z_sub (al' := []) [] rfl ?_
          exact hx (Sum.inr ()) hf
        · refine z_iload (pc := 87) 3 (zdg D_X9_clearTogether 43 (87, .iload 5, 2) rfl) rfl ?_
          refine z_bipush (pc := 89) (v := 60) (zdg D_X9_clearTogether 44 (89, .bipush 60, 2) rfl) rfl ?_
          refine z_icmp_gt (pc := 91) 166 (zdg D_X9_clearTogether 45 (91, .if_icmp .gt 75, 3) rfl) rfl hf (fun hf => ?_) (fun hf => ?_)
          · refine z_sub (al' := []) [] rfl ?_
            exact hx (Sum.inr ()) hf
          · refine z_iload (pc := 94) 3 (zdg D_X9_clearTogether 46 (94, .iload 5, 2) rfl) rfl ?_
            refine z_iconst (pc := 96) (v := 1) (zdg D_X9_clearTogether 47 (96, .iconst 1, 1) rfl) rfl ?_
            refine z_iadd (pc := 97) (zdg D_X9_clearTogether 48 (97, .iadd, 1) rfl) ?_
            refine z_istore (pc := 98) (al' := [(6, zI (v5_10 + (1 : Int32))), (0, zR 5 0), (1, zI p1), (4, zI w4_8), (5, zI v5_10)]) (zdg D_X9_clearTogether 49 (98, .istore 6, 2) rfl) (by decide) rfl ?_
            refine z_sub (al' := [(0, zR 5 0), (1, zI p1), (4, zI w4_8), (5, zI v5_10), (6, zI (v5_10 + (1 : Int32)))]) [1, 2, 3, 4, 0] rfl ?_
            refine z_loop (f := (fun q : Int32 => b_X9_clearTogether_100 w4_8 v5_10 s9 q)) (a := (v5_10 + (1 : Int32))) (fun q : Int32 => zX zsyC m_X9_clearTogether K 100 [(0, zR 5 0), (1, zI p1), (4, zI w4_8), (5, zI v5_10), (6, zI q)] [] s9) (Sum.elim (fun e12 : Int32 => zX zsyC m_X9_clearTogether K 134 [(0, zR 5 0), (1, zI p1), (5, zI v5_10), (6, zI e12)] [] s9) (fun e13 : Unit => zX zsyC m_X9_clearTogether K 160 [(0, zR 5 0), (1, zI p1), (4, zI w4_8), (5, zI v5_10)] [] s9)) hn hf ?_ ?_
            · intro b hf
              cases b with
              | inl e12 =>
                exact hx (Sum.inl (v5_10, e12)) hf
              | inr b =>
                revert hf
                revert b
                intro e13 hf
                refine z_iinc (pc := 160) (v0 := (v5_10 + 1)) (al' := [(5, zI (v5_10 + 1)), (0, zR 5 0), (1, zI p1), (4, zI w4_8)]) 3 (zdg D_X9_clearTogether 80 (160, .iinc 5 1, 3) rfl) rfl rfl (by decide) rfl ?_
                refine z_goto (pc := 163) 80 (zdg D_X9_clearTogether 81 (163, .goto (-83), 3) rfl) rfl ?_
                refine z_sub (al' := [(0, zR 5 0), (1, zI p1), (4, zI w4_8), (5, zI (v5_10 + 1))]) [1, 2, 3, 0] rfl ?_
                exact hi (v5_10 + 1) hf
            · intro v6_11 hn hi hx
              have hf := b_X9_clearTogether_100.eq_1 w4_8 v5_10 s9 v6_11
              refine z_iload (pc := 100) 4 (zdg D_X9_clearTogether 50 (100, .iload 6, 2) rfl) rfl ?_
              refine z_iload (pc := 102) 2 (zdg D_X9_clearTogether 51 (102, .iload 4, 2) rfl) rfl ?_
              refine z_icmp_ge (pc := 104) 160 (zdg D_X9_clearTogether 52 (104, .if_icmp .ge 56, 3) rfl) rfl hf (fun hf => ?_) (fun hf => ?_)
              · refine z_sub (al' := [(0, zR 5 0), (1, zI p1), (4, zI w4_8), (5, zI v5_10)]) [0, 1, 2, 3] rfl ?_
                exact hx (Sum.inr ()) hf
              · refine z_iload (pc := 107) 4 (zdg D_X9_clearTogether 53 (107, .iload 6, 2) rfl) rfl ?_
                refine z_bipush (pc := 109) (v := 60) (zdg D_X9_clearTogether 54 (109, .bipush 60, 2) rfl) rfl ?_
                refine z_icmp_gt (pc := 111) 160 (zdg D_X9_clearTogether 55 (111, .if_icmp .gt 49, 3) rfl) rfl hf (fun hf => ?_) (fun hf => ?_)
                · refine z_sub (al' := [(0, zR 5 0), (1, zI p1), (4, zI w4_8), (5, zI v5_10)]) [0, 1, 2, 3] rfl ?_
                  exact hx (Sum.inr ()) hf
                · refine z_aload_n (pc := 114) 0 (zdg D_X9_clearTogether 56 (114, .aload_n 0, 1) rfl) rfl rfl ?_
                  refine z_getR (pc := 115) (g := 43) (j := 0) lf_X9_15 rfl rfl rfl (zdg D_X9_clearTogether 57 (115, .getfield 15, 3) rfl) ?_
                  refine z_iload (pc := 118) 3 (zdg D_X9_clearTogether 58 (118, .iload 5, 2) rfl) rfl ?_
                  refine z_lald (pc := 120) rfl (fun _ => rfl) (zdg D_X9_clearTogether 59 (120, .laload, 1) rfl) hn hf (fun hf => ?_)
                  refine z_aload_n (pc := 121) 0 (zdg D_X9_clearTogether 60 (121, .aload_n 0, 1) rfl) rfl rfl ?_
                  refine z_getR (pc := 122) (g := 43) (j := 0) lf_X9_15 rfl rfl rfl (zdg D_X9_clearTogether 61 (122, .getfield 15, 3) rfl) ?_
                  refine z_iload (pc := 125) 4 (zdg D_X9_clearTogether 62 (125, .iload 6, 2) rfl) rfl ?_
                  refine z_lald (pc := 127) rfl (fun _ => rfl) (zdg D_X9_clearTogether 63 (127, .laload, 1) rfl) hn hf (fun hf => ?_)
                  refine z_land (pc := 128) (zdg D_X9_clearTogether 64 (128, .land, 1) rfl) ?_
                  refine z_lconst (pc := 129) (v := 0) (zdg D_X9_clearTogether 65 (129, .lconst 0, 1) rfl) rfl ?_
                  refine z_lcmp (pc := 130) (zdg D_X9_clearTogether 66 (130, .lcmp, 1) rfl) ?_
                  refine z_if_ne (pc := 131) 154 (zdg D_X9_clearTogether 67 (131, .ifCond .ne 23, 3) rfl) rfl hf (fun hf => ?_) (fun hf => ?_)
                  · refine z_iinc (pc := 154) (v0 := (v6_11 + 1)) (al' := [(6, zI (v6_11 + 1)), (0, zR 5 0), (1, zI p1), (4, zI w4_8), (5, zI v5_10)]) 4 (zdg D_X9_clearTogether 78 (154, .iinc 6 1, 3) rfl) rfl rfl (by decide) rfl ?_
                    refine z_goto (pc := 157) 100 (zdg D_X9_clearTogether 79 (157, .goto (-57), 3) rfl) rfl ?_
                    refine z_sub (al' := [(0, zR 5 0), (1, zI p1), (4, zI w4_8), (5, zI v5_10), (6, zI (v6_11 + 1))]) [1, 2, 3, 4, 0] rfl ?_
                    exact hi (v6_11 + 1) hf
                  · refine z_sub (al' := [(0, zR 5 0), (1, zI p1), (5, zI v5_10), (6, zI v6_11)]) [0, 1, 3, 4] rfl ?_
                    exact hx (Sum.inl v6_11) hf
    refine z_aload_n (pc := 0) 0 (zdg D_X9_clearTogether 0 (0, .aload_n 0, 1) rfl) rfl rfl ?_
    refine z_getR (pc := 1) (g := 1) (j := 0) lf_X9_22 rfl rfl rfl (zdg D_X9_clearTogether 1 (1, .getfield 22, 3) rfl) ?_
    refine z_bind hn hf (fun q1 hq hf => ?_)
    refine z_callV (pc := 4) (rest := []) (st2 := [zL q1]) (fun l => c_X1_viewNow l 0 σ q1 hq) zv_X1_viewNow lm_X9_54 rfl rfl rfl rfl rfl rfl (Nat.le_of_ble_eq_true rfl) ⟨Nat.le_of_ble_eq_true rfl, Nat.le_of_ble_eq_true rfl⟩ (zdg D_X9_clearTogether 2 (4, .invokevirtual 54, 3) rfl) ?_
    refine z_lstore_n (pc := 7) (al' := [(2, zL q1), (0, zR 5 0), (1, zI p1)]) (zdg D_X9_clearTogether 3 (7, .lstore_n 2, 1) rfl) rfl (by decide) rfl ?_
    refine z_bipush (pc := 8) (v := 60) (zdg D_X9_clearTogether 4 (8, .bipush 60, 2) rfl) rfl ?_
    refine z_sipush (pc := 10) (v := 500) (zdg D_X9_clearTogether 5 (10, .sipush 500, 3) rfl) rfl ?_
    refine z_aload_n (pc := 13) 1 (zdg D_X9_clearTogether 6 (13, .aload_n 0, 1) rfl) rfl rfl ?_
    refine z_getR (pc := 14) (g := 1) (j := 0) lf_X9_22 rfl rfl rfl (zdg D_X9_clearTogether 7 (14, .getfield 22, 3) rfl) ?_
    refine z_getI (pc := 17) lf_X9_58 rfl rfl (zdg D_X9_clearTogether 8 (17, .getfield 58, 3) rfl) ?_
    refine z_isub (pc := 20) (zdg D_X9_clearTogether 9 (20, .isub, 1) rfl) ?_
    refine z_mmin (pc := 21) lm_X9_147 (Nat.le_of_ble_eq_true rfl) (Nat.le_of_ble_eq_true rfl) (zdg D_X9_clearTogether 10 (21, .invokestatic 147, 3) rfl) ?_
    refine z_iconst (pc := 24) (v := 1) (zdg D_X9_clearTogether 11 (24, .iconst 1, 1) rfl) rfl ?_
    refine z_iadd (pc := 25) (zdg D_X9_clearTogether 12 (25, .iadd, 1) rfl) ?_
    refine z_nmI hf (fun x2 hf => ?_)
    refine z_istore (pc := 26) (al' := [(4, zI x2), (2, zL q1), (0, zR 5 0), (1, zI p1)]) (zdg D_X9_clearTogether 13 (26, .istore 4, 2) rfl) (by decide) rfl ?_
    refine z_iconst (pc := 28) (v := 0) (zdg D_X9_clearTogether 14 (28, .iconst 0, 1) rfl) rfl ?_
    refine z_istore (pc := 29) (al' := [(5, zI (0 : Int32)), (4, zI x2), (2, zL q1), (0, zR 5 0), (1, zI p1)]) (zdg D_X9_clearTogether 15 (29, .istore 5, 2) rfl) (by decide) rfl ?_
    refine z_sub (al' := [(0, zR 5 0), (1, zI p1), (2, zL q1), (4, zI x2), (5, zI (0 : Int32))]) [3, 4, 2, 1, 0] rfl ?_
    refine z_loop (f := (fun q : Int32 × zG => b_X9_clearTogether_31 x2 q1 q.1 q.2)) (a := ((0 : Int32), σ)) (fun q : Int32 × zG => zX zsyC m_X9_clearTogether K 31 [(0, zR 5 0), (1, zI p1), (2, zL q1), (4, zI x2), (5, zI q.1)] [] q.2) (fun e7 : zG => zX zsyC m_X9_clearTogether K 77 [(0, zR 5 0), (1, zI p1), (4, zI x2)] [] e7) hn hf ?_ ?_
    · intro e7 hf
      exact t_77 x2 e7 hf
    · rintro ⟨v5_3, s4⟩ hn hi hx
      have hf := b_X9_clearTogether_31.eq_1 x2 q1 v5_3 s4
      refine z_iload (pc := 31) 4 (zdg D_X9_clearTogether 16 (31, .iload 5, 2) rfl) rfl ?_
      refine z_iload (pc := 33) 3 (zdg D_X9_clearTogether 17 (33, .iload 4, 2) rfl) rfl ?_
      refine z_icmp_ge (pc := 35) 77 (zdg D_X9_clearTogether 18 (35, .if_icmp .ge 42, 3) rfl) rfl hf (fun hf => ?_) (fun hf => ?_)
      · refine z_sub (al' := [(0, zR 5 0), (1, zI p1), (4, zI x2)]) [0, 1, 3] rfl ?_
        exact hx s4 hf
      · refine z_iload (pc := 38) 4 (zdg D_X9_clearTogether 19 (38, .iload 5, 2) rfl) rfl ?_
        refine z_bipush (pc := 40) (v := 60) (zdg D_X9_clearTogether 20 (40, .bipush 60, 2) rfl) rfl ?_
        refine z_icmp_gt (pc := 42) 77 (zdg D_X9_clearTogether 21 (42, .if_icmp .gt 35, 3) rfl) rfl hf (fun hf => ?_) (fun hf => ?_)
        · refine z_sub (al' := [(0, zR 5 0), (1, zI p1), (4, zI x2)]) [0, 1, 3] rfl ?_
          exact hx s4 hf
        · refine z_aload_n (pc := 45) 0 (zdg D_X9_clearTogether 22 (45, .aload_n 0, 1) rfl) rfl rfl ?_
          refine z_getR (pc := 46) (g := 43) (j := 0) lf_X9_15 rfl rfl rfl (zdg D_X9_clearTogether 23 (46, .getfield 15, 3) rfl) ?_
          refine z_iload (pc := 49) 4 (zdg D_X9_clearTogether 24 (49, .iload 5, 2) rfl) rfl ?_
          refine z_aload_n (pc := 51) 0 (zdg D_X9_clearTogether 25 (51, .aload_n 0, 1) rfl) rfl rfl ?_
          refine z_getR (pc := 52) (g := 1) (j := 0) lf_X9_22 rfl rfl rfl (zdg D_X9_clearTogether 26 (52, .getfield 22, 3) rfl) ?_
          refine z_aload_n (pc := 55) 0 (zdg D_X9_clearTogether 27 (55, .aload_n 0, 1) rfl) rfl rfl ?_
          refine z_getR (pc := 56) (g := 1) (j := 0) lf_X9_22 rfl rfl rfl (zdg D_X9_clearTogether 28 (56, .getfield 22, 3) rfl) ?_
          refine z_getI (pc := 59) lf_X9_58 rfl rfl (zdg D_X9_clearTogether 29 (59, .getfield 58, 3) rfl) ?_
          refine z_iload (pc := 62) 4 (zdg D_X9_clearTogether 30 (62, .iload 5, 2) rfl) rfl ?_
          refine z_iadd (pc := 64) (zdg D_X9_clearTogether 31 (64, .iadd, 1) rfl) ?_
          refine z_bind hn hf (fun q5 hq hf => ?_)
          refine z_callV (pc := 65) (rest := [zI v5_3, zR 43 0]) (st2 := [zL q5, zI v5_3, zR 43 0]) (fun l => c_X1_coverIn l 0 ((s4.1 1 0 3) + v5_3) s4 q5 hq) zv_X1_coverIn lm_X9_83 rfl rfl rfl rfl rfl rfl (Nat.le_of_ble_eq_true rfl) ⟨Nat.le_of_ble_eq_true rfl, Nat.le_of_ble_eq_true rfl⟩ (zdg D_X9_clearTogether 32 (65, .invokevirtual 83, 3) rfl) ?_
          refine z_lload_n (pc := 68) 2 (zdg D_X9_clearTogether 33 (68, .lload_n 2, 1) rfl) rfl rfl ?_
          refine z_land (pc := 69) (zdg D_X9_clearTogether 34 (69, .land, 1) rfl) ?_
          refine z_last (pc := 70) rfl (fun _ => rfl) (zdg D_X9_clearTogether 35 (70, .lastore, 1) rfl) hn hf (fun hf => ?_)
          refine z_nmS hf (fun s6 hf => ?_)
          refine z_iinc (pc := 71) (v0 := (v5_3 + 1)) (al' := [(5, zI (v5_3 + 1)), (0, zR 5 0), (1, zI p1), (2, zL q1), (4, zI x2)]) 4 (zdg D_X9_clearTogether 36 (71, .iinc 5 1, 3) rfl) rfl rfl (by decide) rfl ?_
          refine z_goto (pc := 74) 31 (zdg D_X9_clearTogether 37 (74, .goto (-43), 3) rfl) rfl ?_
          refine z_sub (al' := [(0, zR 5 0), (1, zI p1), (2, zL q1), (4, zI x2), (5, zI (v5_3 + 1))]) [1, 2, 3, 4, 0] rfl ?_
          exact hi ((v5_3 + 1), s6) hf

def L_X11_state : List (Nat × Instr × Nat) := [(0, .aload_n 0, 1), (1, .getfield 12, 3), (4, .getfield 55, 3), (7, .istore_n 2, 1), (8, .aload_n 0, 1), (9, .getfield 12, 3), (12, .iload_n 1, 1), (13, .putfield 55, 3), (16, .aload_n 0, 1), (17, .getfield 19, 3), (20, .invokevirtual 59, 3), (23, .iload_n 2, 1), (24, .ireturn, 1)]
set_option maxRecDepth 100000 in
theorem D_X11_state : zdecs cX11_state L_X11_state = true := by decide +kernel
noncomputable def f_X11_state (p1 : Int32) (σ : zG) : Int32 × zG :=
  zb (zwI σ 1 0 2 p1) (fun s1 => zb (f_X2_forget s1) (fun s2 => ((σ.1 1 0 2), s2)))
set_option maxRecDepth 100000 in
set_option maxHeartbeats 4000000 in
theorem c_X11_state (l : Launch) (p1 : Int32) (σ : zG) : zMet l zsyC m_X11_state yX11_state [zR 0 0, zI p1] σ (some (zI (f_X11_state p1 σ).1)) (f_X11_state p1 σ).2 := by
  refine zEnter [(0, zR 0 0), (1, zI p1)] (by decide) rfl (fun _ => Nat.le_of_ble_eq_true rfl) (fun _ => rfl) (fun w h => ?_) (fun K hv hs => ?_)
  · exact zokm rfl h
  · have hP : ∀ x s, f_X11_state p1 σ = (x, s) → zKv K = some (zI x) ∧ zKs K = s := fun x s h => by rw [h] at hv hs; exact ⟨hv, hs⟩
    have hf := f_X11_state.eq_1 p1 σ
    refine z_aload_n (pc := 0) 0 (zdg D_X11_state 0 (0, .aload_n 0, 1) rfl) rfl rfl ?_
    refine z_getR (pc := 1) (g := 1) (j := 0) lf_X11_12 rfl rfl rfl (zdg D_X11_state 1 (1, .getfield 12, 3) rfl) ?_
    refine z_getI (pc := 4) lf_X11_55 rfl rfl (zdg D_X11_state 2 (4, .getfield 55, 3) rfl) ?_
    refine z_istore_n (pc := 7) (al' := [(2, zI (σ.1 1 0 2)), (0, zR 0 0), (1, zI p1)]) (zdg D_X11_state 3 (7, .istore_n 2, 1) rfl) rfl (by decide) rfl ?_
    refine z_aload_n (pc := 8) 1 (zdg D_X11_state 4 (8, .aload_n 0, 1) rfl) rfl rfl ?_
    refine z_getR (pc := 9) (g := 1) (j := 0) lf_X11_12 rfl rfl rfl (zdg D_X11_state 5 (9, .getfield 12, 3) rfl) ?_
    refine z_iload_n (pc := 12) 2 (zdg D_X11_state 6 (12, .iload_n 1, 1) rfl) rfl rfl ?_
    refine z_putI (pc := 13) lw_X11_55 rfl rfl rfl rfl (zdg D_X11_state 7 (13, .putfield 55, 3) rfl) ?_
    refine z_nmS hf (fun s1 hf => ?_)
    refine z_aload_n (pc := 16) 1 (zdg D_X11_state 8 (16, .aload_n 0, 1) rfl) rfl rfl ?_
    refine z_getR (pc := 17) (g := 2) (j := 0) lf_X11_19 rfl rfl rfl (zdg D_X11_state 9 (17, .getfield 19, 3) rfl) ?_
    refine z_callV (pc := 20) (rest := []) (st2 := []) (fun l => c_X2_forget l s1) zv_X2_forget lm_X11_59 rfl rfl rfl rfl rfl rfl (Nat.le_of_ble_eq_true rfl) ⟨Nat.le_of_ble_eq_true rfl, Nat.le_of_ble_eq_true rfl⟩ (zdg D_X11_state 10 (20, .invokevirtual 59, 3) rfl) ?_
    refine z_nmS hf (fun s2 hf => ?_)
    refine z_iload_n (pc := 23) 0 (zdg D_X11_state 11 (23, .iload_n 2, 1) rfl) rfl rfl ?_
    exact z_iret (pc := 24) rfl rfl (zdg D_X11_state 12 (24, .ireturn, 1) rfl) (hP _ _ hf)

def L_X11_bridge : List (Nat × Instr × Nat) := [(0, .iload_n 1, 1), (1, .iconst 2, 1), (2, .if_icmp .lt 20, 3), (5, .iload_n 1, 1), (6, .bipush 8, 2), (8, .if_icmp .gt 14, 3), (11, .iload_n 2, 1), (12, .iconst 2, 1), (13, .if_icmp .lt 9, 3), (16, .iload_n 2, 1), (17, .bipush 7, 2), (19, .if_icmp .le 5, 3), (22, .iconst 0, 1), (23, .ireturn, 1), (24, .aload_n 0, 1), (25, .getfield 12, 3), (28, .iload_n 1, 1), (29, .iload_n 2, 1), (30, .invokevirtual 62, 3), (33, .aload_n 0, 1), (34, .getfield 19, 3), (37, .invokevirtual 59, 3), (40, .iconst 1, 1), (41, .ireturn, 1)]
set_option maxRecDepth 100000 in
theorem D_X11_bridge : zdecs cX11_bridge L_X11_bridge = true := by decide +kernel
noncomputable def f_X11_bridge (p1 : Int32) (p2 : Int32) (σ : zG) : Int32 × zG :=
  if (2 : Int32) ≤ p1 then if p1 ≤ (8 : Int32) then if (2 : Int32) ≤ p2 then if (7 : Int32) < p2 then ((0 : Int32), σ) else zb (f_X1_startAnew 0 p1 p2 σ) (fun s1 => zb (f_X2_forget s1) (fun s2 => ((1 : Int32), s2))) else ((0 : Int32), σ) else ((0 : Int32), σ) else ((0 : Int32), σ)
set_option maxRecDepth 100000 in
set_option maxHeartbeats 4000000 in
theorem c_X11_bridge (l : Launch) (p1 : Int32) (p2 : Int32) (σ : zG) : zMet l zsyC m_X11_bridge yX11_bridge [zR 0 0, zI p1, zI p2] σ (some (zI (f_X11_bridge p1 p2 σ).1)) (f_X11_bridge p1 p2 σ).2 := by
  refine zEnter [(0, zR 0 0), (1, zI p1), (2, zI p2)] (by decide) rfl (fun _ => Nat.le_of_ble_eq_true rfl) (fun _ => rfl) (fun w h => ?_) (fun K hv hs => ?_)
  · exact zokm rfl h
  · have hP : ∀ x s, f_X11_bridge p1 p2 σ = (x, s) → zKv K = some (zI x) ∧ zKs K = s := fun x s h => by rw [h] at hv hs; exact ⟨hv, hs⟩
    have hf := f_X11_bridge.eq_1 p1 p2 σ
    refine z_iload_n (pc := 0) 1 (zdg D_X11_bridge 0 (0, .iload_n 1, 1) rfl) rfl rfl ?_
    refine z_iconst (pc := 1) (v := 2) (zdg D_X11_bridge 1 (1, .iconst 2, 1) rfl) rfl ?_
    refine z_icmp_lt (pc := 2) 22 (zdg D_X11_bridge 2 (2, .if_icmp .lt 20, 3) rfl) rfl hf (fun hf => ?_) (fun hf => ?_)
    · refine z_iconst (pc := 22) (v := 0) (zdg D_X11_bridge 12 (22, .iconst 0, 1) rfl) rfl ?_
      exact z_iret (pc := 23) rfl rfl (zdg D_X11_bridge 13 (23, .ireturn, 1) rfl) (hP _ _ hf)
    · refine z_iload_n (pc := 5) 1 (zdg D_X11_bridge 3 (5, .iload_n 1, 1) rfl) rfl rfl ?_
      refine z_bipush (pc := 6) (v := 8) (zdg D_X11_bridge 4 (6, .bipush 8, 2) rfl) rfl ?_
      refine z_icmp_gt (pc := 8) 22 (zdg D_X11_bridge 5 (8, .if_icmp .gt 14, 3) rfl) rfl hf (fun hf => ?_) (fun hf => ?_)
      · refine z_iconst (pc := 22) (v := 0) (zdg D_X11_bridge 12 (22, .iconst 0, 1) rfl) rfl ?_
        exact z_iret (pc := 23) rfl rfl (zdg D_X11_bridge 13 (23, .ireturn, 1) rfl) (hP _ _ hf)
      · refine z_iload_n (pc := 11) 2 (zdg D_X11_bridge 6 (11, .iload_n 2, 1) rfl) rfl rfl ?_
        refine z_iconst (pc := 12) (v := 2) (zdg D_X11_bridge 7 (12, .iconst 2, 1) rfl) rfl ?_
        refine z_icmp_lt (pc := 13) 22 (zdg D_X11_bridge 8 (13, .if_icmp .lt 9, 3) rfl) rfl hf (fun hf => ?_) (fun hf => ?_)
        · refine z_iconst (pc := 22) (v := 0) (zdg D_X11_bridge 12 (22, .iconst 0, 1) rfl) rfl ?_
          exact z_iret (pc := 23) rfl rfl (zdg D_X11_bridge 13 (23, .ireturn, 1) rfl) (hP _ _ hf)
        · refine z_iload_n (pc := 16) 2 (zdg D_X11_bridge 9 (16, .iload_n 2, 1) rfl) rfl rfl ?_
          refine z_bipush (pc := 17) (v := 7) (zdg D_X11_bridge 10 (17, .bipush 7, 2) rfl) rfl ?_
          refine z_icmp_le (pc := 19) 24 (zdg D_X11_bridge 11 (19, .if_icmp .le 5, 3) rfl) rfl hf (fun hf => ?_) (fun hf => ?_)
          · refine z_aload_n (pc := 24) 0 (zdg D_X11_bridge 14 (24, .aload_n 0, 1) rfl) rfl rfl ?_
            refine z_getR (pc := 25) (g := 1) (j := 0) lf_X11_12 rfl rfl rfl (zdg D_X11_bridge 15 (25, .getfield 12, 3) rfl) ?_
            refine z_iload_n (pc := 28) 1 (zdg D_X11_bridge 16 (28, .iload_n 1, 1) rfl) rfl rfl ?_
            refine z_iload_n (pc := 29) 2 (zdg D_X11_bridge 17 (29, .iload_n 2, 1) rfl) rfl rfl ?_
            refine z_callV (pc := 30) (rest := []) (st2 := []) (fun l => c_X1_startAnew l 0 p1 p2 σ) zv_X1_startAnew lm_X11_62 rfl rfl rfl rfl rfl rfl (Nat.le_of_ble_eq_true rfl) ⟨Nat.le_of_ble_eq_true rfl, Nat.le_of_ble_eq_true rfl⟩ (zdg D_X11_bridge 18 (30, .invokevirtual 62, 3) rfl) ?_
            refine z_nmS hf (fun s1 hf => ?_)
            refine z_aload_n (pc := 33) 0 (zdg D_X11_bridge 19 (33, .aload_n 0, 1) rfl) rfl rfl ?_
            refine z_getR (pc := 34) (g := 2) (j := 0) lf_X11_19 rfl rfl rfl (zdg D_X11_bridge 20 (34, .getfield 19, 3) rfl) ?_
            refine z_callV (pc := 37) (rest := []) (st2 := []) (fun l => c_X2_forget l s1) zv_X2_forget lm_X11_59 rfl rfl rfl rfl rfl rfl (Nat.le_of_ble_eq_true rfl) ⟨Nat.le_of_ble_eq_true rfl, Nat.le_of_ble_eq_true rfl⟩ (zdg D_X11_bridge 21 (37, .invokevirtual 59, 3) rfl) ?_
            refine z_nmS hf (fun s2 hf => ?_)
            refine z_iconst (pc := 40) (v := 1) (zdg D_X11_bridge 22 (40, .iconst 1, 1) rfl) rfl ?_
            exact z_iret (pc := 41) rfl rfl (zdg D_X11_bridge 23 (41, .ireturn, 1) rfl) (hP _ _ hf)
          · refine z_iconst (pc := 22) (v := 0) (zdg D_X11_bridge 12 (22, .iconst 0, 1) rfl) rfl ?_
            exact z_iret (pc := 23) rfl rfl (zdg D_X11_bridge 13 (23, .ireturn, 1) rfl) (hP _ _ hf)

def L_X11_set : List (Nat × Instr × Nat) := [(0, .aload_n 0, 1), (1, .getfield 12, 3), (4, .iload_n 1, 1), (5, .iload_n 2, 1), (6, .invokevirtual 66, 3), (9, .istore_n 3, 1), (10, .iload_n 3, 1), (11, .ifCond .eq 10, 3), (14, .aload_n 0, 1), (15, .getfield 19, 3), (18, .invokevirtual 59, 3), (21, .iload_n 3, 1), (22, .ireturn, 1)]
set_option maxRecDepth 100000 in
theorem D_X11_set : zdecs cX11_set L_X11_set = true := by decide +kernel
noncomputable def f_X11_set (p1 : Int32) (p2 : Int32) (σ : zG) : Option (Int32 × zG) :=
  (f_X1_tell 0 p1 p2 σ).bind (fun q1 => if q1.1 = 0 then zg (zbl q1.1) (some (q1.1, q1.2)) else zb (f_X2_forget q1.2) (fun s2 => zg (zbl q1.1) (some (q1.1, s2))))
set_option maxRecDepth 100000 in
set_option maxHeartbeats 4000000 in
theorem c_X11_set (l : Launch) (p1 : Int32) (p2 : Int32) (σ : zG) (q : Int32 × zG) (hq : f_X11_set p1 p2 σ = some q) : zMet l zsyC m_X11_set yX11_set [zR 0 0, zI p1, zI p2] σ (some (zI q.1)) q.2 := by
  refine zEnter [(0, zR 0 0), (1, zI p1), (2, zI p2)] (by decide) rfl (fun _ => Nat.le_of_ble_eq_true rfl) (fun _ => rfl) (fun w h => ?_) (fun K hv hs => ?_)
  · exact zokm rfl h
  · have hP : ∀ x s, f_X11_set p1 p2 σ = some (x, s) → zKv K = some (zI x) ∧ zKs K = s := fun x s h => by rw [hq] at h; cases h; exact ⟨hv, hs⟩
    have hn : f_X11_set p1 p2 σ ≠ none := fun z => by rw [hq] at z; cases z
    have hf := f_X11_set.eq_1 p1 p2 σ
    refine z_aload_n (pc := 0) 0 (zdg D_X11_set 0 (0, .aload_n 0, 1) rfl) rfl rfl ?_
    refine z_getR (pc := 1) (g := 1) (j := 0) lf_X11_12 rfl rfl rfl (zdg D_X11_set 1 (1, .getfield 12, 3) rfl) ?_
    refine z_iload_n (pc := 4) 1 (zdg D_X11_set 2 (4, .iload_n 1, 1) rfl) rfl rfl ?_
    refine z_iload_n (pc := 5) 2 (zdg D_X11_set 3 (5, .iload_n 2, 1) rfl) rfl rfl ?_
    refine z_bind hn hf (fun q1 hq hf => ?_)
    refine z_callV (pc := 6) (rest := []) (st2 := [zI q1.1]) (fun l => c_X1_tell l 0 p1 p2 σ q1 hq) zv_X1_tell lm_X11_66 rfl rfl rfl rfl rfl rfl (Nat.le_of_ble_eq_true rfl) ⟨Nat.le_of_ble_eq_true rfl, Nat.le_of_ble_eq_true rfl⟩ (zdg D_X11_set 4 (6, .invokevirtual 66, 3) rfl) ?_
    refine z_istore_n (pc := 9) (al' := [(3, zI q1.1), (0, zR 0 0), (1, zI p1), (2, zI p2)]) (zdg D_X11_set 5 (9, .istore_n 3, 1) rfl) rfl (by decide) rfl ?_
    refine z_iload_n (pc := 10) 0 (zdg D_X11_set 6 (10, .iload_n 3, 1) rfl) rfl rfl ?_
    refine z_if_eq (pc := 11) 21 (zdg D_X11_set 7 (11, .ifCond .eq 10, 3) rfl) rfl hf (fun hf => ?_) (fun hf => ?_)
    · refine z_iload_n (pc := 21) 0 (zdg D_X11_set 11 (21, .iload_n 3, 1) rfl) rfl rfl ?_
      exact z_zret (pc := 22) rfl (zdg D_X11_set 12 (22, .ireturn, 1) rfl) hn hf (fun hf => (hP _ _ hf))
    · refine z_aload_n (pc := 14) 1 (zdg D_X11_set 8 (14, .aload_n 0, 1) rfl) rfl rfl ?_
      refine z_getR (pc := 15) (g := 2) (j := 0) lf_X11_19 rfl rfl rfl (zdg D_X11_set 9 (15, .getfield 19, 3) rfl) ?_
      refine z_callV (pc := 18) (rest := []) (st2 := []) (fun l => c_X2_forget l q1.2) zv_X2_forget lm_X11_59 rfl rfl rfl rfl rfl rfl (Nat.le_of_ble_eq_true rfl) ⟨Nat.le_of_ble_eq_true rfl, Nat.le_of_ble_eq_true rfl⟩ (zdg D_X11_set 10 (18, .invokevirtual 59, 3) rfl) ?_
      refine z_nmS hf (fun s2 hf => ?_)
      refine z_iload_n (pc := 21) 0 (zdg D_X11_set 11 (21, .iload_n 3, 1) rfl) rfl rfl ?_
      exact z_zret (pc := 22) rfl (zdg D_X11_set 12 (22, .ireturn, 1) rfl) hn hf (fun hf => (hP _ _ hf))

def L_X11_step : List (Nat × Instr × Nat) := [(0, .iload_n 1, 1), (1, .ifCond .lt 33, 3), (4, .iload_n 1, 1), (5, .aload_n 0, 1), (6, .getfield 12, 3), (9, .getfield 70, 3), (12, .aload_n 0, 1), (13, .getfield 12, 3), (16, .getfield 73, 3), (19, .isub, 1), (20, .if_icmp .gt 14, 3), (23, .iload_n 1, 1), (24, .aload_n 0, 1), (25, .getfield 12, 3), (28, .getfield 76, 3), (31, .if_icmp .ne 5, 3), (34, .iconst 0, 1), (35, .ireturn, 1), (36, .aload_n 0, 1), (37, .getfield 19, 3), (40, .aload_n 0, 1), (41, .getfield 12, 3), (44, .invokevirtual 79, 3), (47, .aload_n 0, 1), (48, .getfield 12, 3), (51, .iload_n 1, 1), (52, .putfield 76, 3), (55, .iconst 1, 1), (56, .ireturn, 1)]
set_option maxRecDepth 100000 in
theorem D_X11_step : zdecs cX11_step L_X11_step = true := by decide +kernel
noncomputable def f_X11_step (p1 : Int32) (σ : zG) : Option (Int32 × zG) :=
  if 0 ≤ p1 then if p1 ≤ ((σ.1 1 0 0) - (σ.1 1 0 4)) then if p1 = (σ.1 1 0 5) then some ((0 : Int32), σ) else (f_X2_keep 0 σ).bind (fun q1 => zb (zwI q1 1 0 5 p1) (fun s2 => some ((1 : Int32), s2))) else some ((0 : Int32), σ) else some ((0 : Int32), σ)
set_option maxRecDepth 100000 in
set_option maxHeartbeats 4000000 in
theorem c_X11_step (l : Launch) (p1 : Int32) (σ : zG) (q : Int32 × zG) (hq : f_X11_step p1 σ = some q) : zMet l zsyC m_X11_step yX11_step [zR 0 0, zI p1] σ (some (zI q.1)) q.2 := by
  refine zEnter [(0, zR 0 0), (1, zI p1)] (by decide) rfl (fun _ => Nat.le_of_ble_eq_true rfl) (fun _ => rfl) (fun w h => ?_) (fun K hv hs => ?_)
  · exact zokm rfl h
  · have hP : ∀ x s, f_X11_step p1 σ = some (x, s) → zKv K = some (zI x) ∧ zKs K = s := fun x s h => by rw [hq] at h; cases h; exact ⟨hv, hs⟩
    have hn : f_X11_step p1 σ ≠ none := fun z => by rw [hq] at z; cases z
    have hf := f_X11_step.eq_1 p1 σ
    refine z_iload_n (pc := 0) 1 (zdg D_X11_step 0 (0, .iload_n 1, 1) rfl) rfl rfl ?_
    refine z_if_lt (pc := 1) 34 (zdg D_X11_step 1 (1, .ifCond .lt 33, 3) rfl) rfl hf (fun hf => ?_) (fun hf => ?_)
    · refine z_iconst (pc := 34) (v := 0) (zdg D_X11_step 16 (34, .iconst 0, 1) rfl) rfl ?_
      exact z_iret (pc := 35) rfl rfl (zdg D_X11_step 17 (35, .ireturn, 1) rfl) (hP _ _ hf)
    · refine z_iload_n (pc := 4) 1 (zdg D_X11_step 2 (4, .iload_n 1, 1) rfl) rfl rfl ?_
      refine z_aload_n (pc := 5) 0 (zdg D_X11_step 3 (5, .aload_n 0, 1) rfl) rfl rfl ?_
      refine z_getR (pc := 6) (g := 1) (j := 0) lf_X11_12 rfl rfl rfl (zdg D_X11_step 4 (6, .getfield 12, 3) rfl) ?_
      refine z_getI (pc := 9) lf_X11_70 rfl rfl (zdg D_X11_step 5 (9, .getfield 70, 3) rfl) ?_
      refine z_aload_n (pc := 12) 0 (zdg D_X11_step 6 (12, .aload_n 0, 1) rfl) rfl rfl ?_
      refine z_getR (pc := 13) (g := 1) (j := 0) lf_X11_12 rfl rfl rfl (zdg D_X11_step 7 (13, .getfield 12, 3) rfl) ?_
      refine z_getI (pc := 16) lf_X11_73 rfl rfl (zdg D_X11_step 8 (16, .getfield 73, 3) rfl) ?_
      refine z_isub (pc := 19) (zdg D_X11_step 9 (19, .isub, 1) rfl) ?_
      refine z_icmp_gt (pc := 20) 34 (zdg D_X11_step 10 (20, .if_icmp .gt 14, 3) rfl) rfl hf (fun hf => ?_) (fun hf => ?_)
      · refine z_iconst (pc := 34) (v := 0) (zdg D_X11_step 16 (34, .iconst 0, 1) rfl) rfl ?_
        exact z_iret (pc := 35) rfl rfl (zdg D_X11_step 17 (35, .ireturn, 1) rfl) (hP _ _ hf)
      · refine z_iload_n (pc := 23) 1 (zdg D_X11_step 11 (23, .iload_n 1, 1) rfl) rfl rfl ?_
        refine z_aload_n (pc := 24) 0 (zdg D_X11_step 12 (24, .aload_n 0, 1) rfl) rfl rfl ?_
        refine z_getR (pc := 25) (g := 1) (j := 0) lf_X11_12 rfl rfl rfl (zdg D_X11_step 13 (25, .getfield 12, 3) rfl) ?_
        refine z_getI (pc := 28) lf_X11_76 rfl rfl (zdg D_X11_step 14 (28, .getfield 76, 3) rfl) ?_
        refine z_icmp_ne (pc := 31) 36 (zdg D_X11_step 15 (31, .if_icmp .ne 5, 3) rfl) rfl hf (fun hf => ?_) (fun hf => ?_)
        · refine z_aload_n (pc := 36) 0 (zdg D_X11_step 18 (36, .aload_n 0, 1) rfl) rfl rfl ?_
          refine z_getR (pc := 37) (g := 2) (j := 0) lf_X11_19 rfl rfl rfl (zdg D_X11_step 19 (37, .getfield 19, 3) rfl) ?_
          refine z_aload_n (pc := 40) 0 (zdg D_X11_step 20 (40, .aload_n 0, 1) rfl) rfl rfl ?_
          refine z_getR (pc := 41) (g := 1) (j := 0) lf_X11_12 rfl rfl rfl (zdg D_X11_step 21 (41, .getfield 12, 3) rfl) ?_
          refine z_bind hn hf (fun q1 hq hf => ?_)
          refine z_callV (pc := 44) (rest := []) (st2 := []) (fun l => c_X2_keep l 0 σ q1 hq) zv_X2_keep lm_X11_79 rfl rfl rfl rfl rfl rfl (Nat.le_of_ble_eq_true rfl) ⟨Nat.le_of_ble_eq_true rfl, Nat.le_of_ble_eq_true rfl⟩ (zdg D_X11_step 22 (44, .invokevirtual 79, 3) rfl) ?_
          refine z_aload_n (pc := 47) 0 (zdg D_X11_step 23 (47, .aload_n 0, 1) rfl) rfl rfl ?_
          refine z_getR (pc := 48) (g := 1) (j := 0) lf_X11_12 rfl rfl rfl (zdg D_X11_step 24 (48, .getfield 12, 3) rfl) ?_
          refine z_iload_n (pc := 51) 1 (zdg D_X11_step 25 (51, .iload_n 1, 1) rfl) rfl rfl ?_
          refine z_putI (pc := 52) lw_X11_76 rfl rfl rfl rfl (zdg D_X11_step 26 (52, .putfield 76, 3) rfl) ?_
          refine z_nmS hf (fun s2 hf => ?_)
          refine z_iconst (pc := 55) (v := 1) (zdg D_X11_step 27 (55, .iconst 1, 1) rfl) rfl ?_
          exact z_iret (pc := 56) rfl rfl (zdg D_X11_step 28 (56, .ireturn, 1) rfl) (hP _ _ hf)
        · refine z_iconst (pc := 34) (v := 0) (zdg D_X11_step 16 (34, .iconst 0, 1) rfl) rfl ?_
          exact z_iret (pc := 35) rfl rfl (zdg D_X11_step 17 (35, .ireturn, 1) rfl) (hP _ _ hf)

def L_X11_feed : List (Nat × Instr × Nat) := [(0, .aload_n 0, 1), (1, .getfield 26, 3), (4, .getfield 82, 3), (7, .sipush 380, 3), (10, .if_icmp .le 5, 3), (13, .iconst (-1), 1), (14, .ireturn, 1), (15, .aload_n 0, 1), (16, .getfield 26, 3), (19, .iload_n 1, 1), (20, .invokevirtual 85, 3), (23, .aload_n 0, 1), (24, .getfield 26, 3), (27, .iload_n 2, 1), (28, .invokevirtual 85, 3), (31, .aload_n 0, 1), (32, .getfield 26, 3), (35, .iload_n 3, 1), (36, .invokevirtual 85, 3), (39, .aload_n 0, 1), (40, .getfield 26, 3), (43, .iload 4, 2), (45, .invokevirtual 85, 3), (48, .aload_n 0, 1), (49, .getfield 26, 3), (52, .iload 5, 2), (54, .invokevirtual 85, 3), (57, .aload_n 0, 1), (58, .getfield 26, 3), (61, .getfield 82, 3), (64, .ireturn, 1)]
set_option maxRecDepth 100000 in
theorem D_X11_feed : zdecs cX11_feed L_X11_feed = true := by decide +kernel
noncomputable def f_X11_feed (p1 : Int32) (p2 : Int32) (p3 : Int32) (p4 : Int32) (p5 : Int32) (σ : zG) : Option (Int32 × zG) :=
  if (380 : Int32) < (σ.1 3 0 1) then some ((-1 : Int32), σ) else (f_X8_append p1 σ).bind (fun q1 => (f_X8_append p2 q1).bind (fun q2 => (f_X8_append p3 q2).bind (fun q3 => (f_X8_append p4 q3).bind (fun q4 => (f_X8_append p5 q4).bind (fun q5 => some ((q5.1 3 0 1), q5))))))
set_option maxRecDepth 100000 in
set_option maxHeartbeats 4000000 in
theorem c_X11_feed (l : Launch) (p1 : Int32) (p2 : Int32) (p3 : Int32) (p4 : Int32) (p5 : Int32) (σ : zG) (q : Int32 × zG) (hq : f_X11_feed p1 p2 p3 p4 p5 σ = some q) : zMet l zsyC m_X11_feed yX11_feed [zR 0 0, zI p1, zI p2, zI p3, zI p4, zI p5] σ (some (zI q.1)) q.2 := by
  refine zEnter [(0, zR 0 0), (1, zI p1), (2, zI p2), (3, zI p3), (4, zI p4), (5, zI p5)] (by decide) rfl (fun _ => Nat.le_of_ble_eq_true rfl) (fun _ => rfl) (fun w h => ?_) (fun K hv hs => ?_)
  · exact zokm rfl h
  · have hP : ∀ x s, f_X11_feed p1 p2 p3 p4 p5 σ = some (x, s) → zKv K = some (zI x) ∧ zKs K = s := fun x s h => by rw [hq] at h; cases h; exact ⟨hv, hs⟩
    have hn : f_X11_feed p1 p2 p3 p4 p5 σ ≠ none := fun z => by rw [hq] at z; cases z
    have hf := f_X11_feed.eq_1 p1 p2 p3 p4 p5 σ
    refine z_aload_n (pc := 0) 0 (zdg D_X11_feed 0 (0, .aload_n 0, 1) rfl) rfl rfl ?_
    refine z_getR (pc := 1) (g := 3) (j := 0) lf_X11_26 rfl rfl rfl (zdg D_X11_feed 1 (1, .getfield 26, 3) rfl) ?_
    refine z_getI (pc := 4) lf_X11_82 rfl rfl (zdg D_X11_feed 2 (4, .getfield 82, 3) rfl) ?_
    refine z_sipush (pc := 7) (v := 380) (zdg D_X11_feed 3 (7, .sipush 380, 3) rfl) rfl ?_
    refine z_icmp_le (pc := 10) 15 (zdg D_X11_feed 4 (10, .if_icmp .le 5, 3) rfl) rfl hf (fun hf => ?_) (fun hf => ?_)
    · refine z_aload_n (pc := 15) 0 (zdg D_X11_feed 7 (15, .aload_n 0, 1) rfl) rfl rfl ?_
      refine z_getR (pc := 16) (g := 3) (j := 0) lf_X11_26 rfl rfl rfl (zdg D_X11_feed 8 (16, .getfield 26, 3) rfl) ?_
      refine z_iload_n (pc := 19) 1 (zdg D_X11_feed 9 (19, .iload_n 1, 1) rfl) rfl rfl ?_
      refine z_bind hn hf (fun q1 hq hf => ?_)
      refine z_callV (pc := 20) (rest := []) (st2 := []) (fun l => c_X8_append l p1 σ q1 hq) zv_X8_append lm_X11_85 rfl rfl rfl rfl rfl rfl (Nat.le_of_ble_eq_true rfl) ⟨Nat.le_of_ble_eq_true rfl, Nat.le_of_ble_eq_true rfl⟩ (zdg D_X11_feed 10 (20, .invokevirtual 85, 3) rfl) ?_
      refine z_aload_n (pc := 23) 0 (zdg D_X11_feed 11 (23, .aload_n 0, 1) rfl) rfl rfl ?_
      refine z_getR (pc := 24) (g := 3) (j := 0) lf_X11_26 rfl rfl rfl (zdg D_X11_feed 12 (24, .getfield 26, 3) rfl) ?_
      refine z_iload_n (pc := 27) 2 (zdg D_X11_feed 13 (27, .iload_n 2, 1) rfl) rfl rfl ?_
      refine z_bind hn hf (fun q2 hq hf => ?_)
      refine z_callV (pc := 28) (rest := []) (st2 := []) (fun l => c_X8_append l p2 q1 q2 hq) zv_X8_append lm_X11_85 rfl rfl rfl rfl rfl rfl (Nat.le_of_ble_eq_true rfl) ⟨Nat.le_of_ble_eq_true rfl, Nat.le_of_ble_eq_true rfl⟩ (zdg D_X11_feed 14 (28, .invokevirtual 85, 3) rfl) ?_
      refine z_aload_n (pc := 31) 0 (zdg D_X11_feed 15 (31, .aload_n 0, 1) rfl) rfl rfl ?_
      refine z_getR (pc := 32) (g := 3) (j := 0) lf_X11_26 rfl rfl rfl (zdg D_X11_feed 16 (32, .getfield 26, 3) rfl) ?_
      refine z_iload_n (pc := 35) 3 (zdg D_X11_feed 17 (35, .iload_n 3, 1) rfl) rfl rfl ?_
      refine z_bind hn hf (fun q3 hq hf => ?_)
      refine z_callV (pc := 36) (rest := []) (st2 := []) (fun l => c_X8_append l p3 q2 q3 hq) zv_X8_append lm_X11_85 rfl rfl rfl rfl rfl rfl (Nat.le_of_ble_eq_true rfl) ⟨Nat.le_of_ble_eq_true rfl, Nat.le_of_ble_eq_true rfl⟩ (zdg D_X11_feed 18 (36, .invokevirtual 85, 3) rfl) ?_
      refine z_aload_n (pc := 39) 0 (zdg D_X11_feed 19 (39, .aload_n 0, 1) rfl) rfl rfl ?_
      refine z_getR (pc := 40) (g := 3) (j := 0) lf_X11_26 rfl rfl rfl (zdg D_X11_feed 20 (40, .getfield 26, 3) rfl) ?_
      refine z_iload (pc := 43) 4 (zdg D_X11_feed 21 (43, .iload 4, 2) rfl) rfl ?_
      refine z_bind hn hf (fun q4 hq hf => ?_)
      refine z_callV (pc := 45) (rest := []) (st2 := []) (fun l => c_X8_append l p4 q3 q4 hq) zv_X8_append lm_X11_85 rfl rfl rfl rfl rfl rfl (Nat.le_of_ble_eq_true rfl) ⟨Nat.le_of_ble_eq_true rfl, Nat.le_of_ble_eq_true rfl⟩ (zdg D_X11_feed 22 (45, .invokevirtual 85, 3) rfl) ?_
      refine z_aload_n (pc := 48) 0 (zdg D_X11_feed 23 (48, .aload_n 0, 1) rfl) rfl rfl ?_
      refine z_getR (pc := 49) (g := 3) (j := 0) lf_X11_26 rfl rfl rfl (zdg D_X11_feed 24 (49, .getfield 26, 3) rfl) ?_
      refine z_iload (pc := 52) 5 (zdg D_X11_feed 25 (52, .iload 5, 2) rfl) rfl ?_
      refine z_bind hn hf (fun q5 hq hf => ?_)
      refine z_callV (pc := 54) (rest := []) (st2 := []) (fun l => c_X8_append l p5 q4 q5 hq) zv_X8_append lm_X11_85 rfl rfl rfl rfl rfl rfl (Nat.le_of_ble_eq_true rfl) ⟨Nat.le_of_ble_eq_true rfl, Nat.le_of_ble_eq_true rfl⟩ (zdg D_X11_feed 26 (54, .invokevirtual 85, 3) rfl) ?_
      refine z_aload_n (pc := 57) 0 (zdg D_X11_feed 27 (57, .aload_n 0, 1) rfl) rfl rfl ?_
      refine z_getR (pc := 58) (g := 3) (j := 0) lf_X11_26 rfl rfl rfl (zdg D_X11_feed 28 (58, .getfield 26, 3) rfl) ?_
      refine z_getI (pc := 61) lf_X11_82 rfl rfl (zdg D_X11_feed 29 (61, .getfield 82, 3) rfl) ?_
      exact z_iret (pc := 64) rfl rfl (zdg D_X11_feed 30 (64, .ireturn, 1) rfl) (hP _ _ hf)
    · refine z_iconst (pc := 13) (v := -1) (zdg D_X11_feed 5 (13, .iconst (-1), 1) rfl) rfl ?_
      exact z_iret (pc := 14) rfl rfl (zdg D_X11_feed 6 (14, .ireturn, 1) rfl) (hP _ _ hf)

def L_X11_end : List (Nat × Instr × Nat) := [(0, .iload_n 1, 1), (1, .ifCond .lt 14, 3), (4, .iload_n 1, 1), (5, .aload_n 0, 1), (6, .getfield 26, 3), (9, .getfield 82, 3), (12, .if_icmp .le 5, 3), (15, .iconst 0, 1), (16, .ireturn, 1), (17, .aload_n 0, 1), (18, .getfield 26, 3), (21, .iload_n 1, 1), (22, .putfield 82, 3), (25, .iconst 1, 1), (26, .ireturn, 1)]
set_option maxRecDepth 100000 in
theorem D_X11_end : zdecs cX11_end L_X11_end = true := by decide +kernel
noncomputable def f_X11_end (p1 : Int32) (σ : zG) : Int32 × zG :=
  if 0 ≤ p1 then if (σ.1 3 0 1) < p1 then ((0 : Int32), σ) else zb (zwI σ 3 0 1 p1) (fun s1 => ((1 : Int32), s1)) else ((0 : Int32), σ)
set_option maxRecDepth 100000 in
set_option maxHeartbeats 4000000 in
theorem c_X11_end (l : Launch) (p1 : Int32) (σ : zG) : zMet l zsyC m_X11_end yX11_end [zR 0 0, zI p1] σ (some (zI (f_X11_end p1 σ).1)) (f_X11_end p1 σ).2 := by
  refine zEnter [(0, zR 0 0), (1, zI p1)] (by decide) rfl (fun _ => Nat.le_of_ble_eq_true rfl) (fun _ => rfl) (fun w h => ?_) (fun K hv hs => ?_)
  · exact zokm rfl h
  · have hP : ∀ x s, f_X11_end p1 σ = (x, s) → zKv K = some (zI x) ∧ zKs K = s := fun x s h => by rw [h] at hv hs; exact ⟨hv, hs⟩
    have hf := f_X11_end.eq_1 p1 σ
    refine z_iload_n (pc := 0) 1 (zdg D_X11_end 0 (0, .iload_n 1, 1) rfl) rfl rfl ?_
    refine z_if_lt (pc := 1) 15 (zdg D_X11_end 1 (1, .ifCond .lt 14, 3) rfl) rfl hf (fun hf => ?_) (fun hf => ?_)
    · refine z_iconst (pc := 15) (v := 0) (zdg D_X11_end 7 (15, .iconst 0, 1) rfl) rfl ?_
      exact z_iret (pc := 16) rfl rfl (zdg D_X11_end 8 (16, .ireturn, 1) rfl) (hP _ _ hf)
    · refine z_iload_n (pc := 4) 1 (zdg D_X11_end 2 (4, .iload_n 1, 1) rfl) rfl rfl ?_
      refine z_aload_n (pc := 5) 0 (zdg D_X11_end 3 (5, .aload_n 0, 1) rfl) rfl rfl ?_
      refine z_getR (pc := 6) (g := 3) (j := 0) lf_X11_26 rfl rfl rfl (zdg D_X11_end 4 (6, .getfield 26, 3) rfl) ?_
      refine z_getI (pc := 9) lf_X11_82 rfl rfl (zdg D_X11_end 5 (9, .getfield 82, 3) rfl) ?_
      refine z_icmp_le (pc := 12) 17 (zdg D_X11_end 6 (12, .if_icmp .le 5, 3) rfl) rfl hf (fun hf => ?_) (fun hf => ?_)
      · refine z_aload_n (pc := 17) 0 (zdg D_X11_end 9 (17, .aload_n 0, 1) rfl) rfl rfl ?_
        refine z_getR (pc := 18) (g := 3) (j := 0) lf_X11_26 rfl rfl rfl (zdg D_X11_end 10 (18, .getfield 26, 3) rfl) ?_
        refine z_iload_n (pc := 21) 1 (zdg D_X11_end 11 (21, .iload_n 1, 1) rfl) rfl rfl ?_
        refine z_putI (pc := 22) lw_X11_82 rfl rfl rfl rfl (zdg D_X11_end 12 (22, .putfield 82, 3) rfl) ?_
        refine z_nmS hf (fun s1 hf => ?_)
        refine z_iconst (pc := 25) (v := 1) (zdg D_X11_end 13 (25, .iconst 1, 1) rfl) rfl ?_
        exact z_iret (pc := 26) rfl rfl (zdg D_X11_end 14 (26, .ireturn, 1) rfl) (hP _ _ hf)
      · refine z_iconst (pc := 15) (v := 0) (zdg D_X11_end 7 (15, .iconst 0, 1) rfl) rfl ?_
        exact z_iret (pc := 16) rfl rfl (zdg D_X11_end 8 (16, .ireturn, 1) rfl) (hP _ _ hf)

def L_X11_tellWalkers : List (Nat × Instr × Nat) := [(0, .aload_n 0, 1), (1, .getfield 35, 3), (4, .aload_n 0, 1), (5, .getfield 12, 3), (8, .getfield 70, 3), (11, .aload_n 0, 1), (12, .getfield 12, 3), (15, .getfield 111, 3), (18, .invokevirtual 114, 3), (21, .ifCond .ne 5, 3), (24, .iconst (-1), 1), (25, .ireturn, 1), (26, .aload_n 0, 1), (27, .getfield 12, 3), (30, .getfield 117, 3), (33, .aload_n 0, 1), (34, .getfield 35, 3), (37, .getfield 121, 3), (40, .invokevirtual 122, 3), (43, .aload_n 0, 1), (44, .getfield 12, 3), (47, .getfield 128, 3), (50, .aload_n 0, 1), (51, .getfield 12, 3), (54, .getfield 117, 3), (57, .aload_n 0, 1), (58, .getfield 12, 3), (61, .getfield 70, 3), (64, .aload_n 0, 1), (65, .getfield 12, 3), (68, .getfield 111, 3), (71, .invokevirtual 132, 3), (74, .aload_n 0, 1), (75, .getfield 19, 3), (78, .invokevirtual 59, 3), (81, .aload_n 0, 1), (82, .getfield 12, 3), (85, .getfield 117, 3), (88, .getfield 138, 3), (91, .ireturn, 1)]
set_option maxRecDepth 100000 in
theorem D_X11_tellWalkers : zdecs cX11_tellWalkers L_X11_tellWalkers = true := by decide +kernel
noncomputable def f_X11_tellWalkers (σ : zG) : Option (Int32 × zG) :=
  (f_X4_readWalkers (σ.1 1 0 0) (σ.1 1 0 1) σ).bind (fun q1 => if q1.1 = 0 then some ((-1 : Int32), q1.2) else zb (f_X10_copyFrom 0 1 q1.2) (fun s2 => (f_X5_walk 0 0 (s2.1 1 0 0) (s2.1 1 0 1) s2).bind (fun q3 => zb (f_X2_forget q3) (fun s4 => some ((s4.1 8 0 0), s4)))))
set_option maxRecDepth 100000 in
set_option maxHeartbeats 4000000 in
theorem c_X11_tellWalkers (l : Launch)  (σ : zG) (q : Int32 × zG) (hq : f_X11_tellWalkers σ = some q) : zMet l zsyC m_X11_tellWalkers yX11_tellWalkers [zR 0 0] σ (some (zI q.1)) q.2 := by
  refine zEnter [(0, zR 0 0)] (by decide) rfl (fun _ => Nat.le_of_ble_eq_true rfl) (fun _ => rfl) (fun w h => ?_) (fun K hv hs => ?_)
  · exact zokm rfl h
  · have hP : ∀ x s, f_X11_tellWalkers σ = some (x, s) → zKv K = some (zI x) ∧ zKs K = s := fun x s h => by rw [hq] at h; cases h; exact ⟨hv, hs⟩
    have hn : f_X11_tellWalkers σ ≠ none := fun z => by rw [hq] at z; cases z
    have hf := f_X11_tellWalkers.eq_1 σ
    refine z_aload_n (pc := 0) 0 (zdg D_X11_tellWalkers 0 (0, .aload_n 0, 1) rfl) rfl rfl ?_
    refine z_getR (pc := 1) (g := 4) (j := 0) lf_X11_35 rfl rfl rfl (zdg D_X11_tellWalkers 1 (1, .getfield 35, 3) rfl) ?_
    refine z_aload_n (pc := 4) 0 (zdg D_X11_tellWalkers 2 (4, .aload_n 0, 1) rfl) rfl rfl ?_
    refine z_getR (pc := 5) (g := 1) (j := 0) lf_X11_12 rfl rfl rfl (zdg D_X11_tellWalkers 3 (5, .getfield 12, 3) rfl) ?_
    refine z_getI (pc := 8) lf_X11_70 rfl rfl (zdg D_X11_tellWalkers 4 (8, .getfield 70, 3) rfl) ?_
    refine z_aload_n (pc := 11) 0 (zdg D_X11_tellWalkers 5 (11, .aload_n 0, 1) rfl) rfl rfl ?_
    refine z_getR (pc := 12) (g := 1) (j := 0) lf_X11_12 rfl rfl rfl (zdg D_X11_tellWalkers 6 (12, .getfield 12, 3) rfl) ?_
    refine z_getI (pc := 15) lf_X11_111 rfl rfl (zdg D_X11_tellWalkers 7 (15, .getfield 111, 3) rfl) ?_
    refine z_bind hn hf (fun q1 hq hf => ?_)
    refine z_callV (pc := 18) (rest := []) (st2 := [zI q1.1]) (fun l => c_X4_readWalkers l (σ.1 1 0 0) (σ.1 1 0 1) σ q1 hq) zv_X4_readWalkers lm_X11_114 rfl rfl rfl rfl rfl rfl (Nat.le_of_ble_eq_true rfl) ⟨Nat.le_of_ble_eq_true rfl, Nat.le_of_ble_eq_true rfl⟩ (zdg D_X11_tellWalkers 8 (18, .invokevirtual 114, 3) rfl) ?_
    refine z_if_ne (pc := 21) 26 (zdg D_X11_tellWalkers 9 (21, .ifCond .ne 5, 3) rfl) rfl hf (fun hf => ?_) (fun hf => ?_)
    · refine z_aload_n (pc := 26) 0 (zdg D_X11_tellWalkers 12 (26, .aload_n 0, 1) rfl) rfl rfl ?_
      refine z_getR (pc := 27) (g := 1) (j := 0) lf_X11_12 rfl rfl rfl (zdg D_X11_tellWalkers 13 (27, .getfield 12, 3) rfl) ?_
      refine z_getR (pc := 30) (g := 8) (j := 0) lf_X11_117 rfl rfl rfl (zdg D_X11_tellWalkers 14 (30, .getfield 117, 3) rfl) ?_
      refine z_aload_n (pc := 33) 0 (zdg D_X11_tellWalkers 15 (33, .aload_n 0, 1) rfl) rfl rfl ?_
      refine z_getR (pc := 34) (g := 4) (j := 0) lf_X11_35 rfl rfl rfl (zdg D_X11_tellWalkers 16 (34, .getfield 35, 3) rfl) ?_
      refine z_getR (pc := 37) (g := 8) (j := 1) lf_X11_121 rfl rfl rfl (zdg D_X11_tellWalkers 17 (37, .getfield 121, 3) rfl) ?_
      refine z_callV (pc := 40) (rest := []) (st2 := []) (fun l => c_X10_copyFrom l 0 1 q1.2) zv_X10_copyFrom lm_X11_122 rfl rfl rfl rfl rfl rfl (Nat.le_of_ble_eq_true rfl) ⟨Nat.le_of_ble_eq_true rfl, Nat.le_of_ble_eq_true rfl⟩ (zdg D_X11_tellWalkers 18 (40, .invokevirtual 122, 3) rfl) ?_
      refine z_nmS hf (fun s2 hf => ?_)
      refine z_aload_n (pc := 43) 0 (zdg D_X11_tellWalkers 19 (43, .aload_n 0, 1) rfl) rfl rfl ?_
      refine z_getR (pc := 44) (g := 1) (j := 0) lf_X11_12 rfl rfl rfl (zdg D_X11_tellWalkers 20 (44, .getfield 12, 3) rfl) ?_
      refine z_getR (pc := 47) (g := 9) (j := 0) lf_X11_128 rfl rfl rfl (zdg D_X11_tellWalkers 21 (47, .getfield 128, 3) rfl) ?_
      refine z_aload_n (pc := 50) 0 (zdg D_X11_tellWalkers 22 (50, .aload_n 0, 1) rfl) rfl rfl ?_
      refine z_getR (pc := 51) (g := 1) (j := 0) lf_X11_12 rfl rfl rfl (zdg D_X11_tellWalkers 23 (51, .getfield 12, 3) rfl) ?_
      refine z_getR (pc := 54) (g := 8) (j := 0) lf_X11_117 rfl rfl rfl (zdg D_X11_tellWalkers 24 (54, .getfield 117, 3) rfl) ?_
      refine z_aload_n (pc := 57) 0 (zdg D_X11_tellWalkers 25 (57, .aload_n 0, 1) rfl) rfl rfl ?_
      refine z_getR (pc := 58) (g := 1) (j := 0) lf_X11_12 rfl rfl rfl (zdg D_X11_tellWalkers 26 (58, .getfield 12, 3) rfl) ?_
      refine z_getI (pc := 61) lf_X11_70 rfl rfl (zdg D_X11_tellWalkers 27 (61, .getfield 70, 3) rfl) ?_
      refine z_aload_n (pc := 64) 0 (zdg D_X11_tellWalkers 28 (64, .aload_n 0, 1) rfl) rfl rfl ?_
      refine z_getR (pc := 65) (g := 1) (j := 0) lf_X11_12 rfl rfl rfl (zdg D_X11_tellWalkers 29 (65, .getfield 12, 3) rfl) ?_
      refine z_getI (pc := 68) lf_X11_111 rfl rfl (zdg D_X11_tellWalkers 30 (68, .getfield 111, 3) rfl) ?_
      refine z_bind hn hf (fun q3 hq hf => ?_)
      refine z_callV (pc := 71) (rest := []) (st2 := []) (fun l => c_X5_walk l 0 0 (s2.1 1 0 0) (s2.1 1 0 1) s2 q3 hq) zv_X5_walk lm_X11_132 rfl rfl rfl rfl rfl rfl (Nat.le_of_ble_eq_true rfl) ⟨Nat.le_of_ble_eq_true rfl, Nat.le_of_ble_eq_true rfl⟩ (zdg D_X11_tellWalkers 31 (71, .invokevirtual 132, 3) rfl) ?_
      refine z_aload_n (pc := 74) 0 (zdg D_X11_tellWalkers 32 (74, .aload_n 0, 1) rfl) rfl rfl ?_
      refine z_getR (pc := 75) (g := 2) (j := 0) lf_X11_19 rfl rfl rfl (zdg D_X11_tellWalkers 33 (75, .getfield 19, 3) rfl) ?_
      refine z_callV (pc := 78) (rest := []) (st2 := []) (fun l => c_X2_forget l q3) zv_X2_forget lm_X11_59 rfl rfl rfl rfl rfl rfl (Nat.le_of_ble_eq_true rfl) ⟨Nat.le_of_ble_eq_true rfl, Nat.le_of_ble_eq_true rfl⟩ (zdg D_X11_tellWalkers 34 (78, .invokevirtual 59, 3) rfl) ?_
      refine z_nmS hf (fun s4 hf => ?_)
      refine z_aload_n (pc := 81) 0 (zdg D_X11_tellWalkers 35 (81, .aload_n 0, 1) rfl) rfl rfl ?_
      refine z_getR (pc := 82) (g := 1) (j := 0) lf_X11_12 rfl rfl rfl (zdg D_X11_tellWalkers 36 (82, .getfield 12, 3) rfl) ?_
      refine z_getR (pc := 85) (g := 8) (j := 0) lf_X11_117 rfl rfl rfl (zdg D_X11_tellWalkers 37 (85, .getfield 117, 3) rfl) ?_
      refine z_getI (pc := 88) lf_X11_138 rfl rfl (zdg D_X11_tellWalkers 38 (88, .getfield 138, 3) rfl) ?_
      exact z_iret (pc := 91) rfl rfl (zdg D_X11_tellWalkers 39 (91, .ireturn, 1) rfl) (hP _ _ hf)
    · refine z_iconst (pc := 24) (v := -1) (zdg D_X11_tellWalkers 10 (24, .iconst (-1), 1) rfl) rfl ?_
      exact z_iret (pc := 25) rfl rfl (zdg D_X11_tellWalkers 11 (25, .ireturn, 1) rfl) (hP _ _ hf)

def L_X11_tellLaw : List (Nat × Instr × Nat) := [(0, .iload_n 2, 1), (1, .ifCond .ne 5, 3), (4, .iconst (-1), 1), (5, .ireturn, 1), (6, .aload_n 1, 1), (7, .aload_n 0, 1), (8, .getfield 35, 3), (11, .getfield 141, 3), (14, .invokevirtual 144, 3), (17, .aload_n 1, 1), (18, .getfield 149, 3), (21, .ireturn, 1)]
set_option maxRecDepth 100000 in
theorem D_X11_tellLaw : zdecs cX11_tellLaw L_X11_tellLaw = true := by decide +kernel
noncomputable def f_X11_tellLaw (p1 : Nat) (p2 : Int32) (σ : zG) : Int32 × zG :=
  if p2 = 0 then ((-1 : Int32), σ) else zb (f_X3_copyFrom p1 2 σ) (fun s1 => ((s1.1 10 p1 0), s1))
set_option maxRecDepth 100000 in
set_option maxHeartbeats 4000000 in
theorem c_X11_tellLaw (l : Launch) (p1 : Nat) (p2 : Int32) (σ : zG) : zMet l zsyC m_X11_tellLaw yX11_tellLaw [zR 0 0, zR 10 p1, zI p2] σ (some (zI (f_X11_tellLaw p1 p2 σ).1)) (f_X11_tellLaw p1 p2 σ).2 := by
  refine zEnter [(0, zR 0 0), (1, zR 10 p1), (2, zI p2)] (by decide) rfl (fun _ => Nat.le_of_ble_eq_true rfl) (fun _ => rfl) (fun w h => ?_) (fun K hv hs => ?_)
  · exact zokm rfl h
  · have hP : ∀ x s, f_X11_tellLaw p1 p2 σ = (x, s) → zKv K = some (zI x) ∧ zKs K = s := fun x s h => by rw [h] at hv hs; exact ⟨hv, hs⟩
    have hf := f_X11_tellLaw.eq_1 p1 p2 σ
    refine z_iload_n (pc := 0) 2 (zdg D_X11_tellLaw 0 (0, .iload_n 2, 1) rfl) rfl rfl ?_
    refine z_if_ne (pc := 1) 6 (zdg D_X11_tellLaw 1 (1, .ifCond .ne 5, 3) rfl) rfl hf (fun hf => ?_) (fun hf => ?_)
    · refine z_aload_n (pc := 6) 1 (zdg D_X11_tellLaw 4 (6, .aload_n 1, 1) rfl) rfl rfl ?_
      refine z_aload_n (pc := 7) 0 (zdg D_X11_tellLaw 5 (7, .aload_n 0, 1) rfl) rfl rfl ?_
      refine z_getR (pc := 8) (g := 4) (j := 0) lf_X11_35 rfl rfl rfl (zdg D_X11_tellLaw 6 (8, .getfield 35, 3) rfl) ?_
      refine z_getR (pc := 11) (g := 10) (j := 2) lf_X11_141 rfl rfl rfl (zdg D_X11_tellLaw 7 (11, .getfield 141, 3) rfl) ?_
      refine z_callV (pc := 14) (rest := []) (st2 := []) (fun l => c_X3_copyFrom l p1 2 σ) zv_X3_copyFrom lm_X11_144 rfl rfl rfl rfl rfl rfl (Nat.le_of_ble_eq_true rfl) ⟨Nat.le_of_ble_eq_true rfl, Nat.le_of_ble_eq_true rfl⟩ (zdg D_X11_tellLaw 8 (14, .invokevirtual 144, 3) rfl) ?_
      refine z_nmS hf (fun s1 hf => ?_)
      refine z_aload_n (pc := 17) 1 (zdg D_X11_tellLaw 9 (17, .aload_n 1, 1) rfl) rfl rfl ?_
      refine z_getI (pc := 18) lf_X11_149 rfl rfl (zdg D_X11_tellLaw 10 (18, .getfield 149, 3) rfl) ?_
      exact z_iret (pc := 21) rfl rfl (zdg D_X11_tellLaw 11 (21, .ireturn, 1) rfl) (hP _ _ hf)
    · refine z_iconst (pc := 4) (v := -1) (zdg D_X11_tellLaw 2 (4, .iconst (-1), 1) rfl) rfl ?_
      exact z_iret (pc := 5) rfl rfl (zdg D_X11_tellLaw 3 (5, .ireturn, 1) rfl) (hP _ _ hf)

def L_X11_text : List (Nat × Instr × Nat) := [(0, .iconst (-1), 1), (1, .istore_n 2, 1), (2, .aload_n 0, 1), (3, .getfield 35, 3), (6, .invokevirtual 89, 3), (9, .iload_n 1, 1), (10, .ifCond .ne 11, 3), (13, .aload_n 0, 1), (14, .invokevirtual 92, 3), (17, .istore_n 2, 1), (18, .goto 66, 3), (21, .iload_n 1, 1), (22, .iconst 1, 1), (23, .if_icmp .ne 31, 3), (26, .aload_n 0, 1), (27, .aload_n 0, 1), (28, .getfield 12, 3), (31, .getfield 96, 3), (34, .aload_n 0, 1), (35, .getfield 35, 3), (38, .bipush 108, 2), (40, .bipush 114, 2), (42, .bipush 117, 2), (44, .invokevirtual 100, 3), (47, .invokevirtual 104, 3), (50, .istore_n 2, 1), (51, .goto 33, 3), (54, .iload_n 1, 1), (55, .iconst 2, 1), (56, .if_icmp .ne 28, 3), (59, .aload_n 0, 1), (60, .aload_n 0, 1), (61, .getfield 12, 3), (64, .getfield 108, 3), (67, .aload_n 0, 1), (68, .getfield 35, 3), (71, .bipush 109, 2), (73, .bipush 117, 2), (75, .bipush 121, 2), (77, .invokevirtual 100, 3), (80, .invokevirtual 104, 3), (83, .istore_n 2, 1), (84, .aload_n 0, 1), (85, .getfield 26, 3), (88, .iconst 0, 1), (89, .putfield 82, 3), (92, .iload_n 2, 1), (93, .ireturn, 1)]
set_option maxRecDepth 100000 in
theorem D_X11_text : zdecs cX11_text L_X11_text = true := by decide +kernel
noncomputable def f_X11_text (p1 : Int32) (σ : zG) : Option (Int32 × zG) :=
  (f_X4_start σ).bind (fun q1 => if p1 = 0 then (f_X11_tellWalkers q1).bind (fun q9 => zb (zwI q9.2 3 0 1 (0 : Int32)) (fun s10 => some (q9.1, s10))) else if p1 = (1 : Int32) then (f_X4_readLaw (108 : Int32) (114 : Int32) (117 : Int32) q1).bind (fun q6 => zb (f_X11_tellLaw 0 q6.1 q6.2) (fun q7 => zb (zwI q7.2 3 0 1 (0 : Int32)) (fun s8 => some (q7.1, s8)))) else if p1 = (2 : Int32) then (f_X4_readLaw (109 : Int32) (117 : Int32) (121 : Int32) q1).bind (fun q3 => zb (f_X11_tellLaw 1 q3.1 q3.2) (fun q4 => zb (zwI q4.2 3 0 1 (0 : Int32)) (fun s5 => some (q4.1, s5)))) else zb (zwI q1 3 0 1 (0 : Int32)) (fun s2 => some ((-1 : Int32), s2)))
set_option maxRecDepth 100000 in
set_option maxHeartbeats 4000000 in
theorem c_X11_text (l : Launch) (p1 : Int32) (σ : zG) (q : Int32 × zG) (hq : f_X11_text p1 σ = some q) : zMet l zsyC m_X11_text yX11_text [zR 0 0, zI p1] σ (some (zI q.1)) q.2 := by
  refine zEnter [(0, zR 0 0), (1, zI p1)] (by decide) rfl (fun _ => Nat.le_of_ble_eq_true rfl) (fun _ => rfl) (fun w h => ?_) (fun K hv hs => ?_)
  · exact zokm rfl h
  · have hP : ∀ x s, f_X11_text p1 σ = some (x, s) → zKv K = some (zI x) ∧ zKs K = s := fun x s h => by rw [hq] at h; cases h; exact ⟨hv, hs⟩
    have hn : f_X11_text p1 σ ≠ none := fun z => by rw [hq] at z; cases z
    have hf := f_X11_text.eq_1 p1 σ
    refine z_iconst (pc := 0) (v := -1) (zdg D_X11_text 0 (0, .iconst (-1), 1) rfl) rfl ?_
    refine z_istore_n (pc := 1) (al' := [(2, zI (-1 : Int32)), (0, zR 0 0), (1, zI p1)]) (zdg D_X11_text 1 (1, .istore_n 2, 1) rfl) rfl (by decide) rfl ?_
    refine z_aload_n (pc := 2) 1 (zdg D_X11_text 2 (2, .aload_n 0, 1) rfl) rfl rfl ?_
    refine z_getR (pc := 3) (g := 4) (j := 0) lf_X11_35 rfl rfl rfl (zdg D_X11_text 3 (3, .getfield 35, 3) rfl) ?_
    refine z_bind hn hf (fun q1 hq hf => ?_)
    refine z_callV (pc := 6) (rest := []) (st2 := []) (fun l => c_X4_start l σ q1 hq) zv_X4_start lm_X11_89 rfl rfl rfl rfl rfl rfl (Nat.le_of_ble_eq_true rfl) ⟨Nat.le_of_ble_eq_true rfl, Nat.le_of_ble_eq_true rfl⟩ (zdg D_X11_text 4 (6, .invokevirtual 89, 3) rfl) ?_
    refine z_iload_n (pc := 9) 2 (zdg D_X11_text 5 (9, .iload_n 1, 1) rfl) rfl rfl ?_
    refine z_if_ne (pc := 10) 21 (zdg D_X11_text 6 (10, .ifCond .ne 11, 3) rfl) rfl hf (fun hf => ?_) (fun hf => ?_)
    · refine z_iload_n (pc := 21) 2 (zdg D_X11_text 11 (21, .iload_n 1, 1) rfl) rfl rfl ?_
      refine z_iconst (pc := 22) (v := 1) (zdg D_X11_text 12 (22, .iconst 1, 1) rfl) rfl ?_
      refine z_icmp_ne (pc := 23) 54 (zdg D_X11_text 13 (23, .if_icmp .ne 31, 3) rfl) rfl hf (fun hf => ?_) (fun hf => ?_)
      · refine z_iload_n (pc := 54) 2 (zdg D_X11_text 27 (54, .iload_n 1, 1) rfl) rfl rfl ?_
        refine z_iconst (pc := 55) (v := 2) (zdg D_X11_text 28 (55, .iconst 2, 1) rfl) rfl ?_
        refine z_icmp_ne (pc := 56) 84 (zdg D_X11_text 29 (56, .if_icmp .ne 28, 3) rfl) rfl hf (fun hf => ?_) (fun hf => ?_)
        · refine z_aload_n (pc := 84) 1 (zdg D_X11_text 42 (84, .aload_n 0, 1) rfl) rfl rfl ?_
          refine z_getR (pc := 85) (g := 3) (j := 0) lf_X11_26 rfl rfl rfl (zdg D_X11_text 43 (85, .getfield 26, 3) rfl) ?_
          refine z_iconst (pc := 88) (v := 0) (zdg D_X11_text 44 (88, .iconst 0, 1) rfl) rfl ?_
          refine z_putI (pc := 89) lw_X11_82 rfl rfl rfl rfl (zdg D_X11_text 45 (89, .putfield 82, 3) rfl) ?_
          refine z_nmS hf (fun s2 hf => ?_)
          refine z_iload_n (pc := 92) 0 (zdg D_X11_text 46 (92, .iload_n 2, 1) rfl) rfl rfl ?_
          exact z_iret (pc := 93) rfl rfl (zdg D_X11_text 47 (93, .ireturn, 1) rfl) (hP _ _ hf)
        · refine z_aload_n (pc := 59) 1 (zdg D_X11_text 30 (59, .aload_n 0, 1) rfl) rfl rfl ?_
          refine z_aload_n (pc := 60) 1 (zdg D_X11_text 31 (60, .aload_n 0, 1) rfl) rfl rfl ?_
          refine z_getR (pc := 61) (g := 1) (j := 0) lf_X11_12 rfl rfl rfl (zdg D_X11_text 32 (61, .getfield 12, 3) rfl) ?_
          refine z_getR (pc := 64) (g := 10) (j := 1) lf_X11_108 rfl rfl rfl (zdg D_X11_text 33 (64, .getfield 108, 3) rfl) ?_
          refine z_aload_n (pc := 67) 1 (zdg D_X11_text 34 (67, .aload_n 0, 1) rfl) rfl rfl ?_
          refine z_getR (pc := 68) (g := 4) (j := 0) lf_X11_35 rfl rfl rfl (zdg D_X11_text 35 (68, .getfield 35, 3) rfl) ?_
          refine z_bipush (pc := 71) (v := 109) (zdg D_X11_text 36 (71, .bipush 109, 2) rfl) rfl ?_
          refine z_bipush (pc := 73) (v := 117) (zdg D_X11_text 37 (73, .bipush 117, 2) rfl) rfl ?_
          refine z_bipush (pc := 75) (v := 121) (zdg D_X11_text 38 (75, .bipush 121, 2) rfl) rfl ?_
          refine z_bind hn hf (fun q3 hq hf => ?_)
          refine z_callV (pc := 77) (rest := [zR 10 1, zR 0 0]) (st2 := [zI q3.1, zR 10 1, zR 0 0]) (fun l => c_X4_readLaw l (109 : Int32) (117 : Int32) (121 : Int32) q1 q3 hq) zv_X4_readLaw lm_X11_100 rfl rfl rfl rfl rfl rfl (Nat.le_of_ble_eq_true rfl) ⟨Nat.le_of_ble_eq_true rfl, Nat.le_of_ble_eq_true rfl⟩ (zdg D_X11_text 39 (77, .invokevirtual 100, 3) rfl) ?_
          refine z_callV (pc := 80) (rest := []) (st2 := [zI ((f_X11_tellLaw 1 q3.1 q3.2).1)]) (fun l => c_X11_tellLaw l 1 q3.1 q3.2) zv_X11_tellLaw lm_X11_104 rfl rfl rfl rfl rfl rfl (Nat.le_of_ble_eq_true rfl) ⟨Nat.le_of_ble_eq_true rfl, Nat.le_of_ble_eq_true rfl⟩ (zdg D_X11_text 40 (80, .invokevirtual 104, 3) rfl) ?_
          refine z_nmWI hf (fun q4 hf => ?_)
          refine z_istore_n (pc := 83) (al' := [(2, zI q4.1), (0, zR 0 0), (1, zI p1)]) (zdg D_X11_text 41 (83, .istore_n 2, 1) rfl) rfl (by decide) rfl ?_
          refine z_aload_n (pc := 84) 1 (zdg D_X11_text 42 (84, .aload_n 0, 1) rfl) rfl rfl ?_
          refine z_getR (pc := 85) (g := 3) (j := 0) lf_X11_26 rfl rfl rfl (zdg D_X11_text 43 (85, .getfield 26, 3) rfl) ?_
          refine z_iconst (pc := 88) (v := 0) (zdg D_X11_text 44 (88, .iconst 0, 1) rfl) rfl ?_
          refine z_putI (pc := 89) lw_X11_82 rfl rfl rfl rfl (zdg D_X11_text 45 (89, .putfield 82, 3) rfl) ?_
          refine z_nmS hf (fun s5 hf => ?_)
          refine z_iload_n (pc := 92) 0 (zdg D_X11_text 46 (92, .iload_n 2, 1) rfl) rfl rfl ?_
          exact z_iret (pc := 93) rfl rfl (zdg D_X11_text 47 (93, .ireturn, 1) rfl) (hP _ _ hf)
      · refine z_aload_n (pc := 26) 1 (zdg D_X11_text 14 (26, .aload_n 0, 1) rfl) rfl rfl ?_
        refine z_aload_n (pc := 27) 1 (zdg D_X11_text 15 (27, .aload_n 0, 1) rfl) rfl rfl ?_
        refine z_getR (pc := 28) (g := 1) (j := 0) lf_X11_12 rfl rfl rfl (zdg D_X11_text 16 (28, .getfield 12, 3) rfl) ?_
        refine z_getR (pc := 31) (g := 10) (j := 0) lf_X11_96 rfl rfl rfl (zdg D_X11_text 17 (31, .getfield 96, 3) rfl) ?_
        refine z_aload_n (pc := 34) 1 (zdg D_X11_text 18 (34, .aload_n 0, 1) rfl) rfl rfl ?_
        refine z_getR (pc := 35) (g := 4) (j := 0) lf_X11_35 rfl rfl rfl (zdg D_X11_text 19 (35, .getfield 35, 3) rfl) ?_
        refine z_bipush (pc := 38) (v := 108) (zdg D_X11_text 20 (38, .bipush 108, 2) rfl) rfl ?_
        refine z_bipush (pc := 40) (v := 114) (zdg D_X11_text 21 (40, .bipush 114, 2) rfl) rfl ?_
        refine z_bipush (pc := 42) (v := 117) (zdg D_X11_text 22 (42, .bipush 117, 2) rfl) rfl ?_
        refine z_bind hn hf (fun q6 hq hf => ?_)
        refine z_callV (pc := 44) (rest := [zR 10 0, zR 0 0]) (st2 := [zI q6.1, zR 10 0, zR 0 0]) (fun l => c_X4_readLaw l (108 : Int32) (114 : Int32) (117 : Int32) q1 q6 hq) zv_X4_readLaw lm_X11_100 rfl rfl rfl rfl rfl rfl (Nat.le_of_ble_eq_true rfl) ⟨Nat.le_of_ble_eq_true rfl, Nat.le_of_ble_eq_true rfl⟩ (zdg D_X11_text 23 (44, .invokevirtual 100, 3) rfl) ?_
        refine z_callV (pc := 47) (rest := []) (st2 := [zI ((f_X11_tellLaw 0 q6.1 q6.2).1)]) (fun l => c_X11_tellLaw l 0 q6.1 q6.2) zv_X11_tellLaw lm_X11_104 rfl rfl rfl rfl rfl rfl (Nat.le_of_ble_eq_true rfl) ⟨Nat.le_of_ble_eq_true rfl, Nat.le_of_ble_eq_true rfl⟩ (zdg D_X11_text 24 (47, .invokevirtual 104, 3) rfl) ?_
        refine z_nmWI hf (fun q7 hf => ?_)
        refine z_istore_n (pc := 50) (al' := [(2, zI q7.1), (0, zR 0 0), (1, zI p1)]) (zdg D_X11_text 25 (50, .istore_n 2, 1) rfl) rfl (by decide) rfl ?_
        refine z_goto (pc := 51) 84 (zdg D_X11_text 26 (51, .goto 33, 3) rfl) rfl ?_
        refine z_aload_n (pc := 84) 1 (zdg D_X11_text 42 (84, .aload_n 0, 1) rfl) rfl rfl ?_
        refine z_getR (pc := 85) (g := 3) (j := 0) lf_X11_26 rfl rfl rfl (zdg D_X11_text 43 (85, .getfield 26, 3) rfl) ?_
        refine z_iconst (pc := 88) (v := 0) (zdg D_X11_text 44 (88, .iconst 0, 1) rfl) rfl ?_
        refine z_putI (pc := 89) lw_X11_82 rfl rfl rfl rfl (zdg D_X11_text 45 (89, .putfield 82, 3) rfl) ?_
        refine z_nmS hf (fun s8 hf => ?_)
        refine z_iload_n (pc := 92) 0 (zdg D_X11_text 46 (92, .iload_n 2, 1) rfl) rfl rfl ?_
        exact z_iret (pc := 93) rfl rfl (zdg D_X11_text 47 (93, .ireturn, 1) rfl) (hP _ _ hf)
    · refine z_aload_n (pc := 13) 1 (zdg D_X11_text 7 (13, .aload_n 0, 1) rfl) rfl rfl ?_
      refine z_bind hn hf (fun q9 hq hf => ?_)
      refine z_callV (pc := 14) (rest := []) (st2 := [zI q9.1]) (fun l => c_X11_tellWalkers l q1 q9 hq) zv_X11_tellWalkers lm_X11_92 rfl rfl rfl rfl rfl rfl (Nat.le_of_ble_eq_true rfl) ⟨Nat.le_of_ble_eq_true rfl, Nat.le_of_ble_eq_true rfl⟩ (zdg D_X11_text 8 (14, .invokevirtual 92, 3) rfl) ?_
      refine z_istore_n (pc := 17) (al' := [(2, zI q9.1), (0, zR 0 0), (1, zI p1)]) (zdg D_X11_text 9 (17, .istore_n 2, 1) rfl) rfl (by decide) rfl ?_
      refine z_goto (pc := 18) 84 (zdg D_X11_text 10 (18, .goto 66, 3) rfl) rfl ?_
      refine z_aload_n (pc := 84) 1 (zdg D_X11_text 42 (84, .aload_n 0, 1) rfl) rfl rfl ?_
      refine z_getR (pc := 85) (g := 3) (j := 0) lf_X11_26 rfl rfl rfl (zdg D_X11_text 43 (85, .getfield 26, 3) rfl) ?_
      refine z_iconst (pc := 88) (v := 0) (zdg D_X11_text 44 (88, .iconst 0, 1) rfl) rfl ?_
      refine z_putI (pc := 89) lw_X11_82 rfl rfl rfl rfl (zdg D_X11_text 45 (89, .putfield 82, 3) rfl) ?_
      refine z_nmS hf (fun s10 hf => ?_)
      refine z_iload_n (pc := 92) 0 (zdg D_X11_text 46 (92, .iload_n 2, 1) rfl) rfl rfl ?_
      exact z_iret (pc := 93) rfl rfl (zdg D_X11_text 47 (93, .ireturn, 1) rfl) (hP _ _ hf)

def L_X11_fault : List (Nat × Instr × Nat) := [(0, .iload_n 1, 1), (1, .ifCond .ne 11, 3), (4, .aload_n 0, 1), (5, .getfield 35, 3), (8, .getfield 152, 3), (11, .ireturn, 1), (12, .iload_n 1, 1), (13, .iconst 1, 1), (14, .if_icmp .ne 13, 3), (17, .aload_n 0, 1), (18, .getfield 35, 3), (21, .getfield 155, 3), (24, .goto 4, 3), (27, .iconst (-1), 1), (28, .ireturn, 1)]
set_option maxRecDepth 100000 in
theorem D_X11_fault : zdecs cX11_fault L_X11_fault = true := by decide +kernel
noncomputable def f_X11_fault (p1 : Int32) (σ : zG) : Int32 :=
  if p1 = 0 then (σ.1 4 0 3) else if p1 = (1 : Int32) then (σ.1 4 0 4) else (-1 : Int32)
set_option maxRecDepth 100000 in
set_option maxHeartbeats 4000000 in
theorem c_X11_fault (l : Launch) (p1 : Int32) (σ : zG) : zMet l zsyC m_X11_fault yX11_fault [zR 0 0, zI p1] σ (some (zI (f_X11_fault p1 σ))) σ := by
  refine zEnter [(0, zR 0 0), (1, zI p1)] (by decide) rfl (fun _ => Nat.le_of_ble_eq_true rfl) (fun _ => rfl) (fun w h => ?_) (fun K hv hs => ?_)
  · exact zokm rfl h
  · have hP : ∀ x, f_X11_fault p1 σ = x → zKv K = some (zI x) ∧ zKs K = σ := fun x h => by rw [h] at hv; exact ⟨hv, hs⟩
    have hf := f_X11_fault.eq_1 p1 σ
    refine z_iload_n (pc := 0) 1 (zdg D_X11_fault 0 (0, .iload_n 1, 1) rfl) rfl rfl ?_
    refine z_if_ne (pc := 1) 12 (zdg D_X11_fault 1 (1, .ifCond .ne 11, 3) rfl) rfl hf (fun hf => ?_) (fun hf => ?_)
    · refine z_iload_n (pc := 12) 1 (zdg D_X11_fault 6 (12, .iload_n 1, 1) rfl) rfl rfl ?_
      refine z_iconst (pc := 13) (v := 1) (zdg D_X11_fault 7 (13, .iconst 1, 1) rfl) rfl ?_
      refine z_icmp_ne (pc := 14) 27 (zdg D_X11_fault 8 (14, .if_icmp .ne 13, 3) rfl) rfl hf (fun hf => ?_) (fun hf => ?_)
      · refine z_iconst (pc := 27) (v := -1) (zdg D_X11_fault 13 (27, .iconst (-1), 1) rfl) rfl ?_
        exact z_iret (pc := 28) rfl rfl (zdg D_X11_fault 14 (28, .ireturn, 1) rfl) (hP _ hf)
      · refine z_aload_n (pc := 17) 0 (zdg D_X11_fault 9 (17, .aload_n 0, 1) rfl) rfl rfl ?_
        refine z_getR (pc := 18) (g := 4) (j := 0) lf_X11_35 rfl rfl rfl (zdg D_X11_fault 10 (18, .getfield 35, 3) rfl) ?_
        refine z_getI (pc := 21) lf_X11_155 rfl rfl (zdg D_X11_fault 11 (21, .getfield 155, 3) rfl) ?_
        refine z_goto (pc := 24) 28 (zdg D_X11_fault 12 (24, .goto 4, 3) rfl) rfl ?_
        exact z_iret (pc := 28) rfl rfl (zdg D_X11_fault 14 (28, .ireturn, 1) rfl) (hP _ hf)
    · refine z_aload_n (pc := 4) 0 (zdg D_X11_fault 2 (4, .aload_n 0, 1) rfl) rfl rfl ?_
      refine z_getR (pc := 5) (g := 4) (j := 0) lf_X11_35 rfl rfl rfl (zdg D_X11_fault 3 (5, .getfield 35, 3) rfl) ?_
      refine z_getI (pc := 8) lf_X11_152 rfl rfl (zdg D_X11_fault 4 (8, .getfield 152, 3) rfl) ?_
      exact z_iret (pc := 11) rfl rfl (zdg D_X11_fault 5 (11, .ireturn, 1) rfl) (hP _ hf)

def L_X11_minutes : List (Nat × Instr × Nat) := [(0, .iload_n 1, 1), (1, .iconst 1, 1), (2, .if_icmp .lt 24, 3), (5, .iload_n 1, 1), (6, .bipush 100, 2), (8, .if_icmp .gt 18, 3), (11, .aload_n 0, 1), (12, .getfield 12, 3), (15, .getfield 158, 3), (18, .sipush 500, 3), (21, .iload_n 1, 1), (22, .isub, 1), (23, .if_icmp .le 5, 3), (26, .iconst (-1), 1), (27, .ireturn, 1), (28, .iconst 0, 1), (29, .istore_n 2, 1), (30, .iconst 0, 1), (31, .istore_n 3, 1), (32, .iload_n 3, 1), (33, .iload_n 1, 1), (34, .if_icmp .ge 33, 3), (37, .aload_n 0, 1), (38, .getfield 19, 3), (41, .aload_n 0, 1), (42, .getfield 12, 3), (45, .invokevirtual 79, 3), (48, .aload_n 0, 1), (49, .getfield 12, 3), (52, .invokevirtual 161, 3), (55, .ifCond .eq 6, 3), (58, .iinc 2 1, 3), (61, .iinc 3 1, 3), (64, .goto (-32), 3), (67, .iload_n 2, 1), (68, .ireturn, 1)]
set_option maxRecDepth 100000 in
theorem D_X11_minutes : zdecs cX11_minutes L_X11_minutes = true := by decide +kernel
noncomputable def b_X11_minutes_32 (p1 : Int32) (v2_1 : Int32) (v3_2 : Int32) (s3 : zG) : Option ((Int32 × Int32 × zG) ⊕ (Int32 × zG)) :=
  if v3_2 < p1 then (f_X2_keep 0 s3).bind (fun q4 => (f_X1_passMinute 0 q4).bind (fun q5 => if q5.1 = 0 then some (Sum.inl (v2_1, (v3_2 + 1), q5.2)) else some (Sum.inl ((v2_1 + 1), (v3_2 + 1), q5.2)))) else some (Sum.inr (v2_1, s3))
noncomputable def f_X11_minutes (p1 : Int32) (σ : zG) : Option (Int32 × zG) :=
  if (1 : Int32) ≤ p1 then if p1 ≤ (100 : Int32) then if ((500 : Int32) - p1) < (σ.1 1 0 3) then some ((-1 : Int32), σ) else (zlp (fun q : Int32 × Int32 × zG => b_X11_minutes_32 p1 q.1 q.2.1 q.2.2) ((0 : Int32), (0 : Int32), σ)).bind (fun e6 : Int32 × zG => some (e6.1, e6.2)) else some ((-1 : Int32), σ) else some ((-1 : Int32), σ)
set_option maxRecDepth 100000 in
set_option maxHeartbeats 4000000 in
theorem c_X11_minutes (l : Launch) (p1 : Int32) (σ : zG) (q : Int32 × zG) (hq : f_X11_minutes p1 σ = some q) : zMet l zsyC m_X11_minutes yX11_minutes [zR 0 0, zI p1] σ (some (zI q.1)) q.2 := by
  refine zEnter [(0, zR 0 0), (1, zI p1)] (by decide) rfl (fun _ => Nat.le_of_ble_eq_true rfl) (fun _ => rfl) (fun w h => ?_) (fun K hv hs => ?_)
  · exact zokm rfl h
  · have hP : ∀ x s, f_X11_minutes p1 σ = some (x, s) → zKv K = some (zI x) ∧ zKs K = s := fun x s h => by rw [hq] at h; cases h; exact ⟨hv, hs⟩
    have hn : f_X11_minutes p1 σ ≠ none := fun z => by rw [hq] at z; cases z
    have hf := f_X11_minutes.eq_1 p1 σ
    refine z_iload_n (pc := 0) 1 (zdg D_X11_minutes 0 (0, .iload_n 1, 1) rfl) rfl rfl ?_
    refine z_iconst (pc := 1) (v := 1) (zdg D_X11_minutes 1 (1, .iconst 1, 1) rfl) rfl ?_
    refine z_icmp_lt (pc := 2) 26 (zdg D_X11_minutes 2 (2, .if_icmp .lt 24, 3) rfl) rfl hf (fun hf => ?_) (fun hf => ?_)
    · refine z_iconst (pc := 26) (v := -1) (zdg D_X11_minutes 13 (26, .iconst (-1), 1) rfl) rfl ?_
      exact z_iret (pc := 27) rfl rfl (zdg D_X11_minutes 14 (27, .ireturn, 1) rfl) (hP _ _ hf)
    · refine z_iload_n (pc := 5) 1 (zdg D_X11_minutes 3 (5, .iload_n 1, 1) rfl) rfl rfl ?_
      refine z_bipush (pc := 6) (v := 100) (zdg D_X11_minutes 4 (6, .bipush 100, 2) rfl) rfl ?_
      refine z_icmp_gt (pc := 8) 26 (zdg D_X11_minutes 5 (8, .if_icmp .gt 18, 3) rfl) rfl hf (fun hf => ?_) (fun hf => ?_)
      · refine z_iconst (pc := 26) (v := -1) (zdg D_X11_minutes 13 (26, .iconst (-1), 1) rfl) rfl ?_
        exact z_iret (pc := 27) rfl rfl (zdg D_X11_minutes 14 (27, .ireturn, 1) rfl) (hP _ _ hf)
      · refine z_aload_n (pc := 11) 0 (zdg D_X11_minutes 6 (11, .aload_n 0, 1) rfl) rfl rfl ?_
        refine z_getR (pc := 12) (g := 1) (j := 0) lf_X11_12 rfl rfl rfl (zdg D_X11_minutes 7 (12, .getfield 12, 3) rfl) ?_
        refine z_getI (pc := 15) lf_X11_158 rfl rfl (zdg D_X11_minutes 8 (15, .getfield 158, 3) rfl) ?_
        refine z_sipush (pc := 18) (v := 500) (zdg D_X11_minutes 9 (18, .sipush 500, 3) rfl) rfl ?_
        refine z_iload_n (pc := 21) 1 (zdg D_X11_minutes 10 (21, .iload_n 1, 1) rfl) rfl rfl ?_
        refine z_isub (pc := 22) (zdg D_X11_minutes 11 (22, .isub, 1) rfl) ?_
        refine z_icmp_le (pc := 23) 28 (zdg D_X11_minutes 12 (23, .if_icmp .le 5, 3) rfl) rfl hf (fun hf => ?_) (fun hf => ?_)
        · refine z_iconst (pc := 28) (v := 0) (zdg D_X11_minutes 15 (28, .iconst 0, 1) rfl) rfl ?_
          refine z_istore_n (pc := 29) (al' := [(2, zI (0 : Int32)), (0, zR 0 0), (1, zI p1)]) (zdg D_X11_minutes 16 (29, .istore_n 2, 1) rfl) rfl (by decide) rfl ?_
          refine z_iconst (pc := 30) (v := 0) (zdg D_X11_minutes 17 (30, .iconst 0, 1) rfl) rfl ?_
          refine z_istore_n (pc := 31) (al' := [(3, zI (0 : Int32)), (2, zI (0 : Int32)), (0, zR 0 0), (1, zI p1)]) (zdg D_X11_minutes 18 (31, .istore_n 3, 1) rfl) rfl (by decide) rfl ?_
          refine z_sub (al' := [(0, zR 0 0), (1, zI p1), (2, zI (0 : Int32)), (3, zI (0 : Int32))]) [2, 3, 1, 0] rfl ?_
          refine z_loop (f := (fun q : Int32 × Int32 × zG => b_X11_minutes_32 p1 q.1 q.2.1 q.2.2)) (a := ((0 : Int32), (0 : Int32), σ)) (fun q : Int32 × Int32 × zG => zX zsyC m_X11_minutes K 32 [(0, zR 0 0), (1, zI p1), (2, zI q.1), (3, zI q.2.1)] [] q.2.2) (fun e6 : Int32 × zG => zX zsyC m_X11_minutes K 67 [(2, zI e6.1)] [] e6.2) hn hf ?_ ?_
          · intro e6 hf
            refine z_iload_n (pc := 67) 0 (zdg D_X11_minutes 34 (67, .iload_n 2, 1) rfl) rfl rfl ?_
            exact z_iret (pc := 68) rfl rfl (zdg D_X11_minutes 35 (68, .ireturn, 1) rfl) (hP _ _ hf)
          · rintro ⟨v2_1, v3_2, s3⟩ hn hi hx
            have hf := b_X11_minutes_32.eq_1 p1 v2_1 v3_2 s3
            refine z_iload_n (pc := 32) 3 (zdg D_X11_minutes 19 (32, .iload_n 3, 1) rfl) rfl rfl ?_
            refine z_iload_n (pc := 33) 1 (zdg D_X11_minutes 20 (33, .iload_n 1, 1) rfl) rfl rfl ?_
            refine z_icmp_ge (pc := 34) 67 (zdg D_X11_minutes 21 (34, .if_icmp .ge 33, 3) rfl) rfl hf (fun hf => ?_) (fun hf => ?_)
            · refine z_sub (al' := [(2, zI v2_1)]) [2] rfl ?_
              exact hx (v2_1, s3) hf
            · refine z_aload_n (pc := 37) 0 (zdg D_X11_minutes 22 (37, .aload_n 0, 1) rfl) rfl rfl ?_
              refine z_getR (pc := 38) (g := 2) (j := 0) lf_X11_19 rfl rfl rfl (zdg D_X11_minutes 23 (38, .getfield 19, 3) rfl) ?_
              refine z_aload_n (pc := 41) 0 (zdg D_X11_minutes 24 (41, .aload_n 0, 1) rfl) rfl rfl ?_
              refine z_getR (pc := 42) (g := 1) (j := 0) lf_X11_12 rfl rfl rfl (zdg D_X11_minutes 25 (42, .getfield 12, 3) rfl) ?_
              refine z_bind hn hf (fun q4 hq hf => ?_)
              refine z_callV (pc := 45) (rest := []) (st2 := []) (fun l => c_X2_keep l 0 s3 q4 hq) zv_X2_keep lm_X11_79 rfl rfl rfl rfl rfl rfl (Nat.le_of_ble_eq_true rfl) ⟨Nat.le_of_ble_eq_true rfl, Nat.le_of_ble_eq_true rfl⟩ (zdg D_X11_minutes 26 (45, .invokevirtual 79, 3) rfl) ?_
              refine z_aload_n (pc := 48) 0 (zdg D_X11_minutes 27 (48, .aload_n 0, 1) rfl) rfl rfl ?_
              refine z_getR (pc := 49) (g := 1) (j := 0) lf_X11_12 rfl rfl rfl (zdg D_X11_minutes 28 (49, .getfield 12, 3) rfl) ?_
              refine z_bind hn hf (fun q5 hq hf => ?_)
              refine z_callV (pc := 52) (rest := []) (st2 := [zI q5.1]) (fun l => c_X1_passMinute l 0 q4 q5 hq) zv_X1_passMinute lm_X11_161 rfl rfl rfl rfl rfl rfl (Nat.le_of_ble_eq_true rfl) ⟨Nat.le_of_ble_eq_true rfl, Nat.le_of_ble_eq_true rfl⟩ (zdg D_X11_minutes 29 (52, .invokevirtual 161, 3) rfl) ?_
              refine z_if_eq (pc := 55) 61 (zdg D_X11_minutes 30 (55, .ifCond .eq 6, 3) rfl) rfl hf (fun hf => ?_) (fun hf => ?_)
              · refine z_iinc (pc := 61) (v0 := (v3_2 + 1)) (al' := [(3, zI (v3_2 + 1)), (0, zR 0 0), (1, zI p1), (2, zI v2_1)]) 3 (zdg D_X11_minutes 32 (61, .iinc 3 1, 3) rfl) rfl rfl (by decide) rfl ?_
                refine z_goto (pc := 64) 32 (zdg D_X11_minutes 33 (64, .goto (-32), 3) rfl) rfl ?_
                refine z_sub (al' := [(0, zR 0 0), (1, zI p1), (2, zI v2_1), (3, zI (v3_2 + 1))]) [1, 2, 3, 0] rfl ?_
                exact hi (v2_1, (v3_2 + 1), q5.2) hf
              · refine z_iinc (pc := 58) (v0 := (v2_1 + 1)) (al' := [(2, zI (v2_1 + 1)), (0, zR 0 0), (1, zI p1), (3, zI v3_2)]) 2 (zdg D_X11_minutes 31 (58, .iinc 2 1, 3) rfl) rfl rfl (by decide) rfl ?_
                refine z_iinc (pc := 61) (v0 := (v3_2 + 1)) (al' := [(3, zI (v3_2 + 1)), (2, zI (v2_1 + 1)), (0, zR 0 0), (1, zI p1)]) 3 (zdg D_X11_minutes 32 (61, .iinc 3 1, 3) rfl) rfl rfl (by decide) rfl ?_
                refine z_goto (pc := 64) 32 (zdg D_X11_minutes 33 (64, .goto (-32), 3) rfl) rfl ?_
                refine z_sub (al' := [(0, zR 0 0), (1, zI p1), (2, zI (v2_1 + 1)), (3, zI (v3_2 + 1))]) [2, 3, 1, 0] rfl ?_
                exact hi ((v2_1 + 1), (v3_2 + 1), q5.2) hf
        · refine z_iconst (pc := 26) (v := -1) (zdg D_X11_minutes 13 (26, .iconst (-1), 1) rfl) rfl ?_
          exact z_iret (pc := 27) rfl rfl (zdg D_X11_minutes 14 (27, .ireturn, 1) rfl) (hP _ _ hf)

def L_X11_shoot : List (Nat × Instr × Nat) := [(0, .aload_n 0, 1), (1, .getfield 12, 3), (4, .invokevirtual 165, 3), (7, .astore_n 1, 1), (8, .aload_n 1, 1), (9, .ifnonnull 5, 3), (12, .iconst (-1), 1), (13, .ireturn, 1), (14, .aload_n 0, 1), (15, .getfield 19, 3), (18, .aload_n 0, 1), (19, .getfield 12, 3), (22, .invokevirtual 79, 3), (25, .aload_n 0, 1), (26, .getfield 12, 3), (29, .aload_n 1, 1), (30, .invokevirtual 169, 3), (33, .ireturn, 1)]
set_option maxRecDepth 100000 in
theorem D_X11_shoot : zdecs cX11_shoot L_X11_shoot = true := by decide +kernel
noncomputable def f_X11_shoot (σ : zG) : Option (Int32 × zG) :=
  (f_X1_nextShot 0 σ).bind (fun q1 => zoc q1 (some ((-1 : Int32), σ)) (fun k2 => (f_X2_keep 0 σ).bind (fun q3 => (f_X1_take 0 k2 q3).bind (fun q4 => some (q4.1, q4.2)))))
set_option maxRecDepth 100000 in
set_option maxHeartbeats 4000000 in
theorem c_X11_shoot (l : Launch)  (σ : zG) (q : Int32 × zG) (hq : f_X11_shoot σ = some q) : zMet l zsyC m_X11_shoot yX11_shoot [zR 0 0] σ (some (zI q.1)) q.2 := by
  refine zEnter [(0, zR 0 0)] (by decide) rfl (fun _ => Nat.le_of_ble_eq_true rfl) (fun _ => rfl) (fun w h => ?_) (fun K hv hs => ?_)
  · exact zokm rfl h
  · have hP : ∀ x s, f_X11_shoot σ = some (x, s) → zKv K = some (zI x) ∧ zKs K = s := fun x s h => by rw [hq] at h; cases h; exact ⟨hv, hs⟩
    have hn : f_X11_shoot σ ≠ none := fun z => by rw [hq] at z; cases z
    have hf := f_X11_shoot.eq_1 σ
    refine z_aload_n (pc := 0) 0 (zdg D_X11_shoot 0 (0, .aload_n 0, 1) rfl) rfl rfl ?_
    refine z_getR (pc := 1) (g := 1) (j := 0) lf_X11_12 rfl rfl rfl (zdg D_X11_shoot 1 (1, .getfield 12, 3) rfl) ?_
    refine z_bind hn hf (fun q1 hq hf => ?_)
    refine z_callV (pc := 4) (rest := []) (st2 := [zQ 11 q1]) (fun l => c_X1_nextShot l 0 σ q1 hq) zv_X1_nextShot lm_X11_165 rfl rfl rfl rfl rfl rfl (Nat.le_of_ble_eq_true rfl) ⟨Nat.le_of_ble_eq_true rfl, Nat.le_of_ble_eq_true rfl⟩ (zdg D_X11_shoot 2 (4, .invokevirtual 165, 3) rfl) ?_
    refine z_astore_n (pc := 7) (al' := [(1, zQ 11 q1), (0, zR 0 0)]) (zdg D_X11_shoot 3 (7, .astore_n 1, 1) rfl) rfl (by decide) rfl ?_
    refine z_aload_n (pc := 8) 0 (zdg D_X11_shoot 4 (8, .aload_n 1, 1) rfl) rfl rfl ?_
    refine z_ifnonnull (pc := 9) (al := fun o => [(1, zQ 11 o), (0, zR 0 0)]) (as := fun o => []) 14 q1 (zdg D_X11_shoot 5 (9, .ifnonnull 5, 3) rfl) rfl hf (fun hf => ?_) (fun k2 hf => ?_)
    · refine z_iconst (pc := 12) (v := -1) (zdg D_X11_shoot 6 (12, .iconst (-1), 1) rfl) rfl ?_
      exact z_iret (pc := 13) rfl rfl (zdg D_X11_shoot 7 (13, .ireturn, 1) rfl) (hP _ _ hf)
    · refine z_aload_n (pc := 14) 1 (zdg D_X11_shoot 8 (14, .aload_n 0, 1) rfl) rfl rfl ?_
      refine z_getR (pc := 15) (g := 2) (j := 0) lf_X11_19 rfl rfl rfl (zdg D_X11_shoot 9 (15, .getfield 19, 3) rfl) ?_
      refine z_aload_n (pc := 18) 1 (zdg D_X11_shoot 10 (18, .aload_n 0, 1) rfl) rfl rfl ?_
      refine z_getR (pc := 19) (g := 1) (j := 0) lf_X11_12 rfl rfl rfl (zdg D_X11_shoot 11 (19, .getfield 12, 3) rfl) ?_
      refine z_bind hn hf (fun q3 hq hf => ?_)
      refine z_callV (pc := 22) (rest := []) (st2 := []) (fun l => c_X2_keep l 0 σ q3 hq) zv_X2_keep lm_X11_79 rfl rfl rfl rfl rfl rfl (Nat.le_of_ble_eq_true rfl) ⟨Nat.le_of_ble_eq_true rfl, Nat.le_of_ble_eq_true rfl⟩ (zdg D_X11_shoot 12 (22, .invokevirtual 79, 3) rfl) ?_
      refine z_aload_n (pc := 25) 1 (zdg D_X11_shoot 13 (25, .aload_n 0, 1) rfl) rfl rfl ?_
      refine z_getR (pc := 26) (g := 1) (j := 0) lf_X11_12 rfl rfl rfl (zdg D_X11_shoot 14 (26, .getfield 12, 3) rfl) ?_
      refine z_aload_n (pc := 29) 0 (zdg D_X11_shoot 15 (29, .aload_n 1, 1) rfl) rfl rfl ?_
      refine z_bind hn hf (fun q4 hq hf => ?_)
      refine z_callV (pc := 30) (rest := []) (st2 := [zI q4.1]) (fun l => c_X1_take l 0 k2 q3 q4 hq) zv_X1_take lm_X11_169 rfl rfl rfl rfl rfl rfl (Nat.le_of_ble_eq_true rfl) ⟨Nat.le_of_ble_eq_true rfl, Nat.le_of_ble_eq_true rfl⟩ (zdg D_X11_shoot 16 (30, .invokevirtual 169, 3) rfl) ?_
      exact z_iret (pc := 33) rfl rfl (zdg D_X11_shoot 17 (33, .ireturn, 1) rfl) (hP _ _ hf)

def L_X11_of : List (Nat × Instr × Nat) := [(0, .aload_n 0, 1), (1, .getfield 12, 3), (4, .iload_n 1, 1), (5, .invokevirtual 173, 3), (8, .ifCond .ne 6, 3), (11, .bipush (-2), 2), (13, .ireturn, 1), (14, .iload_n 2, 1), (15, .tableswitch 103 0 4 #[33, 46, 59, 72, 84], 33), (48, .aload_n 0, 1), (49, .getfield 12, 3), (52, .getfield 117, 3), (55, .getfield 177, 3), (58, .iload_n 1, 1), (59, .iaload, 1), (60, .ireturn, 1), (61, .aload_n 0, 1), (62, .getfield 12, 3), (65, .getfield 117, 3), (68, .getfield 181, 3), (71, .iload_n 1, 1), (72, .iaload, 1), (73, .ireturn, 1), (74, .aload_n 0, 1), (75, .getfield 12, 3), (78, .getfield 117, 3), (81, .getfield 184, 3), (84, .iload_n 1, 1), (85, .iaload, 1), (86, .ireturn, 1), (87, .aload_n 0, 1), (88, .getfield 12, 3), (91, .getfield 128, 3), (94, .iload_n 1, 1), (95, .invokevirtual 187, 3), (98, .ireturn, 1), (99, .aload_n 0, 1), (100, .getfield 12, 3), (103, .getfield 128, 3), (106, .iload_n 1, 1), (107, .aload_n 0, 1), (108, .getfield 12, 3), (111, .getfield 158, 3), (114, .invokevirtual 191, 3), (117, .ireturn, 1), (118, .bipush (-2), 2), (120, .ireturn, 1)]
set_option maxRecDepth 100000 in
theorem D_X11_of : zdecs cX11_of L_X11_of = true := by decide +kernel
noncomputable def f_X11_of (p1 : Int32) (p2 : Int32) (σ : zG) : Option (Int32) :=
  if (f_X1_isWalker 0 p1 σ) = 0 then some (-2 : Int32) else if p2 = 0 then zg (zin p1 12) (some (σ.1 15 0 p1.toNatClampNeg)) else if p2 = 1 then zg (zin p1 12) (some (σ.1 16 0 p1.toNatClampNeg)) else if p2 = 2 then zg (zin p1 12) (some (σ.1 17 0 p1.toNatClampNeg)) else if p2 = 3 then (f_X5_minutesThere 0 p1 σ).bind (fun q1 => some q1) else if p2 = 4 then (f_X5_spotIn 0 p1 (σ.1 1 0 3) σ).bind (fun q2 => some q2) else some (-2 : Int32)
set_option maxRecDepth 100000 in
set_option maxHeartbeats 4000000 in
theorem c_X11_of (l : Launch) (p1 : Int32) (p2 : Int32) (σ : zG) (q : Int32) (hq : f_X11_of p1 p2 σ = some q) : zMet l zsyC m_X11_of yX11_of [zR 0 0, zI p1, zI p2] σ (some (zI q)) σ := by
  refine zEnter [(0, zR 0 0), (1, zI p1), (2, zI p2)] (by decide) rfl (fun _ => Nat.le_of_ble_eq_true rfl) (fun _ => rfl) (fun w h => ?_) (fun K hv hs => ?_)
  · exact zokm rfl h
  · have hP : ∀ x, f_X11_of p1 p2 σ = some x → zKv K = some (zI x) ∧ zKs K = σ := fun x h => by rw [hq] at h; cases h; exact ⟨hv, hs⟩
    have hn : f_X11_of p1 p2 σ ≠ none := fun z => by rw [hq] at z; cases z
    have hf := f_X11_of.eq_1 p1 p2 σ
    refine z_aload_n (pc := 0) 0 (zdg D_X11_of 0 (0, .aload_n 0, 1) rfl) rfl rfl ?_
    refine z_getR (pc := 1) (g := 1) (j := 0) lf_X11_12 rfl rfl rfl (zdg D_X11_of 1 (1, .getfield 12, 3) rfl) ?_
    refine z_iload_n (pc := 4) 1 (zdg D_X11_of 2 (4, .iload_n 1, 1) rfl) rfl rfl ?_
    refine z_callV (pc := 5) (rest := []) (st2 := [zI (f_X1_isWalker 0 p1 σ)]) (fun l => c_X1_isWalker l 0 p1 σ) zv_X1_isWalker lm_X11_173 rfl rfl rfl rfl rfl rfl (Nat.le_of_ble_eq_true rfl) ⟨Nat.le_of_ble_eq_true rfl, Nat.le_of_ble_eq_true rfl⟩ (zdg D_X11_of 3 (5, .invokevirtual 173, 3) rfl) ?_
    refine z_if_ne (pc := 8) 14 (zdg D_X11_of 4 (8, .ifCond .ne 6, 3) rfl) rfl hf (fun hf => ?_) (fun hf => ?_)
    · refine z_iload_n (pc := 14) 2 (zdg D_X11_of 7 (14, .iload_n 2, 1) rfl) rfl rfl ?_
      refine zif hf (fun hc0 hf => ?_) (fun hc0 hf => ?_)
      · refine z_tsIn (pc := 15) (c := 0) (j := 0) 48 (zdg D_X11_of 8 (15, .tableswitch 103 0 4 #[33, 46, 59, 72, 84], 33) rfl) hc0 (by decide) (by decide) rfl rfl rfl ?_
        refine z_aload_n (pc := 48) 0 (zdg D_X11_of 9 (48, .aload_n 0, 1) rfl) rfl rfl ?_
        refine z_getR (pc := 49) (g := 1) (j := 0) lf_X11_12 rfl rfl rfl (zdg D_X11_of 10 (49, .getfield 12, 3) rfl) ?_
        refine z_getR (pc := 52) (g := 8) (j := 0) lf_X11_117 rfl rfl rfl (zdg D_X11_of 11 (52, .getfield 117, 3) rfl) ?_
        refine z_getR (pc := 55) (g := 15) (j := 0) lf_X11_177 rfl rfl rfl (zdg D_X11_of 12 (55, .getfield 177, 3) rfl) ?_
        refine z_iload_n (pc := 58) 1 (zdg D_X11_of 13 (58, .iload_n 1, 1) rfl) rfl rfl ?_
        refine z_iald (pc := 59) rfl (fun _ => rfl) (zdg D_X11_of 14 (59, .iaload, 1) rfl) hn hf (fun hf => ?_)
        exact z_iret (pc := 60) rfl rfl (zdg D_X11_of 15 (60, .ireturn, 1) rfl) (hP _ hf)
      · skip
        refine zif hf (fun hc1 hf => ?_) (fun hc1 hf => ?_)
        · refine z_tsIn (pc := 15) (c := 1) (j := 1) 61 (zdg D_X11_of 8 (15, .tableswitch 103 0 4 #[33, 46, 59, 72, 84], 33) rfl) hc1 (by decide) (by decide) rfl rfl rfl ?_
          refine z_aload_n (pc := 61) 0 (zdg D_X11_of 16 (61, .aload_n 0, 1) rfl) rfl rfl ?_
          refine z_getR (pc := 62) (g := 1) (j := 0) lf_X11_12 rfl rfl rfl (zdg D_X11_of 17 (62, .getfield 12, 3) rfl) ?_
          refine z_getR (pc := 65) (g := 8) (j := 0) lf_X11_117 rfl rfl rfl (zdg D_X11_of 18 (65, .getfield 117, 3) rfl) ?_
          refine z_getR (pc := 68) (g := 16) (j := 0) lf_X11_181 rfl rfl rfl (zdg D_X11_of 19 (68, .getfield 181, 3) rfl) ?_
          refine z_iload_n (pc := 71) 1 (zdg D_X11_of 20 (71, .iload_n 1, 1) rfl) rfl rfl ?_
          refine z_iald (pc := 72) rfl (fun _ => rfl) (zdg D_X11_of 21 (72, .iaload, 1) rfl) hn hf (fun hf => ?_)
          exact z_iret (pc := 73) rfl rfl (zdg D_X11_of 22 (73, .ireturn, 1) rfl) (hP _ hf)
        · skip
          refine zif hf (fun hc2 hf => ?_) (fun hc2 hf => ?_)
          · refine z_tsIn (pc := 15) (c := 2) (j := 2) 74 (zdg D_X11_of 8 (15, .tableswitch 103 0 4 #[33, 46, 59, 72, 84], 33) rfl) hc2 (by decide) (by decide) rfl rfl rfl ?_
            refine z_aload_n (pc := 74) 0 (zdg D_X11_of 23 (74, .aload_n 0, 1) rfl) rfl rfl ?_
            refine z_getR (pc := 75) (g := 1) (j := 0) lf_X11_12 rfl rfl rfl (zdg D_X11_of 24 (75, .getfield 12, 3) rfl) ?_
            refine z_getR (pc := 78) (g := 8) (j := 0) lf_X11_117 rfl rfl rfl (zdg D_X11_of 25 (78, .getfield 117, 3) rfl) ?_
            refine z_getR (pc := 81) (g := 17) (j := 0) lf_X11_184 rfl rfl rfl (zdg D_X11_of 26 (81, .getfield 184, 3) rfl) ?_
            refine z_iload_n (pc := 84) 1 (zdg D_X11_of 27 (84, .iload_n 1, 1) rfl) rfl rfl ?_
            refine z_iald (pc := 85) rfl (fun _ => rfl) (zdg D_X11_of 28 (85, .iaload, 1) rfl) hn hf (fun hf => ?_)
            exact z_iret (pc := 86) rfl rfl (zdg D_X11_of 29 (86, .ireturn, 1) rfl) (hP _ hf)
          · skip
            refine zif hf (fun hc3 hf => ?_) (fun hc3 hf => ?_)
            · refine z_tsIn (pc := 15) (c := 3) (j := 3) 87 (zdg D_X11_of 8 (15, .tableswitch 103 0 4 #[33, 46, 59, 72, 84], 33) rfl) hc3 (by decide) (by decide) rfl rfl rfl ?_
              refine z_aload_n (pc := 87) 0 (zdg D_X11_of 30 (87, .aload_n 0, 1) rfl) rfl rfl ?_
              refine z_getR (pc := 88) (g := 1) (j := 0) lf_X11_12 rfl rfl rfl (zdg D_X11_of 31 (88, .getfield 12, 3) rfl) ?_
              refine z_getR (pc := 91) (g := 9) (j := 0) lf_X11_128 rfl rfl rfl (zdg D_X11_of 32 (91, .getfield 128, 3) rfl) ?_
              refine z_iload_n (pc := 94) 1 (zdg D_X11_of 33 (94, .iload_n 1, 1) rfl) rfl rfl ?_
              refine z_bind hn hf (fun q1 hq hf => ?_)
              refine z_callV (pc := 95) (rest := []) (st2 := [zI q1]) (fun l => c_X5_minutesThere l 0 p1 σ q1 hq) zv_X5_minutesThere lm_X11_187 rfl rfl rfl rfl rfl rfl (Nat.le_of_ble_eq_true rfl) ⟨Nat.le_of_ble_eq_true rfl, Nat.le_of_ble_eq_true rfl⟩ (zdg D_X11_of 34 (95, .invokevirtual 187, 3) rfl) ?_
              exact z_iret (pc := 98) rfl rfl (zdg D_X11_of 35 (98, .ireturn, 1) rfl) (hP _ hf)
            · skip
              refine zif hf (fun hc4 hf => ?_) (fun hc4 hf => ?_)
              · refine z_tsIn (pc := 15) (c := 4) (j := 4) 99 (zdg D_X11_of 8 (15, .tableswitch 103 0 4 #[33, 46, 59, 72, 84], 33) rfl) hc4 (by decide) (by decide) rfl rfl rfl ?_
                refine z_aload_n (pc := 99) 0 (zdg D_X11_of 36 (99, .aload_n 0, 1) rfl) rfl rfl ?_
                refine z_getR (pc := 100) (g := 1) (j := 0) lf_X11_12 rfl rfl rfl (zdg D_X11_of 37 (100, .getfield 12, 3) rfl) ?_
                refine z_getR (pc := 103) (g := 9) (j := 0) lf_X11_128 rfl rfl rfl (zdg D_X11_of 38 (103, .getfield 128, 3) rfl) ?_
                refine z_iload_n (pc := 106) 1 (zdg D_X11_of 39 (106, .iload_n 1, 1) rfl) rfl rfl ?_
                refine z_aload_n (pc := 107) 0 (zdg D_X11_of 40 (107, .aload_n 0, 1) rfl) rfl rfl ?_
                refine z_getR (pc := 108) (g := 1) (j := 0) lf_X11_12 rfl rfl rfl (zdg D_X11_of 41 (108, .getfield 12, 3) rfl) ?_
                refine z_getI (pc := 111) lf_X11_158 rfl rfl (zdg D_X11_of 42 (111, .getfield 158, 3) rfl) ?_
                refine z_bind hn hf (fun q2 hq hf => ?_)
                refine z_callV (pc := 114) (rest := []) (st2 := [zI q2]) (fun l => c_X5_spotIn l 0 p1 (σ.1 1 0 3) σ q2 hq) zv_X5_spotIn lm_X11_191 rfl rfl rfl rfl rfl rfl (Nat.le_of_ble_eq_true rfl) ⟨Nat.le_of_ble_eq_true rfl, Nat.le_of_ble_eq_true rfl⟩ (zdg D_X11_of 43 (114, .invokevirtual 191, 3) rfl) ?_
                exact z_iret (pc := 117) rfl rfl (zdg D_X11_of 44 (117, .ireturn, 1) rfl) (hP _ hf)
              · skip
                refine z_tsOut (pc := 15) 118 (zdg D_X11_of 8 (15, .tableswitch 103 0 4 #[33, 46, 59, 72, 84], 33) rfl) (by have e0 := lv_neT hc0 (k := 0) (a := 0) rfl; have e1 := lv_neT hc1 (k := 1) (a := 1) rfl; have e2 := lv_neT hc2 (k := 2) (a := 2) rfl; have e3 := lv_neT hc3 (k := 3) (a := 3) rfl; have e4 := lv_neT hc4 (k := 4) (a := 4) rfl; omega) rfl ?_
                refine z_bipush (pc := 118) (v := -2) (zdg D_X11_of 45 (118, .bipush (-2), 2) rfl) rfl ?_
                exact z_iret (pc := 120) rfl rfl (zdg D_X11_of 46 (120, .ireturn, 1) rfl) (hP _ hf)
    · refine z_bipush (pc := 11) (v := -2) (zdg D_X11_of 5 (11, .bipush (-2), 2) rfl) rfl ?_
      exact z_iret (pc := 13) rfl rfl (zdg D_X11_of 6 (13, .ireturn, 1) rfl) (hP _ hf)

def L_X11_where : List (Nat × Instr × Nat) := [(0, .aload_n 0, 1), (1, .getfield 12, 3), (4, .iload_n 1, 1), (5, .invokevirtual 173, 3), (8, .ifCond .eq 10, 3), (11, .iload_n 2, 1), (12, .invokestatic 195, 3), (15, .ifCond .ne 5, 3), (18, .iconst (-1), 1), (19, .ireturn, 1), (20, .aload_n 0, 1), (21, .getfield 12, 3), (24, .getfield 128, 3), (27, .iload_n 1, 1), (28, .iload_n 2, 1), (29, .invokevirtual 191, 3), (32, .ireturn, 1)]
set_option maxRecDepth 100000 in
theorem D_X11_where : zdecs cX11_where L_X11_where = true := by decide +kernel
noncomputable def f_X11_where (p1 : Int32) (p2 : Int32) (σ : zG) : Option (Int32) :=
  if (f_X1_isWalker 0 p1 σ) = 0 then some (-1 : Int32) else if (f_X11_isMinute p2) = 0 then some (-1 : Int32) else (f_X5_spotIn 0 p1 p2 σ).bind (fun q1 => some q1)
set_option maxRecDepth 100000 in
set_option maxHeartbeats 4000000 in
theorem c_X11_where (l : Launch) (p1 : Int32) (p2 : Int32) (σ : zG) (q : Int32) (hq : f_X11_where p1 p2 σ = some q) : zMet l zsyC m_X11_where yX11_where [zR 0 0, zI p1, zI p2] σ (some (zI q)) σ := by
  refine zEnter [(0, zR 0 0), (1, zI p1), (2, zI p2)] (by decide) rfl (fun _ => Nat.le_of_ble_eq_true rfl) (fun _ => rfl) (fun w h => ?_) (fun K hv hs => ?_)
  · exact zokm rfl h
  · have hP : ∀ x, f_X11_where p1 p2 σ = some x → zKv K = some (zI x) ∧ zKs K = σ := fun x h => by rw [hq] at h; cases h; exact ⟨hv, hs⟩
    have hn : f_X11_where p1 p2 σ ≠ none := fun z => by rw [hq] at z; cases z
    have hf := f_X11_where.eq_1 p1 p2 σ
    refine z_aload_n (pc := 0) 0 (zdg D_X11_where 0 (0, .aload_n 0, 1) rfl) rfl rfl ?_
    refine z_getR (pc := 1) (g := 1) (j := 0) lf_X11_12 rfl rfl rfl (zdg D_X11_where 1 (1, .getfield 12, 3) rfl) ?_
    refine z_iload_n (pc := 4) 1 (zdg D_X11_where 2 (4, .iload_n 1, 1) rfl) rfl rfl ?_
    refine z_callV (pc := 5) (rest := []) (st2 := [zI (f_X1_isWalker 0 p1 σ)]) (fun l => c_X1_isWalker l 0 p1 σ) zv_X1_isWalker lm_X11_173 rfl rfl rfl rfl rfl rfl (Nat.le_of_ble_eq_true rfl) ⟨Nat.le_of_ble_eq_true rfl, Nat.le_of_ble_eq_true rfl⟩ (zdg D_X11_where 3 (5, .invokevirtual 173, 3) rfl) ?_
    refine z_if_eq (pc := 8) 18 (zdg D_X11_where 4 (8, .ifCond .eq 10, 3) rfl) rfl hf (fun hf => ?_) (fun hf => ?_)
    · refine z_iconst (pc := 18) (v := -1) (zdg D_X11_where 8 (18, .iconst (-1), 1) rfl) rfl ?_
      exact z_iret (pc := 19) rfl rfl (zdg D_X11_where 9 (19, .ireturn, 1) rfl) (hP _ hf)
    · refine z_iload_n (pc := 11) 2 (zdg D_X11_where 5 (11, .iload_n 2, 1) rfl) rfl rfl ?_
      refine z_callS (pc := 12) (rest := []) (st2 := [zI (f_X11_isMinute p2)]) (fun l => c_X11_isMinute l p2 σ) zs_X11_isMinute lm_X11_195 rfl rfl rfl (Nat.le_of_ble_eq_true rfl) ⟨Nat.le_of_ble_eq_true rfl, Nat.le_of_ble_eq_true rfl⟩ (zdg D_X11_where 6 (12, .invokestatic 195, 3) rfl) ?_
      refine z_if_ne (pc := 15) 20 (zdg D_X11_where 7 (15, .ifCond .ne 5, 3) rfl) rfl hf (fun hf => ?_) (fun hf => ?_)
      · refine z_aload_n (pc := 20) 0 (zdg D_X11_where 10 (20, .aload_n 0, 1) rfl) rfl rfl ?_
        refine z_getR (pc := 21) (g := 1) (j := 0) lf_X11_12 rfl rfl rfl (zdg D_X11_where 11 (21, .getfield 12, 3) rfl) ?_
        refine z_getR (pc := 24) (g := 9) (j := 0) lf_X11_128 rfl rfl rfl (zdg D_X11_where 12 (24, .getfield 128, 3) rfl) ?_
        refine z_iload_n (pc := 27) 1 (zdg D_X11_where 13 (27, .iload_n 1, 1) rfl) rfl rfl ?_
        refine z_iload_n (pc := 28) 2 (zdg D_X11_where 14 (28, .iload_n 2, 1) rfl) rfl rfl ?_
        refine z_bind hn hf (fun q1 hq hf => ?_)
        refine z_callV (pc := 29) (rest := []) (st2 := [zI q1]) (fun l => c_X5_spotIn l 0 p1 p2 σ q1 hq) zv_X5_spotIn lm_X11_191 rfl rfl rfl rfl rfl rfl (Nat.le_of_ble_eq_true rfl) ⟨Nat.le_of_ble_eq_true rfl, Nat.le_of_ble_eq_true rfl⟩ (zdg D_X11_where 15 (29, .invokevirtual 191, 3) rfl) ?_
        exact z_iret (pc := 32) rfl rfl (zdg D_X11_where 16 (32, .ireturn, 1) rfl) (hP _ hf)
      · refine z_iconst (pc := 18) (v := -1) (zdg D_X11_where 8 (18, .iconst (-1), 1) rfl) rfl ?_
        exact z_iret (pc := 19) rfl rfl (zdg D_X11_where 9 (19, .ireturn, 1) rfl) (hP _ hf)

def L_X11_stranger : List (Nat × Instr × Nat) := [(0, .iload_n 1, 1), (1, .ifCond .lt 17, 3), (4, .iload_n 1, 1), (5, .aload_n 0, 1), (6, .getfield 12, 3), (9, .getfield 198, 3), (12, .getfield 202, 3), (15, .if_icmp .lt 5, 3), (18, .iconst (-1), 1), (19, .ireturn, 1), (20, .iload_n 2, 1), (21, .tableswitch 66 0 2 #[27, 40, 53], 27), (48, .aload_n 0, 1), (49, .getfield 12, 3), (52, .getfield 198, 3), (55, .getfield 205, 3), (58, .iload_n 1, 1), (59, .iaload, 1), (60, .ireturn, 1), (61, .aload_n 0, 1), (62, .getfield 12, 3), (65, .getfield 198, 3), (68, .getfield 206, 3), (71, .iload_n 1, 1), (72, .iaload, 1), (73, .ireturn, 1), (74, .aload_n 0, 1), (75, .getfield 12, 3), (78, .getfield 198, 3), (81, .getfield 209, 3), (84, .iload_n 1, 1), (85, .iaload, 1), (86, .ireturn, 1), (87, .iconst (-1), 1), (88, .ireturn, 1)]
set_option maxRecDepth 100000 in
theorem D_X11_stranger : zdecs cX11_stranger L_X11_stranger = true := by decide +kernel
noncomputable def f_X11_stranger (p1 : Int32) (p2 : Int32) (σ : zG) : Option (Int32) :=
  if 0 ≤ p1 then if (σ.1 7 0 0) ≤ p1 then some (-1 : Int32) else if p2 = 0 then zg (zin p1 8) (some (σ.1 12 0 p1.toNatClampNeg)) else if p2 = 1 then zg (zin p1 8) (some (σ.1 13 0 p1.toNatClampNeg)) else if p2 = 2 then zg (zin p1 8) (some (σ.1 14 0 p1.toNatClampNeg)) else some (-1 : Int32) else some (-1 : Int32)
set_option maxRecDepth 100000 in
set_option maxHeartbeats 4000000 in
theorem c_X11_stranger (l : Launch) (p1 : Int32) (p2 : Int32) (σ : zG) (q : Int32) (hq : f_X11_stranger p1 p2 σ = some q) : zMet l zsyC m_X11_stranger yX11_stranger [zR 0 0, zI p1, zI p2] σ (some (zI q)) σ := by
  refine zEnter [(0, zR 0 0), (1, zI p1), (2, zI p2)] (by decide) rfl (fun _ => Nat.le_of_ble_eq_true rfl) (fun _ => rfl) (fun w h => ?_) (fun K hv hs => ?_)
  · exact zokm rfl h
  · have hP : ∀ x, f_X11_stranger p1 p2 σ = some x → zKv K = some (zI x) ∧ zKs K = σ := fun x h => by rw [hq] at h; cases h; exact ⟨hv, hs⟩
    have hn : f_X11_stranger p1 p2 σ ≠ none := fun z => by rw [hq] at z; cases z
    have hf := f_X11_stranger.eq_1 p1 p2 σ
    refine z_iload_n (pc := 0) 1 (zdg D_X11_stranger 0 (0, .iload_n 1, 1) rfl) rfl rfl ?_
    refine z_if_lt (pc := 1) 18 (zdg D_X11_stranger 1 (1, .ifCond .lt 17, 3) rfl) rfl hf (fun hf => ?_) (fun hf => ?_)
    · refine z_iconst (pc := 18) (v := -1) (zdg D_X11_stranger 8 (18, .iconst (-1), 1) rfl) rfl ?_
      exact z_iret (pc := 19) rfl rfl (zdg D_X11_stranger 9 (19, .ireturn, 1) rfl) (hP _ hf)
    · refine z_iload_n (pc := 4) 1 (zdg D_X11_stranger 2 (4, .iload_n 1, 1) rfl) rfl rfl ?_
      refine z_aload_n (pc := 5) 0 (zdg D_X11_stranger 3 (5, .aload_n 0, 1) rfl) rfl rfl ?_
      refine z_getR (pc := 6) (g := 1) (j := 0) lf_X11_12 rfl rfl rfl (zdg D_X11_stranger 4 (6, .getfield 12, 3) rfl) ?_
      refine z_getR (pc := 9) (g := 7) (j := 0) lf_X11_198 rfl rfl rfl (zdg D_X11_stranger 5 (9, .getfield 198, 3) rfl) ?_
      refine z_getI (pc := 12) lf_X11_202 rfl rfl (zdg D_X11_stranger 6 (12, .getfield 202, 3) rfl) ?_
      refine z_icmp_lt (pc := 15) 20 (zdg D_X11_stranger 7 (15, .if_icmp .lt 5, 3) rfl) rfl hf (fun hf => ?_) (fun hf => ?_)
      · refine z_iload_n (pc := 20) 2 (zdg D_X11_stranger 10 (20, .iload_n 2, 1) rfl) rfl rfl ?_
        refine zif hf (fun hc0 hf => ?_) (fun hc0 hf => ?_)
        · refine z_tsIn (pc := 21) (c := 0) (j := 0) 48 (zdg D_X11_stranger 11 (21, .tableswitch 66 0 2 #[27, 40, 53], 27) rfl) hc0 (by decide) (by decide) rfl rfl rfl ?_
          refine z_aload_n (pc := 48) 0 (zdg D_X11_stranger 12 (48, .aload_n 0, 1) rfl) rfl rfl ?_
          refine z_getR (pc := 49) (g := 1) (j := 0) lf_X11_12 rfl rfl rfl (zdg D_X11_stranger 13 (49, .getfield 12, 3) rfl) ?_
          refine z_getR (pc := 52) (g := 7) (j := 0) lf_X11_198 rfl rfl rfl (zdg D_X11_stranger 14 (52, .getfield 198, 3) rfl) ?_
          refine z_getR (pc := 55) (g := 12) (j := 0) lf_X11_205 rfl rfl rfl (zdg D_X11_stranger 15 (55, .getfield 205, 3) rfl) ?_
          refine z_iload_n (pc := 58) 1 (zdg D_X11_stranger 16 (58, .iload_n 1, 1) rfl) rfl rfl ?_
          refine z_iald (pc := 59) rfl (fun _ => rfl) (zdg D_X11_stranger 17 (59, .iaload, 1) rfl) hn hf (fun hf => ?_)
          exact z_iret (pc := 60) rfl rfl (zdg D_X11_stranger 18 (60, .ireturn, 1) rfl) (hP _ hf)
        · skip
          refine zif hf (fun hc1 hf => ?_) (fun hc1 hf => ?_)
          · refine z_tsIn (pc := 21) (c := 1) (j := 1) 61 (zdg D_X11_stranger 11 (21, .tableswitch 66 0 2 #[27, 40, 53], 27) rfl) hc1 (by decide) (by decide) rfl rfl rfl ?_
            refine z_aload_n (pc := 61) 0 (zdg D_X11_stranger 19 (61, .aload_n 0, 1) rfl) rfl rfl ?_
            refine z_getR (pc := 62) (g := 1) (j := 0) lf_X11_12 rfl rfl rfl (zdg D_X11_stranger 20 (62, .getfield 12, 3) rfl) ?_
            refine z_getR (pc := 65) (g := 7) (j := 0) lf_X11_198 rfl rfl rfl (zdg D_X11_stranger 21 (65, .getfield 198, 3) rfl) ?_
            refine z_getR (pc := 68) (g := 13) (j := 0) lf_X11_206 rfl rfl rfl (zdg D_X11_stranger 22 (68, .getfield 206, 3) rfl) ?_
            refine z_iload_n (pc := 71) 1 (zdg D_X11_stranger 23 (71, .iload_n 1, 1) rfl) rfl rfl ?_
            refine z_iald (pc := 72) rfl (fun _ => rfl) (zdg D_X11_stranger 24 (72, .iaload, 1) rfl) hn hf (fun hf => ?_)
            exact z_iret (pc := 73) rfl rfl (zdg D_X11_stranger 25 (73, .ireturn, 1) rfl) (hP _ hf)
          · skip
            refine zif hf (fun hc2 hf => ?_) (fun hc2 hf => ?_)
            · refine z_tsIn (pc := 21) (c := 2) (j := 2) 74 (zdg D_X11_stranger 11 (21, .tableswitch 66 0 2 #[27, 40, 53], 27) rfl) hc2 (by decide) (by decide) rfl rfl rfl ?_
              refine z_aload_n (pc := 74) 0 (zdg D_X11_stranger 26 (74, .aload_n 0, 1) rfl) rfl rfl ?_
              refine z_getR (pc := 75) (g := 1) (j := 0) lf_X11_12 rfl rfl rfl (zdg D_X11_stranger 27 (75, .getfield 12, 3) rfl) ?_
              refine z_getR (pc := 78) (g := 7) (j := 0) lf_X11_198 rfl rfl rfl (zdg D_X11_stranger 28 (78, .getfield 198, 3) rfl) ?_
              refine z_getR (pc := 81) (g := 14) (j := 0) lf_X11_209 rfl rfl rfl (zdg D_X11_stranger 29 (81, .getfield 209, 3) rfl) ?_
              refine z_iload_n (pc := 84) 1 (zdg D_X11_stranger 30 (84, .iload_n 1, 1) rfl) rfl rfl ?_
              refine z_iald (pc := 85) rfl (fun _ => rfl) (zdg D_X11_stranger 31 (85, .iaload, 1) rfl) hn hf (fun hf => ?_)
              exact z_iret (pc := 86) rfl rfl (zdg D_X11_stranger 32 (86, .ireturn, 1) rfl) (hP _ hf)
            · skip
              refine z_tsOut (pc := 21) 87 (zdg D_X11_stranger 11 (21, .tableswitch 66 0 2 #[27, 40, 53], 27) rfl) (by have e0 := lv_neT hc0 (k := 0) (a := 0) rfl; have e1 := lv_neT hc1 (k := 1) (a := 1) rfl; have e2 := lv_neT hc2 (k := 2) (a := 2) rfl; omega) rfl ?_
              refine z_iconst (pc := 87) (v := -1) (zdg D_X11_stranger 33 (87, .iconst (-1), 1) rfl) rfl ?_
              exact z_iret (pc := 88) rfl rfl (zdg D_X11_stranger 34 (88, .ireturn, 1) rfl) (hP _ hf)
      · refine z_iconst (pc := 18) (v := -1) (zdg D_X11_stranger 8 (18, .iconst (-1), 1) rfl) rfl ?_
        exact z_iret (pc := 19) rfl rfl (zdg D_X11_stranger 9 (19, .ireturn, 1) rfl) (hP _ hf)

def L_X11_covered : List (Nat × Instr × Nat) := [(0, .iload_n 1, 1), (1, .invokestatic 195, 3), (4, .ifCond .eq 14, 3), (7, .aload_n 0, 1), (8, .getfield 12, 3), (11, .iload_n 1, 1), (12, .invokevirtual 212, 3), (15, .goto 6, 3), (18, .ldc2_w 216, 3), (21, .lreturn, 1)]
set_option maxRecDepth 100000 in
theorem D_X11_covered : zdecs cX11_covered L_X11_covered = true := by decide +kernel
noncomputable def f_X11_covered (p1 : Int32) (σ : zG) : Option (Int64) :=
  if (f_X11_isMinute p1) = 0 then some (-1 : Int64) else (f_X1_coverIn 0 p1 σ).bind (fun q1 => some q1)
set_option maxRecDepth 100000 in
set_option maxHeartbeats 4000000 in
theorem c_X11_covered (l : Launch) (p1 : Int32) (σ : zG) (q : Int64) (hq : f_X11_covered p1 σ = some q) : zMet l zsyC m_X11_covered yX11_covered [zR 0 0, zI p1] σ (some (zL q)) σ := by
  refine zEnter [(0, zR 0 0), (1, zI p1)] (by decide) rfl (fun _ => Nat.le_of_ble_eq_true rfl) (fun _ => rfl) (fun w h => ?_) (fun K hv hs => ?_)
  · exact zokm rfl h
  · have hP : ∀ x, f_X11_covered p1 σ = some x → zKv K = some (zL x) ∧ zKs K = σ := fun x h => by rw [hq] at h; cases h; exact ⟨hv, hs⟩
    have hn : f_X11_covered p1 σ ≠ none := fun z => by rw [hq] at z; cases z
    have hf := f_X11_covered.eq_1 p1 σ
    refine z_iload_n (pc := 0) 1 (zdg D_X11_covered 0 (0, .iload_n 1, 1) rfl) rfl rfl ?_
    refine z_callS (pc := 1) (rest := []) (st2 := [zI (f_X11_isMinute p1)]) (fun l => c_X11_isMinute l p1 σ) zs_X11_isMinute lm_X11_195 rfl rfl rfl (Nat.le_of_ble_eq_true rfl) ⟨Nat.le_of_ble_eq_true rfl, Nat.le_of_ble_eq_true rfl⟩ (zdg D_X11_covered 1 (1, .invokestatic 195, 3) rfl) ?_
    refine z_if_eq (pc := 4) 18 (zdg D_X11_covered 2 (4, .ifCond .eq 14, 3) rfl) rfl hf (fun hf => ?_) (fun hf => ?_)
    · refine z_ldc2 (pc := 18) lc_X11_216 (zdg D_X11_covered 8 (18, .ldc2_w 216, 3) rfl) ?_
      exact z_lret (pc := 21) rfl (zdg D_X11_covered 9 (21, .lreturn, 1) rfl) (hP _ hf)
    · refine z_aload_n (pc := 7) 0 (zdg D_X11_covered 3 (7, .aload_n 0, 1) rfl) rfl rfl ?_
      refine z_getR (pc := 8) (g := 1) (j := 0) lf_X11_12 rfl rfl rfl (zdg D_X11_covered 4 (8, .getfield 12, 3) rfl) ?_
      refine z_iload_n (pc := 11) 1 (zdg D_X11_covered 5 (11, .iload_n 1, 1) rfl) rfl rfl ?_
      refine z_bind hn hf (fun q1 hq hf => ?_)
      refine z_callV (pc := 12) (rest := []) (st2 := [zL q1]) (fun l => c_X1_coverIn l 0 p1 σ q1 hq) zv_X1_coverIn lm_X11_212 rfl rfl rfl rfl rfl rfl (Nat.le_of_ble_eq_true rfl) ⟨Nat.le_of_ble_eq_true rfl, Nat.le_of_ble_eq_true rfl⟩ (zdg D_X11_covered 6 (12, .invokevirtual 212, 3) rfl) ?_
      refine z_goto (pc := 15) 21 (zdg D_X11_covered 7 (15, .goto 6, 3) rfl) rfl ?_
      exact z_lret (pc := 21) rfl (zdg D_X11_covered 9 (21, .lreturn, 1) rfl) (hP _ hf)

def L_X11_at : List (Nat × Instr × Nat) := [(0, .aload_n 0, 1), (1, .getfield 12, 3), (4, .iload_n 1, 1), (5, .invokevirtual 218, 3), (8, .ifCond .eq 10, 3), (11, .iload_n 2, 1), (12, .invokestatic 195, 3), (15, .ifCond .ne 5, 3), (18, .iconst (-1), 1), (19, .ireturn, 1), (20, .iload_n 3, 1), (21, .tableswitch 68 0 2 #[27, 48, 58], 27), (48, .aload_n 0, 1), (49, .getfield 12, 3), (52, .iload_n 2, 1), (53, .invokevirtual 212, 3), (56, .iload_n 1, 1), (57, .invokestatic 221, 3), (60, .ifCond .eq 7, 3), (63, .iconst 1, 1), (64, .goto 4, 3), (67, .iconst 0, 1), (68, .ireturn, 1), (69, .aload_n 0, 1), (70, .getfield 12, 3), (73, .iload_n 1, 1), (74, .iload_n 2, 1), (75, .invokevirtual 225, 3), (78, .ireturn, 1), (79, .aload_n 0, 1), (80, .getfield 12, 3), (83, .iload_n 1, 1), (84, .iload_n 2, 1), (85, .invokevirtual 228, 3), (88, .ireturn, 1), (89, .iconst (-1), 1), (90, .ireturn, 1)]
set_option maxRecDepth 100000 in
theorem D_X11_at : zdecs cX11_at L_X11_at = true := by decide +kernel
noncomputable def f_X11_at (p1 : Int32) (p2 : Int32) (p3 : Int32) (σ : zG) : Option (Int32 × zG) :=
  if (f_X1_isSpot 0 p1 σ) = 0 then some ((-1 : Int32), σ) else if (f_X11_isMinute p2) = 0 then some ((-1 : Int32), σ) else if p3 = 0 then (f_X1_coverIn 0 p2 σ).bind (fun q1 => if (f_X11_holds q1 p1) = 0 then some ((0 : Int32), σ) else some ((1 : Int32), σ)) else if p3 = 1 then (f_X1_shadeOf 0 p1 p2 σ).bind (fun q2 => some (q2.1, q2.2)) else if p3 = 2 then (f_X1_toneOf 0 p1 p2 σ).bind (fun q3 => some (q3.1, q3.2)) else some ((-1 : Int32), σ)
set_option maxRecDepth 100000 in
set_option maxHeartbeats 4000000 in
theorem c_X11_at (l : Launch) (p1 : Int32) (p2 : Int32) (p3 : Int32) (σ : zG) (q : Int32 × zG) (hq : f_X11_at p1 p2 p3 σ = some q) : zMet l zsyC m_X11_at yX11_at [zR 0 0, zI p1, zI p2, zI p3] σ (some (zI q.1)) q.2 := by
  refine zEnter [(0, zR 0 0), (1, zI p1), (2, zI p2), (3, zI p3)] (by decide) rfl (fun _ => Nat.le_of_ble_eq_true rfl) (fun _ => rfl) (fun w h => ?_) (fun K hv hs => ?_)
  · exact zokm rfl h
  · have hP : ∀ x s, f_X11_at p1 p2 p3 σ = some (x, s) → zKv K = some (zI x) ∧ zKs K = s := fun x s h => by rw [hq] at h; cases h; exact ⟨hv, hs⟩
    have hn : f_X11_at p1 p2 p3 σ ≠ none := fun z => by rw [hq] at z; cases z
    have hf := f_X11_at.eq_1 p1 p2 p3 σ
    refine z_aload_n (pc := 0) 0 (zdg D_X11_at 0 (0, .aload_n 0, 1) rfl) rfl rfl ?_
    refine z_getR (pc := 1) (g := 1) (j := 0) lf_X11_12 rfl rfl rfl (zdg D_X11_at 1 (1, .getfield 12, 3) rfl) ?_
    refine z_iload_n (pc := 4) 1 (zdg D_X11_at 2 (4, .iload_n 1, 1) rfl) rfl rfl ?_
    refine z_callV (pc := 5) (rest := []) (st2 := [zI (f_X1_isSpot 0 p1 σ)]) (fun l => c_X1_isSpot l 0 p1 σ) zv_X1_isSpot lm_X11_218 rfl rfl rfl rfl rfl rfl (Nat.le_of_ble_eq_true rfl) ⟨Nat.le_of_ble_eq_true rfl, Nat.le_of_ble_eq_true rfl⟩ (zdg D_X11_at 3 (5, .invokevirtual 218, 3) rfl) ?_
    refine z_if_eq (pc := 8) 18 (zdg D_X11_at 4 (8, .ifCond .eq 10, 3) rfl) rfl hf (fun hf => ?_) (fun hf => ?_)
    · refine z_iconst (pc := 18) (v := -1) (zdg D_X11_at 8 (18, .iconst (-1), 1) rfl) rfl ?_
      exact z_iret (pc := 19) rfl rfl (zdg D_X11_at 9 (19, .ireturn, 1) rfl) (hP _ _ hf)
    · refine z_iload_n (pc := 11) 2 (zdg D_X11_at 5 (11, .iload_n 2, 1) rfl) rfl rfl ?_
      refine z_callS (pc := 12) (rest := []) (st2 := [zI (f_X11_isMinute p2)]) (fun l => c_X11_isMinute l p2 σ) zs_X11_isMinute lm_X11_195 rfl rfl rfl (Nat.le_of_ble_eq_true rfl) ⟨Nat.le_of_ble_eq_true rfl, Nat.le_of_ble_eq_true rfl⟩ (zdg D_X11_at 6 (12, .invokestatic 195, 3) rfl) ?_
      refine z_if_ne (pc := 15) 20 (zdg D_X11_at 7 (15, .ifCond .ne 5, 3) rfl) rfl hf (fun hf => ?_) (fun hf => ?_)
      · refine z_iload_n (pc := 20) 3 (zdg D_X11_at 10 (20, .iload_n 3, 1) rfl) rfl rfl ?_
        refine zif hf (fun hc0 hf => ?_) (fun hc0 hf => ?_)
        · refine z_tsIn (pc := 21) (c := 0) (j := 0) 48 (zdg D_X11_at 11 (21, .tableswitch 68 0 2 #[27, 48, 58], 27) rfl) hc0 (by decide) (by decide) rfl rfl rfl ?_
          refine z_aload_n (pc := 48) 0 (zdg D_X11_at 12 (48, .aload_n 0, 1) rfl) rfl rfl ?_
          refine z_getR (pc := 49) (g := 1) (j := 0) lf_X11_12 rfl rfl rfl (zdg D_X11_at 13 (49, .getfield 12, 3) rfl) ?_
          refine z_iload_n (pc := 52) 2 (zdg D_X11_at 14 (52, .iload_n 2, 1) rfl) rfl rfl ?_
          refine z_bind hn hf (fun q1 hq hf => ?_)
          refine z_callV (pc := 53) (rest := []) (st2 := [zL q1]) (fun l => c_X1_coverIn l 0 p2 σ q1 hq) zv_X1_coverIn lm_X11_212 rfl rfl rfl rfl rfl rfl (Nat.le_of_ble_eq_true rfl) ⟨Nat.le_of_ble_eq_true rfl, Nat.le_of_ble_eq_true rfl⟩ (zdg D_X11_at 15 (53, .invokevirtual 212, 3) rfl) ?_
          refine z_iload_n (pc := 56) 1 (zdg D_X11_at 16 (56, .iload_n 1, 1) rfl) rfl rfl ?_
          refine z_callS (pc := 57) (rest := []) (st2 := [zI (f_X11_holds q1 p1)]) (fun l => c_X11_holds l q1 p1 σ) zs_X11_holds lm_X11_221 rfl rfl rfl (Nat.le_of_ble_eq_true rfl) ⟨Nat.le_of_ble_eq_true rfl, Nat.le_of_ble_eq_true rfl⟩ (zdg D_X11_at 17 (57, .invokestatic 221, 3) rfl) ?_
          refine z_if_eq (pc := 60) 67 (zdg D_X11_at 18 (60, .ifCond .eq 7, 3) rfl) rfl hf (fun hf => ?_) (fun hf => ?_)
          · refine z_iconst (pc := 67) (v := 0) (zdg D_X11_at 21 (67, .iconst 0, 1) rfl) rfl ?_
            exact z_iret (pc := 68) rfl rfl (zdg D_X11_at 22 (68, .ireturn, 1) rfl) (hP _ _ hf)
          · refine z_iconst (pc := 63) (v := 1) (zdg D_X11_at 19 (63, .iconst 1, 1) rfl) rfl ?_
            refine z_goto (pc := 64) 68 (zdg D_X11_at 20 (64, .goto 4, 3) rfl) rfl ?_
            exact z_iret (pc := 68) rfl rfl (zdg D_X11_at 22 (68, .ireturn, 1) rfl) (hP _ _ hf)
        · skip
          refine zif hf (fun hc1 hf => ?_) (fun hc1 hf => ?_)
          · refine z_tsIn (pc := 21) (c := 1) (j := 1) 69 (zdg D_X11_at 11 (21, .tableswitch 68 0 2 #[27, 48, 58], 27) rfl) hc1 (by decide) (by decide) rfl rfl rfl ?_
            refine z_aload_n (pc := 69) 0 (zdg D_X11_at 23 (69, .aload_n 0, 1) rfl) rfl rfl ?_
            refine z_getR (pc := 70) (g := 1) (j := 0) lf_X11_12 rfl rfl rfl (zdg D_X11_at 24 (70, .getfield 12, 3) rfl) ?_
            refine z_iload_n (pc := 73) 1 (zdg D_X11_at 25 (73, .iload_n 1, 1) rfl) rfl rfl ?_
            refine z_iload_n (pc := 74) 2 (zdg D_X11_at 26 (74, .iload_n 2, 1) rfl) rfl rfl ?_
            refine z_bind hn hf (fun q2 hq hf => ?_)
            refine z_callV (pc := 75) (rest := []) (st2 := [zI q2.1]) (fun l => c_X1_shadeOf l 0 p1 p2 σ q2 hq) zv_X1_shadeOf lm_X11_225 rfl rfl rfl rfl rfl rfl (Nat.le_of_ble_eq_true rfl) ⟨Nat.le_of_ble_eq_true rfl, Nat.le_of_ble_eq_true rfl⟩ (zdg D_X11_at 27 (75, .invokevirtual 225, 3) rfl) ?_
            exact z_iret (pc := 78) rfl rfl (zdg D_X11_at 28 (78, .ireturn, 1) rfl) (hP _ _ hf)
          · skip
            refine zif hf (fun hc2 hf => ?_) (fun hc2 hf => ?_)
            · refine z_tsIn (pc := 21) (c := 2) (j := 2) 79 (zdg D_X11_at 11 (21, .tableswitch 68 0 2 #[27, 48, 58], 27) rfl) hc2 (by decide) (by decide) rfl rfl rfl ?_
              refine z_aload_n (pc := 79) 0 (zdg D_X11_at 29 (79, .aload_n 0, 1) rfl) rfl rfl ?_
              refine z_getR (pc := 80) (g := 1) (j := 0) lf_X11_12 rfl rfl rfl (zdg D_X11_at 30 (80, .getfield 12, 3) rfl) ?_
              refine z_iload_n (pc := 83) 1 (zdg D_X11_at 31 (83, .iload_n 1, 1) rfl) rfl rfl ?_
              refine z_iload_n (pc := 84) 2 (zdg D_X11_at 32 (84, .iload_n 2, 1) rfl) rfl rfl ?_
              refine z_bind hn hf (fun q3 hq hf => ?_)
              refine z_callV (pc := 85) (rest := []) (st2 := [zI q3.1]) (fun l => c_X1_toneOf l 0 p1 p2 σ q3 hq) zv_X1_toneOf lm_X11_228 rfl rfl rfl rfl rfl rfl (Nat.le_of_ble_eq_true rfl) ⟨Nat.le_of_ble_eq_true rfl, Nat.le_of_ble_eq_true rfl⟩ (zdg D_X11_at 33 (85, .invokevirtual 228, 3) rfl) ?_
              exact z_iret (pc := 88) rfl rfl (zdg D_X11_at 34 (88, .ireturn, 1) rfl) (hP _ _ hf)
            · skip
              refine z_tsOut (pc := 21) 89 (zdg D_X11_at 11 (21, .tableswitch 68 0 2 #[27, 48, 58], 27) rfl) (by have e0 := lv_neT hc0 (k := 0) (a := 0) rfl; have e1 := lv_neT hc1 (k := 1) (a := 1) rfl; have e2 := lv_neT hc2 (k := 2) (a := 2) rfl; omega) rfl ?_
              refine z_iconst (pc := 89) (v := -1) (zdg D_X11_at 35 (89, .iconst (-1), 1) rfl) rfl ?_
              exact z_iret (pc := 90) rfl rfl (zdg D_X11_at 36 (90, .ireturn, 1) rfl) (hP _ _ hf)
      · refine z_iconst (pc := 18) (v := -1) (zdg D_X11_at 8 (18, .iconst (-1), 1) rfl) rfl ?_
        exact z_iret (pc := 19) rfl rfl (zdg D_X11_at 9 (19, .ireturn, 1) rfl) (hP _ _ hf)

def L_X11_worth : List (Nat × Instr × Nat) := [(0, .iload_n 1, 1), (1, .invokestatic 195, 3), (4, .ifCond .eq 14, 3), (7, .aload_n 0, 1), (8, .getfield 12, 3), (11, .iload_n 1, 1), (12, .invokevirtual 231, 3), (15, .goto 6, 3), (18, .sipush (-1000), 3), (21, .ireturn, 1)]
set_option maxRecDepth 100000 in
theorem D_X11_worth : zdecs cX11_worth L_X11_worth = true := by decide +kernel
noncomputable def f_X11_worth (p1 : Int32) (σ : zG) : Option (Int32 × zG) :=
  if (f_X11_isMinute p1) = 0 then some ((-1000 : Int32), σ) else (f_X1_worthOf 0 p1 σ).bind (fun q1 => some (q1.1, q1.2))
set_option maxRecDepth 100000 in
set_option maxHeartbeats 4000000 in
theorem c_X11_worth (l : Launch) (p1 : Int32) (σ : zG) (q : Int32 × zG) (hq : f_X11_worth p1 σ = some q) : zMet l zsyC m_X11_worth yX11_worth [zR 0 0, zI p1] σ (some (zI q.1)) q.2 := by
  refine zEnter [(0, zR 0 0), (1, zI p1)] (by decide) rfl (fun _ => Nat.le_of_ble_eq_true rfl) (fun _ => rfl) (fun w h => ?_) (fun K hv hs => ?_)
  · exact zokm rfl h
  · have hP : ∀ x s, f_X11_worth p1 σ = some (x, s) → zKv K = some (zI x) ∧ zKs K = s := fun x s h => by rw [hq] at h; cases h; exact ⟨hv, hs⟩
    have hn : f_X11_worth p1 σ ≠ none := fun z => by rw [hq] at z; cases z
    have hf := f_X11_worth.eq_1 p1 σ
    refine z_iload_n (pc := 0) 1 (zdg D_X11_worth 0 (0, .iload_n 1, 1) rfl) rfl rfl ?_
    refine z_callS (pc := 1) (rest := []) (st2 := [zI (f_X11_isMinute p1)]) (fun l => c_X11_isMinute l p1 σ) zs_X11_isMinute lm_X11_195 rfl rfl rfl (Nat.le_of_ble_eq_true rfl) ⟨Nat.le_of_ble_eq_true rfl, Nat.le_of_ble_eq_true rfl⟩ (zdg D_X11_worth 1 (1, .invokestatic 195, 3) rfl) ?_
    refine z_if_eq (pc := 4) 18 (zdg D_X11_worth 2 (4, .ifCond .eq 14, 3) rfl) rfl hf (fun hf => ?_) (fun hf => ?_)
    · refine z_sipush (pc := 18) (v := -1000) (zdg D_X11_worth 8 (18, .sipush (-1000), 3) rfl) rfl ?_
      exact z_iret (pc := 21) rfl rfl (zdg D_X11_worth 9 (21, .ireturn, 1) rfl) (hP _ _ hf)
    · refine z_aload_n (pc := 7) 0 (zdg D_X11_worth 3 (7, .aload_n 0, 1) rfl) rfl rfl ?_
      refine z_getR (pc := 8) (g := 1) (j := 0) lf_X11_12 rfl rfl rfl (zdg D_X11_worth 4 (8, .getfield 12, 3) rfl) ?_
      refine z_iload_n (pc := 11) 1 (zdg D_X11_worth 5 (11, .iload_n 1, 1) rfl) rfl rfl ?_
      refine z_bind hn hf (fun q1 hq hf => ?_)
      refine z_callV (pc := 12) (rest := []) (st2 := [zI q1.1]) (fun l => c_X1_worthOf l 0 p1 σ q1 hq) zv_X1_worthOf lm_X11_231 rfl rfl rfl rfl rfl rfl (Nat.le_of_ble_eq_true rfl) ⟨Nat.le_of_ble_eq_true rfl, Nat.le_of_ble_eq_true rfl⟩ (zdg D_X11_worth 6 (12, .invokevirtual 231, 3) rfl) ?_
      refine z_goto (pc := 15) 21 (zdg D_X11_worth 7 (15, .goto 6, 3) rfl) rfl ?_
      exact z_iret (pc := 21) rfl rfl (zdg D_X11_worth 9 (21, .ireturn, 1) rfl) (hP _ _ hf)

def L_X11_shot : List (Nat × Instr × Nat) := [(0, .aload_n 0, 1), (1, .getfield 12, 3), (4, .iload_n 1, 1), (5, .invokevirtual 234, 3), (8, .astore_n 3, 1), (9, .aload_n 3, 1), (10, .ifnonnull 5, 3), (13, .iconst (-1), 1), (14, .ireturn, 1), (15, .iload_n 2, 1), (16, .tableswitch 55 0 3 #[32, 37, 42, 47], 32), (48, .aload_n 3, 1), (49, .getfield 238, 3), (52, .ireturn, 1), (53, .aload_n 3, 1), (54, .getfield 241, 3), (57, .ireturn, 1), (58, .aload_n 3, 1), (59, .getfield 242, 3), (62, .ireturn, 1), (63, .aload_n 3, 1), (64, .getfield 243, 3), (67, .invokestatic 247, 3), (70, .ireturn, 1), (71, .iconst (-1), 1), (72, .ireturn, 1)]
set_option maxRecDepth 100000 in
theorem D_X11_shot : zdecs cX11_shot L_X11_shot = true := by decide +kernel
noncomputable def f_X11_shot (p1 : Int32) (p2 : Int32) (σ : zG) : Option (Int32) :=
  (f_X1_shotOf 0 p1 σ).bind (fun q1 => zoc q1 (some (-1 : Int32)) (fun k2 => if p2 = 0 then some (σ.1 11 k2 0) else if p2 = 1 then some (σ.1 11 k2 1) else if p2 = 2 then some (σ.1 11 k2 2) else if p2 = 3 then some (f_J13_bitCount_95d88 (σ.2 11 k2 4)) else some (-1 : Int32)))
set_option maxRecDepth 100000 in
set_option maxHeartbeats 4000000 in
theorem c_X11_shot (l : Launch) (p1 : Int32) (p2 : Int32) (σ : zG) (q : Int32) (hq : f_X11_shot p1 p2 σ = some q) : zMet l zsyC m_X11_shot yX11_shot [zR 0 0, zI p1, zI p2] σ (some (zI q)) σ := by
  refine zEnter [(0, zR 0 0), (1, zI p1), (2, zI p2)] (by decide) rfl (fun _ => Nat.le_of_ble_eq_true rfl) (fun _ => rfl) (fun w h => ?_) (fun K hv hs => ?_)
  · exact zokm rfl h
  · have hP : ∀ x, f_X11_shot p1 p2 σ = some x → zKv K = some (zI x) ∧ zKs K = σ := fun x h => by rw [hq] at h; cases h; exact ⟨hv, hs⟩
    have hn : f_X11_shot p1 p2 σ ≠ none := fun z => by rw [hq] at z; cases z
    have hf := f_X11_shot.eq_1 p1 p2 σ
    refine z_aload_n (pc := 0) 0 (zdg D_X11_shot 0 (0, .aload_n 0, 1) rfl) rfl rfl ?_
    refine z_getR (pc := 1) (g := 1) (j := 0) lf_X11_12 rfl rfl rfl (zdg D_X11_shot 1 (1, .getfield 12, 3) rfl) ?_
    refine z_iload_n (pc := 4) 1 (zdg D_X11_shot 2 (4, .iload_n 1, 1) rfl) rfl rfl ?_
    refine z_bind hn hf (fun q1 hq hf => ?_)
    refine z_callV (pc := 5) (rest := []) (st2 := [zQ 11 q1]) (fun l => c_X1_shotOf l 0 p1 σ q1 hq) zv_X1_shotOf lm_X11_234 rfl rfl rfl rfl rfl rfl (Nat.le_of_ble_eq_true rfl) ⟨Nat.le_of_ble_eq_true rfl, Nat.le_of_ble_eq_true rfl⟩ (zdg D_X11_shot 3 (5, .invokevirtual 234, 3) rfl) ?_
    refine z_astore_n (pc := 8) (al' := [(3, zQ 11 q1), (0, zR 0 0), (1, zI p1), (2, zI p2)]) (zdg D_X11_shot 4 (8, .astore_n 3, 1) rfl) rfl (by decide) rfl ?_
    refine z_aload_n (pc := 9) 0 (zdg D_X11_shot 5 (9, .aload_n 3, 1) rfl) rfl rfl ?_
    refine z_ifnonnull (pc := 10) (al := fun o => [(3, zQ 11 o), (0, zR 0 0), (1, zI p1), (2, zI p2)]) (as := fun o => []) 15 q1 (zdg D_X11_shot 6 (10, .ifnonnull 5, 3) rfl) rfl hf (fun hf => ?_) (fun k2 hf => ?_)
    · refine z_iconst (pc := 13) (v := -1) (zdg D_X11_shot 7 (13, .iconst (-1), 1) rfl) rfl ?_
      exact z_iret (pc := 14) rfl rfl (zdg D_X11_shot 8 (14, .ireturn, 1) rfl) (hP _ hf)
    · refine z_iload_n (pc := 15) 3 (zdg D_X11_shot 9 (15, .iload_n 2, 1) rfl) rfl rfl ?_
      refine zif hf (fun hc0 hf => ?_) (fun hc0 hf => ?_)
      · refine z_tsIn (pc := 16) (c := 0) (j := 0) 48 (zdg D_X11_shot 10 (16, .tableswitch 55 0 3 #[32, 37, 42, 47], 32) rfl) hc0 (by decide) (by decide) rfl rfl rfl ?_
        refine z_aload_n (pc := 48) 0 (zdg D_X11_shot 11 (48, .aload_n 3, 1) rfl) rfl rfl ?_
        refine z_getI (pc := 49) lf_X11_238 rfl rfl (zdg D_X11_shot 12 (49, .getfield 238, 3) rfl) ?_
        exact z_iret (pc := 52) rfl rfl (zdg D_X11_shot 13 (52, .ireturn, 1) rfl) (hP _ hf)
      · skip
        refine zif hf (fun hc1 hf => ?_) (fun hc1 hf => ?_)
        · refine z_tsIn (pc := 16) (c := 1) (j := 1) 53 (zdg D_X11_shot 10 (16, .tableswitch 55 0 3 #[32, 37, 42, 47], 32) rfl) hc1 (by decide) (by decide) rfl rfl rfl ?_
          refine z_aload_n (pc := 53) 0 (zdg D_X11_shot 14 (53, .aload_n 3, 1) rfl) rfl rfl ?_
          refine z_getI (pc := 54) lf_X11_241 rfl rfl (zdg D_X11_shot 15 (54, .getfield 241, 3) rfl) ?_
          exact z_iret (pc := 57) rfl rfl (zdg D_X11_shot 16 (57, .ireturn, 1) rfl) (hP _ hf)
        · skip
          refine zif hf (fun hc2 hf => ?_) (fun hc2 hf => ?_)
          · refine z_tsIn (pc := 16) (c := 2) (j := 2) 58 (zdg D_X11_shot 10 (16, .tableswitch 55 0 3 #[32, 37, 42, 47], 32) rfl) hc2 (by decide) (by decide) rfl rfl rfl ?_
            refine z_aload_n (pc := 58) 0 (zdg D_X11_shot 17 (58, .aload_n 3, 1) rfl) rfl rfl ?_
            refine z_getI (pc := 59) lf_X11_242 rfl rfl (zdg D_X11_shot 18 (59, .getfield 242, 3) rfl) ?_
            exact z_iret (pc := 62) rfl rfl (zdg D_X11_shot 19 (62, .ireturn, 1) rfl) (hP _ hf)
          · skip
            refine zif hf (fun hc3 hf => ?_) (fun hc3 hf => ?_)
            · refine z_tsIn (pc := 16) (c := 3) (j := 3) 63 (zdg D_X11_shot 10 (16, .tableswitch 55 0 3 #[32, 37, 42, 47], 32) rfl) hc3 (by decide) (by decide) rfl rfl rfl ?_
              refine z_aload_n (pc := 63) 0 (zdg D_X11_shot 20 (63, .aload_n 3, 1) rfl) rfl rfl ?_
              refine z_getL (pc := 64) lf_X11_243 rfl rfl (zdg D_X11_shot 21 (64, .getfield 243, 3) rfl) ?_
              refine z_callS (pc := 67) (rest := []) (st2 := [zI (f_J13_bitCount_95d88 (σ.2 11 k2 4))]) (fun l => c_J13_bitCount_95d88 l zsyC (σ.2 11 k2 4) σ) zs_J13_bitCount_95d88 lm_X11_247 rfl rfl rfl (Nat.le_of_ble_eq_true rfl) ⟨Nat.le_of_ble_eq_true rfl, Nat.le_of_ble_eq_true rfl⟩ (zdg D_X11_shot 22 (67, .invokestatic 247, 3) rfl) ?_
              exact z_iret (pc := 70) rfl rfl (zdg D_X11_shot 23 (70, .ireturn, 1) rfl) (hP _ hf)
            · skip
              refine z_tsOut (pc := 16) 71 (zdg D_X11_shot 10 (16, .tableswitch 55 0 3 #[32, 37, 42, 47], 32) rfl) (by have e0 := lv_neT hc0 (k := 0) (a := 0) rfl; have e1 := lv_neT hc1 (k := 1) (a := 1) rfl; have e2 := lv_neT hc2 (k := 2) (a := 2) rfl; have e3 := lv_neT hc3 (k := 3) (a := 3) rfl; omega) rfl ?_
              refine z_iconst (pc := 71) (v := -1) (zdg D_X11_shot 24 (71, .iconst (-1), 1) rfl) rfl ?_
              exact z_iret (pc := 72) rfl rfl (zdg D_X11_shot 25 (72, .ireturn, 1) rfl) (hP _ hf)
