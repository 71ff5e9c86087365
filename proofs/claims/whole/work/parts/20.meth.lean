/-! METHODS, by program: functions and contracts -/
def L_X0_isSetOfShots : List (Nat × Instr × Nat) := [(0, .iload_n 1, 1), (1, .ifCond .lt 20, 3), (4, .iload_n 1, 1), (5, .iconst 1, 1), (6, .aload_n 0, 1), (7, .getfield 9, 3), (10, .getfield 15, 3), (13, .ishl, 1), (14, .if_icmp .ge 7, 3), (17, .iconst 1, 1), (18, .goto 4, 3), (21, .iconst 0, 1), (22, .ireturn, 1)]
set_option maxRecDepth 100000 in
theorem D_X0_isSetOfShots : zdecs cX0_isSetOfShots L_X0_isSetOfShots = true := by decide +kernel
noncomputable def f_X0_isSetOfShots (p1 : Int32) (σ : zG) : Int32 :=
  if 0 ≤ p1 then if p1 < (zshl (1 : Int32) (σ.1 1 0 9)) then (1 : Int32) else (0 : Int32) else (0 : Int32)
set_option maxRecDepth 100000 in
set_option maxHeartbeats 4000000 in
theorem c_X0_isSetOfShots (l : Launch) (p1 : Int32) (σ : zG) : zMet l zsyC m_X0_isSetOfShots yX0_isSetOfShots [zR 6 0, zI p1] σ (some (zI (f_X0_isSetOfShots p1 σ))) σ := by
  refine zEnter [(0, zR 6 0), (1, zI p1)] (by decide) rfl (fun _ => Nat.le_of_ble_eq_true rfl) (fun _ => rfl) (fun w h => ?_) (fun K hv hs => ?_)
  · exact zokm rfl h
  · have hP : ∀ x, f_X0_isSetOfShots p1 σ = x → zKv K = some (zI x) ∧ zKs K = σ := fun x h => by rw [h] at hv; exact ⟨hv, hs⟩
    have hf := f_X0_isSetOfShots.eq_1 p1 σ
    refine z_iload_n (pc := 0) 1 (zdg D_X0_isSetOfShots 0 (0, .iload_n 1, 1) rfl) rfl rfl ?_
    refine z_if_lt (pc := 1) 21 (zdg D_X0_isSetOfShots 1 (1, .ifCond .lt 20, 3) rfl) rfl hf (fun hf => ?_) (fun hf => ?_)
    · refine z_iconst (pc := 21) (v := 0) (zdg D_X0_isSetOfShots 11 (21, .iconst 0, 1) rfl) rfl ?_
      exact z_iret (pc := 22) rfl rfl (zdg D_X0_isSetOfShots 12 (22, .ireturn, 1) rfl) (hP _ hf)
    · refine z_iload_n (pc := 4) 1 (zdg D_X0_isSetOfShots 2 (4, .iload_n 1, 1) rfl) rfl rfl ?_
      refine z_iconst (pc := 5) (v := 1) (zdg D_X0_isSetOfShots 3 (5, .iconst 1, 1) rfl) rfl ?_
      refine z_aload_n (pc := 6) 0 (zdg D_X0_isSetOfShots 4 (6, .aload_n 0, 1) rfl) rfl rfl ?_
      refine z_getR (pc := 7) (g := 1) (j := 0) lf_X0_9 rfl rfl rfl (zdg D_X0_isSetOfShots 5 (7, .getfield 9, 3) rfl) ?_
      refine z_getI (pc := 10) lf_X0_15 rfl rfl (zdg D_X0_isSetOfShots 6 (10, .getfield 15, 3) rfl) ?_
      refine z_ishl (pc := 13) (zdg D_X0_isSetOfShots 7 (13, .ishl, 1) rfl) ?_
      refine z_icmp_ge (pc := 14) 21 (zdg D_X0_isSetOfShots 8 (14, .if_icmp .ge 7, 3) rfl) rfl hf (fun hf => ?_) (fun hf => ?_)
      · refine z_iconst (pc := 21) (v := 0) (zdg D_X0_isSetOfShots 11 (21, .iconst 0, 1) rfl) rfl ?_
        exact z_iret (pc := 22) rfl rfl (zdg D_X0_isSetOfShots 12 (22, .ireturn, 1) rfl) (hP _ hf)
      · refine z_iconst (pc := 17) (v := 1) (zdg D_X0_isSetOfShots 9 (17, .iconst 1, 1) rfl) rfl ?_
        refine z_goto (pc := 18) 22 (zdg D_X0_isSetOfShots 10 (18, .goto 4, 3) rfl) rfl ?_
        exact z_iret (pc := 22) rfl rfl (zdg D_X0_isSetOfShots 12 (22, .ireturn, 1) rfl) (hP _ hf)

def L_X0_isIn : List (Nat × Instr × Nat) := [(0, .iload_n 1, 1), (1, .iload_n 2, 1), (2, .iushr, 1), (3, .iconst 1, 1), (4, .iand, 1), (5, .ifCond .eq 7, 3), (8, .iconst 1, 1), (9, .goto 4, 3), (12, .iconst 0, 1), (13, .ireturn, 1)]
set_option maxRecDepth 100000 in
theorem D_X0_isIn : zdecs cX0_isIn L_X0_isIn = true := by decide +kernel
noncomputable def f_X0_isIn (p1 : Int32) (p2 : Int32) : Int32 :=
  if ((zushr p1 p2) &&& (1 : Int32)) = 0 then (0 : Int32) else (1 : Int32)
set_option maxRecDepth 100000 in
set_option maxHeartbeats 4000000 in
theorem c_X0_isIn (l : Launch) (p1 : Int32) (p2 : Int32) (σ : zG) : zMet l zsyC m_X0_isIn yX0_isIn [zR 6 0, zI p1, zI p2] σ (some (zI (f_X0_isIn p1 p2))) σ := by
  refine zEnter [(0, zR 6 0), (1, zI p1), (2, zI p2)] (by decide) rfl (fun _ => Nat.le_of_ble_eq_true rfl) (fun _ => rfl) (fun w h => ?_) (fun K hv hs => ?_)
  · exact zokm rfl h
  · have hP : ∀ x, f_X0_isIn p1 p2 = x → zKv K = some (zI x) ∧ zKs K = σ := fun x h => by rw [h] at hv; exact ⟨hv, hs⟩
    have hf := f_X0_isIn.eq_1 p1 p2
    refine z_iload_n (pc := 0) 1 (zdg D_X0_isIn 0 (0, .iload_n 1, 1) rfl) rfl rfl ?_
    refine z_iload_n (pc := 1) 2 (zdg D_X0_isIn 1 (1, .iload_n 2, 1) rfl) rfl rfl ?_
    refine z_iushr (pc := 2) (zdg D_X0_isIn 2 (2, .iushr, 1) rfl) ?_
    refine z_iconst (pc := 3) (v := 1) (zdg D_X0_isIn 3 (3, .iconst 1, 1) rfl) rfl ?_
    refine z_iand (pc := 4) (zdg D_X0_isIn 4 (4, .iand, 1) rfl) ?_
    refine z_if_eq (pc := 5) 12 (zdg D_X0_isIn 5 (5, .ifCond .eq 7, 3) rfl) rfl hf (fun hf => ?_) (fun hf => ?_)
    · refine z_iconst (pc := 12) (v := 0) (zdg D_X0_isIn 8 (12, .iconst 0, 1) rfl) rfl ?_
      exact z_iret (pc := 13) rfl rfl (zdg D_X0_isIn 9 (13, .ireturn, 1) rfl) (hP _ hf)
    · refine z_iconst (pc := 8) (v := 1) (zdg D_X0_isIn 6 (8, .iconst 1, 1) rfl) rfl ?_
      refine z_goto (pc := 9) 13 (zdg D_X0_isIn 7 (9, .goto 4, 3) rfl) rfl ?_
      exact z_iret (pc := 13) rfl rfl (zdg D_X0_isIn 9 (13, .ireturn, 1) rfl) (hP _ hf)

def L_X6_clearSpots : List (Nat × Instr × Nat) := [(0, .aload_n 0, 1), (1, .getfield 18, 3), (4, .aload_n 0, 1), (5, .getfield 22, 3), (8, .ldc2_w 25, 3), (11, .lxor, 1), (12, .land, 1), (13, .lreturn, 1)]
set_option maxRecDepth 100000 in
theorem D_X6_clearSpots : zdecs cX6_clearSpots L_X6_clearSpots = true := by decide +kernel
noncomputable def f_X6_clearSpots (i : Nat) (σ : zG) : Int64 :=
  ((σ.2 11 i 3) &&& ((σ.2 11 i 4) ^^^ (-1 : Int64)))
set_option maxRecDepth 100000 in
set_option maxHeartbeats 4000000 in
theorem c_X6_clearSpots (l : Launch) (i : Nat) (σ : zG) : zMet l zsyC m_X6_clearSpots yX6_clearSpots [zR 11 i] σ (some (zL (f_X6_clearSpots i σ))) σ := by
  refine zEnter [(0, zR 11 i)] (by decide) rfl (fun _ => Nat.le_of_ble_eq_true rfl) (fun _ => rfl) (fun w h => ?_) (fun K hv hs => ?_)
  · exact zokm rfl h
  · have hP : ∀ x, f_X6_clearSpots i σ = x → zKv K = some (zL x) ∧ zKs K = σ := fun x h => by rw [h] at hv; exact ⟨hv, hs⟩
    have hf := f_X6_clearSpots.eq_1 i σ
    refine z_aload_n (pc := 0) 0 (zdg D_X6_clearSpots 0 (0, .aload_n 0, 1) rfl) rfl rfl ?_
    refine z_getL (pc := 1) lf_X6_18 rfl rfl (zdg D_X6_clearSpots 1 (1, .getfield 18, 3) rfl) ?_
    refine z_aload_n (pc := 4) 0 (zdg D_X6_clearSpots 2 (4, .aload_n 0, 1) rfl) rfl rfl ?_
    refine z_getL (pc := 5) lf_X6_22 rfl rfl (zdg D_X6_clearSpots 3 (5, .getfield 22, 3) rfl) ?_
    refine z_ldc2 (pc := 8) lc_X6_25 (zdg D_X6_clearSpots 4 (8, .ldc2_w 25, 3) rfl) ?_
    refine z_lxor (pc := 11) (zdg D_X6_clearSpots 5 (11, .lxor, 1) rfl) ?_
    refine z_land (pc := 12) (zdg D_X6_clearSpots 6 (12, .land, 1) rfl) ?_
    exact z_lret (pc := 13) rfl (zdg D_X6_clearSpots 7 (13, .lreturn, 1) rfl) (hP _ hf)

def L_X1_columns : List (Nat × Instr × Nat) := [(0, .lconst 1, 1), (1, .iload_n 2, 1), (2, .lshl, 1), (3, .lconst 1, 1), (4, .lsub, 1), (5, .iload_n 1, 1), (6, .lshl, 1), (7, .lstore_n 3, 1), (8, .lconst 0, 1), (9, .lstore 5, 2), (11, .iconst 0, 1), (12, .istore 7, 2), (14, .iload 7, 2), (16, .aload_n 0, 1), (17, .getfield 61, 3), (20, .if_icmp .ge 21, 3), (23, .lload 5, 2), (25, .lload_n 3, 1), (26, .iload 7, 2), (28, .bipush 8, 2), (30, .imul, 1), (31, .lshl, 1), (32, .lor, 1), (33, .lstore 5, 2), (35, .iinc 7 1, 3), (38, .goto (-24), 3), (41, .lload 5, 2), (43, .lreturn, 1)]
set_option maxRecDepth 100000 in
theorem D_X1_columns : zdecs cX1_columns L_X1_columns = true := by decide +kernel
noncomputable def b_X1_columns_14 (σ : zG) (i : Nat) (p2 : Int32) (p1 : Int32) (v5_1 : Int64) (v7_2 : Int32) : Option ((Int64 × Int32) ⊕ (Int64)) :=
  if v7_2 < (σ.1 1 i 1) then zb (v5_1 ||| (zlshl (zlshl ((zlshl (1 : Int64) p2) - (1 : Int64)) p1) (v7_2 * (8 : Int32)))) (fun x3 => some (Sum.inl (x3, (v7_2 + 1)))) else some (Sum.inr v5_1)
noncomputable def f_X1_columns (i : Nat) (p1 : Int32) (p2 : Int32) (σ : zG) : Option (Int64) :=
  (zlp (fun q : Int64 × Int32 => b_X1_columns_14 σ i p2 p1 q.1 q.2) ((0 : Int64), (0 : Int32))).bind (fun e4 : Int64 => some e4)
set_option maxRecDepth 100000 in
set_option maxHeartbeats 4000000 in
theorem c_X1_columns (l : Launch) (i : Nat) (p1 : Int32) (p2 : Int32) (σ : zG) (q : Int64) (hq : f_X1_columns i p1 p2 σ = some q) : zMet l zsyC m_X1_columns yX1_columns [zR 1 i, zI p1, zI p2] σ (some (zL q)) σ := by
  refine zEnter [(0, zR 1 i), (1, zI p1), (2, zI p2)] (by decide) rfl (fun _ => Nat.le_of_ble_eq_true rfl) (fun _ => rfl) (fun w h => ?_) (fun K hv hs => ?_)
  · exact zokm rfl h
  · have hP : ∀ x, f_X1_columns i p1 p2 σ = some x → zKv K = some (zL x) ∧ zKs K = σ := fun x h => by rw [hq] at h; cases h; exact ⟨hv, hs⟩
    have hn : f_X1_columns i p1 p2 σ ≠ none := fun z => by rw [hq] at z; cases z
    have hf := f_X1_columns.eq_1 i p1 p2 σ
    refine z_lconst (pc := 0) (v := 1) (zdg D_X1_columns 0 (0, .lconst 1, 1) rfl) rfl ?_
    refine z_iload_n (pc := 1) 2 (zdg D_X1_columns 1 (1, .iload_n 2, 1) rfl) rfl rfl ?_
    refine z_lshl (pc := 2) (zdg D_X1_columns 2 (2, .lshl, 1) rfl) ?_
    refine z_lconst (pc := 3) (v := 1) (zdg D_X1_columns 3 (3, .lconst 1, 1) rfl) rfl ?_
    refine z_lsub (pc := 4) (zdg D_X1_columns 4 (4, .lsub, 1) rfl) ?_
    refine z_iload_n (pc := 5) 1 (zdg D_X1_columns 5 (5, .iload_n 1, 1) rfl) rfl rfl ?_
    refine z_lshl (pc := 6) (zdg D_X1_columns 6 (6, .lshl, 1) rfl) ?_
    refine z_lstore_n (pc := 7) (al' := [(3, zL (zlshl ((zlshl (1 : Int64) p2) - (1 : Int64)) p1)), (0, zR 1 i), (1, zI p1), (2, zI p2)]) (zdg D_X1_columns 7 (7, .lstore_n 3, 1) rfl) rfl (by decide) rfl ?_
    refine z_lconst (pc := 8) (v := 0) (zdg D_X1_columns 8 (8, .lconst 0, 1) rfl) rfl ?_
    refine z_lstore (pc := 9) (al' := [(5, zL (0 : Int64)), (3, zL (zlshl ((zlshl (1 : Int64) p2) - (1 : Int64)) p1)), (0, zR 1 i), (1, zI p1), (2, zI p2)]) (zdg D_X1_columns 9 (9, .lstore 5, 2) rfl) (by decide) rfl ?_
    refine z_iconst (pc := 11) (v := 0) (zdg D_X1_columns 10 (11, .iconst 0, 1) rfl) rfl ?_
    refine z_istore (pc := 12) (al' := [(7, zI (0 : Int32)), (5, zL (0 : Int64)), (3, zL (zlshl ((zlshl (1 : Int64) p2) - (1 : Int64)) p1)), (0, zR 1 i), (1, zI p1), (2, zI p2)]) (zdg D_X1_columns 11 (12, .istore 7, 2) rfl) (by decide) rfl ?_
    refine z_sub (al' := [(0, zR 1 i), (3, zL (zlshl ((zlshl (1 : Int64) p2) - (1 : Int64)) p1)), (5, zL (0 : Int64)), (7, zI (0 : Int32))]) [3, 2, 1, 0] rfl ?_
    refine z_loop (f := (fun q : Int64 × Int32 => b_X1_columns_14 σ i p2 p1 q.1 q.2)) (a := ((0 : Int64), (0 : Int32))) (fun q : Int64 × Int32 => zX zsyC m_X1_columns K 14 [(0, zR 1 i), (3, zL (zlshl ((zlshl (1 : Int64) p2) - (1 : Int64)) p1)), (5, zL q.1), (7, zI q.2)] [] σ) (fun e4 : Int64 => zX zsyC m_X1_columns K 41 [(5, zL e4)] [] σ) hn hf ?_ ?_
    · intro e4 hf
      refine z_lload (pc := 41) 0 (zdg D_X1_columns 26 (41, .lload 5, 2) rfl) rfl ?_
      exact z_lret (pc := 43) rfl (zdg D_X1_columns 27 (43, .lreturn, 1) rfl) (hP _ hf)
    · rintro ⟨v5_1, v7_2⟩ hn hi hx
      have hf := b_X1_columns_14.eq_1 σ i p2 p1 v5_1 v7_2
      refine z_iload (pc := 14) 3 (zdg D_X1_columns 12 (14, .iload 7, 2) rfl) rfl ?_
      refine z_aload_n (pc := 16) 0 (zdg D_X1_columns 13 (16, .aload_n 0, 1) rfl) rfl rfl ?_
      refine z_getI (pc := 17) lf_X1_61 rfl rfl (zdg D_X1_columns 14 (17, .getfield 61, 3) rfl) ?_
      refine z_icmp_ge (pc := 20) 41 (zdg D_X1_columns 15 (20, .if_icmp .ge 21, 3) rfl) rfl hf (fun hf => ?_) (fun hf => ?_)
      · refine z_sub (al' := [(5, zL v5_1)]) [2] rfl ?_
        exact hx v5_1 hf
      · refine z_lload (pc := 23) 2 (zdg D_X1_columns 16 (23, .lload 5, 2) rfl) rfl ?_
        refine z_lload_n (pc := 25) 1 (zdg D_X1_columns 17 (25, .lload_n 3, 1) rfl) rfl rfl ?_
        refine z_iload (pc := 26) 3 (zdg D_X1_columns 18 (26, .iload 7, 2) rfl) rfl ?_
        refine z_bipush (pc := 28) (v := 8) (zdg D_X1_columns 19 (28, .bipush 8, 2) rfl) rfl ?_
        refine z_imul (pc := 30) (zdg D_X1_columns 20 (30, .imul, 1) rfl) ?_
        refine z_lshl (pc := 31) (zdg D_X1_columns 21 (31, .lshl, 1) rfl) ?_
        refine z_lor (pc := 32) (zdg D_X1_columns 22 (32, .lor, 1) rfl) ?_
        refine z_nmL hf (fun x3 hf => ?_)
        refine z_lstore (pc := 33) (al' := [(5, zL x3), (0, zR 1 i), (3, zL (zlshl ((zlshl (1 : Int64) p2) - (1 : Int64)) p1)), (7, zI v7_2)]) (zdg D_X1_columns 23 (33, .lstore 5, 2) rfl) (by decide) rfl ?_
        refine z_iinc (pc := 35) (v0 := (v7_2 + 1)) (al' := [(7, zI (v7_2 + 1)), (5, zL x3), (0, zR 1 i), (3, zL (zlshl ((zlshl (1 : Int64) p2) - (1 : Int64)) p1))]) 3 (zdg D_X1_columns 24 (35, .iinc 7 1, 3) rfl) rfl rfl (by decide) rfl ?_
        refine z_goto (pc := 38) 14 (zdg D_X1_columns 25 (38, .goto (-24), 3) rfl) rfl ?_
        refine z_sub (al' := [(0, zR 1 i), (3, zL (zlshl ((zlshl (1 : Int64) p2) - (1 : Int64)) p1)), (5, zL x3), (7, zI (v7_2 + 1))]) [2, 3, 1, 0] rfl ?_
        exact hi (x3, (v7_2 + 1)) hf

def L_X1_viewNow : List (Nat × Instr × Nat) := [(0, .aload_n 0, 1), (1, .aload_n 0, 1), (2, .getfield 70, 3), (5, .aload_n 0, 1), (6, .getfield 67, 3), (9, .invokevirtual 178, 3), (12, .lreturn, 1)]
set_option maxRecDepth 100000 in
theorem D_X1_viewNow : zdecs cX1_viewNow L_X1_viewNow = true := by decide +kernel
noncomputable def f_X1_viewNow (i : Nat) (σ : zG) : Option (Int64) :=
  (f_X1_columns i (σ.1 1 i 5) (σ.1 1 i 4) σ).bind (fun q1 => some q1)
set_option maxRecDepth 100000 in
set_option maxHeartbeats 4000000 in
theorem c_X1_viewNow (l : Launch) (i : Nat) (σ : zG) (q : Int64) (hq : f_X1_viewNow i σ = some q) : zMet l zsyC m_X1_viewNow yX1_viewNow [zR 1 i] σ (some (zL q)) σ := by
  refine zEnter [(0, zR 1 i)] (by decide) rfl (fun _ => Nat.le_of_ble_eq_true rfl) (fun _ => rfl) (fun w h => ?_) (fun K hv hs => ?_)
  · exact zokm rfl h
  · have hP : ∀ x, f_X1_viewNow i σ = some x → zKv K = some (zL x) ∧ zKs K = σ := fun x h => by rw [hq] at h; cases h; exact ⟨hv, hs⟩
    have hn : f_X1_viewNow i σ ≠ none := fun z => by rw [hq] at z; cases z
    have hf := f_X1_viewNow.eq_1 i σ
    refine z_aload_n (pc := 0) 0 (zdg D_X1_viewNow 0 (0, .aload_n 0, 1) rfl) rfl rfl ?_
    refine z_aload_n (pc := 1) 0 (zdg D_X1_viewNow 1 (1, .aload_n 0, 1) rfl) rfl rfl ?_
    refine z_getI (pc := 2) lf_X1_70 rfl rfl (zdg D_X1_viewNow 2 (2, .getfield 70, 3) rfl) ?_
    refine z_aload_n (pc := 5) 0 (zdg D_X1_viewNow 3 (5, .aload_n 0, 1) rfl) rfl rfl ?_
    refine z_getI (pc := 6) lf_X1_67 rfl rfl (zdg D_X1_viewNow 4 (6, .getfield 67, 3) rfl) ?_
    refine z_bind hn hf (fun q1 hq hf => ?_)
    refine z_callV (pc := 9) (rest := []) (st2 := [zL q1]) (fun l => c_X1_columns l i (σ.1 1 i 5) (σ.1 1 i 4) σ q1 hq) zv_X1_columns lm_X1_178 rfl rfl rfl rfl rfl rfl (Nat.le_of_ble_eq_true rfl) ⟨Nat.le_of_ble_eq_true rfl, Nat.le_of_ble_eq_true rfl⟩ (zdg D_X1_viewNow 5 (9, .invokevirtual 178, 3) rfl) ?_
    exact z_lret (pc := 12) rfl (zdg D_X1_viewNow 6 (12, .lreturn, 1) rfl) (hP _ hf)

def L_X0_laidBy : List (Nat × Instr × Nat) := [(0, .lconst 0, 1), (1, .lstore_n 2, 1), (2, .iconst 0, 1), (3, .istore 4, 2), (5, .iload 4, 2), (7, .aload_n 0, 1), (8, .getfield 9, 3), (11, .getfield 15, 3), (14, .if_icmp .ge 42, 3), (17, .iload 4, 2), (19, .bipush 10, 2), (21, .if_icmp .ge 35, 3), (24, .aload_n 0, 1), (25, .iload_n 1, 1), (26, .iload 4, 2), (28, .invokevirtual 21, 3), (31, .ifCond .eq 19, 3), (34, .lload_n 2, 1), (35, .aload_n 0, 1), (36, .getfield 9, 3), (39, .getfield 25, 3), (42, .iload 4, 2), (44, .aaload, 1), (45, .invokevirtual 29, 3), (48, .lor, 1), (49, .lstore_n 2, 1), (50, .iinc 4 1, 3), (53, .goto (-48), 3), (56, .lload_n 2, 1), (57, .aload_n 0, 1), (58, .getfield 9, 3), (61, .invokevirtual 35, 3), (64, .land, 1), (65, .lreturn, 1)]
set_option maxRecDepth 100000 in
theorem D_X0_laidBy : zdecs cX0_laidBy L_X0_laidBy = true := by decide +kernel
noncomputable def b_X0_laidBy_5 (σ : zG) (p1 : Int32) (v2_1 : Int64) (v4_2 : Int32) : Option ((Int64 × Int32) ⊕ (Int64)) :=
  if v4_2 < (σ.1 1 0 9) then if v4_2 < (10 : Int32) then if (f_X0_isIn p1 v4_2) = 0 then some (Sum.inl (v2_1, (v4_2 + 1))) else zg (zin v4_2 10) (some (Sum.inl ((v2_1 ||| (f_X6_clearSpots v4_2.toNatClampNeg σ)), (v4_2 + 1)))) else some (Sum.inr v2_1) else some (Sum.inr v2_1)
noncomputable def f_X0_laidBy (p1 : Int32) (σ : zG) : Option (Int64) :=
  (zlp (fun q : Int64 × Int32 => b_X0_laidBy_5 σ p1 q.1 q.2) ((0 : Int64), (0 : Int32))).bind (fun e3 : Int64 => (f_X1_viewNow 0 σ).bind (fun q4 => some (e3 &&& q4)))
set_option maxRecDepth 100000 in
set_option maxHeartbeats 4000000 in
theorem c_X0_laidBy (l : Launch) (p1 : Int32) (σ : zG) (q : Int64) (hq : f_X0_laidBy p1 σ = some q) : zMet l zsyC m_X0_laidBy yX0_laidBy [zR 6 0, zI p1] σ (some (zL q)) σ := by
  refine zEnter [(0, zR 6 0), (1, zI p1)] (by decide) rfl (fun _ => Nat.le_of_ble_eq_true rfl) (fun _ => rfl) (fun w h => ?_) (fun K hv hs => ?_)
  · exact zokm rfl h
  · have hP : ∀ x, f_X0_laidBy p1 σ = some x → zKv K = some (zL x) ∧ zKs K = σ := fun x h => by rw [hq] at h; cases h; exact ⟨hv, hs⟩
    have hn : f_X0_laidBy p1 σ ≠ none := fun z => by rw [hq] at z; cases z
    have hf := f_X0_laidBy.eq_1 p1 σ
    refine z_lconst (pc := 0) (v := 0) (zdg D_X0_laidBy 0 (0, .lconst 0, 1) rfl) rfl ?_
    refine z_lstore_n (pc := 1) (al' := [(2, zL (0 : Int64)), (0, zR 6 0), (1, zI p1)]) (zdg D_X0_laidBy 1 (1, .lstore_n 2, 1) rfl) rfl (by decide) rfl ?_
    refine z_iconst (pc := 2) (v := 0) (zdg D_X0_laidBy 2 (2, .iconst 0, 1) rfl) rfl ?_
    refine z_istore (pc := 3) (al' := [(4, zI (0 : Int32)), (2, zL (0 : Int64)), (0, zR 6 0), (1, zI p1)]) (zdg D_X0_laidBy 3 (3, .istore 4, 2) rfl) (by decide) rfl ?_
    refine z_sub (al' := [(0, zR 6 0), (1, zI p1), (2, zL (0 : Int64)), (4, zI (0 : Int32))]) [2, 3, 1, 0] rfl ?_
    refine z_loop (f := (fun q : Int64 × Int32 => b_X0_laidBy_5 σ p1 q.1 q.2)) (a := ((0 : Int64), (0 : Int32))) (fun q : Int64 × Int32 => zX zsyC m_X0_laidBy K 5 [(0, zR 6 0), (1, zI p1), (2, zL q.1), (4, zI q.2)] [] σ) (fun e3 : Int64 => zX zsyC m_X0_laidBy K 56 [(0, zR 6 0), (2, zL e3)] [] σ) hn hf ?_ ?_
    · intro e3 hf
      refine z_lload_n (pc := 56) 1 (zdg D_X0_laidBy 28 (56, .lload_n 2, 1) rfl) rfl rfl ?_
      refine z_aload_n (pc := 57) 0 (zdg D_X0_laidBy 29 (57, .aload_n 0, 1) rfl) rfl rfl ?_
      refine z_getR (pc := 58) (g := 1) (j := 0) lf_X0_9 rfl rfl rfl (zdg D_X0_laidBy 30 (58, .getfield 9, 3) rfl) ?_
      refine z_bind hn hf (fun q4 hq hf => ?_)
      refine z_callV (pc := 61) (rest := [zL e3]) (st2 := [zL q4, zL e3]) (fun l => c_X1_viewNow l 0 σ q4 hq) zv_X1_viewNow lm_X0_35 rfl rfl rfl rfl rfl rfl (Nat.le_of_ble_eq_true rfl) ⟨Nat.le_of_ble_eq_true rfl, Nat.le_of_ble_eq_true rfl⟩ (zdg D_X0_laidBy 31 (61, .invokevirtual 35, 3) rfl) ?_
      refine z_land (pc := 64) (zdg D_X0_laidBy 32 (64, .land, 1) rfl) ?_
      exact z_lret (pc := 65) rfl (zdg D_X0_laidBy 33 (65, .lreturn, 1) rfl) (hP _ hf)
    · rintro ⟨v2_1, v4_2⟩ hn hi hx
      have hf := b_X0_laidBy_5.eq_1 σ p1 v2_1 v4_2
      refine z_iload (pc := 5) 3 (zdg D_X0_laidBy 4 (5, .iload 4, 2) rfl) rfl ?_
      refine z_aload_n (pc := 7) 0 (zdg D_X0_laidBy 5 (7, .aload_n 0, 1) rfl) rfl rfl ?_
      refine z_getR (pc := 8) (g := 1) (j := 0) lf_X0_9 rfl rfl rfl (zdg D_X0_laidBy 6 (8, .getfield 9, 3) rfl) ?_
      refine z_getI (pc := 11) lf_X0_15 rfl rfl (zdg D_X0_laidBy 7 (11, .getfield 15, 3) rfl) ?_
      refine z_icmp_ge (pc := 14) 56 (zdg D_X0_laidBy 8 (14, .if_icmp .ge 42, 3) rfl) rfl hf (fun hf => ?_) (fun hf => ?_)
      · refine z_sub (al' := [(0, zR 6 0), (2, zL v2_1)]) [0, 2] rfl ?_
        exact hx v2_1 hf
      · refine z_iload (pc := 17) 3 (zdg D_X0_laidBy 9 (17, .iload 4, 2) rfl) rfl ?_
        refine z_bipush (pc := 19) (v := 10) (zdg D_X0_laidBy 10 (19, .bipush 10, 2) rfl) rfl ?_
        refine z_icmp_ge (pc := 21) 56 (zdg D_X0_laidBy 11 (21, .if_icmp .ge 35, 3) rfl) rfl hf (fun hf => ?_) (fun hf => ?_)
        · refine z_sub (al' := [(0, zR 6 0), (2, zL v2_1)]) [0, 2] rfl ?_
          exact hx v2_1 hf
        · refine z_aload_n (pc := 24) 0 (zdg D_X0_laidBy 12 (24, .aload_n 0, 1) rfl) rfl rfl ?_
          refine z_iload_n (pc := 25) 1 (zdg D_X0_laidBy 13 (25, .iload_n 1, 1) rfl) rfl rfl ?_
          refine z_iload (pc := 26) 3 (zdg D_X0_laidBy 14 (26, .iload 4, 2) rfl) rfl ?_
          refine z_callV (pc := 28) (rest := []) (st2 := [zI (f_X0_isIn p1 v4_2)]) (fun l => c_X0_isIn l p1 v4_2 σ) zv_X0_isIn lm_X0_21 rfl rfl rfl rfl rfl rfl (Nat.le_of_ble_eq_true rfl) ⟨Nat.le_of_ble_eq_true rfl, Nat.le_of_ble_eq_true rfl⟩ (zdg D_X0_laidBy 15 (28, .invokevirtual 21, 3) rfl) ?_
          refine z_if_eq (pc := 31) 50 (zdg D_X0_laidBy 16 (31, .ifCond .eq 19, 3) rfl) rfl hf (fun hf => ?_) (fun hf => ?_)
          · refine z_iinc (pc := 50) (v0 := (v4_2 + 1)) (al' := [(4, zI (v4_2 + 1)), (0, zR 6 0), (1, zI p1), (2, zL v2_1)]) 3 (zdg D_X0_laidBy 26 (50, .iinc 4 1, 3) rfl) rfl rfl (by decide) rfl ?_
            refine z_goto (pc := 53) 5 (zdg D_X0_laidBy 27 (53, .goto (-48), 3) rfl) rfl ?_
            refine z_sub (al' := [(0, zR 6 0), (1, zI p1), (2, zL v2_1), (4, zI (v4_2 + 1))]) [1, 2, 3, 0] rfl ?_
            exact hi (v2_1, (v4_2 + 1)) hf
          · refine z_lload_n (pc := 34) 2 (zdg D_X0_laidBy 17 (34, .lload_n 2, 1) rfl) rfl rfl ?_
            refine z_aload_n (pc := 35) 0 (zdg D_X0_laidBy 18 (35, .aload_n 0, 1) rfl) rfl rfl ?_
            refine z_getR (pc := 36) (g := 1) (j := 0) lf_X0_9 rfl rfl rfl (zdg D_X0_laidBy 19 (36, .getfield 9, 3) rfl) ?_
            refine z_getR (pc := 39) (g := 31) (j := 0) lf_X0_25 rfl rfl rfl (zdg D_X0_laidBy 20 (39, .getfield 25, 3) rfl) ?_
            refine z_iload (pc := 42) 3 (zdg D_X0_laidBy 21 (42, .iload 4, 2) rfl) rfl ?_
            refine z_aald (pc := 44) (g := 11) (t := fun j => j) rfl (fun _ => rfl) (fun j h => by show (if j < 10 then some (11, 10 * 0 + j) else none) = _; rw [if_pos h]; simp) (zdg D_X0_laidBy 22 (44, .aaload, 1) rfl) hn hf (fun hf => ?_)
            refine z_callV (pc := 45) (rest := [zL v2_1]) (st2 := [zL (f_X6_clearSpots v4_2.toNatClampNeg σ), zL v2_1]) (fun l => c_X6_clearSpots l v4_2.toNatClampNeg σ) zv_X6_clearSpots lm_X0_29 rfl rfl rfl rfl rfl rfl (Nat.le_of_ble_eq_true rfl) ⟨Nat.le_of_ble_eq_true rfl, Nat.le_of_ble_eq_true rfl⟩ (zdg D_X0_laidBy 23 (45, .invokevirtual 29, 3) rfl) ?_
            refine z_lor (pc := 48) (zdg D_X0_laidBy 24 (48, .lor, 1) rfl) ?_
            refine z_lstore_n (pc := 49) (al' := [(2, zL (v2_1 ||| (f_X6_clearSpots v4_2.toNatClampNeg σ))), (0, zR 6 0), (1, zI p1), (4, zI v4_2)]) (zdg D_X0_laidBy 25 (49, .lstore_n 2, 1) rfl) rfl (by decide) rfl ?_
            refine z_iinc (pc := 50) (v0 := (v4_2 + 1)) (al' := [(4, zI (v4_2 + 1)), (2, zL (v2_1 ||| (f_X6_clearSpots v4_2.toNatClampNeg σ))), (0, zR 6 0), (1, zI p1)]) 3 (zdg D_X0_laidBy 26 (50, .iinc 4 1, 3) rfl) rfl rfl (by decide) rfl ?_
            refine z_goto (pc := 53) 5 (zdg D_X0_laidBy 27 (53, .goto (-48), 3) rfl) rfl ?_
            refine z_sub (al' := [(0, zR 6 0), (1, zI p1), (2, zL (v2_1 ||| (f_X6_clearSpots v4_2.toNatClampNeg σ))), (4, zI (v4_2 + 1))]) [2, 3, 1, 0] rfl ?_
            exact hi ((v2_1 ||| (f_X6_clearSpots v4_2.toNatClampNeg σ)), (v4_2 + 1)) hf

def L_J6_bitCount_0f7a4 : List (Nat × Instr × Nat) := [(0, .iload_n 0, 1), (1, .iload_n 0, 1), (2, .iconst 1, 1), (3, .iushr, 1), (4, .ldc_w 265, 3), (7, .iand, 1), (8, .isub, 1), (9, .istore_n 0, 1), (10, .iload_n 0, 1), (11, .ldc_w 266, 3), (14, .iand, 1), (15, .iload_n 0, 1), (16, .iconst 2, 1), (17, .iushr, 1), (18, .ldc_w 266, 3), (21, .iand, 1), (22, .iadd, 1), (23, .istore_n 0, 1), (24, .iload_n 0, 1), (25, .iload_n 0, 1), (26, .iconst 4, 1), (27, .iushr, 1), (28, .iadd, 1), (29, .ldc_w 267, 3), (32, .iand, 1), (33, .istore_n 0, 1), (34, .iload_n 0, 1), (35, .iload_n 0, 1), (36, .bipush 8, 2), (38, .iushr, 1), (39, .iadd, 1), (40, .istore_n 0, 1), (41, .iload_n 0, 1), (42, .iload_n 0, 1), (43, .bipush 16, 2), (45, .iushr, 1), (46, .iadd, 1), (47, .istore_n 0, 1), (48, .iload_n 0, 1), (49, .bipush 63, 2), (51, .iand, 1), (52, .ireturn, 1)]
set_option maxRecDepth 100000 in
theorem D_J6_bitCount_0f7a4 : zdecs cJ6_bitCount_0f7a4 L_J6_bitCount_0f7a4 = true := by decide +kernel
noncomputable def f_J6_bitCount_0f7a4 (p1 : Int32) : Int32 :=
  zb (((p1 - ((zushr p1 (1 : Int32)) &&& (1431655765 : Int32))) &&& (858993459 : Int32)) + ((zushr (p1 - ((zushr p1 (1 : Int32)) &&& (1431655765 : Int32))) (2 : Int32)) &&& (858993459 : Int32))) (fun x1 => zb (((x1 + (zushr x1 (4 : Int32))) &&& (252645135 : Int32)) + (zushr ((x1 + (zushr x1 (4 : Int32))) &&& (252645135 : Int32)) (8 : Int32))) (fun x2 => ((x2 + (zushr x2 (16 : Int32))) &&& (63 : Int32))))
set_option maxRecDepth 100000 in
set_option maxHeartbeats 4000000 in
theorem c_J6_bitCount_0f7a4 (l : Launch) (sy : zSy) (p1 : Int32) (σ : zG) : zMet l sy m_J6_bitCount_0f7a4 yJ6_bitCount_0f7a4 [zI p1] σ (some (zI (f_J6_bitCount_0f7a4 p1))) σ := by
  refine zEnter [(0, zI p1)] (by decide) rfl (fun _ => Nat.le_of_ble_eq_true rfl) (fun _ => rfl) (fun w h => ?_) (fun K hv hs => ?_)
  · exact zokm rfl h
  · have hP : ∀ x, f_J6_bitCount_0f7a4 p1 = x → zKv K = some (zI x) ∧ zKs K = σ := fun x h => by rw [h] at hv; exact ⟨hv, hs⟩
    have hf := f_J6_bitCount_0f7a4.eq_1 p1
    refine z_iload_n (pc := 0) 0 (zdg D_J6_bitCount_0f7a4 0 (0, .iload_n 0, 1) rfl) rfl rfl ?_
    refine z_iload_n (pc := 1) 0 (zdg D_J6_bitCount_0f7a4 1 (1, .iload_n 0, 1) rfl) rfl rfl ?_
    refine z_iconst (pc := 2) (v := 1) (zdg D_J6_bitCount_0f7a4 2 (2, .iconst 1, 1) rfl) rfl ?_
    refine z_iushr (pc := 3) (zdg D_J6_bitCount_0f7a4 3 (3, .iushr, 1) rfl) ?_
    refine z_ldcw (pc := 4) lc_J6_265 (zdg D_J6_bitCount_0f7a4 4 (4, .ldc_w 265, 3) rfl) ?_
    refine z_iand (pc := 7) (zdg D_J6_bitCount_0f7a4 5 (7, .iand, 1) rfl) ?_
    refine z_isub (pc := 8) (zdg D_J6_bitCount_0f7a4 6 (8, .isub, 1) rfl) ?_
    refine z_istore_n (pc := 9) (al' := [(0, zI (p1 - ((zushr p1 (1 : Int32)) &&& (1431655765 : Int32))))]) (zdg D_J6_bitCount_0f7a4 7 (9, .istore_n 0, 1) rfl) rfl (by decide) rfl ?_
    refine z_iload_n (pc := 10) 0 (zdg D_J6_bitCount_0f7a4 8 (10, .iload_n 0, 1) rfl) rfl rfl ?_
    refine z_ldcw (pc := 11) lc_J6_266 (zdg D_J6_bitCount_0f7a4 9 (11, .ldc_w 266, 3) rfl) ?_
    refine z_iand (pc := 14) (zdg D_J6_bitCount_0f7a4 10 (14, .iand, 1) rfl) ?_
    refine z_iload_n (pc := 15) 0 (zdg D_J6_bitCount_0f7a4 11 (15, .iload_n 0, 1) rfl) rfl rfl ?_
    refine z_iconst (pc := 16) (v := 2) (zdg D_J6_bitCount_0f7a4 12 (16, .iconst 2, 1) rfl) rfl ?_
    refine z_iushr (pc := 17) (zdg D_J6_bitCount_0f7a4 13 (17, .iushr, 1) rfl) ?_
    refine z_ldcw (pc := 18) lc_J6_266 (zdg D_J6_bitCount_0f7a4 14 (18, .ldc_w 266, 3) rfl) ?_
    refine z_iand (pc := 21) (zdg D_J6_bitCount_0f7a4 15 (21, .iand, 1) rfl) ?_
    refine z_iadd (pc := 22) (zdg D_J6_bitCount_0f7a4 16 (22, .iadd, 1) rfl) ?_
    refine z_nmI hf (fun x1 hf => ?_)
    refine z_istore_n (pc := 23) (al' := [(0, zI x1)]) (zdg D_J6_bitCount_0f7a4 17 (23, .istore_n 0, 1) rfl) rfl (by decide) rfl ?_
    refine z_iload_n (pc := 24) 0 (zdg D_J6_bitCount_0f7a4 18 (24, .iload_n 0, 1) rfl) rfl rfl ?_
    refine z_iload_n (pc := 25) 0 (zdg D_J6_bitCount_0f7a4 19 (25, .iload_n 0, 1) rfl) rfl rfl ?_
    refine z_iconst (pc := 26) (v := 4) (zdg D_J6_bitCount_0f7a4 20 (26, .iconst 4, 1) rfl) rfl ?_
    refine z_iushr (pc := 27) (zdg D_J6_bitCount_0f7a4 21 (27, .iushr, 1) rfl) ?_
    refine z_iadd (pc := 28) (zdg D_J6_bitCount_0f7a4 22 (28, .iadd, 1) rfl) ?_
    refine z_ldcw (pc := 29) lc_J6_267 (zdg D_J6_bitCount_0f7a4 23 (29, .ldc_w 267, 3) rfl) ?_
    refine z_iand (pc := 32) (zdg D_J6_bitCount_0f7a4 24 (32, .iand, 1) rfl) ?_
    refine z_istore_n (pc := 33) (al' := [(0, zI ((x1 + (zushr x1 (4 : Int32))) &&& (252645135 : Int32)))]) (zdg D_J6_bitCount_0f7a4 25 (33, .istore_n 0, 1) rfl) rfl (by decide) rfl ?_
    refine z_iload_n (pc := 34) 0 (zdg D_J6_bitCount_0f7a4 26 (34, .iload_n 0, 1) rfl) rfl rfl ?_
    refine z_iload_n (pc := 35) 0 (zdg D_J6_bitCount_0f7a4 27 (35, .iload_n 0, 1) rfl) rfl rfl ?_
    refine z_bipush (pc := 36) (v := 8) (zdg D_J6_bitCount_0f7a4 28 (36, .bipush 8, 2) rfl) rfl ?_
    refine z_iushr (pc := 38) (zdg D_J6_bitCount_0f7a4 29 (38, .iushr, 1) rfl) ?_
    refine z_iadd (pc := 39) (zdg D_J6_bitCount_0f7a4 30 (39, .iadd, 1) rfl) ?_
    refine z_nmI hf (fun x2 hf => ?_)
    refine z_istore_n (pc := 40) (al' := [(0, zI x2)]) (zdg D_J6_bitCount_0f7a4 31 (40, .istore_n 0, 1) rfl) rfl (by decide) rfl ?_
    refine z_iload_n (pc := 41) 0 (zdg D_J6_bitCount_0f7a4 32 (41, .iload_n 0, 1) rfl) rfl rfl ?_
    refine z_iload_n (pc := 42) 0 (zdg D_J6_bitCount_0f7a4 33 (42, .iload_n 0, 1) rfl) rfl rfl ?_
    refine z_bipush (pc := 43) (v := 16) (zdg D_J6_bitCount_0f7a4 34 (43, .bipush 16, 2) rfl) rfl ?_
    refine z_iushr (pc := 45) (zdg D_J6_bitCount_0f7a4 35 (45, .iushr, 1) rfl) ?_
    refine z_iadd (pc := 46) (zdg D_J6_bitCount_0f7a4 36 (46, .iadd, 1) rfl) ?_
    refine z_istore_n (pc := 47) (al' := [(0, zI (x2 + (zushr x2 (16 : Int32))))]) (zdg D_J6_bitCount_0f7a4 37 (47, .istore_n 0, 1) rfl) rfl (by decide) rfl ?_
    refine z_iload_n (pc := 48) 0 (zdg D_J6_bitCount_0f7a4 38 (48, .iload_n 0, 1) rfl) rfl rfl ?_
    refine z_bipush (pc := 49) (v := 63) (zdg D_J6_bitCount_0f7a4 39 (49, .bipush 63, 2) rfl) rfl ?_
    refine z_iand (pc := 51) (zdg D_J6_bitCount_0f7a4 40 (51, .iand, 1) rfl) ?_
    exact z_iret (pc := 52) rfl rfl (zdg D_J6_bitCount_0f7a4 41 (52, .ireturn, 1) rfl) (hP _ hf)

def L_X0_fewestSet : List (Nat × Instr × Nat) := [(0, .iconst 1, 1), (1, .aload_n 0, 1), (2, .getfield 9, 3), (5, .getfield 15, 3), (8, .ishl, 1), (9, .iconst 1, 1), (10, .isub, 1), (11, .istore_n 1, 1), (12, .aload_n 0, 1), (13, .iload_n 1, 1), (14, .invokevirtual 38, 3), (17, .lstore_n 2, 1), (18, .iload_n 1, 1), (19, .istore 4, 2), (21, .iconst 0, 1), (22, .istore 5, 2), (24, .iload 5, 2), (26, .iload_n 1, 1), (27, .if_icmp .ge 37, 3), (30, .iload 5, 2), (32, .invokestatic 42, 3), (35, .iload 4, 2), (37, .invokestatic 42, 3), (40, .if_icmp .ge 18, 3), (43, .aload_n 0, 1), (44, .iload 5, 2), (46, .invokevirtual 38, 3), (49, .lload_n 2, 1), (50, .lcmp, 1), (51, .ifCond .ne 7, 3), (54, .iload 5, 2), (56, .istore 4, 2), (58, .iinc 5 1, 3), (61, .goto (-37), 3), (64, .iload 4, 2), (66, .ireturn, 1)]
set_option maxRecDepth 100000 in
theorem D_X0_fewestSet : zdecs cX0_fewestSet L_X0_fewestSet = true := by decide +kernel
noncomputable def b_X0_fewestSet_24 (σ : zG) (q1 : Int64) (v4_2 : Int32) (v5_3 : Int32) : Option ((Int32 × Int32) ⊕ (Int32)) :=
  if v5_3 < ((zshl (1 : Int32) (σ.1 1 0 9)) - (1 : Int32)) then if (f_J6_bitCount_0f7a4 v5_3) < (f_J6_bitCount_0f7a4 v4_2) then (f_X0_laidBy v5_3 σ).bind (fun q4 => if (lg_cmp q4 q1) = 0 then some (Sum.inl (v5_3, (v5_3 + 1))) else some (Sum.inl (v4_2, (v5_3 + 1)))) else some (Sum.inl (v4_2, (v5_3 + 1))) else some (Sum.inr v4_2)
noncomputable def f_X0_fewestSet (σ : zG) : Option (Int32) :=
  (f_X0_laidBy ((zshl (1 : Int32) (σ.1 1 0 9)) - (1 : Int32)) σ).bind (fun q1 => (zlp (fun q : Int32 × Int32 => b_X0_fewestSet_24 σ q1 q.1 q.2) (((zshl (1 : Int32) (σ.1 1 0 9)) - (1 : Int32)), (0 : Int32))).bind (fun e5 : Int32 => some e5))
set_option maxRecDepth 100000 in
set_option maxHeartbeats 4000000 in
theorem c_X0_fewestSet (l : Launch)  (σ : zG) (q : Int32) (hq : f_X0_fewestSet σ = some q) : zMet l zsyC m_X0_fewestSet yX0_fewestSet [zR 6 0] σ (some (zI q)) σ := by
  refine zEnter [(0, zR 6 0)] (by decide) rfl (fun _ => Nat.le_of_ble_eq_true rfl) (fun _ => rfl) (fun w h => ?_) (fun K hv hs => ?_)
  · exact zokm rfl h
  · have hP : ∀ x, f_X0_fewestSet σ = some x → zKv K = some (zI x) ∧ zKs K = σ := fun x h => by rw [hq] at h; cases h; exact ⟨hv, hs⟩
    have hn : f_X0_fewestSet σ ≠ none := fun z => by rw [hq] at z; cases z
    have hf := f_X0_fewestSet.eq_1 σ
    refine z_iconst (pc := 0) (v := 1) (zdg D_X0_fewestSet 0 (0, .iconst 1, 1) rfl) rfl ?_
    refine z_aload_n (pc := 1) 0 (zdg D_X0_fewestSet 1 (1, .aload_n 0, 1) rfl) rfl rfl ?_
    refine z_getR (pc := 2) (g := 1) (j := 0) lf_X0_9 rfl rfl rfl (zdg D_X0_fewestSet 2 (2, .getfield 9, 3) rfl) ?_
    refine z_getI (pc := 5) lf_X0_15 rfl rfl (zdg D_X0_fewestSet 3 (5, .getfield 15, 3) rfl) ?_
    refine z_ishl (pc := 8) (zdg D_X0_fewestSet 4 (8, .ishl, 1) rfl) ?_
    refine z_iconst (pc := 9) (v := 1) (zdg D_X0_fewestSet 5 (9, .iconst 1, 1) rfl) rfl ?_
    refine z_isub (pc := 10) (zdg D_X0_fewestSet 6 (10, .isub, 1) rfl) ?_
    refine z_istore_n (pc := 11) (al' := [(1, zI ((zshl (1 : Int32) (σ.1 1 0 9)) - (1 : Int32))), (0, zR 6 0)]) (zdg D_X0_fewestSet 7 (11, .istore_n 1, 1) rfl) rfl (by decide) rfl ?_
    refine z_aload_n (pc := 12) 1 (zdg D_X0_fewestSet 8 (12, .aload_n 0, 1) rfl) rfl rfl ?_
    refine z_iload_n (pc := 13) 0 (zdg D_X0_fewestSet 9 (13, .iload_n 1, 1) rfl) rfl rfl ?_
    refine z_bind hn hf (fun q1 hq hf => ?_)
    refine z_callV (pc := 14) (rest := []) (st2 := [zL q1]) (fun l => c_X0_laidBy l ((zshl (1 : Int32) (σ.1 1 0 9)) - (1 : Int32)) σ q1 hq) zv_X0_laidBy lm_X0_38 rfl rfl rfl rfl rfl rfl (Nat.le_of_ble_eq_true rfl) ⟨Nat.le_of_ble_eq_true rfl, Nat.le_of_ble_eq_true rfl⟩ (zdg D_X0_fewestSet 10 (14, .invokevirtual 38, 3) rfl) ?_
    refine z_lstore_n (pc := 17) (al' := [(2, zL q1), (1, zI ((zshl (1 : Int32) (σ.1 1 0 9)) - (1 : Int32))), (0, zR 6 0)]) (zdg D_X0_fewestSet 11 (17, .lstore_n 2, 1) rfl) rfl (by decide) rfl ?_
    refine z_iload_n (pc := 18) 1 (zdg D_X0_fewestSet 12 (18, .iload_n 1, 1) rfl) rfl rfl ?_
    refine z_istore (pc := 19) (al' := [(4, zI ((zshl (1 : Int32) (σ.1 1 0 9)) - (1 : Int32))), (2, zL q1), (1, zI ((zshl (1 : Int32) (σ.1 1 0 9)) - (1 : Int32))), (0, zR 6 0)]) (zdg D_X0_fewestSet 13 (19, .istore 4, 2) rfl) (by decide) rfl ?_
    refine z_iconst (pc := 21) (v := 0) (zdg D_X0_fewestSet 14 (21, .iconst 0, 1) rfl) rfl ?_
    refine z_istore (pc := 22) (al' := [(5, zI (0 : Int32)), (4, zI ((zshl (1 : Int32) (σ.1 1 0 9)) - (1 : Int32))), (2, zL q1), (1, zI ((zshl (1 : Int32) (σ.1 1 0 9)) - (1 : Int32))), (0, zR 6 0)]) (zdg D_X0_fewestSet 15 (22, .istore 5, 2) rfl) (by decide) rfl ?_
    refine z_sub (al' := [(0, zR 6 0), (1, zI ((zshl (1 : Int32) (σ.1 1 0 9)) - (1 : Int32))), (2, zL q1), (4, zI ((zshl (1 : Int32) (σ.1 1 0 9)) - (1 : Int32))), (5, zI (0 : Int32))]) [4, 3, 2, 1, 0] rfl ?_
    refine z_loop (f := (fun q : Int32 × Int32 => b_X0_fewestSet_24 σ q1 q.1 q.2)) (a := (((zshl (1 : Int32) (σ.1 1 0 9)) - (1 : Int32)), (0 : Int32))) (fun q : Int32 × Int32 => zX zsyC m_X0_fewestSet K 24 [(0, zR 6 0), (1, zI ((zshl (1 : Int32) (σ.1 1 0 9)) - (1 : Int32))), (2, zL q1), (4, zI q.1), (5, zI q.2)] [] σ) (fun e5 : Int32 => zX zsyC m_X0_fewestSet K 64 [(4, zI e5)] [] σ) hn hf ?_ ?_
    · intro e5 hf
      refine z_iload (pc := 64) 0 (zdg D_X0_fewestSet 34 (64, .iload 4, 2) rfl) rfl ?_
      exact z_iret (pc := 66) rfl rfl (zdg D_X0_fewestSet 35 (66, .ireturn, 1) rfl) (hP _ hf)
    · rintro ⟨v4_2, v5_3⟩ hn hi hx
      have hf := b_X0_fewestSet_24.eq_1 σ q1 v4_2 v5_3
      refine z_iload (pc := 24) 4 (zdg D_X0_fewestSet 16 (24, .iload 5, 2) rfl) rfl ?_
      refine z_iload_n (pc := 26) 1 (zdg D_X0_fewestSet 17 (26, .iload_n 1, 1) rfl) rfl rfl ?_
      refine z_icmp_ge (pc := 27) 64 (zdg D_X0_fewestSet 18 (27, .if_icmp .ge 37, 3) rfl) rfl hf (fun hf => ?_) (fun hf => ?_)
      · refine z_sub (al' := [(4, zI v4_2)]) [3] rfl ?_
        exact hx v4_2 hf
      · refine z_iload (pc := 30) 4 (zdg D_X0_fewestSet 19 (30, .iload 5, 2) rfl) rfl ?_
        refine z_callS (pc := 32) (rest := []) (st2 := [zI (f_J6_bitCount_0f7a4 v5_3)]) (fun l => c_J6_bitCount_0f7a4 l zsyC v5_3 σ) zs_J6_bitCount_0f7a4 lm_X0_42 rfl rfl rfl (Nat.le_of_ble_eq_true rfl) ⟨Nat.le_of_ble_eq_true rfl, Nat.le_of_ble_eq_true rfl⟩ (zdg D_X0_fewestSet 20 (32, .invokestatic 42, 3) rfl) ?_
        refine z_iload (pc := 35) 3 (zdg D_X0_fewestSet 21 (35, .iload 4, 2) rfl) rfl ?_
        refine z_callS (pc := 37) (rest := [zI (f_J6_bitCount_0f7a4 v5_3)]) (st2 := [zI (f_J6_bitCount_0f7a4 v4_2), zI (f_J6_bitCount_0f7a4 v5_3)]) (fun l => c_J6_bitCount_0f7a4 l zsyC v4_2 σ) zs_J6_bitCount_0f7a4 lm_X0_42 rfl rfl rfl (Nat.le_of_ble_eq_true rfl) ⟨Nat.le_of_ble_eq_true rfl, Nat.le_of_ble_eq_true rfl⟩ (zdg D_X0_fewestSet 22 (37, .invokestatic 42, 3) rfl) ?_
        refine z_icmp_ge (pc := 40) 58 (zdg D_X0_fewestSet 23 (40, .if_icmp .ge 18, 3) rfl) rfl hf (fun hf => ?_) (fun hf => ?_)
        · refine z_iinc (pc := 58) (v0 := (v5_3 + 1)) (al' := [(5, zI (v5_3 + 1)), (0, zR 6 0), (1, zI ((zshl (1 : Int32) (σ.1 1 0 9)) - (1 : Int32))), (2, zL q1), (4, zI v4_2)]) 4 (zdg D_X0_fewestSet 32 (58, .iinc 5 1, 3) rfl) rfl rfl (by decide) rfl ?_
          refine z_goto (pc := 61) 24 (zdg D_X0_fewestSet 33 (61, .goto (-37), 3) rfl) rfl ?_
          refine z_sub (al' := [(0, zR 6 0), (1, zI ((zshl (1 : Int32) (σ.1 1 0 9)) - (1 : Int32))), (2, zL q1), (4, zI v4_2), (5, zI (v5_3 + 1))]) [1, 2, 3, 4, 0] rfl ?_
          exact hi (v4_2, (v5_3 + 1)) hf
        · refine z_aload_n (pc := 43) 0 (zdg D_X0_fewestSet 24 (43, .aload_n 0, 1) rfl) rfl rfl ?_
          refine z_iload (pc := 44) 4 (zdg D_X0_fewestSet 25 (44, .iload 5, 2) rfl) rfl ?_
          refine z_bind hn hf (fun q4 hq hf => ?_)
          refine z_callV (pc := 46) (rest := []) (st2 := [zL q4]) (fun l => c_X0_laidBy l v5_3 σ q4 hq) zv_X0_laidBy lm_X0_38 rfl rfl rfl rfl rfl rfl (Nat.le_of_ble_eq_true rfl) ⟨Nat.le_of_ble_eq_true rfl, Nat.le_of_ble_eq_true rfl⟩ (zdg D_X0_fewestSet 26 (46, .invokevirtual 38, 3) rfl) ?_
          refine z_lload_n (pc := 49) 2 (zdg D_X0_fewestSet 27 (49, .lload_n 2, 1) rfl) rfl rfl ?_
          refine z_lcmp (pc := 50) (zdg D_X0_fewestSet 28 (50, .lcmp, 1) rfl) ?_
          refine z_if_ne (pc := 51) 58 (zdg D_X0_fewestSet 29 (51, .ifCond .ne 7, 3) rfl) rfl hf (fun hf => ?_) (fun hf => ?_)
          · refine z_iinc (pc := 58) (v0 := (v5_3 + 1)) (al' := [(5, zI (v5_3 + 1)), (0, zR 6 0), (1, zI ((zshl (1 : Int32) (σ.1 1 0 9)) - (1 : Int32))), (2, zL q1), (4, zI v4_2)]) 4 (zdg D_X0_fewestSet 32 (58, .iinc 5 1, 3) rfl) rfl rfl (by decide) rfl ?_
            refine z_goto (pc := 61) 24 (zdg D_X0_fewestSet 33 (61, .goto (-37), 3) rfl) rfl ?_
            refine z_sub (al' := [(0, zR 6 0), (1, zI ((zshl (1 : Int32) (σ.1 1 0 9)) - (1 : Int32))), (2, zL q1), (4, zI v4_2), (5, zI (v5_3 + 1))]) [1, 2, 3, 4, 0] rfl ?_
            exact hi (v4_2, (v5_3 + 1)) hf
          · refine z_iload (pc := 54) 4 (zdg D_X0_fewestSet 30 (54, .iload 5, 2) rfl) rfl ?_
            refine z_istore (pc := 56) (al' := [(4, zI v5_3), (0, zR 6 0), (1, zI ((zshl (1 : Int32) (σ.1 1 0 9)) - (1 : Int32))), (2, zL q1), (5, zI v5_3)]) (zdg D_X0_fewestSet 31 (56, .istore 4, 2) rfl) (by decide) rfl ?_
            refine z_iinc (pc := 58) (v0 := (v5_3 + 1)) (al' := [(5, zI (v5_3 + 1)), (4, zI v5_3), (0, zR 6 0), (1, zI ((zshl (1 : Int32) (σ.1 1 0 9)) - (1 : Int32))), (2, zL q1)]) 4 (zdg D_X0_fewestSet 32 (58, .iinc 5 1, 3) rfl) rfl rfl (by decide) rfl ?_
            refine z_goto (pc := 61) 24 (zdg D_X0_fewestSet 33 (61, .goto (-37), 3) rfl) rfl ?_
            refine z_sub (al' := [(0, zR 6 0), (1, zI ((zshl (1 : Int32) (σ.1 1 0 9)) - (1 : Int32))), (2, zL q1), (4, zI v5_3), (5, zI (v5_3 + 1))]) [2, 3, 4, 1, 0] rfl ?_
            exact hi (v5_3, (v5_3 + 1)) hf

def L_J13_bitCount_95d88 : List (Nat × Instr × Nat) := [(0, .lload_n 0, 1), (1, .lload_n 0, 1), (2, .iconst 1, 1), (3, .lushr, 1), (4, .ldc2_w 314, 3), (7, .land, 1), (8, .lsub, 1), (9, .lstore_n 0, 1), (10, .lload_n 0, 1), (11, .ldc2_w 316, 3), (14, .land, 1), (15, .lload_n 0, 1), (16, .iconst 2, 1), (17, .lushr, 1), (18, .ldc2_w 316, 3), (21, .land, 1), (22, .ladd, 1), (23, .lstore_n 0, 1), (24, .lload_n 0, 1), (25, .lload_n 0, 1), (26, .iconst 4, 1), (27, .lushr, 1), (28, .ladd, 1), (29, .ldc2_w 318, 3), (32, .land, 1), (33, .lstore_n 0, 1), (34, .lload_n 0, 1), (35, .lload_n 0, 1), (36, .bipush 8, 2), (38, .lushr, 1), (39, .ladd, 1), (40, .lstore_n 0, 1), (41, .lload_n 0, 1), (42, .lload_n 0, 1), (43, .bipush 16, 2), (45, .lushr, 1), (46, .ladd, 1), (47, .lstore_n 0, 1), (48, .lload_n 0, 1), (49, .lload_n 0, 1), (50, .bipush 32, 2), (52, .lushr, 1), (53, .ladd, 1), (54, .lstore_n 0, 1), (55, .lload_n 0, 1), (56, .l2i, 1), (57, .bipush 127, 2), (59, .iand, 1), (60, .ireturn, 1)]
set_option maxRecDepth 100000 in
theorem D_J13_bitCount_95d88 : zdecs cJ13_bitCount_95d88 L_J13_bitCount_95d88 = true := by decide +kernel
noncomputable def f_J13_bitCount_95d88 (p1 : Int64) : Int32 :=
  zb (p1 - ((zlushr p1 (1 : Int32)) &&& (6148914691236517205 : Int64))) (fun x1 => zb ((x1 &&& (3689348814741910323 : Int64)) + ((zlushr x1 (2 : Int32)) &&& (3689348814741910323 : Int64))) (fun x2 => zb ((x2 + (zlushr x2 (4 : Int32))) &&& (1085102592571150095 : Int64)) (fun x3 => zb ((x3 + (zlushr x3 (8 : Int32))) + (zlushr (x3 + (zlushr x3 (8 : Int32))) (16 : Int32))) (fun x4 => ((x4 + (zlushr x4 (32 : Int32))).toInt32 &&& (127 : Int32))))))
set_option maxRecDepth 100000 in
set_option maxHeartbeats 4000000 in
theorem c_J13_bitCount_95d88 (l : Launch) (sy : zSy) (p1 : Int64) (σ : zG) : zMet l sy m_J13_bitCount_95d88 yJ13_bitCount_95d88 [zL p1] σ (some (zI (f_J13_bitCount_95d88 p1))) σ := by
  refine zEnter [(0, zL p1)] (by decide) rfl (fun _ => Nat.le_of_ble_eq_true rfl) (fun _ => rfl) (fun w h => ?_) (fun K hv hs => ?_)
  · exact zokm rfl h
  · have hP : ∀ x, f_J13_bitCount_95d88 p1 = x → zKv K = some (zI x) ∧ zKs K = σ := fun x h => by rw [h] at hv; exact ⟨hv, hs⟩
    have hf := f_J13_bitCount_95d88.eq_1 p1
    refine z_lload_n (pc := 0) 0 (zdg D_J13_bitCount_95d88 0 (0, .lload_n 0, 1) rfl) rfl rfl ?_
    refine z_lload_n (pc := 1) 0 (zdg D_J13_bitCount_95d88 1 (1, .lload_n 0, 1) rfl) rfl rfl ?_
    refine z_iconst (pc := 2) (v := 1) (zdg D_J13_bitCount_95d88 2 (2, .iconst 1, 1) rfl) rfl ?_
    refine z_lushr (pc := 3) (zdg D_J13_bitCount_95d88 3 (3, .lushr, 1) rfl) ?_
    refine z_ldc2 (pc := 4) lc_J13_314 (zdg D_J13_bitCount_95d88 4 (4, .ldc2_w 314, 3) rfl) ?_
    refine z_land (pc := 7) (zdg D_J13_bitCount_95d88 5 (7, .land, 1) rfl) ?_
    refine z_lsub (pc := 8) (zdg D_J13_bitCount_95d88 6 (8, .lsub, 1) rfl) ?_
    refine z_nmL hf (fun x1 hf => ?_)
    refine z_lstore_n (pc := 9) (al' := [(0, zL x1)]) (zdg D_J13_bitCount_95d88 7 (9, .lstore_n 0, 1) rfl) rfl (by decide) rfl ?_
    refine z_lload_n (pc := 10) 0 (zdg D_J13_bitCount_95d88 8 (10, .lload_n 0, 1) rfl) rfl rfl ?_
    refine z_ldc2 (pc := 11) lc_J13_316 (zdg D_J13_bitCount_95d88 9 (11, .ldc2_w 316, 3) rfl) ?_
    refine z_land (pc := 14) (zdg D_J13_bitCount_95d88 10 (14, .land, 1) rfl) ?_
    refine z_lload_n (pc := 15) 0 (zdg D_J13_bitCount_95d88 11 (15, .lload_n 0, 1) rfl) rfl rfl ?_
    refine z_iconst (pc := 16) (v := 2) (zdg D_J13_bitCount_95d88 12 (16, .iconst 2, 1) rfl) rfl ?_
    refine z_lushr (pc := 17) (zdg D_J13_bitCount_95d88 13 (17, .lushr, 1) rfl) ?_
    refine z_ldc2 (pc := 18) lc_J13_316 (zdg D_J13_bitCount_95d88 14 (18, .ldc2_w 316, 3) rfl) ?_
    refine z_land (pc := 21) (zdg D_J13_bitCount_95d88 15 (21, .land, 1) rfl) ?_
    refine z_ladd (pc := 22) (zdg D_J13_bitCount_95d88 16 (22, .ladd, 1) rfl) ?_
    refine z_nmL hf (fun x2 hf => ?_)
    refine z_lstore_n (pc := 23) (al' := [(0, zL x2)]) (zdg D_J13_bitCount_95d88 17 (23, .lstore_n 0, 1) rfl) rfl (by decide) rfl ?_
    refine z_lload_n (pc := 24) 0 (zdg D_J13_bitCount_95d88 18 (24, .lload_n 0, 1) rfl) rfl rfl ?_
    refine z_lload_n (pc := 25) 0 (zdg D_J13_bitCount_95d88 19 (25, .lload_n 0, 1) rfl) rfl rfl ?_
    refine z_iconst (pc := 26) (v := 4) (zdg D_J13_bitCount_95d88 20 (26, .iconst 4, 1) rfl) rfl ?_
    refine z_lushr (pc := 27) (zdg D_J13_bitCount_95d88 21 (27, .lushr, 1) rfl) ?_
    refine z_ladd (pc := 28) (zdg D_J13_bitCount_95d88 22 (28, .ladd, 1) rfl) ?_
    refine z_ldc2 (pc := 29) lc_J13_318 (zdg D_J13_bitCount_95d88 23 (29, .ldc2_w 318, 3) rfl) ?_
    refine z_land (pc := 32) (zdg D_J13_bitCount_95d88 24 (32, .land, 1) rfl) ?_
    refine z_nmL hf (fun x3 hf => ?_)
    refine z_lstore_n (pc := 33) (al' := [(0, zL x3)]) (zdg D_J13_bitCount_95d88 25 (33, .lstore_n 0, 1) rfl) rfl (by decide) rfl ?_
    refine z_lload_n (pc := 34) 0 (zdg D_J13_bitCount_95d88 26 (34, .lload_n 0, 1) rfl) rfl rfl ?_
    refine z_lload_n (pc := 35) 0 (zdg D_J13_bitCount_95d88 27 (35, .lload_n 0, 1) rfl) rfl rfl ?_
    refine z_bipush (pc := 36) (v := 8) (zdg D_J13_bitCount_95d88 28 (36, .bipush 8, 2) rfl) rfl ?_
    refine z_lushr (pc := 38) (zdg D_J13_bitCount_95d88 29 (38, .lushr, 1) rfl) ?_
    refine z_ladd (pc := 39) (zdg D_J13_bitCount_95d88 30 (39, .ladd, 1) rfl) ?_
    refine z_lstore_n (pc := 40) (al' := [(0, zL (x3 + (zlushr x3 (8 : Int32))))]) (zdg D_J13_bitCount_95d88 31 (40, .lstore_n 0, 1) rfl) rfl (by decide) rfl ?_
    refine z_lload_n (pc := 41) 0 (zdg D_J13_bitCount_95d88 32 (41, .lload_n 0, 1) rfl) rfl rfl ?_
    refine z_lload_n (pc := 42) 0 (zdg D_J13_bitCount_95d88 33 (42, .lload_n 0, 1) rfl) rfl rfl ?_
    refine z_bipush (pc := 43) (v := 16) (zdg D_J13_bitCount_95d88 34 (43, .bipush 16, 2) rfl) rfl ?_
    refine z_lushr (pc := 45) (zdg D_J13_bitCount_95d88 35 (45, .lushr, 1) rfl) ?_
    refine z_ladd (pc := 46) (zdg D_J13_bitCount_95d88 36 (46, .ladd, 1) rfl) ?_
    refine z_nmL hf (fun x4 hf => ?_)
    refine z_lstore_n (pc := 47) (al' := [(0, zL x4)]) (zdg D_J13_bitCount_95d88 37 (47, .lstore_n 0, 1) rfl) rfl (by decide) rfl ?_
    refine z_lload_n (pc := 48) 0 (zdg D_J13_bitCount_95d88 38 (48, .lload_n 0, 1) rfl) rfl rfl ?_
    refine z_lload_n (pc := 49) 0 (zdg D_J13_bitCount_95d88 39 (49, .lload_n 0, 1) rfl) rfl rfl ?_
    refine z_bipush (pc := 50) (v := 32) (zdg D_J13_bitCount_95d88 40 (50, .bipush 32, 2) rfl) rfl ?_
    refine z_lushr (pc := 52) (zdg D_J13_bitCount_95d88 41 (52, .lushr, 1) rfl) ?_
    refine z_ladd (pc := 53) (zdg D_J13_bitCount_95d88 42 (53, .ladd, 1) rfl) ?_
    refine z_lstore_n (pc := 54) (al' := [(0, zL (x4 + (zlushr x4 (32 : Int32))))]) (zdg D_J13_bitCount_95d88 43 (54, .lstore_n 0, 1) rfl) rfl (by decide) rfl ?_
    refine z_lload_n (pc := 55) 0 (zdg D_J13_bitCount_95d88 44 (55, .lload_n 0, 1) rfl) rfl rfl ?_
    refine z_l2i (pc := 56) (zdg D_J13_bitCount_95d88 45 (56, .l2i, 1) rfl) ?_
    refine z_bipush (pc := 57) (v := 127) (zdg D_J13_bitCount_95d88 46 (57, .bipush 127, 2) rfl) rfl ?_
    refine z_iand (pc := 59) (zdg D_J13_bitCount_95d88 47 (59, .iand, 1) rfl) ?_
    exact z_iret (pc := 60) rfl rfl (zdg D_J13_bitCount_95d88 48 (60, .ireturn, 1) rfl) (hP _ hf)

def L_X0_greedy : List (Nat × Instr × Nat) := [(0, .aload_n 0, 1), (1, .getfield 9, 3), (4, .invokevirtual 35, 3), (7, .lstore_n 1, 1), (8, .lconst 0, 1), (9, .lstore_n 3, 1), (10, .iconst 0, 1), (11, .istore 5, 2), (13, .iconst 0, 1), (14, .istore 6, 2), (16, .iload 6, 2), (18, .aload_n 0, 1), (19, .getfield 9, 3), (22, .getfield 15, 3), (25, .if_icmp .ge 98, 3), (28, .lconst 0, 1), (29, .lstore 7, 2), (31, .iconst 0, 1), (32, .istore 9, 2), (34, .iload 9, 2), (36, .aload_n 0, 1), (37, .getfield 9, 3), (40, .getfield 15, 3), (43, .if_icmp .ge 56, 3), (46, .iload 9, 2), (48, .bipush 10, 2), (50, .if_icmp .ge 49, 3), (53, .aload_n 0, 1), (54, .getfield 9, 3), (57, .getfield 25, 3), (60, .iload 9, 2), (62, .aaload, 1), (63, .invokevirtual 29, 3), (66, .lload_n 1, 1), (67, .land, 1), (68, .lload_n 3, 1), (69, .ldc2_w 48, 3), (72, .lxor, 1), (73, .land, 1), (74, .lstore 10, 2), (76, .lload 10, 2), (78, .invokestatic 50, 3), (81, .lload 7, 2), (83, .invokestatic 50, 3), (86, .if_icmp .le 7, 3), (89, .lload 10, 2), (91, .lstore 7, 2), (93, .iinc 9 1, 3), (96, .goto (-62), 3), (99, .lload 7, 2), (101, .lconst 0, 1), (102, .lcmp, 1), (103, .ifCond .ne 6, 3), (106, .iload 5, 2), (108, .ireturn, 1), (109, .lload_n 3, 1), (110, .lload 7, 2), (112, .lor, 1), (113, .lstore_n 3, 1), (114, .iinc 5 1, 3), (117, .iinc 6 1, 3), (120, .goto (-104), 3), (123, .iload 5, 2), (125, .ireturn, 1)]
set_option maxRecDepth 100000 in
theorem D_X0_greedy : zdecs cX0_greedy L_X0_greedy = true := by decide +kernel
noncomputable def b_X0_greedy_34 (σ : zG) (q1 : Int64) (v3_2 : Int64) (v7_5 : Int64) (v9_6 : Int32) : Option ((Int64 × Int32) ⊕ (Int64)) :=
  if v9_6 < (σ.1 1 0 9) then if v9_6 < (10 : Int32) then zg (zin v9_6 10) (zb (((f_X6_clearSpots v9_6.toNatClampNeg σ) &&& q1) &&& (v3_2 ^^^ (-1 : Int64))) (fun x7 => if (f_J13_bitCount_95d88 v7_5) < (f_J13_bitCount_95d88 x7) then some (Sum.inl (x7, (v9_6 + 1))) else some (Sum.inl (v7_5, (v9_6 + 1))))) else some (Sum.inr v7_5) else some (Sum.inr v7_5)
noncomputable def j_X0_greedy_99_16 (w3_9 : Int64) (w5_10 : Int32) (w6_11 : Int32) (w7_12 : Int64) : Option ((Int64 × Int32 × Int32) ⊕ ((Int32) ⊕ (Int32))) :=
  if (lg_cmp w7_12 (0 : Int64)) = 0 then some (Sum.inr (Sum.inl w5_10)) else some (Sum.inl ((w3_9 ||| w7_12), (w5_10 + 1), (w6_11 + 1)))
noncomputable def b_X0_greedy_16 (σ : zG) (q1 : Int64) (v3_2 : Int64) (v5_3 : Int32) (v6_4 : Int32) : Option ((Int64 × Int32 × Int32) ⊕ ((Int32) ⊕ (Int32))) :=
  if v6_4 < (σ.1 1 0 9) then (zlp (fun q : Int64 × Int32 => b_X0_greedy_34 σ q1 v3_2 q.1 q.2) ((0 : Int64), (0 : Int32))).bind (fun e8 : Int64 => j_X0_greedy_99_16 v3_2 v5_3 v6_4 e8) else some (Sum.inr (Sum.inr v5_3))
noncomputable def f_X0_greedy (σ : zG) : Option (Int32) :=
  (f_X1_viewNow 0 σ).bind (fun q1 => (zlp (fun q : Int64 × Int32 × Int32 => b_X0_greedy_16 σ q1 q.1 q.2.1 q.2.2) ((0 : Int64), (0 : Int32), (0 : Int32))).bind (Sum.elim (fun e13 : Int32 => some e13) (fun e14 : Int32 => some e14)))
set_option maxRecDepth 100000 in
set_option maxHeartbeats 4000000 in
theorem c_X0_greedy (l : Launch)  (σ : zG) (q : Int32) (hq : f_X0_greedy σ = some q) : zMet l zsyC m_X0_greedy yX0_greedy [zR 6 0] σ (some (zI q)) σ := by
  refine zEnter [(0, zR 6 0)] (by decide) rfl (fun _ => Nat.le_of_ble_eq_true rfl) (fun _ => rfl) (fun w h => ?_) (fun K hv hs => ?_)
  · exact zokm rfl h
  · have hP : ∀ x, f_X0_greedy σ = some x → zKv K = some (zI x) ∧ zKs K = σ := fun x h => by rw [hq] at h; cases h; exact ⟨hv, hs⟩
    have hn : f_X0_greedy σ ≠ none := fun z => by rw [hq] at z; cases z
    have hf := f_X0_greedy.eq_1 σ
    refine z_aload_n (pc := 0) 0 (zdg D_X0_greedy 0 (0, .aload_n 0, 1) rfl) rfl rfl ?_
    refine z_getR (pc := 1) (g := 1) (j := 0) lf_X0_9 rfl rfl rfl (zdg D_X0_greedy 1 (1, .getfield 9, 3) rfl) ?_
    refine z_bind hn hf (fun q1 hq hf => ?_)
    refine z_callV (pc := 4) (rest := []) (st2 := [zL q1]) (fun l => c_X1_viewNow l 0 σ q1 hq) zv_X1_viewNow lm_X0_35 rfl rfl rfl rfl rfl rfl (Nat.le_of_ble_eq_true rfl) ⟨Nat.le_of_ble_eq_true rfl, Nat.le_of_ble_eq_true rfl⟩ (zdg D_X0_greedy 2 (4, .invokevirtual 35, 3) rfl) ?_
    refine z_lstore_n (pc := 7) (al' := [(1, zL q1), (0, zR 6 0)]) (zdg D_X0_greedy 3 (7, .lstore_n 1, 1) rfl) rfl (by decide) rfl ?_
    refine z_lconst (pc := 8) (v := 0) (zdg D_X0_greedy 4 (8, .lconst 0, 1) rfl) rfl ?_
    refine z_lstore_n (pc := 9) (al' := [(3, zL (0 : Int64)), (1, zL q1), (0, zR 6 0)]) (zdg D_X0_greedy 5 (9, .lstore_n 3, 1) rfl) rfl (by decide) rfl ?_
    refine z_iconst (pc := 10) (v := 0) (zdg D_X0_greedy 6 (10, .iconst 0, 1) rfl) rfl ?_
    refine z_istore (pc := 11) (al' := [(5, zI (0 : Int32)), (3, zL (0 : Int64)), (1, zL q1), (0, zR 6 0)]) (zdg D_X0_greedy 7 (11, .istore 5, 2) rfl) (by decide) rfl ?_
    refine z_iconst (pc := 13) (v := 0) (zdg D_X0_greedy 8 (13, .iconst 0, 1) rfl) rfl ?_
    refine z_istore (pc := 14) (al' := [(6, zI (0 : Int32)), (5, zI (0 : Int32)), (3, zL (0 : Int64)), (1, zL q1), (0, zR 6 0)]) (zdg D_X0_greedy 9 (14, .istore 6, 2) rfl) (by decide) rfl ?_
    refine z_sub (al' := [(0, zR 6 0), (1, zL q1), (3, zL (0 : Int64)), (5, zI (0 : Int32)), (6, zI (0 : Int32))]) [4, 3, 2, 1, 0] rfl ?_
    refine z_loop (f := (fun q : Int64 × Int32 × Int32 => b_X0_greedy_16 σ q1 q.1 q.2.1 q.2.2)) (a := ((0 : Int64), (0 : Int32), (0 : Int32))) (fun q : Int64 × Int32 × Int32 => zX zsyC m_X0_greedy K 16 [(0, zR 6 0), (1, zL q1), (3, zL q.1), (5, zI q.2.1), (6, zI q.2.2)] [] σ) (Sum.elim (fun e13 : Int32 => zX zsyC m_X0_greedy K 106 [(5, zI e13)] [] σ) (fun e14 : Int32 => zX zsyC m_X0_greedy K 123 [(5, zI e14)] [] σ)) hn hf ?_ ?_
    · intro b hf
      cases b with
      | inl e13 =>
        refine z_iload (pc := 106) 0 (zdg D_X0_greedy 53 (106, .iload 5, 2) rfl) rfl ?_
        exact z_iret (pc := 108) rfl rfl (zdg D_X0_greedy 54 (108, .ireturn, 1) rfl) (hP _ hf)
      | inr b =>
        revert hf
        revert b
        intro e14 hf
        refine z_iload (pc := 123) 0 (zdg D_X0_greedy 62 (123, .iload 5, 2) rfl) rfl ?_
        exact z_iret (pc := 125) rfl rfl (zdg D_X0_greedy 63 (125, .ireturn, 1) rfl) (hP _ hf)
    · rintro ⟨v3_2, v5_3, v6_4⟩ hn hi hx
      have hf := b_X0_greedy_16.eq_1 σ q1 v3_2 v5_3 v6_4
      have t_99 : ∀ (w3_9 : Int64) (w5_10 : Int32) (w6_11 : Int32) (w7_12 : Int64), b_X0_greedy_16 σ q1 v3_2 v5_3 v6_4 = j_X0_greedy_99_16 w3_9 w5_10 w6_11 w7_12 → zX zsyC m_X0_greedy K 99 [(0, zR 6 0), (1, zL q1), (3, zL w3_9), (5, zI w5_10), (6, zI w6_11), (7, zL w7_12)] [] σ := by
        intro w3_9 w5_10 w6_11 w7_12 hf
        replace hf := hf.trans (j_X0_greedy_99_16.eq_1 w3_9 w5_10 w6_11 w7_12)
        refine z_lload (pc := 99) 5 (zdg D_X0_greedy 49 (99, .lload 7, 2) rfl) rfl ?_
        refine z_lconst (pc := 101) (v := 0) (zdg D_X0_greedy 50 (101, .lconst 0, 1) rfl) rfl ?_
        refine z_lcmp (pc := 102) (zdg D_X0_greedy 51 (102, .lcmp, 1) rfl) ?_
        refine z_if_ne (pc := 103) 109 (zdg D_X0_greedy 52 (103, .ifCond .ne 6, 3) rfl) rfl hf (fun hf => ?_) (fun hf => ?_)
        · refine z_lload_n (pc := 109) 2 (zdg D_X0_greedy 55 (109, .lload_n 3, 1) rfl) rfl rfl ?_
          refine z_lload (pc := 110) 5 (zdg D_X0_greedy 56 (110, .lload 7, 2) rfl) rfl ?_
          refine z_lor (pc := 112) (zdg D_X0_greedy 57 (112, .lor, 1) rfl) ?_
          refine z_lstore_n (pc := 113) (al' := [(3, zL (w3_9 ||| w7_12)), (0, zR 6 0), (1, zL q1), (5, zI w5_10), (6, zI w6_11), (7, zL w7_12)]) (zdg D_X0_greedy 58 (113, .lstore_n 3, 1) rfl) rfl (by decide) rfl ?_
          refine z_iinc (pc := 114) (v0 := (w5_10 + 1)) (al' := [(5, zI (w5_10 + 1)), (3, zL (w3_9 ||| w7_12)), (0, zR 6 0), (1, zL q1), (6, zI w6_11), (7, zL w7_12)]) 3 (zdg D_X0_greedy 59 (114, .iinc 5 1, 3) rfl) rfl rfl (by decide) rfl ?_
          refine z_iinc (pc := 117) (v0 := (w6_11 + 1)) (al' := [(6, zI (w6_11 + 1)), (5, zI (w5_10 + 1)), (3, zL (w3_9 ||| w7_12)), (0, zR 6 0), (1, zL q1), (7, zL w7_12)]) 4 (zdg D_X0_greedy 60 (117, .iinc 6 1, 3) rfl) rfl rfl (by decide) rfl ?_
          refine z_goto (pc := 120) 16 (zdg D_X0_greedy 61 (120, .goto (-104), 3) rfl) rfl ?_
          refine z_sub (al' := [(0, zR 6 0), (1, zL q1), (3, zL (w3_9 ||| w7_12)), (5, zI (w5_10 + 1)), (6, zI (w6_11 + 1))]) [3, 4, 2, 1, 0] rfl ?_
          exact hi ((w3_9 ||| w7_12), (w5_10 + 1), (w6_11 + 1)) hf
        · refine z_sub (al' := [(5, zI w5_10)]) [3] rfl ?_
          exact hx (Sum.inl w5_10) hf
      refine z_iload (pc := 16) 4 (zdg D_X0_greedy 10 (16, .iload 6, 2) rfl) rfl ?_
      refine z_aload_n (pc := 18) 0 (zdg D_X0_greedy 11 (18, .aload_n 0, 1) rfl) rfl rfl ?_
      refine z_getR (pc := 19) (g := 1) (j := 0) lf_X0_9 rfl rfl rfl (zdg D_X0_greedy 12 (19, .getfield 9, 3) rfl) ?_
      refine z_getI (pc := 22) lf_X0_15 rfl rfl (zdg D_X0_greedy 13 (22, .getfield 15, 3) rfl) ?_
      refine z_icmp_ge (pc := 25) 123 (zdg D_X0_greedy 14 (25, .if_icmp .ge 98, 3) rfl) rfl hf (fun hf => ?_) (fun hf => ?_)
      · refine z_sub (al' := [(5, zI v5_3)]) [3] rfl ?_
        exact hx (Sum.inr v5_3) hf
      · refine z_lconst (pc := 28) (v := 0) (zdg D_X0_greedy 15 (28, .lconst 0, 1) rfl) rfl ?_
        refine z_lstore (pc := 29) (al' := [(7, zL (0 : Int64)), (0, zR 6 0), (1, zL q1), (3, zL v3_2), (5, zI v5_3), (6, zI v6_4)]) (zdg D_X0_greedy 16 (29, .lstore 7, 2) rfl) (by decide) rfl ?_
        refine z_iconst (pc := 31) (v := 0) (zdg D_X0_greedy 17 (31, .iconst 0, 1) rfl) rfl ?_
        refine z_istore (pc := 32) (al' := [(9, zI (0 : Int32)), (7, zL (0 : Int64)), (0, zR 6 0), (1, zL q1), (3, zL v3_2), (5, zI v5_3), (6, zI v6_4)]) (zdg D_X0_greedy 18 (32, .istore 9, 2) rfl) (by decide) rfl ?_
        refine z_sub (al' := [(0, zR 6 0), (1, zL q1), (3, zL v3_2), (5, zI v5_3), (6, zI v6_4), (7, zL (0 : Int64)), (9, zI (0 : Int32))]) [2, 3, 4, 5, 6, 1, 0] rfl ?_
        refine z_loop (f := (fun q : Int64 × Int32 => b_X0_greedy_34 σ q1 v3_2 q.1 q.2)) (a := ((0 : Int64), (0 : Int32))) (fun q : Int64 × Int32 => zX zsyC m_X0_greedy K 34 [(0, zR 6 0), (1, zL q1), (3, zL v3_2), (5, zI v5_3), (6, zI v6_4), (7, zL q.1), (9, zI q.2)] [] σ) (fun e8 : Int64 => zX zsyC m_X0_greedy K 99 [(0, zR 6 0), (1, zL q1), (3, zL v3_2), (5, zI v5_3), (6, zI v6_4), (7, zL e8)] [] σ) hn hf ?_ ?_
        · intro e8 hf
          exact t_99 v3_2 v5_3 v6_4 e8 hf
        · rintro ⟨v7_5, v9_6⟩ hn hi hx
          have hf := b_X0_greedy_34.eq_1 σ q1 v3_2 v7_5 v9_6
          refine z_iload (pc := 34) 6 (zdg D_X0_greedy 19 (34, .iload 9, 2) rfl) rfl ?_
          refine z_aload_n (pc := 36) 0 (zdg D_X0_greedy 20 (36, .aload_n 0, 1) rfl) rfl rfl ?_
          refine z_getR (pc := 37) (g := 1) (j := 0) lf_X0_9 rfl rfl rfl (zdg D_X0_greedy 21 (37, .getfield 9, 3) rfl) ?_
          refine z_getI (pc := 40) lf_X0_15 rfl rfl (zdg D_X0_greedy 22 (40, .getfield 15, 3) rfl) ?_
          refine z_icmp_ge (pc := 43) 99 (zdg D_X0_greedy 23 (43, .if_icmp .ge 56, 3) rfl) rfl hf (fun hf => ?_) (fun hf => ?_)
          · refine z_sub (al' := [(0, zR 6 0), (1, zL q1), (3, zL v3_2), (5, zI v5_3), (6, zI v6_4), (7, zL v7_5)]) [0, 1, 2, 3, 4, 5] rfl ?_
            exact hx v7_5 hf
          · refine z_iload (pc := 46) 6 (zdg D_X0_greedy 24 (46, .iload 9, 2) rfl) rfl ?_
            refine z_bipush (pc := 48) (v := 10) (zdg D_X0_greedy 25 (48, .bipush 10, 2) rfl) rfl ?_
            refine z_icmp_ge (pc := 50) 99 (zdg D_X0_greedy 26 (50, .if_icmp .ge 49, 3) rfl) rfl hf (fun hf => ?_) (fun hf => ?_)
            · refine z_sub (al' := [(0, zR 6 0), (1, zL q1), (3, zL v3_2), (5, zI v5_3), (6, zI v6_4), (7, zL v7_5)]) [0, 1, 2, 3, 4, 5] rfl ?_
              exact hx v7_5 hf
            · refine z_aload_n (pc := 53) 0 (zdg D_X0_greedy 27 (53, .aload_n 0, 1) rfl) rfl rfl ?_
              refine z_getR (pc := 54) (g := 1) (j := 0) lf_X0_9 rfl rfl rfl (zdg D_X0_greedy 28 (54, .getfield 9, 3) rfl) ?_
              refine z_getR (pc := 57) (g := 31) (j := 0) lf_X0_25 rfl rfl rfl (zdg D_X0_greedy 29 (57, .getfield 25, 3) rfl) ?_
              refine z_iload (pc := 60) 6 (zdg D_X0_greedy 30 (60, .iload 9, 2) rfl) rfl ?_
              refine z_aald (pc := 62) (g := 11) (t := fun j => j) rfl (fun _ => rfl) (fun j h => by show (if j < 10 then some (11, 10 * 0 + j) else none) = _; rw [if_pos h]; simp) (zdg D_X0_greedy 31 (62, .aaload, 1) rfl) hn hf (fun hf => ?_)
              refine z_callV (pc := 63) (rest := []) (st2 := [zL (f_X6_clearSpots v9_6.toNatClampNeg σ)]) (fun l => c_X6_clearSpots l v9_6.toNatClampNeg σ) zv_X6_clearSpots lm_X0_29 rfl rfl rfl rfl rfl rfl (Nat.le_of_ble_eq_true rfl) ⟨Nat.le_of_ble_eq_true rfl, Nat.le_of_ble_eq_true rfl⟩ (zdg D_X0_greedy 32 (63, .invokevirtual 29, 3) rfl) ?_
              refine z_lload_n (pc := 66) 1 (zdg D_X0_greedy 33 (66, .lload_n 1, 1) rfl) rfl rfl ?_
              refine z_land (pc := 67) (zdg D_X0_greedy 34 (67, .land, 1) rfl) ?_
              refine z_lload_n (pc := 68) 2 (zdg D_X0_greedy 35 (68, .lload_n 3, 1) rfl) rfl rfl ?_
              refine z_ldc2 (pc := 69) lc_X0_48 (zdg D_X0_greedy 36 (69, .ldc2_w 48, 3) rfl) ?_
              refine z_lxor (pc := 72) (zdg D_X0_greedy 37 (72, .lxor, 1) rfl) ?_
              refine z_land (pc := 73) (zdg D_X0_greedy 38 (73, .land, 1) rfl) ?_
              refine z_nmL hf (fun x7 hf => ?_)
              refine z_lstore (pc := 74) (al' := [(10, zL x7), (0, zR 6 0), (1, zL q1), (3, zL v3_2), (5, zI v5_3), (6, zI v6_4), (7, zL v7_5), (9, zI v9_6)]) (zdg D_X0_greedy 39 (74, .lstore 10, 2) rfl) (by decide) rfl ?_
              refine z_lload (pc := 76) 0 (zdg D_X0_greedy 40 (76, .lload 10, 2) rfl) rfl ?_
              refine z_callS (pc := 78) (rest := []) (st2 := [zI (f_J13_bitCount_95d88 x7)]) (fun l => c_J13_bitCount_95d88 l zsyC x7 σ) zs_J13_bitCount_95d88 lm_X0_50 rfl rfl rfl (Nat.le_of_ble_eq_true rfl) ⟨Nat.le_of_ble_eq_true rfl, Nat.le_of_ble_eq_true rfl⟩ (zdg D_X0_greedy 41 (78, .invokestatic 50, 3) rfl) ?_
              refine z_lload (pc := 81) 6 (zdg D_X0_greedy 42 (81, .lload 7, 2) rfl) rfl ?_
              refine z_callS (pc := 83) (rest := [zI (f_J13_bitCount_95d88 x7)]) (st2 := [zI (f_J13_bitCount_95d88 v7_5), zI (f_J13_bitCount_95d88 x7)]) (fun l => c_J13_bitCount_95d88 l zsyC v7_5 σ) zs_J13_bitCount_95d88 lm_X0_50 rfl rfl rfl (Nat.le_of_ble_eq_true rfl) ⟨Nat.le_of_ble_eq_true rfl, Nat.le_of_ble_eq_true rfl⟩ (zdg D_X0_greedy 43 (83, .invokestatic 50, 3) rfl) ?_
              refine z_icmp_le (pc := 86) 93 (zdg D_X0_greedy 44 (86, .if_icmp .le 7, 3) rfl) rfl hf (fun hf => ?_) (fun hf => ?_)
              · refine z_iinc (pc := 93) (v0 := (v9_6 + 1)) (al' := [(9, zI (v9_6 + 1)), (10, zL x7), (0, zR 6 0), (1, zL q1), (3, zL v3_2), (5, zI v5_3), (6, zI v6_4), (7, zL v7_5)]) 7 (zdg D_X0_greedy 47 (93, .iinc 9 1, 3) rfl) rfl rfl (by decide) rfl ?_
                refine z_goto (pc := 96) 34 (zdg D_X0_greedy 48 (96, .goto (-62), 3) rfl) rfl ?_
                refine z_sub (al' := [(0, zR 6 0), (1, zL q1), (3, zL v3_2), (5, zI v5_3), (6, zI v6_4), (7, zL v7_5), (9, zI (v9_6 + 1))]) [2, 3, 4, 5, 6, 7, 0] rfl ?_
                exact hi (v7_5, (v9_6 + 1)) hf
              · refine z_lload (pc := 89) 0 (zdg D_X0_greedy 45 (89, .lload 10, 2) rfl) rfl ?_
                refine z_lstore (pc := 91) (al' := [(7, zL x7), (10, zL x7), (0, zR 6 0), (1, zL q1), (3, zL v3_2), (5, zI v5_3), (6, zI v6_4), (9, zI v9_6)]) (zdg D_X0_greedy 46 (91, .lstore 7, 2) rfl) (by decide) rfl ?_
                refine z_iinc (pc := 93) (v0 := (v9_6 + 1)) (al' := [(9, zI (v9_6 + 1)), (7, zL x7), (10, zL x7), (0, zR 6 0), (1, zL q1), (3, zL v3_2), (5, zI v5_3), (6, zI v6_4)]) 7 (zdg D_X0_greedy 47 (93, .iinc 9 1, 3) rfl) rfl rfl (by decide) rfl ?_
                refine z_goto (pc := 96) 34 (zdg D_X0_greedy 48 (96, .goto (-62), 3) rfl) rfl ?_
                refine z_sub (al' := [(0, zR 6 0), (1, zL q1), (3, zL v3_2), (5, zI v5_3), (6, zI v6_4), (7, zL x7), (9, zI (v9_6 + 1))]) [3, 4, 5, 6, 7, 1, 0] rfl ?_
                exact hi (x7, (v9_6 + 1)) hf

def L_X11_holds : List (Nat × Instr × Nat) := [(0, .lload_n 0, 1), (1, .iload_n 2, 1), (2, .lushr, 1), (3, .lconst 1, 1), (4, .land, 1), (5, .lconst 0, 1), (6, .lcmp, 1), (7, .ifCond .eq 7, 3), (10, .iconst 1, 1), (11, .goto 4, 3), (14, .iconst 0, 1), (15, .ireturn, 1)]
set_option maxRecDepth 100000 in
theorem D_X11_holds : zdecs cX11_holds L_X11_holds = true := by decide +kernel
noncomputable def f_X11_holds (p1 : Int64) (p2 : Int32) : Int32 :=
  if (lg_cmp ((zlushr p1 p2) &&& (1 : Int64)) (0 : Int64)) = 0 then (0 : Int32) else (1 : Int32)
set_option maxRecDepth 100000 in
set_option maxHeartbeats 4000000 in
theorem c_X11_holds (l : Launch) (p1 : Int64) (p2 : Int32) (σ : zG) : zMet l zsyC m_X11_holds yX11_holds [zL p1, zI p2] σ (some (zI (f_X11_holds p1 p2))) σ := by
  refine zEnter [(0, zL p1), (2, zI p2)] (by decide) rfl (fun _ => Nat.le_of_ble_eq_true rfl) (fun _ => rfl) (fun w h => ?_) (fun K hv hs => ?_)
  · exact zokm rfl h
  · have hP : ∀ x, f_X11_holds p1 p2 = x → zKv K = some (zI x) ∧ zKs K = σ := fun x h => by rw [h] at hv; exact ⟨hv, hs⟩
    have hf := f_X11_holds.eq_1 p1 p2
    refine z_lload_n (pc := 0) 0 (zdg D_X11_holds 0 (0, .lload_n 0, 1) rfl) rfl rfl ?_
    refine z_iload_n (pc := 1) 1 (zdg D_X11_holds 1 (1, .iload_n 2, 1) rfl) rfl rfl ?_
    refine z_lushr (pc := 2) (zdg D_X11_holds 2 (2, .lushr, 1) rfl) ?_
    refine z_lconst (pc := 3) (v := 1) (zdg D_X11_holds 3 (3, .lconst 1, 1) rfl) rfl ?_
    refine z_land (pc := 4) (zdg D_X11_holds 4 (4, .land, 1) rfl) ?_
    refine z_lconst (pc := 5) (v := 0) (zdg D_X11_holds 5 (5, .lconst 0, 1) rfl) rfl ?_
    refine z_lcmp (pc := 6) (zdg D_X11_holds 6 (6, .lcmp, 1) rfl) ?_
    refine z_if_eq (pc := 7) 14 (zdg D_X11_holds 7 (7, .ifCond .eq 7, 3) rfl) rfl hf (fun hf => ?_) (fun hf => ?_)
    · refine z_iconst (pc := 14) (v := 0) (zdg D_X11_holds 10 (14, .iconst 0, 1) rfl) rfl ?_
      exact z_iret (pc := 15) rfl rfl (zdg D_X11_holds 11 (15, .ireturn, 1) rfl) (hP _ hf)
    · refine z_iconst (pc := 10) (v := 1) (zdg D_X11_holds 8 (10, .iconst 1, 1) rfl) rfl ?_
      refine z_goto (pc := 11) 15 (zdg D_X11_holds 9 (11, .goto 4, 3) rfl) rfl ?_
      exact z_iret (pc := 15) rfl rfl (zdg D_X11_holds 11 (15, .ireturn, 1) rfl) (hP _ hf)

def L_X0_shows : List (Nat × Instr × Nat) := [(0, .aload_n 0, 1), (1, .iload_n 1, 1), (2, .iload_n 2, 1), (3, .invokevirtual 21, 3), (6, .ifCond .eq 32, 3), (9, .iload_n 2, 1), (10, .bipush 10, 2), (12, .if_icmp .ge 26, 3), (15, .aload_n 0, 1), (16, .getfield 9, 3), (19, .getfield 25, 3), (22, .iload_n 2, 1), (23, .aaload, 1), (24, .getfield 67, 3), (27, .iload_n 3, 1), (28, .invokestatic 63, 3), (31, .ifCond .eq 7, 3), (34, .iconst 1, 1), (35, .goto 4, 3), (38, .iconst 0, 1), (39, .ireturn, 1)]
set_option maxRecDepth 100000 in
theorem D_X0_shows : zdecs cX0_shows L_X0_shows = true := by decide +kernel
noncomputable def f_X0_shows (p1 : Int32) (p2 : Int32) (p3 : Int32) (σ : zG) : Option (Int32) :=
  if (f_X0_isIn p1 p2) = 0 then some (0 : Int32) else if p2 < (10 : Int32) then zg (zin p2 10) (if (f_X11_holds (σ.2 11 p2.toNatClampNeg 3) p3) = 0 then some (0 : Int32) else some (1 : Int32)) else some (0 : Int32)
set_option maxRecDepth 100000 in
set_option maxHeartbeats 4000000 in
theorem c_X0_shows (l : Launch) (p1 : Int32) (p2 : Int32) (p3 : Int32) (σ : zG) (q : Int32) (hq : f_X0_shows p1 p2 p3 σ = some q) : zMet l zsyC m_X0_shows yX0_shows [zR 6 0, zI p1, zI p2, zI p3] σ (some (zI q)) σ := by
  refine zEnter [(0, zR 6 0), (1, zI p1), (2, zI p2), (3, zI p3)] (by decide) rfl (fun _ => Nat.le_of_ble_eq_true rfl) (fun _ => rfl) (fun w h => ?_) (fun K hv hs => ?_)
  · exact zokm rfl h
  · have hP : ∀ x, f_X0_shows p1 p2 p3 σ = some x → zKv K = some (zI x) ∧ zKs K = σ := fun x h => by rw [hq] at h; cases h; exact ⟨hv, hs⟩
    have hn : f_X0_shows p1 p2 p3 σ ≠ none := fun z => by rw [hq] at z; cases z
    have hf := f_X0_shows.eq_1 p1 p2 p3 σ
    refine z_aload_n (pc := 0) 0 (zdg D_X0_shows 0 (0, .aload_n 0, 1) rfl) rfl rfl ?_
    refine z_iload_n (pc := 1) 1 (zdg D_X0_shows 1 (1, .iload_n 1, 1) rfl) rfl rfl ?_
    refine z_iload_n (pc := 2) 2 (zdg D_X0_shows 2 (2, .iload_n 2, 1) rfl) rfl rfl ?_
    refine z_callV (pc := 3) (rest := []) (st2 := [zI (f_X0_isIn p1 p2)]) (fun l => c_X0_isIn l p1 p2 σ) zv_X0_isIn lm_X0_21 rfl rfl rfl rfl rfl rfl (Nat.le_of_ble_eq_true rfl) ⟨Nat.le_of_ble_eq_true rfl, Nat.le_of_ble_eq_true rfl⟩ (zdg D_X0_shows 3 (3, .invokevirtual 21, 3) rfl) ?_
    refine z_if_eq (pc := 6) 38 (zdg D_X0_shows 4 (6, .ifCond .eq 32, 3) rfl) rfl hf (fun hf => ?_) (fun hf => ?_)
    · refine z_iconst (pc := 38) (v := 0) (zdg D_X0_shows 19 (38, .iconst 0, 1) rfl) rfl ?_
      exact z_iret (pc := 39) rfl rfl (zdg D_X0_shows 20 (39, .ireturn, 1) rfl) (hP _ hf)
    · refine z_iload_n (pc := 9) 2 (zdg D_X0_shows 5 (9, .iload_n 2, 1) rfl) rfl rfl ?_
      refine z_bipush (pc := 10) (v := 10) (zdg D_X0_shows 6 (10, .bipush 10, 2) rfl) rfl ?_
      refine z_icmp_ge (pc := 12) 38 (zdg D_X0_shows 7 (12, .if_icmp .ge 26, 3) rfl) rfl hf (fun hf => ?_) (fun hf => ?_)
      · refine z_iconst (pc := 38) (v := 0) (zdg D_X0_shows 19 (38, .iconst 0, 1) rfl) rfl ?_
        exact z_iret (pc := 39) rfl rfl (zdg D_X0_shows 20 (39, .ireturn, 1) rfl) (hP _ hf)
      · refine z_aload_n (pc := 15) 0 (zdg D_X0_shows 8 (15, .aload_n 0, 1) rfl) rfl rfl ?_
        refine z_getR (pc := 16) (g := 1) (j := 0) lf_X0_9 rfl rfl rfl (zdg D_X0_shows 9 (16, .getfield 9, 3) rfl) ?_
        refine z_getR (pc := 19) (g := 31) (j := 0) lf_X0_25 rfl rfl rfl (zdg D_X0_shows 10 (19, .getfield 25, 3) rfl) ?_
        refine z_iload_n (pc := 22) 2 (zdg D_X0_shows 11 (22, .iload_n 2, 1) rfl) rfl rfl ?_
        refine z_aald (pc := 23) (g := 11) (t := fun j => j) rfl (fun _ => rfl) (fun j h => by show (if j < 10 then some (11, 10 * 0 + j) else none) = _; rw [if_pos h]; simp) (zdg D_X0_shows 12 (23, .aaload, 1) rfl) hn hf (fun hf => ?_)
        refine z_getL (pc := 24) lf_X0_67 rfl rfl (zdg D_X0_shows 13 (24, .getfield 67, 3) rfl) ?_
        refine z_iload_n (pc := 27) 3 (zdg D_X0_shows 14 (27, .iload_n 3, 1) rfl) rfl rfl ?_
        refine z_callSN (pc := 28) (rest := []) (st2 := [zI (f_X11_holds (σ.2 11 p2.toNatClampNeg 3) p3)]) (host := "NobodyThere") (fun l => c_X11_holds l (σ.2 11 p2.toNatClampNeg 3) p3 σ) zs_X11_holds (by decide +kernel) rfl rfl rfl (Nat.le_of_ble_eq_true rfl) ⟨Nat.le_of_ble_eq_true rfl, Nat.le_of_ble_eq_true rfl⟩ (zdg D_X0_shows 15 (28, .invokestatic 63, 3) rfl) ?_
        refine z_if_eq (pc := 31) 38 (zdg D_X0_shows 16 (31, .ifCond .eq 7, 3) rfl) rfl hf (fun hf => ?_) (fun hf => ?_)
        · refine z_iconst (pc := 38) (v := 0) (zdg D_X0_shows 19 (38, .iconst 0, 1) rfl) rfl ?_
          exact z_iret (pc := 39) rfl rfl (zdg D_X0_shows 20 (39, .ireturn, 1) rfl) (hP _ hf)
        · refine z_iconst (pc := 34) (v := 1) (zdg D_X0_shows 17 (34, .iconst 1, 1) rfl) rfl ?_
          refine z_goto (pc := 35) 39 (zdg D_X0_shows 18 (35, .goto 4, 3) rfl) rfl ?_
          exact z_iret (pc := 39) rfl rfl (zdg D_X0_shows 20 (39, .ireturn, 1) rfl) (hP _ hf)

def L_X0_mostlyClear : List (Nat × Instr × Nat) := [(0, .lconst 0, 1), (1, .lstore_n 2, 1), (2, .iconst 0, 1), (3, .istore 4, 2), (5, .iload 4, 2), (7, .bipush 56, 2), (9, .if_icmp .ge 105, 3), (12, .iconst 0, 1), (13, .istore 5, 2), (15, .iconst 0, 1), (16, .istore 6, 2), (18, .iconst 0, 1), (19, .istore 7, 2), (21, .iload 7, 2), (23, .aload_n 0, 1), (24, .getfield 9, 3), (27, .getfield 15, 3), (30, .if_icmp .ge 62, 3), (33, .iload 7, 2), (35, .bipush 10, 2), (37, .if_icmp .ge 55, 3), (40, .aload_n 0, 1), (41, .iload_n 1, 1), (42, .iload 7, 2), (44, .iload 4, 2), (46, .invokevirtual 55, 3), (49, .ifCond .eq 37, 3), (52, .iinc 6 1, 3), (55, .iload 5, 2), (57, .aload_n 0, 1), (58, .getfield 9, 3), (61, .getfield 25, 3), (64, .iload 7, 2), (66, .aaload, 1), (67, .getfield 59, 3), (70, .iload 4, 2), (72, .invokestatic 63, 3), (75, .ifCond .eq 7, 3), (78, .iconst 0, 1), (79, .goto 4, 3), (82, .iconst 1, 1), (83, .iadd, 1), (84, .istore 5, 2), (86, .iinc 7 1, 3), (89, .goto (-68), 3), (92, .iconst 2, 1), (93, .iload 5, 2), (95, .imul, 1), (96, .iload 6, 2), (98, .if_icmp .le 10, 3), (101, .lload_n 2, 1), (102, .lconst 1, 1), (103, .iload 4, 2), (105, .lshl, 1), (106, .lor, 1), (107, .lstore_n 2, 1), (108, .iinc 4 1, 3), (111, .goto (-106), 3), (114, .lload_n 2, 1), (115, .lreturn, 1)]
set_option maxRecDepth 100000 in
theorem D_X0_mostlyClear : zdecs cX0_mostlyClear L_X0_mostlyClear = true := by decide +kernel
noncomputable def b_X0_mostlyClear_21 (σ : zG) (p1 : Int32) (v4_2 : Int32) (v5_3 : Int32) (v6_4 : Int32) (v7_5 : Int32) : Option ((Int32 × Int32 × Int32) ⊕ (Int32 × Int32)) :=
  if v7_5 < (σ.1 1 0 9) then if v7_5 < (10 : Int32) then (f_X0_shows p1 v7_5 v4_2 σ).bind (fun q6 => if q6 = 0 then some (Sum.inl (v5_3, v6_4, (v7_5 + 1))) else zg (zin v7_5 10) (if (f_X11_holds (σ.2 11 v7_5.toNatClampNeg 4) v4_2) = 0 then some (Sum.inl ((v5_3 + (1 : Int32)), (v6_4 + 1), (v7_5 + 1))) else some (Sum.inl ((v5_3 + (0 : Int32)), (v6_4 + 1), (v7_5 + 1))))) else some (Sum.inr (v5_3, v6_4)) else some (Sum.inr (v5_3, v6_4))
noncomputable def j_X0_mostlyClear_92_5 (w2_8 : Int64) (w4_9 : Int32) (w5_10 : Int32) (w6_11 : Int32) : Option ((Int64 × Int32) ⊕ (Int64)) :=
  if w6_11 < ((2 : Int32) * w5_10) then some (Sum.inl ((w2_8 ||| (zlshl (1 : Int64) w4_9)), (w4_9 + 1))) else some (Sum.inl (w2_8, (w4_9 + 1)))
noncomputable def b_X0_mostlyClear_5 (σ : zG) (p1 : Int32) (v2_1 : Int64) (v4_2 : Int32) : Option ((Int64 × Int32) ⊕ (Int64)) :=
  if v4_2 < (56 : Int32) then (zlp (fun q : Int32 × Int32 × Int32 => b_X0_mostlyClear_21 σ p1 v4_2 q.1 q.2.1 q.2.2) ((0 : Int32), (0 : Int32), (0 : Int32))).bind (fun e7 : Int32 × Int32 => j_X0_mostlyClear_92_5 v2_1 v4_2 e7.1 e7.2) else some (Sum.inr v2_1)
noncomputable def f_X0_mostlyClear (p1 : Int32) (σ : zG) : Option (Int64) :=
  (zlp (fun q : Int64 × Int32 => b_X0_mostlyClear_5 σ p1 q.1 q.2) ((0 : Int64), (0 : Int32))).bind (fun e12 : Int64 => some e12)
set_option maxRecDepth 100000 in
set_option maxHeartbeats 4000000 in
theorem c_X0_mostlyClear (l : Launch) (p1 : Int32) (σ : zG) (q : Int64) (hq : f_X0_mostlyClear p1 σ = some q) : zMet l zsyC m_X0_mostlyClear yX0_mostlyClear [zR 6 0, zI p1] σ (some (zL q)) σ := by
  refine zEnter [(0, zR 6 0), (1, zI p1)] (by decide) rfl (fun _ => Nat.le_of_ble_eq_true rfl) (fun _ => rfl) (fun w h => ?_) (fun K hv hs => ?_)
  · exact zokm rfl h
  · have hP : ∀ x, f_X0_mostlyClear p1 σ = some x → zKv K = some (zL x) ∧ zKs K = σ := fun x h => by rw [hq] at h; cases h; exact ⟨hv, hs⟩
    have hn : f_X0_mostlyClear p1 σ ≠ none := fun z => by rw [hq] at z; cases z
    have hf := f_X0_mostlyClear.eq_1 p1 σ
    refine z_lconst (pc := 0) (v := 0) (zdg D_X0_mostlyClear 0 (0, .lconst 0, 1) rfl) rfl ?_
    refine z_lstore_n (pc := 1) (al' := [(2, zL (0 : Int64)), (0, zR 6 0), (1, zI p1)]) (zdg D_X0_mostlyClear 1 (1, .lstore_n 2, 1) rfl) rfl (by decide) rfl ?_
    refine z_iconst (pc := 2) (v := 0) (zdg D_X0_mostlyClear 2 (2, .iconst 0, 1) rfl) rfl ?_
    refine z_istore (pc := 3) (al' := [(4, zI (0 : Int32)), (2, zL (0 : Int64)), (0, zR 6 0), (1, zI p1)]) (zdg D_X0_mostlyClear 3 (3, .istore 4, 2) rfl) (by decide) rfl ?_
    refine z_sub (al' := [(0, zR 6 0), (1, zI p1), (2, zL (0 : Int64)), (4, zI (0 : Int32))]) [2, 3, 1, 0] rfl ?_
    refine z_loop (f := (fun q : Int64 × Int32 => b_X0_mostlyClear_5 σ p1 q.1 q.2)) (a := ((0 : Int64), (0 : Int32))) (fun q : Int64 × Int32 => zX zsyC m_X0_mostlyClear K 5 [(0, zR 6 0), (1, zI p1), (2, zL q.1), (4, zI q.2)] [] σ) (fun e12 : Int64 => zX zsyC m_X0_mostlyClear K 114 [(2, zL e12)] [] σ) hn hf ?_ ?_
    · intro e12 hf
      refine z_lload_n (pc := 114) 0 (zdg D_X0_mostlyClear 58 (114, .lload_n 2, 1) rfl) rfl rfl ?_
      exact z_lret (pc := 115) rfl (zdg D_X0_mostlyClear 59 (115, .lreturn, 1) rfl) (hP _ hf)
    · rintro ⟨v2_1, v4_2⟩ hn hi hx
      have hf := b_X0_mostlyClear_5.eq_1 σ p1 v2_1 v4_2
      have t_92 : ∀ (w2_8 : Int64) (w4_9 : Int32) (w5_10 : Int32) (w6_11 : Int32), b_X0_mostlyClear_5 σ p1 v2_1 v4_2 = j_X0_mostlyClear_92_5 w2_8 w4_9 w5_10 w6_11 → zX zsyC m_X0_mostlyClear K 92 [(0, zR 6 0), (1, zI p1), (2, zL w2_8), (4, zI w4_9), (5, zI w5_10), (6, zI w6_11)] [] σ := by
        intro w2_8 w4_9 w5_10 w6_11 hf
        replace hf := hf.trans (j_X0_mostlyClear_92_5.eq_1 w2_8 w4_9 w5_10 w6_11)
        refine z_iconst (pc := 92) (v := 2) (zdg D_X0_mostlyClear 45 (92, .iconst 2, 1) rfl) rfl ?_
        refine z_iload (pc := 93) 4 (zdg D_X0_mostlyClear 46 (93, .iload 5, 2) rfl) rfl ?_
        refine z_imul (pc := 95) (zdg D_X0_mostlyClear 47 (95, .imul, 1) rfl) ?_
        refine z_iload (pc := 96) 5 (zdg D_X0_mostlyClear 48 (96, .iload 6, 2) rfl) rfl ?_
        refine z_icmp_le (pc := 98) 108 (zdg D_X0_mostlyClear 49 (98, .if_icmp .le 10, 3) rfl) rfl hf (fun hf => ?_) (fun hf => ?_)
        · refine z_iinc (pc := 108) (v0 := (w4_9 + 1)) (al' := [(4, zI (w4_9 + 1)), (0, zR 6 0), (1, zI p1), (2, zL w2_8), (5, zI w5_10), (6, zI w6_11)]) 3 (zdg D_X0_mostlyClear 56 (108, .iinc 4 1, 3) rfl) rfl rfl (by decide) rfl ?_
          refine z_goto (pc := 111) 5 (zdg D_X0_mostlyClear 57 (111, .goto (-106), 3) rfl) rfl ?_
          refine z_sub (al' := [(0, zR 6 0), (1, zI p1), (2, zL w2_8), (4, zI (w4_9 + 1))]) [1, 2, 3, 0] rfl ?_
          exact hi (w2_8, (w4_9 + 1)) hf
        · refine z_lload_n (pc := 101) 2 (zdg D_X0_mostlyClear 50 (101, .lload_n 2, 1) rfl) rfl rfl ?_
          refine z_lconst (pc := 102) (v := 1) (zdg D_X0_mostlyClear 51 (102, .lconst 1, 1) rfl) rfl ?_
          refine z_iload (pc := 103) 3 (zdg D_X0_mostlyClear 52 (103, .iload 4, 2) rfl) rfl ?_
          refine z_lshl (pc := 105) (zdg D_X0_mostlyClear 53 (105, .lshl, 1) rfl) ?_
          refine z_lor (pc := 106) (zdg D_X0_mostlyClear 54 (106, .lor, 1) rfl) ?_
          refine z_lstore_n (pc := 107) (al' := [(2, zL (w2_8 ||| (zlshl (1 : Int64) w4_9))), (0, zR 6 0), (1, zI p1), (4, zI w4_9), (5, zI w5_10), (6, zI w6_11)]) (zdg D_X0_mostlyClear 55 (107, .lstore_n 2, 1) rfl) rfl (by decide) rfl ?_
          refine z_iinc (pc := 108) (v0 := (w4_9 + 1)) (al' := [(4, zI (w4_9 + 1)), (2, zL (w2_8 ||| (zlshl (1 : Int64) w4_9))), (0, zR 6 0), (1, zI p1), (5, zI w5_10), (6, zI w6_11)]) 3 (zdg D_X0_mostlyClear 56 (108, .iinc 4 1, 3) rfl) rfl rfl (by decide) rfl ?_
          refine z_goto (pc := 111) 5 (zdg D_X0_mostlyClear 57 (111, .goto (-106), 3) rfl) rfl ?_
          refine z_sub (al' := [(0, zR 6 0), (1, zI p1), (2, zL (w2_8 ||| (zlshl (1 : Int64) w4_9))), (4, zI (w4_9 + 1))]) [2, 3, 1, 0] rfl ?_
          exact hi ((w2_8 ||| (zlshl (1 : Int64) w4_9)), (w4_9 + 1)) hf
      refine z_iload (pc := 5) 3 (zdg D_X0_mostlyClear 4 (5, .iload 4, 2) rfl) rfl ?_
      refine z_bipush (pc := 7) (v := 56) (zdg D_X0_mostlyClear 5 (7, .bipush 56, 2) rfl) rfl ?_
      refine z_icmp_ge (pc := 9) 114 (zdg D_X0_mostlyClear 6 (9, .if_icmp .ge 105, 3) rfl) rfl hf (fun hf => ?_) (fun hf => ?_)
      · refine z_sub (al' := [(2, zL v2_1)]) [2] rfl ?_
        exact hx v2_1 hf
      · refine z_iconst (pc := 12) (v := 0) (zdg D_X0_mostlyClear 7 (12, .iconst 0, 1) rfl) rfl ?_
        refine z_istore (pc := 13) (al' := [(5, zI (0 : Int32)), (0, zR 6 0), (1, zI p1), (2, zL v2_1), (4, zI v4_2)]) (zdg D_X0_mostlyClear 8 (13, .istore 5, 2) rfl) (by decide) rfl ?_
        refine z_iconst (pc := 15) (v := 0) (zdg D_X0_mostlyClear 9 (15, .iconst 0, 1) rfl) rfl ?_
        refine z_istore (pc := 16) (al' := [(6, zI (0 : Int32)), (5, zI (0 : Int32)), (0, zR 6 0), (1, zI p1), (2, zL v2_1), (4, zI v4_2)]) (zdg D_X0_mostlyClear 10 (16, .istore 6, 2) rfl) (by decide) rfl ?_
        refine z_iconst (pc := 18) (v := 0) (zdg D_X0_mostlyClear 11 (18, .iconst 0, 1) rfl) rfl ?_
        refine z_istore (pc := 19) (al' := [(7, zI (0 : Int32)), (6, zI (0 : Int32)), (5, zI (0 : Int32)), (0, zR 6 0), (1, zI p1), (2, zL v2_1), (4, zI v4_2)]) (zdg D_X0_mostlyClear 12 (19, .istore 7, 2) rfl) (by decide) rfl ?_
        refine z_sub (al' := [(0, zR 6 0), (1, zI p1), (2, zL v2_1), (4, zI v4_2), (5, zI (0 : Int32)), (6, zI (0 : Int32)), (7, zI (0 : Int32))]) [3, 4, 5, 6, 2, 1, 0] rfl ?_
        refine z_loop (f := (fun q : Int32 × Int32 × Int32 => b_X0_mostlyClear_21 σ p1 v4_2 q.1 q.2.1 q.2.2)) (a := ((0 : Int32), (0 : Int32), (0 : Int32))) (fun q : Int32 × Int32 × Int32 => zX zsyC m_X0_mostlyClear K 21 [(0, zR 6 0), (1, zI p1), (2, zL v2_1), (4, zI v4_2), (5, zI q.1), (6, zI q.2.1), (7, zI q.2.2)] [] σ) (fun e7 : Int32 × Int32 => zX zsyC m_X0_mostlyClear K 92 [(0, zR 6 0), (1, zI p1), (2, zL v2_1), (4, zI v4_2), (5, zI e7.1), (6, zI e7.2)] [] σ) hn hf ?_ ?_
        · intro e7 hf
          exact t_92 v2_1 v4_2 e7.1 e7.2 hf
        · rintro ⟨v5_3, v6_4, v7_5⟩ hn hi hx
          have hf := b_X0_mostlyClear_21.eq_1 σ p1 v4_2 v5_3 v6_4 v7_5
          refine z_iload (pc := 21) 6 (zdg D_X0_mostlyClear 13 (21, .iload 7, 2) rfl) rfl ?_
          refine z_aload_n (pc := 23) 0 (zdg D_X0_mostlyClear 14 (23, .aload_n 0, 1) rfl) rfl rfl ?_
          refine z_getR (pc := 24) (g := 1) (j := 0) lf_X0_9 rfl rfl rfl (zdg D_X0_mostlyClear 15 (24, .getfield 9, 3) rfl) ?_
          refine z_getI (pc := 27) lf_X0_15 rfl rfl (zdg D_X0_mostlyClear 16 (27, .getfield 15, 3) rfl) ?_
          refine z_icmp_ge (pc := 30) 92 (zdg D_X0_mostlyClear 17 (30, .if_icmp .ge 62, 3) rfl) rfl hf (fun hf => ?_) (fun hf => ?_)
          · refine z_sub (al' := [(0, zR 6 0), (1, zI p1), (2, zL v2_1), (4, zI v4_2), (5, zI v5_3), (6, zI v6_4)]) [0, 1, 2, 3, 4, 5] rfl ?_
            exact hx (v5_3, v6_4) hf
          · refine z_iload (pc := 33) 6 (zdg D_X0_mostlyClear 18 (33, .iload 7, 2) rfl) rfl ?_
            refine z_bipush (pc := 35) (v := 10) (zdg D_X0_mostlyClear 19 (35, .bipush 10, 2) rfl) rfl ?_
            refine z_icmp_ge (pc := 37) 92 (zdg D_X0_mostlyClear 20 (37, .if_icmp .ge 55, 3) rfl) rfl hf (fun hf => ?_) (fun hf => ?_)
            · refine z_sub (al' := [(0, zR 6 0), (1, zI p1), (2, zL v2_1), (4, zI v4_2), (5, zI v5_3), (6, zI v6_4)]) [0, 1, 2, 3, 4, 5] rfl ?_
              exact hx (v5_3, v6_4) hf
            · refine z_aload_n (pc := 40) 0 (zdg D_X0_mostlyClear 21 (40, .aload_n 0, 1) rfl) rfl rfl ?_
              refine z_iload_n (pc := 41) 1 (zdg D_X0_mostlyClear 22 (41, .iload_n 1, 1) rfl) rfl rfl ?_
              refine z_iload (pc := 42) 6 (zdg D_X0_mostlyClear 23 (42, .iload 7, 2) rfl) rfl ?_
              refine z_iload (pc := 44) 3 (zdg D_X0_mostlyClear 24 (44, .iload 4, 2) rfl) rfl ?_
              refine z_bind hn hf (fun q6 hq hf => ?_)
              refine z_callV (pc := 46) (rest := []) (st2 := [zI q6]) (fun l => c_X0_shows l p1 v7_5 v4_2 σ q6 hq) zv_X0_shows lm_X0_55 rfl rfl rfl rfl rfl rfl (Nat.le_of_ble_eq_true rfl) ⟨Nat.le_of_ble_eq_true rfl, Nat.le_of_ble_eq_true rfl⟩ (zdg D_X0_mostlyClear 25 (46, .invokevirtual 55, 3) rfl) ?_
              refine z_if_eq (pc := 49) 86 (zdg D_X0_mostlyClear 26 (49, .ifCond .eq 37, 3) rfl) rfl hf (fun hf => ?_) (fun hf => ?_)
              · refine z_iinc (pc := 86) (v0 := (v7_5 + 1)) (al' := [(7, zI (v7_5 + 1)), (0, zR 6 0), (1, zI p1), (2, zL v2_1), (4, zI v4_2), (5, zI v5_3), (6, zI v6_4)]) 6 (zdg D_X0_mostlyClear 43 (86, .iinc 7 1, 3) rfl) rfl rfl (by decide) rfl ?_
                refine z_goto (pc := 89) 21 (zdg D_X0_mostlyClear 44 (89, .goto (-68), 3) rfl) rfl ?_
                refine z_sub (al' := [(0, zR 6 0), (1, zI p1), (2, zL v2_1), (4, zI v4_2), (5, zI v5_3), (6, zI v6_4), (7, zI (v7_5 + 1))]) [1, 2, 3, 4, 5, 6, 0] rfl ?_
                exact hi (v5_3, v6_4, (v7_5 + 1)) hf
              · refine z_iinc (pc := 52) (v0 := (v6_4 + 1)) (al' := [(6, zI (v6_4 + 1)), (0, zR 6 0), (1, zI p1), (2, zL v2_1), (4, zI v4_2), (5, zI v5_3), (7, zI v7_5)]) 5 (zdg D_X0_mostlyClear 27 (52, .iinc 6 1, 3) rfl) rfl rfl (by decide) rfl ?_
                refine z_iload (pc := 55) 5 (zdg D_X0_mostlyClear 28 (55, .iload 5, 2) rfl) rfl ?_
                refine z_aload_n (pc := 57) 1 (zdg D_X0_mostlyClear 29 (57, .aload_n 0, 1) rfl) rfl rfl ?_
                refine z_getR (pc := 58) (g := 1) (j := 0) lf_X0_9 rfl rfl rfl (zdg D_X0_mostlyClear 30 (58, .getfield 9, 3) rfl) ?_
                refine z_getR (pc := 61) (g := 31) (j := 0) lf_X0_25 rfl rfl rfl (zdg D_X0_mostlyClear 31 (61, .getfield 25, 3) rfl) ?_
                refine z_iload (pc := 64) 6 (zdg D_X0_mostlyClear 32 (64, .iload 7, 2) rfl) rfl ?_
                refine z_aald (pc := 66) (g := 11) (t := fun j => j) rfl (fun _ => rfl) (fun j h => by show (if j < 10 then some (11, 10 * 0 + j) else none) = _; rw [if_pos h]; simp) (zdg D_X0_mostlyClear 33 (66, .aaload, 1) rfl) hn hf (fun hf => ?_)
                refine z_getL (pc := 67) lf_X0_59 rfl rfl (zdg D_X0_mostlyClear 34 (67, .getfield 59, 3) rfl) ?_
                refine z_iload (pc := 70) 4 (zdg D_X0_mostlyClear 35 (70, .iload 4, 2) rfl) rfl ?_
                refine z_callSN (pc := 72) (rest := [zI v5_3]) (st2 := [zI (f_X11_holds (σ.2 11 v7_5.toNatClampNeg 4) v4_2), zI v5_3]) (host := "NobodyThere") (fun l => c_X11_holds l (σ.2 11 v7_5.toNatClampNeg 4) v4_2 σ) zs_X11_holds (by decide +kernel) rfl rfl rfl (Nat.le_of_ble_eq_true rfl) ⟨Nat.le_of_ble_eq_true rfl, Nat.le_of_ble_eq_true rfl⟩ (zdg D_X0_mostlyClear 36 (72, .invokestatic 63, 3) rfl) ?_
                refine z_if_eq (pc := 75) 82 (zdg D_X0_mostlyClear 37 (75, .ifCond .eq 7, 3) rfl) rfl hf (fun hf => ?_) (fun hf => ?_)
                · refine z_iconst (pc := 82) (v := 1) (zdg D_X0_mostlyClear 40 (82, .iconst 1, 1) rfl) rfl ?_
                  refine z_iadd (pc := 83) (zdg D_X0_mostlyClear 41 (83, .iadd, 1) rfl) ?_
                  refine z_istore (pc := 84) (al' := [(5, zI (v5_3 + (1 : Int32))), (6, zI (v6_4 + 1)), (0, zR 6 0), (1, zI p1), (2, zL v2_1), (4, zI v4_2), (7, zI v7_5)]) (zdg D_X0_mostlyClear 42 (84, .istore 5, 2) rfl) (by decide) rfl ?_
                  refine z_iinc (pc := 86) (v0 := (v7_5 + 1)) (al' := [(7, zI (v7_5 + 1)), (5, zI (v5_3 + (1 : Int32))), (6, zI (v6_4 + 1)), (0, zR 6 0), (1, zI p1), (2, zL v2_1), (4, zI v4_2)]) 6 (zdg D_X0_mostlyClear 43 (86, .iinc 7 1, 3) rfl) rfl rfl (by decide) rfl ?_
                  refine z_goto (pc := 89) 21 (zdg D_X0_mostlyClear 44 (89, .goto (-68), 3) rfl) rfl ?_
                  refine z_sub (al' := [(0, zR 6 0), (1, zI p1), (2, zL v2_1), (4, zI v4_2), (5, zI (v5_3 + (1 : Int32))), (6, zI (v6_4 + 1)), (7, zI (v7_5 + 1))]) [3, 4, 5, 6, 1, 2, 0] rfl ?_
                  exact hi ((v5_3 + (1 : Int32)), (v6_4 + 1), (v7_5 + 1)) hf
                · refine z_iconst (pc := 78) (v := 0) (zdg D_X0_mostlyClear 38 (78, .iconst 0, 1) rfl) rfl ?_
                  refine z_goto (pc := 79) 83 (zdg D_X0_mostlyClear 39 (79, .goto 4, 3) rfl) rfl ?_
                  refine z_iadd (pc := 83) (zdg D_X0_mostlyClear 41 (83, .iadd, 1) rfl) ?_
                  refine z_istore (pc := 84) (al' := [(5, zI (v5_3 + (0 : Int32))), (6, zI (v6_4 + 1)), (0, zR 6 0), (1, zI p1), (2, zL v2_1), (4, zI v4_2), (7, zI v7_5)]) (zdg D_X0_mostlyClear 42 (84, .istore 5, 2) rfl) (by decide) rfl ?_
                  refine z_iinc (pc := 86) (v0 := (v7_5 + 1)) (al' := [(7, zI (v7_5 + 1)), (5, zI (v5_3 + (0 : Int32))), (6, zI (v6_4 + 1)), (0, zR 6 0), (1, zI p1), (2, zL v2_1), (4, zI v4_2)]) 6 (zdg D_X0_mostlyClear 43 (86, .iinc 7 1, 3) rfl) rfl rfl (by decide) rfl ?_
                  refine z_goto (pc := 89) 21 (zdg D_X0_mostlyClear 44 (89, .goto (-68), 3) rfl) rfl ?_
                  refine z_sub (al' := [(0, zR 6 0), (1, zI p1), (2, zL v2_1), (4, zI v4_2), (5, zI (v5_3 + (0 : Int32))), (6, zI (v6_4 + 1)), (7, zI (v7_5 + 1))]) [3, 4, 5, 6, 1, 2, 0] rfl ?_
                  exact hi ((v5_3 + (0 : Int32)), (v6_4 + 1), (v7_5 + 1)) hf

def L_X0_countTones : List (Nat × Instr × Nat) := [(0, .iconst 0, 1), (1, .istore 5, 2), (3, .iconst 0, 1), (4, .istore 6, 2), (6, .iload 6, 2), (8, .aload_n 0, 1), (9, .getfield 9, 3), (12, .getfield 15, 3), (15, .if_icmp .ge 69, 3), (18, .iload 6, 2), (20, .bipush 10, 2), (22, .if_icmp .ge 62, 3), (25, .aload_n 0, 1), (26, .iload_n 1, 1), (27, .iload 6, 2), (29, .iload_n 2, 1), (30, .invokevirtual 55, 3), (33, .ifCond .eq 45, 3), (36, .aload_n 0, 1), (37, .getfield 9, 3), (40, .getfield 25, 3), (43, .iload 6, 2), (45, .aaload, 1), (46, .getfield 70, 3), (49, .iload_n 2, 1), (50, .baload, 1), (51, .iload_n 3, 1), (52, .if_icmp .lt 26, 3), (55, .aload_n 0, 1), (56, .getfield 9, 3), (59, .getfield 25, 3), (62, .iload 6, 2), (64, .aaload, 1), (65, .getfield 70, 3), (68, .iload_n 2, 1), (69, .baload, 1), (70, .iload 4, 2), (72, .if_icmp .gt 6, 3), (75, .iinc 5 1, 3), (78, .iinc 6 1, 3), (81, .goto (-75), 3), (84, .iload 5, 2), (86, .ireturn, 1)]
set_option maxRecDepth 100000 in
theorem D_X0_countTones : zdecs cX0_countTones L_X0_countTones = true := by decide +kernel
noncomputable def b_X0_countTones_6 (σ : zG) (p1 : Int32) (p2 : Int32) (p3 : Int32) (p4 : Int32) (v5_1 : Int32) (v6_2 : Int32) : Option ((Int32 × Int32) ⊕ (Int32)) :=
  if v6_2 < (σ.1 1 0 9) then if v6_2 < (10 : Int32) then (f_X0_shows p1 v6_2 p2 σ).bind (fun q3 => if q3 = 0 then some (Sum.inl (v5_1, (v6_2 + 1))) else zg (zin v6_2 10) (zg (zin p2 56) (if p3 ≤ (σ.1 29 v6_2.toNatClampNeg p2.toNatClampNeg) then zg (zin v6_2 10) (zg (zin p2 56) (if (σ.1 29 v6_2.toNatClampNeg p2.toNatClampNeg) ≤ p4 then some (Sum.inl ((v5_1 + 1), (v6_2 + 1))) else some (Sum.inl (v5_1, (v6_2 + 1))))) else some (Sum.inl (v5_1, (v6_2 + 1)))))) else some (Sum.inr v5_1) else some (Sum.inr v5_1)
noncomputable def f_X0_countTones (p1 : Int32) (p2 : Int32) (p3 : Int32) (p4 : Int32) (σ : zG) : Option (Int32) :=
  (zlp (fun q : Int32 × Int32 => b_X0_countTones_6 σ p1 p2 p3 p4 q.1 q.2) ((0 : Int32), (0 : Int32))).bind (fun e4 : Int32 => some e4)
set_option maxRecDepth 100000 in
set_option maxHeartbeats 4000000 in
theorem c_X0_countTones (l : Launch) (p1 : Int32) (p2 : Int32) (p3 : Int32) (p4 : Int32) (σ : zG) (q : Int32) (hq : f_X0_countTones p1 p2 p3 p4 σ = some q) : zMet l zsyC m_X0_countTones yX0_countTones [zR 6 0, zI p1, zI p2, zI p3, zI p4] σ (some (zI q)) σ := by
  refine zEnter [(0, zR 6 0), (1, zI p1), (2, zI p2), (3, zI p3), (4, zI p4)] (by decide) rfl (fun _ => Nat.le_of_ble_eq_true rfl) (fun _ => rfl) (fun w h => ?_) (fun K hv hs => ?_)
  · exact zokm rfl h
  · have hP : ∀ x, f_X0_countTones p1 p2 p3 p4 σ = some x → zKv K = some (zI x) ∧ zKs K = σ := fun x h => by rw [hq] at h; cases h; exact ⟨hv, hs⟩
    have hn : f_X0_countTones p1 p2 p3 p4 σ ≠ none := fun z => by rw [hq] at z; cases z
    have hf := f_X0_countTones.eq_1 p1 p2 p3 p4 σ
    refine z_iconst (pc := 0) (v := 0) (zdg D_X0_countTones 0 (0, .iconst 0, 1) rfl) rfl ?_
    refine z_istore (pc := 1) (al' := [(5, zI (0 : Int32)), (0, zR 6 0), (1, zI p1), (2, zI p2), (3, zI p3), (4, zI p4)]) (zdg D_X0_countTones 1 (1, .istore 5, 2) rfl) (by decide) rfl ?_
    refine z_iconst (pc := 3) (v := 0) (zdg D_X0_countTones 2 (3, .iconst 0, 1) rfl) rfl ?_
    refine z_istore (pc := 4) (al' := [(6, zI (0 : Int32)), (5, zI (0 : Int32)), (0, zR 6 0), (1, zI p1), (2, zI p2), (3, zI p3), (4, zI p4)]) (zdg D_X0_countTones 3 (4, .istore 6, 2) rfl) (by decide) rfl ?_
    refine z_sub (al' := [(0, zR 6 0), (1, zI p1), (2, zI p2), (3, zI p3), (4, zI p4), (5, zI (0 : Int32)), (6, zI (0 : Int32))]) [2, 3, 4, 5, 6, 1, 0] rfl ?_
    refine z_loop (f := (fun q : Int32 × Int32 => b_X0_countTones_6 σ p1 p2 p3 p4 q.1 q.2)) (a := ((0 : Int32), (0 : Int32))) (fun q : Int32 × Int32 => zX zsyC m_X0_countTones K 6 [(0, zR 6 0), (1, zI p1), (2, zI p2), (3, zI p3), (4, zI p4), (5, zI q.1), (6, zI q.2)] [] σ) (fun e4 : Int32 => zX zsyC m_X0_countTones K 84 [(5, zI e4)] [] σ) hn hf ?_ ?_
    · intro e4 hf
      refine z_iload (pc := 84) 0 (zdg D_X0_countTones 41 (84, .iload 5, 2) rfl) rfl ?_
      exact z_iret (pc := 86) rfl rfl (zdg D_X0_countTones 42 (86, .ireturn, 1) rfl) (hP _ hf)
    · rintro ⟨v5_1, v6_2⟩ hn hi hx
      have hf := b_X0_countTones_6.eq_1 σ p1 p2 p3 p4 v5_1 v6_2
      refine z_iload (pc := 6) 6 (zdg D_X0_countTones 4 (6, .iload 6, 2) rfl) rfl ?_
      refine z_aload_n (pc := 8) 0 (zdg D_X0_countTones 5 (8, .aload_n 0, 1) rfl) rfl rfl ?_
      refine z_getR (pc := 9) (g := 1) (j := 0) lf_X0_9 rfl rfl rfl (zdg D_X0_countTones 6 (9, .getfield 9, 3) rfl) ?_
      refine z_getI (pc := 12) lf_X0_15 rfl rfl (zdg D_X0_countTones 7 (12, .getfield 15, 3) rfl) ?_
      refine z_icmp_ge (pc := 15) 84 (zdg D_X0_countTones 8 (15, .if_icmp .ge 69, 3) rfl) rfl hf (fun hf => ?_) (fun hf => ?_)
      · refine z_sub (al' := [(5, zI v5_1)]) [5] rfl ?_
        exact hx v5_1 hf
      · refine z_iload (pc := 18) 6 (zdg D_X0_countTones 9 (18, .iload 6, 2) rfl) rfl ?_
        refine z_bipush (pc := 20) (v := 10) (zdg D_X0_countTones 10 (20, .bipush 10, 2) rfl) rfl ?_
        refine z_icmp_ge (pc := 22) 84 (zdg D_X0_countTones 11 (22, .if_icmp .ge 62, 3) rfl) rfl hf (fun hf => ?_) (fun hf => ?_)
        · refine z_sub (al' := [(5, zI v5_1)]) [5] rfl ?_
          exact hx v5_1 hf
        · refine z_aload_n (pc := 25) 0 (zdg D_X0_countTones 12 (25, .aload_n 0, 1) rfl) rfl rfl ?_
          refine z_iload_n (pc := 26) 1 (zdg D_X0_countTones 13 (26, .iload_n 1, 1) rfl) rfl rfl ?_
          refine z_iload (pc := 27) 6 (zdg D_X0_countTones 14 (27, .iload 6, 2) rfl) rfl ?_
          refine z_iload_n (pc := 29) 2 (zdg D_X0_countTones 15 (29, .iload_n 2, 1) rfl) rfl rfl ?_
          refine z_bind hn hf (fun q3 hq hf => ?_)
          refine z_callV (pc := 30) (rest := []) (st2 := [zI q3]) (fun l => c_X0_shows l p1 v6_2 p2 σ q3 hq) zv_X0_shows lm_X0_55 rfl rfl rfl rfl rfl rfl (Nat.le_of_ble_eq_true rfl) ⟨Nat.le_of_ble_eq_true rfl, Nat.le_of_ble_eq_true rfl⟩ (zdg D_X0_countTones 16 (30, .invokevirtual 55, 3) rfl) ?_
          refine z_if_eq (pc := 33) 78 (zdg D_X0_countTones 17 (33, .ifCond .eq 45, 3) rfl) rfl hf (fun hf => ?_) (fun hf => ?_)
          · refine z_iinc (pc := 78) (v0 := (v6_2 + 1)) (al' := [(6, zI (v6_2 + 1)), (0, zR 6 0), (1, zI p1), (2, zI p2), (3, zI p3), (4, zI p4), (5, zI v5_1)]) 6 (zdg D_X0_countTones 39 (78, .iinc 6 1, 3) rfl) rfl rfl (by decide) rfl ?_
            refine z_goto (pc := 81) 6 (zdg D_X0_countTones 40 (81, .goto (-75), 3) rfl) rfl ?_
            refine z_sub (al' := [(0, zR 6 0), (1, zI p1), (2, zI p2), (3, zI p3), (4, zI p4), (5, zI v5_1), (6, zI (v6_2 + 1))]) [1, 2, 3, 4, 5, 6, 0] rfl ?_
            exact hi (v5_1, (v6_2 + 1)) hf
          · refine z_aload_n (pc := 36) 0 (zdg D_X0_countTones 18 (36, .aload_n 0, 1) rfl) rfl rfl ?_
            refine z_getR (pc := 37) (g := 1) (j := 0) lf_X0_9 rfl rfl rfl (zdg D_X0_countTones 19 (37, .getfield 9, 3) rfl) ?_
            refine z_getR (pc := 40) (g := 31) (j := 0) lf_X0_25 rfl rfl rfl (zdg D_X0_countTones 20 (40, .getfield 25, 3) rfl) ?_
            refine z_iload (pc := 43) 6 (zdg D_X0_countTones 21 (43, .iload 6, 2) rfl) rfl ?_
            refine z_aald (pc := 45) (g := 11) (t := fun j => j) rfl (fun _ => rfl) (fun j h => by show (if j < 10 then some (11, 10 * 0 + j) else none) = _; rw [if_pos h]; simp) (zdg D_X0_countTones 22 (45, .aaload, 1) rfl) hn hf (fun hf => ?_)
            refine z_getR (pc := 46) (g := 29) (j := v6_2.toNatClampNeg) lf_X0_70 rfl rfl rfl (zdg D_X0_countTones 23 (46, .getfield 70, 3) rfl) ?_
            refine z_iload_n (pc := 49) 2 (zdg D_X0_countTones 24 (49, .iload_n 2, 1) rfl) rfl rfl ?_
            refine z_bald (pc := 50) rfl (fun _ => rfl) (zdg D_X0_countTones 25 (50, .baload, 1) rfl) hn hf (fun hf => ?_)
            refine z_iload_n (pc := 51) 3 (zdg D_X0_countTones 26 (51, .iload_n 3, 1) rfl) rfl rfl ?_
            refine z_icmp_lt (pc := 52) 78 (zdg D_X0_countTones 27 (52, .if_icmp .lt 26, 3) rfl) rfl hf (fun hf => ?_) (fun hf => ?_)
            · refine z_iinc (pc := 78) (v0 := (v6_2 + 1)) (al' := [(6, zI (v6_2 + 1)), (0, zR 6 0), (1, zI p1), (2, zI p2), (3, zI p3), (4, zI p4), (5, zI v5_1)]) 6 (zdg D_X0_countTones 39 (78, .iinc 6 1, 3) rfl) rfl rfl (by decide) rfl ?_
              refine z_goto (pc := 81) 6 (zdg D_X0_countTones 40 (81, .goto (-75), 3) rfl) rfl ?_
              refine z_sub (al' := [(0, zR 6 0), (1, zI p1), (2, zI p2), (3, zI p3), (4, zI p4), (5, zI v5_1), (6, zI (v6_2 + 1))]) [1, 2, 3, 4, 5, 6, 0] rfl ?_
              exact hi (v5_1, (v6_2 + 1)) hf
            · refine z_aload_n (pc := 55) 0 (zdg D_X0_countTones 28 (55, .aload_n 0, 1) rfl) rfl rfl ?_
              refine z_getR (pc := 56) (g := 1) (j := 0) lf_X0_9 rfl rfl rfl (zdg D_X0_countTones 29 (56, .getfield 9, 3) rfl) ?_
              refine z_getR (pc := 59) (g := 31) (j := 0) lf_X0_25 rfl rfl rfl (zdg D_X0_countTones 30 (59, .getfield 25, 3) rfl) ?_
              refine z_iload (pc := 62) 6 (zdg D_X0_countTones 31 (62, .iload 6, 2) rfl) rfl ?_
              refine z_aald (pc := 64) (g := 11) (t := fun j => j) rfl (fun _ => rfl) (fun j h => by show (if j < 10 then some (11, 10 * 0 + j) else none) = _; rw [if_pos h]; simp) (zdg D_X0_countTones 32 (64, .aaload, 1) rfl) hn hf (fun hf => ?_)
              refine z_getR (pc := 65) (g := 29) (j := v6_2.toNatClampNeg) lf_X0_70 rfl rfl rfl (zdg D_X0_countTones 33 (65, .getfield 70, 3) rfl) ?_
              refine z_iload_n (pc := 68) 2 (zdg D_X0_countTones 34 (68, .iload_n 2, 1) rfl) rfl rfl ?_
              refine z_bald (pc := 69) rfl (fun _ => rfl) (zdg D_X0_countTones 35 (69, .baload, 1) rfl) hn hf (fun hf => ?_)
              refine z_iload (pc := 70) 4 (zdg D_X0_countTones 36 (70, .iload 4, 2) rfl) rfl ?_
              refine z_icmp_gt (pc := 72) 78 (zdg D_X0_countTones 37 (72, .if_icmp .gt 6, 3) rfl) rfl hf (fun hf => ?_) (fun hf => ?_)
              · refine z_iinc (pc := 78) (v0 := (v6_2 + 1)) (al' := [(6, zI (v6_2 + 1)), (0, zR 6 0), (1, zI p1), (2, zI p2), (3, zI p3), (4, zI p4), (5, zI v5_1)]) 6 (zdg D_X0_countTones 39 (78, .iinc 6 1, 3) rfl) rfl rfl (by decide) rfl ?_
                refine z_goto (pc := 81) 6 (zdg D_X0_countTones 40 (81, .goto (-75), 3) rfl) rfl ?_
                refine z_sub (al' := [(0, zR 6 0), (1, zI p1), (2, zI p2), (3, zI p3), (4, zI p4), (5, zI v5_1), (6, zI (v6_2 + 1))]) [1, 2, 3, 4, 5, 6, 0] rfl ?_
                exact hi (v5_1, (v6_2 + 1)) hf
              · refine z_iinc (pc := 75) (v0 := (v5_1 + 1)) (al' := [(5, zI (v5_1 + 1)), (0, zR 6 0), (1, zI p1), (2, zI p2), (3, zI p3), (4, zI p4), (6, zI v6_2)]) 5 (zdg D_X0_countTones 38 (75, .iinc 5 1, 3) rfl) rfl rfl (by decide) rfl ?_
                refine z_iinc (pc := 78) (v0 := (v6_2 + 1)) (al' := [(6, zI (v6_2 + 1)), (5, zI (v5_1 + 1)), (0, zR 6 0), (1, zI p1), (2, zI p2), (3, zI p3), (4, zI p4)]) 6 (zdg D_X0_countTones 39 (78, .iinc 6 1, 3) rfl) rfl rfl (by decide) rfl ?_
                refine z_goto (pc := 81) 6 (zdg D_X0_countTones 40 (81, .goto (-75), 3) rfl) rfl ?_
                refine z_sub (al' := [(0, zR 6 0), (1, zI p1), (2, zI p2), (3, zI p3), (4, zI p4), (5, zI (v5_1 + 1)), (6, zI (v6_2 + 1))]) [2, 3, 4, 5, 6, 1, 0] rfl ?_
                exact hi ((v5_1 + 1), (v6_2 + 1)) hf

def L_X0_middleTone : List (Nat × Instr × Nat) := [(0, .aload_n 0, 1), (1, .iload_n 1, 1), (2, .iload_n 2, 1), (3, .iconst 0, 1), (4, .bipush 99, 2), (6, .invokevirtual 74, 3), (9, .iconst 1, 1), (10, .iadd, 1), (11, .iconst 2, 1), (12, .idiv, 1), (13, .istore_n 3, 1), (14, .iconst 0, 1), (15, .istore 4, 2), (17, .iload 4, 2), (19, .aload_n 0, 1), (20, .getfield 9, 3), (23, .getfield 15, 3), (26, .if_icmp .ge 79, 3), (29, .iload 4, 2), (31, .bipush 10, 2), (33, .if_icmp .ge 72, 3), (36, .iload_n 3, 1), (37, .ifCond .le 68, 3), (40, .aload_n 0, 1), (41, .iload_n 1, 1), (42, .iload 4, 2), (44, .iload_n 2, 1), (45, .invokevirtual 55, 3), (48, .ifCond .eq 51, 3), (51, .aload_n 0, 1), (52, .getfield 9, 3), (55, .getfield 25, 3), (58, .iload 4, 2), (60, .aaload, 1), (61, .getfield 70, 3), (64, .iload_n 2, 1), (65, .baload, 1), (66, .istore 5, 2), (68, .aload_n 0, 1), (69, .iload_n 1, 1), (70, .iload_n 2, 1), (71, .iconst 0, 1), (72, .iload 5, 2), (74, .iconst 1, 1), (75, .isub, 1), (76, .invokevirtual 74, 3), (79, .iload_n 3, 1), (80, .if_icmp .ge 19, 3), (83, .aload_n 0, 1), (84, .iload_n 1, 1), (85, .iload_n 2, 1), (86, .iconst 0, 1), (87, .iload 5, 2), (89, .invokevirtual 74, 3), (92, .iload_n 3, 1), (93, .if_icmp .lt 6, 3), (96, .iload 5, 2), (98, .ireturn, 1), (99, .iinc 4 1, 3), (102, .goto (-85), 3), (105, .iconst (-1), 1), (106, .ireturn, 1)]
set_option maxRecDepth 100000 in
theorem D_X0_middleTone : zdecs cX0_middleTone L_X0_middleTone = true := by decide +kernel
noncomputable def b_X0_middleTone_17 (σ : zG) (q1 : Int32) (p1 : Int32) (p2 : Int32) (v4_2 : Int32) : Option ((Int32) ⊕ ((Int32) ⊕ (Unit))) :=
  if v4_2 < (σ.1 1 0 9) then if v4_2 < (10 : Int32) then if 0 < ((q1 + (1 : Int32)) / (2 : Int32)) then (f_X0_shows p1 v4_2 p2 σ).bind (fun q3 => if q3 = 0 then some (Sum.inl (v4_2 + 1)) else zg (zin v4_2 10) (zg (zin p2 56) ((f_X0_countTones p1 p2 (0 : Int32) ((σ.1 29 v4_2.toNatClampNeg p2.toNatClampNeg) - (1 : Int32)) σ).bind (fun q4 => if q4 < ((q1 + (1 : Int32)) / (2 : Int32)) then (f_X0_countTones p1 p2 (0 : Int32) (σ.1 29 v4_2.toNatClampNeg p2.toNatClampNeg) σ).bind (fun q5 => if ((q1 + (1 : Int32)) / (2 : Int32)) ≤ q5 then some (Sum.inr (Sum.inl (σ.1 29 v4_2.toNatClampNeg p2.toNatClampNeg))) else some (Sum.inl (v4_2 + 1))) else some (Sum.inl (v4_2 + 1)))))) else some (Sum.inr (Sum.inr ())) else some (Sum.inr (Sum.inr ())) else some (Sum.inr (Sum.inr ()))
noncomputable def f_X0_middleTone (p1 : Int32) (p2 : Int32) (σ : zG) : Option (Int32) :=
  (f_X0_countTones p1 p2 (0 : Int32) (99 : Int32) σ).bind (fun q1 => (zlp (fun q : Int32 => b_X0_middleTone_17 σ q1 p1 p2 q) (0 : Int32)).bind (Sum.elim (fun e6 : Int32 => some e6) (fun e7 : Unit => some (-1 : Int32))))
set_option maxRecDepth 100000 in
set_option maxHeartbeats 4000000 in
theorem c_X0_middleTone (l : Launch) (p1 : Int32) (p2 : Int32) (σ : zG) (q : Int32) (hq : f_X0_middleTone p1 p2 σ = some q) : zMet l zsyC m_X0_middleTone yX0_middleTone [zR 6 0, zI p1, zI p2] σ (some (zI q)) σ := by
  refine zEnter [(0, zR 6 0), (1, zI p1), (2, zI p2)] (by decide) rfl (fun _ => Nat.le_of_ble_eq_true rfl) (fun _ => rfl) (fun w h => ?_) (fun K hv hs => ?_)
  · exact zokm rfl h
  · have hP : ∀ x, f_X0_middleTone p1 p2 σ = some x → zKv K = some (zI x) ∧ zKs K = σ := fun x h => by rw [hq] at h; cases h; exact ⟨hv, hs⟩
    have hn : f_X0_middleTone p1 p2 σ ≠ none := fun z => by rw [hq] at z; cases z
    have hf := f_X0_middleTone.eq_1 p1 p2 σ
    refine z_aload_n (pc := 0) 0 (zdg D_X0_middleTone 0 (0, .aload_n 0, 1) rfl) rfl rfl ?_
    refine z_iload_n (pc := 1) 1 (zdg D_X0_middleTone 1 (1, .iload_n 1, 1) rfl) rfl rfl ?_
    refine z_iload_n (pc := 2) 2 (zdg D_X0_middleTone 2 (2, .iload_n 2, 1) rfl) rfl rfl ?_
    refine z_iconst (pc := 3) (v := 0) (zdg D_X0_middleTone 3 (3, .iconst 0, 1) rfl) rfl ?_
    refine z_bipush (pc := 4) (v := 99) (zdg D_X0_middleTone 4 (4, .bipush 99, 2) rfl) rfl ?_
    refine z_bind hn hf (fun q1 hq hf => ?_)
    refine z_callV (pc := 6) (rest := []) (st2 := [zI q1]) (fun l => c_X0_countTones l p1 p2 (0 : Int32) (99 : Int32) σ q1 hq) zv_X0_countTones lm_X0_74 rfl rfl rfl rfl rfl rfl (Nat.le_of_ble_eq_true rfl) ⟨Nat.le_of_ble_eq_true rfl, Nat.le_of_ble_eq_true rfl⟩ (zdg D_X0_middleTone 5 (6, .invokevirtual 74, 3) rfl) ?_
    refine z_iconst (pc := 9) (v := 1) (zdg D_X0_middleTone 6 (9, .iconst 1, 1) rfl) rfl ?_
    refine z_iadd (pc := 10) (zdg D_X0_middleTone 7 (10, .iadd, 1) rfl) ?_
    refine z_iconst (pc := 11) (v := 2) (zdg D_X0_middleTone 8 (11, .iconst 2, 1) rfl) rfl ?_
    refine z_idivK (pc := 12) (zdg D_X0_middleTone 9 (12, .idiv, 1) rfl) rfl ?_
    refine z_istore_n (pc := 13) (al' := [(3, zI ((q1 + (1 : Int32)) / (2 : Int32))), (0, zR 6 0), (1, zI p1), (2, zI p2)]) (zdg D_X0_middleTone 10 (13, .istore_n 3, 1) rfl) rfl (by decide) rfl ?_
    refine z_iconst (pc := 14) (v := 0) (zdg D_X0_middleTone 11 (14, .iconst 0, 1) rfl) rfl ?_
    refine z_istore (pc := 15) (al' := [(4, zI (0 : Int32)), (3, zI ((q1 + (1 : Int32)) / (2 : Int32))), (0, zR 6 0), (1, zI p1), (2, zI p2)]) (zdg D_X0_middleTone 12 (15, .istore 4, 2) rfl) (by decide) rfl ?_
    refine z_sub (al' := [(0, zR 6 0), (1, zI p1), (2, zI p2), (3, zI ((q1 + (1 : Int32)) / (2 : Int32))), (4, zI (0 : Int32))]) [2, 3, 4, 1, 0] rfl ?_
    refine z_loop (f := (fun q : Int32 => b_X0_middleTone_17 σ q1 p1 p2 q)) (a := (0 : Int32)) (fun q : Int32 => zX zsyC m_X0_middleTone K 17 [(0, zR 6 0), (1, zI p1), (2, zI p2), (3, zI ((q1 + (1 : Int32)) / (2 : Int32))), (4, zI q)] [] σ) (Sum.elim (fun e6 : Int32 => zX zsyC m_X0_middleTone K 96 [(5, zI e6)] [] σ) (fun e7 : Unit => zX zsyC m_X0_middleTone K 105 [] [] σ)) hn hf ?_ ?_
    · intro b hf
      cases b with
      | inl e6 =>
        refine z_iload (pc := 96) 0 (zdg D_X0_middleTone 56 (96, .iload 5, 2) rfl) rfl ?_
        exact z_iret (pc := 98) rfl rfl (zdg D_X0_middleTone 57 (98, .ireturn, 1) rfl) (hP _ hf)
      | inr b =>
        revert hf
        revert b
        intro e7 hf
        refine z_iconst (pc := 105) (v := -1) (zdg D_X0_middleTone 60 (105, .iconst (-1), 1) rfl) rfl ?_
        exact z_iret (pc := 106) rfl rfl (zdg D_X0_middleTone 61 (106, .ireturn, 1) rfl) (hP _ hf)
    · intro v4_2 hn hi hx
      have hf := b_X0_middleTone_17.eq_1 σ q1 p1 p2 v4_2
      refine z_iload (pc := 17) 4 (zdg D_X0_middleTone 13 (17, .iload 4, 2) rfl) rfl ?_
      refine z_aload_n (pc := 19) 0 (zdg D_X0_middleTone 14 (19, .aload_n 0, 1) rfl) rfl rfl ?_
      refine z_getR (pc := 20) (g := 1) (j := 0) lf_X0_9 rfl rfl rfl (zdg D_X0_middleTone 15 (20, .getfield 9, 3) rfl) ?_
      refine z_getI (pc := 23) lf_X0_15 rfl rfl (zdg D_X0_middleTone 16 (23, .getfield 15, 3) rfl) ?_
      refine z_icmp_ge (pc := 26) 105 (zdg D_X0_middleTone 17 (26, .if_icmp .ge 79, 3) rfl) rfl hf (fun hf => ?_) (fun hf => ?_)
      · refine z_sub (al' := []) [] rfl ?_
        exact hx (Sum.inr ()) hf
      · refine z_iload (pc := 29) 4 (zdg D_X0_middleTone 18 (29, .iload 4, 2) rfl) rfl ?_
        refine z_bipush (pc := 31) (v := 10) (zdg D_X0_middleTone 19 (31, .bipush 10, 2) rfl) rfl ?_
        refine z_icmp_ge (pc := 33) 105 (zdg D_X0_middleTone 20 (33, .if_icmp .ge 72, 3) rfl) rfl hf (fun hf => ?_) (fun hf => ?_)
        · refine z_sub (al' := []) [] rfl ?_
          exact hx (Sum.inr ()) hf
        · refine z_iload_n (pc := 36) 3 (zdg D_X0_middleTone 21 (36, .iload_n 3, 1) rfl) rfl rfl ?_
          refine z_if_le (pc := 37) 105 (zdg D_X0_middleTone 22 (37, .ifCond .le 68, 3) rfl) rfl hf (fun hf => ?_) (fun hf => ?_)
          · refine z_sub (al' := []) [] rfl ?_
            exact hx (Sum.inr ()) hf
          · refine z_aload_n (pc := 40) 0 (zdg D_X0_middleTone 23 (40, .aload_n 0, 1) rfl) rfl rfl ?_
            refine z_iload_n (pc := 41) 1 (zdg D_X0_middleTone 24 (41, .iload_n 1, 1) rfl) rfl rfl ?_
            refine z_iload (pc := 42) 4 (zdg D_X0_middleTone 25 (42, .iload 4, 2) rfl) rfl ?_
            refine z_iload_n (pc := 44) 2 (zdg D_X0_middleTone 26 (44, .iload_n 2, 1) rfl) rfl rfl ?_
            refine z_bind hn hf (fun q3 hq hf => ?_)
            refine z_callV (pc := 45) (rest := []) (st2 := [zI q3]) (fun l => c_X0_shows l p1 v4_2 p2 σ q3 hq) zv_X0_shows lm_X0_55 rfl rfl rfl rfl rfl rfl (Nat.le_of_ble_eq_true rfl) ⟨Nat.le_of_ble_eq_true rfl, Nat.le_of_ble_eq_true rfl⟩ (zdg D_X0_middleTone 27 (45, .invokevirtual 55, 3) rfl) ?_
            refine z_if_eq (pc := 48) 99 (zdg D_X0_middleTone 28 (48, .ifCond .eq 51, 3) rfl) rfl hf (fun hf => ?_) (fun hf => ?_)
            · refine z_iinc (pc := 99) (v0 := (v4_2 + 1)) (al' := [(4, zI (v4_2 + 1)), (0, zR 6 0), (1, zI p1), (2, zI p2), (3, zI ((q1 + (1 : Int32)) / (2 : Int32)))]) 4 (zdg D_X0_middleTone 58 (99, .iinc 4 1, 3) rfl) rfl rfl (by decide) rfl ?_
              refine z_goto (pc := 102) 17 (zdg D_X0_middleTone 59 (102, .goto (-85), 3) rfl) rfl ?_
              refine z_sub (al' := [(0, zR 6 0), (1, zI p1), (2, zI p2), (3, zI ((q1 + (1 : Int32)) / (2 : Int32))), (4, zI (v4_2 + 1))]) [1, 2, 3, 4, 0] rfl ?_
              exact hi (v4_2 + 1) hf
            · refine z_aload_n (pc := 51) 0 (zdg D_X0_middleTone 29 (51, .aload_n 0, 1) rfl) rfl rfl ?_
              refine z_getR (pc := 52) (g := 1) (j := 0) lf_X0_9 rfl rfl rfl (zdg D_X0_middleTone 30 (52, .getfield 9, 3) rfl) ?_
              refine z_getR (pc := 55) (g := 31) (j := 0) lf_X0_25 rfl rfl rfl (zdg D_X0_middleTone 31 (55, .getfield 25, 3) rfl) ?_
              refine z_iload (pc := 58) 4 (zdg D_X0_middleTone 32 (58, .iload 4, 2) rfl) rfl ?_
              refine z_aald (pc := 60) (g := 11) (t := fun j => j) rfl (fun _ => rfl) (fun j h => by show (if j < 10 then some (11, 10 * 0 + j) else none) = _; rw [if_pos h]; simp) (zdg D_X0_middleTone 33 (60, .aaload, 1) rfl) hn hf (fun hf => ?_)
              refine z_getR (pc := 61) (g := 29) (j := v4_2.toNatClampNeg) lf_X0_70 rfl rfl rfl (zdg D_X0_middleTone 34 (61, .getfield 70, 3) rfl) ?_
              refine z_iload_n (pc := 64) 2 (zdg D_X0_middleTone 35 (64, .iload_n 2, 1) rfl) rfl rfl ?_
              refine z_bald (pc := 65) rfl (fun _ => rfl) (zdg D_X0_middleTone 36 (65, .baload, 1) rfl) hn hf (fun hf => ?_)
              refine z_istore (pc := 66) (al' := [(5, zI (σ.1 29 v4_2.toNatClampNeg p2.toNatClampNeg)), (0, zR 6 0), (1, zI p1), (2, zI p2), (3, zI ((q1 + (1 : Int32)) / (2 : Int32))), (4, zI v4_2)]) (zdg D_X0_middleTone 37 (66, .istore 5, 2) rfl) (by decide) rfl ?_
              refine z_aload_n (pc := 68) 1 (zdg D_X0_middleTone 38 (68, .aload_n 0, 1) rfl) rfl rfl ?_
              refine z_iload_n (pc := 69) 2 (zdg D_X0_middleTone 39 (69, .iload_n 1, 1) rfl) rfl rfl ?_
              refine z_iload_n (pc := 70) 3 (zdg D_X0_middleTone 40 (70, .iload_n 2, 1) rfl) rfl rfl ?_
              refine z_iconst (pc := 71) (v := 0) (zdg D_X0_middleTone 41 (71, .iconst 0, 1) rfl) rfl ?_
              refine z_iload (pc := 72) 0 (zdg D_X0_middleTone 42 (72, .iload 5, 2) rfl) rfl ?_
              refine z_iconst (pc := 74) (v := 1) (zdg D_X0_middleTone 43 (74, .iconst 1, 1) rfl) rfl ?_
              refine z_isub (pc := 75) (zdg D_X0_middleTone 44 (75, .isub, 1) rfl) ?_
              refine z_bind hn hf (fun q4 hq hf => ?_)
              refine z_callV (pc := 76) (rest := []) (st2 := [zI q4]) (fun l => c_X0_countTones l p1 p2 (0 : Int32) ((σ.1 29 v4_2.toNatClampNeg p2.toNatClampNeg) - (1 : Int32)) σ q4 hq) zv_X0_countTones lm_X0_74 rfl rfl rfl rfl rfl rfl (Nat.le_of_ble_eq_true rfl) ⟨Nat.le_of_ble_eq_true rfl, Nat.le_of_ble_eq_true rfl⟩ (zdg D_X0_middleTone 45 (76, .invokevirtual 74, 3) rfl) ?_
              refine z_iload_n (pc := 79) 4 (zdg D_X0_middleTone 46 (79, .iload_n 3, 1) rfl) rfl rfl ?_
              refine z_icmp_ge (pc := 80) 99 (zdg D_X0_middleTone 47 (80, .if_icmp .ge 19, 3) rfl) rfl hf (fun hf => ?_) (fun hf => ?_)
              · refine z_iinc (pc := 99) (v0 := (v4_2 + 1)) (al' := [(4, zI (v4_2 + 1)), (5, zI (σ.1 29 v4_2.toNatClampNeg p2.toNatClampNeg)), (0, zR 6 0), (1, zI p1), (2, zI p2), (3, zI ((q1 + (1 : Int32)) / (2 : Int32)))]) 5 (zdg D_X0_middleTone 58 (99, .iinc 4 1, 3) rfl) rfl rfl (by decide) rfl ?_
                refine z_goto (pc := 102) 17 (zdg D_X0_middleTone 59 (102, .goto (-85), 3) rfl) rfl ?_
                refine z_sub (al' := [(0, zR 6 0), (1, zI p1), (2, zI p2), (3, zI ((q1 + (1 : Int32)) / (2 : Int32))), (4, zI (v4_2 + 1))]) [2, 3, 4, 5, 0] rfl ?_
                exact hi (v4_2 + 1) hf
              · refine z_aload_n (pc := 83) 1 (zdg D_X0_middleTone 48 (83, .aload_n 0, 1) rfl) rfl rfl ?_
                refine z_iload_n (pc := 84) 2 (zdg D_X0_middleTone 49 (84, .iload_n 1, 1) rfl) rfl rfl ?_
                refine z_iload_n (pc := 85) 3 (zdg D_X0_middleTone 50 (85, .iload_n 2, 1) rfl) rfl rfl ?_
                refine z_iconst (pc := 86) (v := 0) (zdg D_X0_middleTone 51 (86, .iconst 0, 1) rfl) rfl ?_
                refine z_iload (pc := 87) 0 (zdg D_X0_middleTone 52 (87, .iload 5, 2) rfl) rfl ?_
                refine z_bind hn hf (fun q5 hq hf => ?_)
                refine z_callV (pc := 89) (rest := []) (st2 := [zI q5]) (fun l => c_X0_countTones l p1 p2 (0 : Int32) (σ.1 29 v4_2.toNatClampNeg p2.toNatClampNeg) σ q5 hq) zv_X0_countTones lm_X0_74 rfl rfl rfl rfl rfl rfl (Nat.le_of_ble_eq_true rfl) ⟨Nat.le_of_ble_eq_true rfl, Nat.le_of_ble_eq_true rfl⟩ (zdg D_X0_middleTone 53 (89, .invokevirtual 74, 3) rfl) ?_
                refine z_iload_n (pc := 92) 4 (zdg D_X0_middleTone 54 (92, .iload_n 3, 1) rfl) rfl rfl ?_
                refine z_icmp_lt (pc := 93) 99 (zdg D_X0_middleTone 55 (93, .if_icmp .lt 6, 3) rfl) rfl hf (fun hf => ?_) (fun hf => ?_)
                · refine z_iinc (pc := 99) (v0 := (v4_2 + 1)) (al' := [(4, zI (v4_2 + 1)), (5, zI (σ.1 29 v4_2.toNatClampNeg p2.toNatClampNeg)), (0, zR 6 0), (1, zI p1), (2, zI p2), (3, zI ((q1 + (1 : Int32)) / (2 : Int32)))]) 5 (zdg D_X0_middleTone 58 (99, .iinc 4 1, 3) rfl) rfl rfl (by decide) rfl ?_
                  refine z_goto (pc := 102) 17 (zdg D_X0_middleTone 59 (102, .goto (-85), 3) rfl) rfl ?_
                  refine z_sub (al' := [(0, zR 6 0), (1, zI p1), (2, zI p2), (3, zI ((q1 + (1 : Int32)) / (2 : Int32))), (4, zI (v4_2 + 1))]) [2, 3, 4, 5, 0] rfl ?_
                  exact hi (v4_2 + 1) hf
                · refine z_sub (al' := [(5, zI (σ.1 29 v4_2.toNatClampNeg p2.toNatClampNeg))]) [0] rfl ?_
                  exact hx (Sum.inl (σ.1 29 v4_2.toNatClampNeg p2.toNatClampNeg)) hf

def L_X0_surelyKnown : List (Nat × Instr × Nat) := [(0, .lconst 0, 1), (1, .lstore_n 3, 1), (2, .iconst 0, 1), (3, .istore 5, 2), (5, .iload 5, 2), (7, .bipush 56, 2), (9, .if_icmp .ge 99, 3), (12, .iconst 0, 1), (13, .istore 6, 2), (15, .iload 6, 2), (17, .aload_n 0, 1), (18, .getfield 9, 3), (21, .getfield 15, 3), (24, .if_icmp .ge 78, 3), (27, .iload 6, 2), (29, .bipush 10, 2), (31, .if_icmp .ge 71, 3), (34, .aload_n 0, 1), (35, .iload_n 1, 1), (36, .iload 6, 2), (38, .iload 5, 2), (40, .invokevirtual 55, 3), (43, .ifCond .eq 53, 3), (46, .aload_n 0, 1), (47, .iload_n 1, 1), (48, .iload 5, 2), (50, .aload_n 0, 1), (51, .getfield 9, 3), (54, .getfield 25, 3), (57, .iload 6, 2), (59, .aaload, 1), (60, .getfield 70, 3), (63, .iload 5, 2), (65, .baload, 1), (66, .aload_n 0, 1), (67, .getfield 9, 3), (70, .getfield 25, 3), (73, .iload 6, 2), (75, .aaload, 1), (76, .getfield 70, 3), (79, .iload 5, 2), (81, .baload, 1), (82, .invokevirtual 74, 3), (85, .iload_n 2, 1), (86, .if_icmp .lt 10, 3), (89, .lload_n 3, 1), (90, .lconst 1, 1), (91, .iload 5, 2), (93, .lshl, 1), (94, .lor, 1), (95, .lstore_n 3, 1), (96, .iinc 6 1, 3), (99, .goto (-84), 3), (102, .iinc 5 1, 3), (105, .goto (-100), 3), (108, .lload_n 3, 1), (109, .lreturn, 1)]
set_option maxRecDepth 100000 in
theorem D_X0_surelyKnown : zdecs cX0_surelyKnown L_X0_surelyKnown = true := by decide +kernel
noncomputable def b_X0_surelyKnown_15 (σ : zG) (p1 : Int32) (v5_2 : Int32) (p2 : Int32) (v3_3 : Int64) (v6_4 : Int32) : Option ((Int64 × Int32) ⊕ (Int64)) :=
  if v6_4 < (σ.1 1 0 9) then if v6_4 < (10 : Int32) then (f_X0_shows p1 v6_4 v5_2 σ).bind (fun q5 => if q5 = 0 then some (Sum.inl (v3_3, (v6_4 + 1))) else zg (zin v6_4 10) (zg (zin v5_2 56) (zg (zin v6_4 10) (zg (zin v5_2 56) ((f_X0_countTones p1 v5_2 (σ.1 29 v6_4.toNatClampNeg v5_2.toNatClampNeg) (σ.1 29 v6_4.toNatClampNeg v5_2.toNatClampNeg) σ).bind (fun q6 => if p2 ≤ q6 then some (Sum.inl ((v3_3 ||| (zlshl (1 : Int64) v5_2)), (v6_4 + 1))) else some (Sum.inl (v3_3, (v6_4 + 1))))))))) else some (Sum.inr v3_3) else some (Sum.inr v3_3)
noncomputable def b_X0_surelyKnown_5 (σ : zG) (p1 : Int32) (p2 : Int32) (v3_1 : Int64) (v5_2 : Int32) : Option ((Int64 × Int32) ⊕ (Int64)) :=
  if v5_2 < (56 : Int32) then (zlp (fun q : Int64 × Int32 => b_X0_surelyKnown_15 σ p1 v5_2 p2 q.1 q.2) (v3_1, (0 : Int32))).bind (fun e7 : Int64 => some (Sum.inl (e7, (v5_2 + 1)))) else some (Sum.inr v3_1)
noncomputable def f_X0_surelyKnown (p1 : Int32) (p2 : Int32) (σ : zG) : Option (Int64) :=
  (zlp (fun q : Int64 × Int32 => b_X0_surelyKnown_5 σ p1 p2 q.1 q.2) ((0 : Int64), (0 : Int32))).bind (fun e8 : Int64 => some e8)
set_option maxRecDepth 100000 in
set_option maxHeartbeats 4000000 in
theorem c_X0_surelyKnown (l : Launch) (p1 : Int32) (p2 : Int32) (σ : zG) (q : Int64) (hq : f_X0_surelyKnown p1 p2 σ = some q) : zMet l zsyC m_X0_surelyKnown yX0_surelyKnown [zR 6 0, zI p1, zI p2] σ (some (zL q)) σ := by
  refine zEnter [(0, zR 6 0), (1, zI p1), (2, zI p2)] (by decide) rfl (fun _ => Nat.le_of_ble_eq_true rfl) (fun _ => rfl) (fun w h => ?_) (fun K hv hs => ?_)
  · exact zokm rfl h
  · have hP : ∀ x, f_X0_surelyKnown p1 p2 σ = some x → zKv K = some (zL x) ∧ zKs K = σ := fun x h => by rw [hq] at h; cases h; exact ⟨hv, hs⟩
    have hn : f_X0_surelyKnown p1 p2 σ ≠ none := fun z => by rw [hq] at z; cases z
    have hf := f_X0_surelyKnown.eq_1 p1 p2 σ
    refine z_lconst (pc := 0) (v := 0) (zdg D_X0_surelyKnown 0 (0, .lconst 0, 1) rfl) rfl ?_
    refine z_lstore_n (pc := 1) (al' := [(3, zL (0 : Int64)), (0, zR 6 0), (1, zI p1), (2, zI p2)]) (zdg D_X0_surelyKnown 1 (1, .lstore_n 3, 1) rfl) rfl (by decide) rfl ?_
    refine z_iconst (pc := 2) (v := 0) (zdg D_X0_surelyKnown 2 (2, .iconst 0, 1) rfl) rfl ?_
    refine z_istore (pc := 3) (al' := [(5, zI (0 : Int32)), (3, zL (0 : Int64)), (0, zR 6 0), (1, zI p1), (2, zI p2)]) (zdg D_X0_surelyKnown 3 (3, .istore 5, 2) rfl) (by decide) rfl ?_
    refine z_sub (al' := [(0, zR 6 0), (1, zI p1), (2, zI p2), (3, zL (0 : Int64)), (5, zI (0 : Int32))]) [2, 3, 4, 1, 0] rfl ?_
    refine z_loop (f := (fun q : Int64 × Int32 => b_X0_surelyKnown_5 σ p1 p2 q.1 q.2)) (a := ((0 : Int64), (0 : Int32))) (fun q : Int64 × Int32 => zX zsyC m_X0_surelyKnown K 5 [(0, zR 6 0), (1, zI p1), (2, zI p2), (3, zL q.1), (5, zI q.2)] [] σ) (fun e8 : Int64 => zX zsyC m_X0_surelyKnown K 108 [(3, zL e8)] [] σ) hn hf ?_ ?_
    · intro e8 hf
      refine z_lload_n (pc := 108) 0 (zdg D_X0_surelyKnown 55 (108, .lload_n 3, 1) rfl) rfl rfl ?_
      exact z_lret (pc := 109) rfl (zdg D_X0_surelyKnown 56 (109, .lreturn, 1) rfl) (hP _ hf)
    · rintro ⟨v3_1, v5_2⟩ hn hi hx
      have hf := b_X0_surelyKnown_5.eq_1 σ p1 p2 v3_1 v5_2
      refine z_iload (pc := 5) 4 (zdg D_X0_surelyKnown 4 (5, .iload 5, 2) rfl) rfl ?_
      refine z_bipush (pc := 7) (v := 56) (zdg D_X0_surelyKnown 5 (7, .bipush 56, 2) rfl) rfl ?_
      refine z_icmp_ge (pc := 9) 108 (zdg D_X0_surelyKnown 6 (9, .if_icmp .ge 99, 3) rfl) rfl hf (fun hf => ?_) (fun hf => ?_)
      · refine z_sub (al' := [(3, zL v3_1)]) [3] rfl ?_
        exact hx v3_1 hf
      · refine z_iconst (pc := 12) (v := 0) (zdg D_X0_surelyKnown 7 (12, .iconst 0, 1) rfl) rfl ?_
        refine z_istore (pc := 13) (al' := [(6, zI (0 : Int32)), (0, zR 6 0), (1, zI p1), (2, zI p2), (3, zL v3_1), (5, zI v5_2)]) (zdg D_X0_surelyKnown 8 (13, .istore 6, 2) rfl) (by decide) rfl ?_
        refine z_sub (al' := [(0, zR 6 0), (1, zI p1), (2, zI p2), (3, zL v3_1), (5, zI v5_2), (6, zI (0 : Int32))]) [1, 2, 3, 4, 5, 0] rfl ?_
        refine z_loop (f := (fun q : Int64 × Int32 => b_X0_surelyKnown_15 σ p1 v5_2 p2 q.1 q.2)) (a := (v3_1, (0 : Int32))) (fun q : Int64 × Int32 => zX zsyC m_X0_surelyKnown K 15 [(0, zR 6 0), (1, zI p1), (2, zI p2), (3, zL q.1), (5, zI v5_2), (6, zI q.2)] [] σ) (fun e7 : Int64 => zX zsyC m_X0_surelyKnown K 102 [(0, zR 6 0), (1, zI p1), (2, zI p2), (3, zL e7), (5, zI v5_2)] [] σ) hn hf ?_ ?_
        · intro e7 hf
          refine z_iinc (pc := 102) (v0 := (v5_2 + 1)) (al' := [(5, zI (v5_2 + 1)), (0, zR 6 0), (1, zI p1), (2, zI p2), (3, zL e7)]) 4 (zdg D_X0_surelyKnown 53 (102, .iinc 5 1, 3) rfl) rfl rfl (by decide) rfl ?_
          refine z_goto (pc := 105) 5 (zdg D_X0_surelyKnown 54 (105, .goto (-100), 3) rfl) rfl ?_
          refine z_sub (al' := [(0, zR 6 0), (1, zI p1), (2, zI p2), (3, zL e7), (5, zI (v5_2 + 1))]) [1, 2, 3, 4, 0] rfl ?_
          exact hi (e7, (v5_2 + 1)) hf
        · rintro ⟨v3_3, v6_4⟩ hn hi hx
          have hf := b_X0_surelyKnown_15.eq_1 σ p1 v5_2 p2 v3_3 v6_4
          refine z_iload (pc := 15) 5 (zdg D_X0_surelyKnown 9 (15, .iload 6, 2) rfl) rfl ?_
          refine z_aload_n (pc := 17) 0 (zdg D_X0_surelyKnown 10 (17, .aload_n 0, 1) rfl) rfl rfl ?_
          refine z_getR (pc := 18) (g := 1) (j := 0) lf_X0_9 rfl rfl rfl (zdg D_X0_surelyKnown 11 (18, .getfield 9, 3) rfl) ?_
          refine z_getI (pc := 21) lf_X0_15 rfl rfl (zdg D_X0_surelyKnown 12 (21, .getfield 15, 3) rfl) ?_
          refine z_icmp_ge (pc := 24) 102 (zdg D_X0_surelyKnown 13 (24, .if_icmp .ge 78, 3) rfl) rfl hf (fun hf => ?_) (fun hf => ?_)
          · refine z_sub (al' := [(0, zR 6 0), (1, zI p1), (2, zI p2), (3, zL v3_3), (5, zI v5_2)]) [0, 1, 2, 3, 4] rfl ?_
            exact hx v3_3 hf
          · refine z_iload (pc := 27) 5 (zdg D_X0_surelyKnown 14 (27, .iload 6, 2) rfl) rfl ?_
            refine z_bipush (pc := 29) (v := 10) (zdg D_X0_surelyKnown 15 (29, .bipush 10, 2) rfl) rfl ?_
            refine z_icmp_ge (pc := 31) 102 (zdg D_X0_surelyKnown 16 (31, .if_icmp .ge 71, 3) rfl) rfl hf (fun hf => ?_) (fun hf => ?_)
            · refine z_sub (al' := [(0, zR 6 0), (1, zI p1), (2, zI p2), (3, zL v3_3), (5, zI v5_2)]) [0, 1, 2, 3, 4] rfl ?_
              exact hx v3_3 hf
            · refine z_aload_n (pc := 34) 0 (zdg D_X0_surelyKnown 17 (34, .aload_n 0, 1) rfl) rfl rfl ?_
              refine z_iload_n (pc := 35) 1 (zdg D_X0_surelyKnown 18 (35, .iload_n 1, 1) rfl) rfl rfl ?_
              refine z_iload (pc := 36) 5 (zdg D_X0_surelyKnown 19 (36, .iload 6, 2) rfl) rfl ?_
              refine z_iload (pc := 38) 4 (zdg D_X0_surelyKnown 20 (38, .iload 5, 2) rfl) rfl ?_
              refine z_bind hn hf (fun q5 hq hf => ?_)
              refine z_callV (pc := 40) (rest := []) (st2 := [zI q5]) (fun l => c_X0_shows l p1 v6_4 v5_2 σ q5 hq) zv_X0_shows lm_X0_55 rfl rfl rfl rfl rfl rfl (Nat.le_of_ble_eq_true rfl) ⟨Nat.le_of_ble_eq_true rfl, Nat.le_of_ble_eq_true rfl⟩ (zdg D_X0_surelyKnown 21 (40, .invokevirtual 55, 3) rfl) ?_
              refine z_if_eq (pc := 43) 96 (zdg D_X0_surelyKnown 22 (43, .ifCond .eq 53, 3) rfl) rfl hf (fun hf => ?_) (fun hf => ?_)
              · refine z_iinc (pc := 96) (v0 := (v6_4 + 1)) (al' := [(6, zI (v6_4 + 1)), (0, zR 6 0), (1, zI p1), (2, zI p2), (3, zL v3_3), (5, zI v5_2)]) 5 (zdg D_X0_surelyKnown 51 (96, .iinc 6 1, 3) rfl) rfl rfl (by decide) rfl ?_
                refine z_goto (pc := 99) 15 (zdg D_X0_surelyKnown 52 (99, .goto (-84), 3) rfl) rfl ?_
                refine z_sub (al' := [(0, zR 6 0), (1, zI p1), (2, zI p2), (3, zL v3_3), (5, zI v5_2), (6, zI (v6_4 + 1))]) [1, 2, 3, 4, 5, 0] rfl ?_
                exact hi (v3_3, (v6_4 + 1)) hf
              · refine z_aload_n (pc := 46) 0 (zdg D_X0_surelyKnown 23 (46, .aload_n 0, 1) rfl) rfl rfl ?_
                refine z_iload_n (pc := 47) 1 (zdg D_X0_surelyKnown 24 (47, .iload_n 1, 1) rfl) rfl rfl ?_
                refine z_iload (pc := 48) 4 (zdg D_X0_surelyKnown 25 (48, .iload 5, 2) rfl) rfl ?_
                refine z_aload_n (pc := 50) 0 (zdg D_X0_surelyKnown 26 (50, .aload_n 0, 1) rfl) rfl rfl ?_
                refine z_getR (pc := 51) (g := 1) (j := 0) lf_X0_9 rfl rfl rfl (zdg D_X0_surelyKnown 27 (51, .getfield 9, 3) rfl) ?_
                refine z_getR (pc := 54) (g := 31) (j := 0) lf_X0_25 rfl rfl rfl (zdg D_X0_surelyKnown 28 (54, .getfield 25, 3) rfl) ?_
                refine z_iload (pc := 57) 5 (zdg D_X0_surelyKnown 29 (57, .iload 6, 2) rfl) rfl ?_
                refine z_aald (pc := 59) (g := 11) (t := fun j => j) rfl (fun _ => rfl) (fun j h => by show (if j < 10 then some (11, 10 * 0 + j) else none) = _; rw [if_pos h]; simp) (zdg D_X0_surelyKnown 30 (59, .aaload, 1) rfl) hn hf (fun hf => ?_)
                refine z_getR (pc := 60) (g := 29) (j := v6_4.toNatClampNeg) lf_X0_70 rfl rfl rfl (zdg D_X0_surelyKnown 31 (60, .getfield 70, 3) rfl) ?_
                refine z_iload (pc := 63) 4 (zdg D_X0_surelyKnown 32 (63, .iload 5, 2) rfl) rfl ?_
                refine z_bald (pc := 65) rfl (fun _ => rfl) (zdg D_X0_surelyKnown 33 (65, .baload, 1) rfl) hn hf (fun hf => ?_)
                refine z_aload_n (pc := 66) 0 (zdg D_X0_surelyKnown 34 (66, .aload_n 0, 1) rfl) rfl rfl ?_
                refine z_getR (pc := 67) (g := 1) (j := 0) lf_X0_9 rfl rfl rfl (zdg D_X0_surelyKnown 35 (67, .getfield 9, 3) rfl) ?_
                refine z_getR (pc := 70) (g := 31) (j := 0) lf_X0_25 rfl rfl rfl (zdg D_X0_surelyKnown 36 (70, .getfield 25, 3) rfl) ?_
                refine z_iload (pc := 73) 5 (zdg D_X0_surelyKnown 37 (73, .iload 6, 2) rfl) rfl ?_
                refine z_aald (pc := 75) (g := 11) (t := fun j => j) rfl (fun _ => rfl) (fun j h => by show (if j < 10 then some (11, 10 * 0 + j) else none) = _; rw [if_pos h]; simp) (zdg D_X0_surelyKnown 38 (75, .aaload, 1) rfl) hn hf (fun hf => ?_)
                refine z_getR (pc := 76) (g := 29) (j := v6_4.toNatClampNeg) lf_X0_70 rfl rfl rfl (zdg D_X0_surelyKnown 39 (76, .getfield 70, 3) rfl) ?_
                refine z_iload (pc := 79) 4 (zdg D_X0_surelyKnown 40 (79, .iload 5, 2) rfl) rfl ?_
                refine z_bald (pc := 81) rfl (fun _ => rfl) (zdg D_X0_surelyKnown 41 (81, .baload, 1) rfl) hn hf (fun hf => ?_)
                refine z_bind hn hf (fun q6 hq hf => ?_)
                refine z_callV (pc := 82) (rest := []) (st2 := [zI q6]) (fun l => c_X0_countTones l p1 v5_2 (σ.1 29 v6_4.toNatClampNeg v5_2.toNatClampNeg) (σ.1 29 v6_4.toNatClampNeg v5_2.toNatClampNeg) σ q6 hq) zv_X0_countTones lm_X0_74 rfl rfl rfl rfl rfl rfl (Nat.le_of_ble_eq_true rfl) ⟨Nat.le_of_ble_eq_true rfl, Nat.le_of_ble_eq_true rfl⟩ (zdg D_X0_surelyKnown 42 (82, .invokevirtual 74, 3) rfl) ?_
                refine z_iload_n (pc := 85) 2 (zdg D_X0_surelyKnown 43 (85, .iload_n 2, 1) rfl) rfl rfl ?_
                refine z_icmp_lt (pc := 86) 96 (zdg D_X0_surelyKnown 44 (86, .if_icmp .lt 10, 3) rfl) rfl hf (fun hf => ?_) (fun hf => ?_)
                · refine z_iinc (pc := 96) (v0 := (v6_4 + 1)) (al' := [(6, zI (v6_4 + 1)), (0, zR 6 0), (1, zI p1), (2, zI p2), (3, zL v3_3), (5, zI v5_2)]) 5 (zdg D_X0_surelyKnown 51 (96, .iinc 6 1, 3) rfl) rfl rfl (by decide) rfl ?_
                  refine z_goto (pc := 99) 15 (zdg D_X0_surelyKnown 52 (99, .goto (-84), 3) rfl) rfl ?_
                  refine z_sub (al' := [(0, zR 6 0), (1, zI p1), (2, zI p2), (3, zL v3_3), (5, zI v5_2), (6, zI (v6_4 + 1))]) [1, 2, 3, 4, 5, 0] rfl ?_
                  exact hi (v3_3, (v6_4 + 1)) hf
                · refine z_lload_n (pc := 89) 3 (zdg D_X0_surelyKnown 45 (89, .lload_n 3, 1) rfl) rfl rfl ?_
                  refine z_lconst (pc := 90) (v := 1) (zdg D_X0_surelyKnown 46 (90, .lconst 1, 1) rfl) rfl ?_
                  refine z_iload (pc := 91) 4 (zdg D_X0_surelyKnown 47 (91, .iload 5, 2) rfl) rfl ?_
                  refine z_lshl (pc := 93) (zdg D_X0_surelyKnown 48 (93, .lshl, 1) rfl) ?_
                  refine z_lor (pc := 94) (zdg D_X0_surelyKnown 49 (94, .lor, 1) rfl) ?_
                  refine z_lstore_n (pc := 95) (al' := [(3, zL (v3_3 ||| (zlshl (1 : Int64) v5_2))), (0, zR 6 0), (1, zI p1), (2, zI p2), (5, zI v5_2), (6, zI v6_4)]) (zdg D_X0_surelyKnown 50 (95, .lstore_n 3, 1) rfl) rfl (by decide) rfl ?_
                  refine z_iinc (pc := 96) (v0 := (v6_4 + 1)) (al' := [(6, zI (v6_4 + 1)), (3, zL (v3_3 ||| (zlshl (1 : Int64) v5_2))), (0, zR 6 0), (1, zI p1), (2, zI p2), (5, zI v5_2)]) 5 (zdg D_X0_surelyKnown 51 (96, .iinc 6 1, 3) rfl) rfl rfl (by decide) rfl ?_
                  refine z_goto (pc := 99) 15 (zdg D_X0_surelyKnown 52 (99, .goto (-84), 3) rfl) rfl ?_
                  refine z_sub (al' := [(0, zR 6 0), (1, zI p1), (2, zI p2), (3, zL (v3_3 ||| (zlshl (1 : Int64) v5_2))), (5, zI v5_2), (6, zI (v6_4 + 1))]) [2, 3, 4, 1, 5, 0] rfl ?_
                  exact hi ((v3_3 ||| (zlshl (1 : Int64) v5_2)), (v6_4 + 1)) hf

def L_X1_isSpot : List (Nat × Instr × Nat) := [(0, .iload_n 1, 1), (1, .ifCond .lt 35, 3), (4, .iload_n 1, 1), (5, .bipush 56, 2), (7, .if_icmp .ge 29, 3), (10, .iload_n 1, 1), (11, .bipush 8, 2), (13, .irem, 1), (14, .aload_n 0, 1), (15, .getfield 57, 3), (18, .if_icmp .ge 18, 3), (21, .iload_n 1, 1), (22, .bipush 8, 2), (24, .idiv, 1), (25, .aload_n 0, 1), (26, .getfield 61, 3), (29, .if_icmp .ge 7, 3), (32, .iconst 1, 1), (33, .goto 4, 3), (36, .iconst 0, 1), (37, .ireturn, 1)]
set_option maxRecDepth 100000 in
theorem D_X1_isSpot : zdecs cX1_isSpot L_X1_isSpot = true := by decide +kernel
noncomputable def f_X1_isSpot (i : Nat) (p1 : Int32) (σ : zG) : Int32 :=
  if 0 ≤ p1 then if p1 < (56 : Int32) then if (zrem p1 (8 : Int32)) < (σ.1 1 i 0) then if (p1 / (8 : Int32)) < (σ.1 1 i 1) then (1 : Int32) else (0 : Int32) else (0 : Int32) else (0 : Int32) else (0 : Int32)
set_option maxRecDepth 100000 in
set_option maxHeartbeats 4000000 in
theorem c_X1_isSpot (l : Launch) (i : Nat) (p1 : Int32) (σ : zG) : zMet l zsyC m_X1_isSpot yX1_isSpot [zR 1 i, zI p1] σ (some (zI (f_X1_isSpot i p1 σ))) σ := by
  refine zEnter [(0, zR 1 i), (1, zI p1)] (by decide) rfl (fun _ => Nat.le_of_ble_eq_true rfl) (fun _ => rfl) (fun w h => ?_) (fun K hv hs => ?_)
  · exact zokm rfl h
  · have hP : ∀ x, f_X1_isSpot i p1 σ = x → zKv K = some (zI x) ∧ zKs K = σ := fun x h => by rw [h] at hv; exact ⟨hv, hs⟩
    have hf := f_X1_isSpot.eq_1 i p1 σ
    refine z_iload_n (pc := 0) 1 (zdg D_X1_isSpot 0 (0, .iload_n 1, 1) rfl) rfl rfl ?_
    refine z_if_lt (pc := 1) 36 (zdg D_X1_isSpot 1 (1, .ifCond .lt 35, 3) rfl) rfl hf (fun hf => ?_) (fun hf => ?_)
    · refine z_iconst (pc := 36) (v := 0) (zdg D_X1_isSpot 19 (36, .iconst 0, 1) rfl) rfl ?_
      exact z_iret (pc := 37) rfl rfl (zdg D_X1_isSpot 20 (37, .ireturn, 1) rfl) (hP _ hf)
    · refine z_iload_n (pc := 4) 1 (zdg D_X1_isSpot 2 (4, .iload_n 1, 1) rfl) rfl rfl ?_
      refine z_bipush (pc := 5) (v := 56) (zdg D_X1_isSpot 3 (5, .bipush 56, 2) rfl) rfl ?_
      refine z_icmp_ge (pc := 7) 36 (zdg D_X1_isSpot 4 (7, .if_icmp .ge 29, 3) rfl) rfl hf (fun hf => ?_) (fun hf => ?_)
      · refine z_iconst (pc := 36) (v := 0) (zdg D_X1_isSpot 19 (36, .iconst 0, 1) rfl) rfl ?_
        exact z_iret (pc := 37) rfl rfl (zdg D_X1_isSpot 20 (37, .ireturn, 1) rfl) (hP _ hf)
      · refine z_iload_n (pc := 10) 1 (zdg D_X1_isSpot 5 (10, .iload_n 1, 1) rfl) rfl rfl ?_
        refine z_bipush (pc := 11) (v := 8) (zdg D_X1_isSpot 6 (11, .bipush 8, 2) rfl) rfl ?_
        refine z_iremK (pc := 13) (zdg D_X1_isSpot 7 (13, .irem, 1) rfl) rfl ?_
        refine z_aload_n (pc := 14) 0 (zdg D_X1_isSpot 8 (14, .aload_n 0, 1) rfl) rfl rfl ?_
        refine z_getI (pc := 15) lf_X1_57 rfl rfl (zdg D_X1_isSpot 9 (15, .getfield 57, 3) rfl) ?_
        refine z_icmp_ge (pc := 18) 36 (zdg D_X1_isSpot 10 (18, .if_icmp .ge 18, 3) rfl) rfl hf (fun hf => ?_) (fun hf => ?_)
        · refine z_iconst (pc := 36) (v := 0) (zdg D_X1_isSpot 19 (36, .iconst 0, 1) rfl) rfl ?_
          exact z_iret (pc := 37) rfl rfl (zdg D_X1_isSpot 20 (37, .ireturn, 1) rfl) (hP _ hf)
        · refine z_iload_n (pc := 21) 1 (zdg D_X1_isSpot 11 (21, .iload_n 1, 1) rfl) rfl rfl ?_
          refine z_bipush (pc := 22) (v := 8) (zdg D_X1_isSpot 12 (22, .bipush 8, 2) rfl) rfl ?_
          refine z_idivK (pc := 24) (zdg D_X1_isSpot 13 (24, .idiv, 1) rfl) rfl ?_
          refine z_aload_n (pc := 25) 0 (zdg D_X1_isSpot 14 (25, .aload_n 0, 1) rfl) rfl rfl ?_
          refine z_getI (pc := 26) lf_X1_61 rfl rfl (zdg D_X1_isSpot 15 (26, .getfield 61, 3) rfl) ?_
          refine z_icmp_ge (pc := 29) 36 (zdg D_X1_isSpot 16 (29, .if_icmp .ge 7, 3) rfl) rfl hf (fun hf => ?_) (fun hf => ?_)
          · refine z_iconst (pc := 36) (v := 0) (zdg D_X1_isSpot 19 (36, .iconst 0, 1) rfl) rfl ?_
            exact z_iret (pc := 37) rfl rfl (zdg D_X1_isSpot 20 (37, .ireturn, 1) rfl) (hP _ hf)
          · refine z_iconst (pc := 32) (v := 1) (zdg D_X1_isSpot 17 (32, .iconst 1, 1) rfl) rfl ?_
            refine z_goto (pc := 33) 37 (zdg D_X1_isSpot 18 (33, .goto 4, 3) rfl) rfl ?_
            exact z_iret (pc := 37) rfl rfl (zdg D_X1_isSpot 20 (37, .ireturn, 1) rfl) (hP _ hf)

def L_X1_shotOf : List (Nat × Instr × Nat) := [(0, .iload_n 1, 1), (1, .ifCond .lt 26, 3), (4, .iload_n 1, 1), (5, .aload_n 0, 1), (6, .getfield 82, 3), (9, .if_icmp .ge 18, 3), (12, .iload_n 1, 1), (13, .bipush 10, 2), (15, .if_icmp .ge 12, 3), (18, .aload_n 0, 1), (19, .getfield 44, 3), (22, .iload_n 1, 1), (23, .aaload, 1), (24, .goto 4, 3), (27, .aconst_null, 1), (28, .areturn, 1)]
set_option maxRecDepth 100000 in
theorem D_X1_shotOf : zdecs cX1_shotOf L_X1_shotOf = true := by decide +kernel
noncomputable def f_X1_shotOf (i : Nat) (p1 : Int32) (σ : zG) : Option (Option Nat) :=
  if 0 ≤ p1 then if p1 < (σ.1 1 i 9) then if p1 < (10 : Int32) then zg (zin p1 10) (some (some (10 * i + p1.toNatClampNeg))) else some none else some none else some none
set_option maxRecDepth 100000 in
set_option maxHeartbeats 4000000 in
theorem c_X1_shotOf (l : Launch) (i : Nat) (p1 : Int32) (σ : zG) (q : Option Nat) (hq : f_X1_shotOf i p1 σ = some q) : zMet l zsyC m_X1_shotOf yX1_shotOf [zR 1 i, zI p1] σ (some (zQ 11 q)) σ := by
  refine zEnter [(0, zR 1 i), (1, zI p1)] (by decide) rfl (fun _ => Nat.le_of_ble_eq_true rfl) (fun _ => rfl) (fun w h => ?_) (fun K hv hs => ?_)
  · exact zokm rfl h
  · have hP : ∀ x, f_X1_shotOf i p1 σ = some x → zKv K = some (zQ 11 x) ∧ zKs K = σ := fun x h => by rw [hq] at h; cases h; exact ⟨hv, hs⟩
    have hn : f_X1_shotOf i p1 σ ≠ none := fun z => by rw [hq] at z; cases z
    have hf := f_X1_shotOf.eq_1 i p1 σ
    refine z_iload_n (pc := 0) 1 (zdg D_X1_shotOf 0 (0, .iload_n 1, 1) rfl) rfl rfl ?_
    refine z_if_lt (pc := 1) 27 (zdg D_X1_shotOf 1 (1, .ifCond .lt 26, 3) rfl) rfl hf (fun hf => ?_) (fun hf => ?_)
    · refine z_null (pc := 27) 11 (zdg D_X1_shotOf 14 (27, .aconst_null, 1) rfl) ?_
      exact z_aret (pc := 28) rfl (zdg D_X1_shotOf 15 (28, .areturn, 1) rfl) (hP _ hf)
    · refine z_iload_n (pc := 4) 1 (zdg D_X1_shotOf 2 (4, .iload_n 1, 1) rfl) rfl rfl ?_
      refine z_aload_n (pc := 5) 0 (zdg D_X1_shotOf 3 (5, .aload_n 0, 1) rfl) rfl rfl ?_
      refine z_getI (pc := 6) lf_X1_82 rfl rfl (zdg D_X1_shotOf 4 (6, .getfield 82, 3) rfl) ?_
      refine z_icmp_ge (pc := 9) 27 (zdg D_X1_shotOf 5 (9, .if_icmp .ge 18, 3) rfl) rfl hf (fun hf => ?_) (fun hf => ?_)
      · refine z_null (pc := 27) 11 (zdg D_X1_shotOf 14 (27, .aconst_null, 1) rfl) ?_
        exact z_aret (pc := 28) rfl (zdg D_X1_shotOf 15 (28, .areturn, 1) rfl) (hP _ hf)
      · refine z_iload_n (pc := 12) 1 (zdg D_X1_shotOf 6 (12, .iload_n 1, 1) rfl) rfl rfl ?_
        refine z_bipush (pc := 13) (v := 10) (zdg D_X1_shotOf 7 (13, .bipush 10, 2) rfl) rfl ?_
        refine z_icmp_ge (pc := 15) 27 (zdg D_X1_shotOf 8 (15, .if_icmp .ge 12, 3) rfl) rfl hf (fun hf => ?_) (fun hf => ?_)
        · refine z_null (pc := 27) 11 (zdg D_X1_shotOf 14 (27, .aconst_null, 1) rfl) ?_
          exact z_aret (pc := 28) rfl (zdg D_X1_shotOf 15 (28, .areturn, 1) rfl) (hP _ hf)
        · refine z_aload_n (pc := 18) 0 (zdg D_X1_shotOf 9 (18, .aload_n 0, 1) rfl) rfl rfl ?_
          refine z_getR (pc := 19) (g := 31) (j := i) lf_X1_44 rfl rfl rfl (zdg D_X1_shotOf 10 (19, .getfield 44, 3) rfl) ?_
          refine z_iload_n (pc := 22) 1 (zdg D_X1_shotOf 11 (22, .iload_n 1, 1) rfl) rfl rfl ?_
          refine z_aald (pc := 23) (g := 11) (t := fun j => 10 * i + j) rfl (fun _ => rfl) (fun j h => by show (if j < 10 then some (11, 10 * i + j) else none) = _; rw [if_pos h]) (zdg D_X1_shotOf 12 (23, .aaload, 1) rfl) hn hf (fun hf => ?_)
          refine z_goto (pc := 24) 28 (zdg D_X1_shotOf 13 (24, .goto 4, 3) rfl) rfl ?_
          exact z_aret (pc := 28) rfl (zdg D_X1_shotOf 15 (28, .areturn, 1) rfl) (hP _ hf)

def L_X0_sourceOf : List (Nat × Instr × Nat) := [(0, .aload_n 0, 1), (1, .getfield 9, 3), (4, .iload_n 1, 1), (5, .invokevirtual 78, 3), (8, .ifCond .ne 5, 3), (11, .aconst_null, 1), (12, .areturn, 1), (13, .aload_n 0, 1), (14, .getfield 9, 3), (17, .aload_n 0, 1), (18, .getfield 9, 3), (21, .getfield 82, 3), (24, .iload_n 1, 1), (25, .iaload, 1), (26, .invokevirtual 86, 3), (29, .astore_n 2, 1), (30, .aload_n 2, 1), (31, .ifnull 18, 3), (34, .aload_n 2, 1), (35, .getfield 67, 3), (38, .iload_n 1, 1), (39, .invokestatic 63, 3), (42, .ifCond .eq 7, 3), (45, .aload_n 2, 1), (46, .goto 4, 3), (49, .aconst_null, 1), (50, .areturn, 1)]
set_option maxRecDepth 100000 in
theorem D_X0_sourceOf : zdecs cX0_sourceOf L_X0_sourceOf = true := by decide +kernel
noncomputable def f_X0_sourceOf (p1 : Int32) (σ : zG) : Option (Option Nat) :=
  if (f_X1_isSpot 0 p1 σ) = 0 then some none else zg (zin p1 56) ((f_X1_shotOf 0 (σ.1 32 0 p1.toNatClampNeg) σ).bind (fun q1 => zoc q1 (some none) (fun k2 => if (f_X11_holds (σ.2 11 k2 3) p1) = 0 then some none else some (some k2))))
set_option maxRecDepth 100000 in
set_option maxHeartbeats 4000000 in
theorem c_X0_sourceOf (l : Launch) (p1 : Int32) (σ : zG) (q : Option Nat) (hq : f_X0_sourceOf p1 σ = some q) : zMet l zsyC m_X0_sourceOf yX0_sourceOf [zR 6 0, zI p1] σ (some (zQ 11 q)) σ := by
  refine zEnter [(0, zR 6 0), (1, zI p1)] (by decide) rfl (fun _ => Nat.le_of_ble_eq_true rfl) (fun _ => rfl) (fun w h => ?_) (fun K hv hs => ?_)
  · exact zokm rfl h
  · have hP : ∀ x, f_X0_sourceOf p1 σ = some x → zKv K = some (zQ 11 x) ∧ zKs K = σ := fun x h => by rw [hq] at h; cases h; exact ⟨hv, hs⟩
    have hn : f_X0_sourceOf p1 σ ≠ none := fun z => by rw [hq] at z; cases z
    have hf := f_X0_sourceOf.eq_1 p1 σ
    refine z_aload_n (pc := 0) 0 (zdg D_X0_sourceOf 0 (0, .aload_n 0, 1) rfl) rfl rfl ?_
    refine z_getR (pc := 1) (g := 1) (j := 0) lf_X0_9 rfl rfl rfl (zdg D_X0_sourceOf 1 (1, .getfield 9, 3) rfl) ?_
    refine z_iload_n (pc := 4) 1 (zdg D_X0_sourceOf 2 (4, .iload_n 1, 1) rfl) rfl rfl ?_
    refine z_callV (pc := 5) (rest := []) (st2 := [zI (f_X1_isSpot 0 p1 σ)]) (fun l => c_X1_isSpot l 0 p1 σ) zv_X1_isSpot lm_X0_78 rfl rfl rfl rfl rfl rfl (Nat.le_of_ble_eq_true rfl) ⟨Nat.le_of_ble_eq_true rfl, Nat.le_of_ble_eq_true rfl⟩ (zdg D_X0_sourceOf 3 (5, .invokevirtual 78, 3) rfl) ?_
    refine z_if_ne (pc := 8) 13 (zdg D_X0_sourceOf 4 (8, .ifCond .ne 5, 3) rfl) rfl hf (fun hf => ?_) (fun hf => ?_)
    · refine z_aload_n (pc := 13) 0 (zdg D_X0_sourceOf 7 (13, .aload_n 0, 1) rfl) rfl rfl ?_
      refine z_getR (pc := 14) (g := 1) (j := 0) lf_X0_9 rfl rfl rfl (zdg D_X0_sourceOf 8 (14, .getfield 9, 3) rfl) ?_
      refine z_aload_n (pc := 17) 0 (zdg D_X0_sourceOf 9 (17, .aload_n 0, 1) rfl) rfl rfl ?_
      refine z_getR (pc := 18) (g := 1) (j := 0) lf_X0_9 rfl rfl rfl (zdg D_X0_sourceOf 10 (18, .getfield 9, 3) rfl) ?_
      refine z_getR (pc := 21) (g := 32) (j := 0) lf_X0_82 rfl rfl rfl (zdg D_X0_sourceOf 11 (21, .getfield 82, 3) rfl) ?_
      refine z_iload_n (pc := 24) 1 (zdg D_X0_sourceOf 12 (24, .iload_n 1, 1) rfl) rfl rfl ?_
      refine z_iald (pc := 25) rfl (fun _ => rfl) (zdg D_X0_sourceOf 13 (25, .iaload, 1) rfl) hn hf (fun hf => ?_)
      refine z_bind hn hf (fun q1 hq hf => ?_)
      refine z_callV (pc := 26) (rest := []) (st2 := [zQ 11 q1]) (fun l => c_X1_shotOf l 0 (σ.1 32 0 p1.toNatClampNeg) σ q1 hq) zv_X1_shotOf lm_X0_86 rfl rfl rfl rfl rfl rfl (Nat.le_of_ble_eq_true rfl) ⟨Nat.le_of_ble_eq_true rfl, Nat.le_of_ble_eq_true rfl⟩ (zdg D_X0_sourceOf 14 (26, .invokevirtual 86, 3) rfl) ?_
      refine z_astore_n (pc := 29) (al' := [(2, zQ 11 q1), (0, zR 6 0), (1, zI p1)]) (zdg D_X0_sourceOf 15 (29, .astore_n 2, 1) rfl) rfl (by decide) rfl ?_
      refine z_aload_n (pc := 30) 0 (zdg D_X0_sourceOf 16 (30, .aload_n 2, 1) rfl) rfl rfl ?_
      refine z_ifnull (pc := 31) (al := fun o => [(2, zQ 11 o), (0, zR 6 0), (1, zI p1)]) (as := fun o => []) 49 q1 (zdg D_X0_sourceOf 17 (31, .ifnull 18, 3) rfl) rfl hf (fun hf => ?_) (fun k2 hf => ?_)
      · refine z_null (pc := 49) 11 (zdg D_X0_sourceOf 25 (49, .aconst_null, 1) rfl) ?_
        exact z_aret (pc := 50) rfl (zdg D_X0_sourceOf 26 (50, .areturn, 1) rfl) (hP _ hf)
      · refine z_aload_n (pc := 34) 0 (zdg D_X0_sourceOf 18 (34, .aload_n 2, 1) rfl) rfl rfl ?_
        refine z_getL (pc := 35) lf_X0_67 rfl rfl (zdg D_X0_sourceOf 19 (35, .getfield 67, 3) rfl) ?_
        refine z_iload_n (pc := 38) 2 (zdg D_X0_sourceOf 20 (38, .iload_n 1, 1) rfl) rfl rfl ?_
        refine z_callSN (pc := 39) (rest := []) (st2 := [zI (f_X11_holds (σ.2 11 k2 3) p1)]) (host := "NobodyThere") (fun l => c_X11_holds l (σ.2 11 k2 3) p1 σ) zs_X11_holds (by decide +kernel) rfl rfl rfl (Nat.le_of_ble_eq_true rfl) ⟨Nat.le_of_ble_eq_true rfl, Nat.le_of_ble_eq_true rfl⟩ (zdg D_X0_sourceOf 21 (39, .invokestatic 63, 3) rfl) ?_
        refine z_if_eq (pc := 42) 49 (zdg D_X0_sourceOf 22 (42, .ifCond .eq 7, 3) rfl) rfl hf (fun hf => ?_) (fun hf => ?_)
        · refine z_null (pc := 49) 11 (zdg D_X0_sourceOf 25 (49, .aconst_null, 1) rfl) ?_
          exact z_aret (pc := 50) rfl (zdg D_X0_sourceOf 26 (50, .areturn, 1) rfl) (hP _ hf)
        · refine z_aload_n (pc := 45) 0 (zdg D_X0_sourceOf 23 (45, .aload_n 2, 1) rfl) rfl rfl ?_
          refine z_goto (pc := 46) 50 (zdg D_X0_sourceOf 24 (46, .goto 4, 3) rfl) rfl ?_
          exact z_aret (pc := 50) rfl (zdg D_X0_sourceOf 26 (50, .areturn, 1) rfl) (hP _ hf)
    · refine z_null (pc := 11) 11 (zdg D_X0_sourceOf 5 (11, .aconst_null, 1) rfl) ?_
      exact z_aret (pc := 12) rfl (zdg D_X0_sourceOf 6 (12, .areturn, 1) rfl) (hP _ hf)

def L_X0_feet : List (Nat × Instr × Nat) := [(0, .iconst 0, 1), (1, .istore_n 1, 1), (2, .iconst 0, 1), (3, .istore_n 2, 1), (4, .iload_n 2, 1), (5, .bipush 56, 2), (7, .if_icmp .ge 50, 3), (10, .aload_n 0, 1), (11, .iload_n 2, 1), (12, .invokevirtual 90, 3), (15, .astore_n 3, 1), (16, .aload_n 3, 1), (17, .ifnull 34, 3), (20, .aload_n 3, 1), (21, .getfield 93, 3), (24, .iload_n 2, 1), (25, .baload, 1), (26, .ifCond .lt 25, 3), (29, .aload_n 3, 1), (30, .getfield 93, 3), (33, .iload_n 2, 1), (34, .baload, 1), (35, .bipush 12, 2), (37, .if_icmp .ge 14, 3), (40, .iload_n 1, 1), (41, .iconst 1, 1), (42, .aload_n 3, 1), (43, .getfield 93, 3), (46, .iload_n 2, 1), (47, .baload, 1), (48, .ishl, 1), (49, .ior, 1), (50, .istore_n 1, 1), (51, .iinc 2 1, 3), (54, .goto (-50), 3), (57, .iload_n 1, 1), (58, .ireturn, 1)]
set_option maxRecDepth 100000 in
theorem D_X0_feet : zdecs cX0_feet L_X0_feet = true := by decide +kernel
noncomputable def b_X0_feet_4 (σ : zG) (v1_1 : Int32) (v2_2 : Int32) : Option ((Int32 × Int32) ⊕ (Int32)) :=
  if v2_2 < (56 : Int32) then (f_X0_sourceOf v2_2 σ).bind (fun q3 => zoc q3 (some (Sum.inl (v1_1, (v2_2 + 1)))) (fun k4 => zg (zin v2_2 56) (if 0 ≤ (σ.1 30 k4 v2_2.toNatClampNeg) then zg (zin v2_2 56) (if (σ.1 30 k4 v2_2.toNatClampNeg) < (12 : Int32) then zg (zin v2_2 56) (some (Sum.inl ((v1_1 ||| (zshl (1 : Int32) (σ.1 30 k4 v2_2.toNatClampNeg))), (v2_2 + 1)))) else some (Sum.inl (v1_1, (v2_2 + 1)))) else some (Sum.inl (v1_1, (v2_2 + 1)))))) else some (Sum.inr v1_1)
noncomputable def f_X0_feet (σ : zG) : Option (Int32) :=
  (zlp (fun q : Int32 × Int32 => b_X0_feet_4 σ q.1 q.2) ((0 : Int32), (0 : Int32))).bind (fun e5 : Int32 => some e5)
set_option maxRecDepth 100000 in
set_option maxHeartbeats 4000000 in
theorem c_X0_feet (l : Launch)  (σ : zG) (q : Int32) (hq : f_X0_feet σ = some q) : zMet l zsyC m_X0_feet yX0_feet [zR 6 0] σ (some (zI q)) σ := by
  refine zEnter [(0, zR 6 0)] (by decide) rfl (fun _ => Nat.le_of_ble_eq_true rfl) (fun _ => rfl) (fun w h => ?_) (fun K hv hs => ?_)
  · exact zokm rfl h
  · have hP : ∀ x, f_X0_feet σ = some x → zKv K = some (zI x) ∧ zKs K = σ := fun x h => by rw [hq] at h; cases h; exact ⟨hv, hs⟩
    have hn : f_X0_feet σ ≠ none := fun z => by rw [hq] at z; cases z
    have hf := f_X0_feet.eq_1 σ
    refine z_iconst (pc := 0) (v := 0) (zdg D_X0_feet 0 (0, .iconst 0, 1) rfl) rfl ?_
    refine z_istore_n (pc := 1) (al' := [(1, zI (0 : Int32)), (0, zR 6 0)]) (zdg D_X0_feet 1 (1, .istore_n 1, 1) rfl) rfl (by decide) rfl ?_
    refine z_iconst (pc := 2) (v := 0) (zdg D_X0_feet 2 (2, .iconst 0, 1) rfl) rfl ?_
    refine z_istore_n (pc := 3) (al' := [(2, zI (0 : Int32)), (1, zI (0 : Int32)), (0, zR 6 0)]) (zdg D_X0_feet 3 (3, .istore_n 2, 1) rfl) rfl (by decide) rfl ?_
    refine z_sub (al' := [(0, zR 6 0), (1, zI (0 : Int32)), (2, zI (0 : Int32))]) [2, 1, 0] rfl ?_
    refine z_loop (f := (fun q : Int32 × Int32 => b_X0_feet_4 σ q.1 q.2)) (a := ((0 : Int32), (0 : Int32))) (fun q : Int32 × Int32 => zX zsyC m_X0_feet K 4 [(0, zR 6 0), (1, zI q.1), (2, zI q.2)] [] σ) (fun e5 : Int32 => zX zsyC m_X0_feet K 57 [(1, zI e5)] [] σ) hn hf ?_ ?_
    · intro e5 hf
      refine z_iload_n (pc := 57) 0 (zdg D_X0_feet 35 (57, .iload_n 1, 1) rfl) rfl rfl ?_
      exact z_iret (pc := 58) rfl rfl (zdg D_X0_feet 36 (58, .ireturn, 1) rfl) (hP _ hf)
    · rintro ⟨v1_1, v2_2⟩ hn hi hx
      have hf := b_X0_feet_4.eq_1 σ v1_1 v2_2
      refine z_iload_n (pc := 4) 2 (zdg D_X0_feet 4 (4, .iload_n 2, 1) rfl) rfl rfl ?_
      refine z_bipush (pc := 5) (v := 56) (zdg D_X0_feet 5 (5, .bipush 56, 2) rfl) rfl ?_
      refine z_icmp_ge (pc := 7) 57 (zdg D_X0_feet 6 (7, .if_icmp .ge 50, 3) rfl) rfl hf (fun hf => ?_) (fun hf => ?_)
      · refine z_sub (al' := [(1, zI v1_1)]) [1] rfl ?_
        exact hx v1_1 hf
      · refine z_aload_n (pc := 10) 0 (zdg D_X0_feet 7 (10, .aload_n 0, 1) rfl) rfl rfl ?_
        refine z_iload_n (pc := 11) 2 (zdg D_X0_feet 8 (11, .iload_n 2, 1) rfl) rfl rfl ?_
        refine z_bind hn hf (fun q3 hq hf => ?_)
        refine z_callV (pc := 12) (rest := []) (st2 := [zQ 11 q3]) (fun l => c_X0_sourceOf l v2_2 σ q3 hq) zv_X0_sourceOf lm_X0_90 rfl rfl rfl rfl rfl rfl (Nat.le_of_ble_eq_true rfl) ⟨Nat.le_of_ble_eq_true rfl, Nat.le_of_ble_eq_true rfl⟩ (zdg D_X0_feet 9 (12, .invokevirtual 90, 3) rfl) ?_
        refine z_astore_n (pc := 15) (al' := [(3, zQ 11 q3), (0, zR 6 0), (1, zI v1_1), (2, zI v2_2)]) (zdg D_X0_feet 10 (15, .astore_n 3, 1) rfl) rfl (by decide) rfl ?_
        refine z_aload_n (pc := 16) 0 (zdg D_X0_feet 11 (16, .aload_n 3, 1) rfl) rfl rfl ?_
        refine z_ifnull (pc := 17) (al := fun o => [(3, zQ 11 o), (0, zR 6 0), (1, zI v1_1), (2, zI v2_2)]) (as := fun o => []) 51 q3 (zdg D_X0_feet 12 (17, .ifnull 34, 3) rfl) rfl hf (fun hf => ?_) (fun k4 hf => ?_)
        · refine z_iinc (pc := 51) (v0 := (v2_2 + 1)) (al' := [(2, zI (v2_2 + 1)), (3, zQ 11 none), (0, zR 6 0), (1, zI v1_1)]) 3 (zdg D_X0_feet 33 (51, .iinc 2 1, 3) rfl) rfl rfl (by decide) rfl ?_
          refine z_goto (pc := 54) 4 (zdg D_X0_feet 34 (54, .goto (-50), 3) rfl) rfl ?_
          refine z_sub (al' := [(0, zR 6 0), (1, zI v1_1), (2, zI (v2_2 + 1))]) [2, 3, 0] rfl ?_
          exact hi (v1_1, (v2_2 + 1)) hf
        · refine z_aload_n (pc := 20) 0 (zdg D_X0_feet 13 (20, .aload_n 3, 1) rfl) rfl rfl ?_
          refine z_getR (pc := 21) (g := 30) (j := k4) lf_X0_93 rfl rfl rfl (zdg D_X0_feet 14 (21, .getfield 93, 3) rfl) ?_
          refine z_iload_n (pc := 24) 3 (zdg D_X0_feet 15 (24, .iload_n 2, 1) rfl) rfl rfl ?_
          refine z_bald (pc := 25) rfl (fun _ => rfl) (zdg D_X0_feet 16 (25, .baload, 1) rfl) hn hf (fun hf => ?_)
          refine z_if_lt (pc := 26) 51 (zdg D_X0_feet 17 (26, .ifCond .lt 25, 3) rfl) rfl hf (fun hf => ?_) (fun hf => ?_)
          · refine z_iinc (pc := 51) (v0 := (v2_2 + 1)) (al' := [(2, zI (v2_2 + 1)), (3, zR 11 k4), (0, zR 6 0), (1, zI v1_1)]) 3 (zdg D_X0_feet 33 (51, .iinc 2 1, 3) rfl) rfl rfl (by decide) rfl ?_
            refine z_goto (pc := 54) 4 (zdg D_X0_feet 34 (54, .goto (-50), 3) rfl) rfl ?_
            refine z_sub (al' := [(0, zR 6 0), (1, zI v1_1), (2, zI (v2_2 + 1))]) [2, 3, 0] rfl ?_
            exact hi (v1_1, (v2_2 + 1)) hf
          · refine z_aload_n (pc := 29) 0 (zdg D_X0_feet 18 (29, .aload_n 3, 1) rfl) rfl rfl ?_
            refine z_getR (pc := 30) (g := 30) (j := k4) lf_X0_93 rfl rfl rfl (zdg D_X0_feet 19 (30, .getfield 93, 3) rfl) ?_
            refine z_iload_n (pc := 33) 3 (zdg D_X0_feet 20 (33, .iload_n 2, 1) rfl) rfl rfl ?_
            refine z_bald (pc := 34) rfl (fun _ => rfl) (zdg D_X0_feet 21 (34, .baload, 1) rfl) hn hf (fun hf => ?_)
            refine z_bipush (pc := 35) (v := 12) (zdg D_X0_feet 22 (35, .bipush 12, 2) rfl) rfl ?_
            refine z_icmp_ge (pc := 37) 51 (zdg D_X0_feet 23 (37, .if_icmp .ge 14, 3) rfl) rfl hf (fun hf => ?_) (fun hf => ?_)
            · refine z_iinc (pc := 51) (v0 := (v2_2 + 1)) (al' := [(2, zI (v2_2 + 1)), (3, zR 11 k4), (0, zR 6 0), (1, zI v1_1)]) 3 (zdg D_X0_feet 33 (51, .iinc 2 1, 3) rfl) rfl rfl (by decide) rfl ?_
              refine z_goto (pc := 54) 4 (zdg D_X0_feet 34 (54, .goto (-50), 3) rfl) rfl ?_
              refine z_sub (al' := [(0, zR 6 0), (1, zI v1_1), (2, zI (v2_2 + 1))]) [2, 3, 0] rfl ?_
              exact hi (v1_1, (v2_2 + 1)) hf
            · refine z_iload_n (pc := 40) 2 (zdg D_X0_feet 24 (40, .iload_n 1, 1) rfl) rfl rfl ?_
              refine z_iconst (pc := 41) (v := 1) (zdg D_X0_feet 25 (41, .iconst 1, 1) rfl) rfl ?_
              refine z_aload_n (pc := 42) 0 (zdg D_X0_feet 26 (42, .aload_n 3, 1) rfl) rfl rfl ?_
              refine z_getR (pc := 43) (g := 30) (j := k4) lf_X0_93 rfl rfl rfl (zdg D_X0_feet 27 (43, .getfield 93, 3) rfl) ?_
              refine z_iload_n (pc := 46) 3 (zdg D_X0_feet 28 (46, .iload_n 2, 1) rfl) rfl rfl ?_
              refine z_bald (pc := 47) rfl (fun _ => rfl) (zdg D_X0_feet 29 (47, .baload, 1) rfl) hn hf (fun hf => ?_)
              refine z_ishl (pc := 48) (zdg D_X0_feet 30 (48, .ishl, 1) rfl) ?_
              refine z_ior (pc := 49) (zdg D_X0_feet 31 (49, .ior, 1) rfl) ?_
              refine z_istore_n (pc := 50) (al' := [(1, zI (v1_1 ||| (zshl (1 : Int32) (σ.1 30 k4 v2_2.toNatClampNeg)))), (3, zR 11 k4), (0, zR 6 0), (2, zI v2_2)]) (zdg D_X0_feet 32 (50, .istore_n 1, 1) rfl) rfl (by decide) rfl ?_
              refine z_iinc (pc := 51) (v0 := (v2_2 + 1)) (al' := [(2, zI (v2_2 + 1)), (1, zI (v1_1 ||| (zshl (1 : Int32) (σ.1 30 k4 v2_2.toNatClampNeg)))), (3, zR 11 k4), (0, zR 6 0)]) 3 (zdg D_X0_feet 33 (51, .iinc 2 1, 3) rfl) rfl rfl (by decide) rfl ?_
              refine z_goto (pc := 54) 4 (zdg D_X0_feet 34 (54, .goto (-50), 3) rfl) rfl ?_
              refine z_sub (al' := [(0, zR 6 0), (1, zI (v1_1 ||| (zshl (1 : Int32) (σ.1 30 k4 v2_2.toNatClampNeg)))), (2, zI (v2_2 + 1))]) [3, 1, 0] rfl ?_
              exact hi ((v1_1 ||| (zshl (1 : Int32) (σ.1 30 k4 v2_2.toNatClampNeg))), (v2_2 + 1)) hf

def L_X0_holes : List (Nat × Instr × Nat) := [(0, .aload_n 0, 1), (1, .getfield 9, 3), (4, .invokevirtual 35, 3), (7, .lstore_n 1, 1), (8, .iconst 0, 1), (9, .istore_n 3, 1), (10, .iconst 0, 1), (11, .istore 4, 2), (13, .iload 4, 2), (15, .bipush 56, 2), (17, .if_icmp .ge 30, 3), (20, .lload_n 1, 1), (21, .iload 4, 2), (23, .invokestatic 63, 3), (26, .ifCond .eq 15, 3), (29, .aload_n 0, 1), (30, .iload 4, 2), (32, .invokevirtual 90, 3), (35, .ifnonnull 6, 3), (38, .iinc 3 1, 3), (41, .iinc 4 1, 3), (44, .goto (-31), 3), (47, .iload_n 3, 1), (48, .ireturn, 1)]
set_option maxRecDepth 100000 in
theorem D_X0_holes : zdecs cX0_holes L_X0_holes = true := by decide +kernel
noncomputable def b_X0_holes_13 (q1 : Int64) (σ : zG) (v3_2 : Int32) (v4_3 : Int32) : Option ((Int32 × Int32) ⊕ (Int32)) :=
  if v4_3 < (56 : Int32) then if (f_X11_holds q1 v4_3) = 0 then some (Sum.inl (v3_2, (v4_3 + 1))) else (f_X0_sourceOf v4_3 σ).bind (fun q4 => zoc q4 (some (Sum.inl ((v3_2 + 1), (v4_3 + 1)))) (fun k5 => some (Sum.inl (v3_2, (v4_3 + 1))))) else some (Sum.inr v3_2)
noncomputable def f_X0_holes (σ : zG) : Option (Int32) :=
  (f_X1_viewNow 0 σ).bind (fun q1 => (zlp (fun q : Int32 × Int32 => b_X0_holes_13 q1 σ q.1 q.2) ((0 : Int32), (0 : Int32))).bind (fun e6 : Int32 => some e6))
set_option maxRecDepth 100000 in
set_option maxHeartbeats 4000000 in
theorem c_X0_holes (l : Launch)  (σ : zG) (q : Int32) (hq : f_X0_holes σ = some q) : zMet l zsyC m_X0_holes yX0_holes [zR 6 0] σ (some (zI q)) σ := by
  refine zEnter [(0, zR 6 0)] (by decide) rfl (fun _ => Nat.le_of_ble_eq_true rfl) (fun _ => rfl) (fun w h => ?_) (fun K hv hs => ?_)
  · exact zokm rfl h
  · have hP : ∀ x, f_X0_holes σ = some x → zKv K = some (zI x) ∧ zKs K = σ := fun x h => by rw [hq] at h; cases h; exact ⟨hv, hs⟩
    have hn : f_X0_holes σ ≠ none := fun z => by rw [hq] at z; cases z
    have hf := f_X0_holes.eq_1 σ
    refine z_aload_n (pc := 0) 0 (zdg D_X0_holes 0 (0, .aload_n 0, 1) rfl) rfl rfl ?_
    refine z_getR (pc := 1) (g := 1) (j := 0) lf_X0_9 rfl rfl rfl (zdg D_X0_holes 1 (1, .getfield 9, 3) rfl) ?_
    refine z_bind hn hf (fun q1 hq hf => ?_)
    refine z_callV (pc := 4) (rest := []) (st2 := [zL q1]) (fun l => c_X1_viewNow l 0 σ q1 hq) zv_X1_viewNow lm_X0_35 rfl rfl rfl rfl rfl rfl (Nat.le_of_ble_eq_true rfl) ⟨Nat.le_of_ble_eq_true rfl, Nat.le_of_ble_eq_true rfl⟩ (zdg D_X0_holes 2 (4, .invokevirtual 35, 3) rfl) ?_
    refine z_lstore_n (pc := 7) (al' := [(1, zL q1), (0, zR 6 0)]) (zdg D_X0_holes 3 (7, .lstore_n 1, 1) rfl) rfl (by decide) rfl ?_
    refine z_iconst (pc := 8) (v := 0) (zdg D_X0_holes 4 (8, .iconst 0, 1) rfl) rfl ?_
    refine z_istore_n (pc := 9) (al' := [(3, zI (0 : Int32)), (1, zL q1), (0, zR 6 0)]) (zdg D_X0_holes 5 (9, .istore_n 3, 1) rfl) rfl (by decide) rfl ?_
    refine z_iconst (pc := 10) (v := 0) (zdg D_X0_holes 6 (10, .iconst 0, 1) rfl) rfl ?_
    refine z_istore (pc := 11) (al' := [(4, zI (0 : Int32)), (3, zI (0 : Int32)), (1, zL q1), (0, zR 6 0)]) (zdg D_X0_holes 7 (11, .istore 4, 2) rfl) (by decide) rfl ?_
    refine z_sub (al' := [(0, zR 6 0), (1, zL q1), (3, zI (0 : Int32)), (4, zI (0 : Int32))]) [3, 2, 1, 0] rfl ?_
    refine z_loop (f := (fun q : Int32 × Int32 => b_X0_holes_13 q1 σ q.1 q.2)) (a := ((0 : Int32), (0 : Int32))) (fun q : Int32 × Int32 => zX zsyC m_X0_holes K 13 [(0, zR 6 0), (1, zL q1), (3, zI q.1), (4, zI q.2)] [] σ) (fun e6 : Int32 => zX zsyC m_X0_holes K 47 [(3, zI e6)] [] σ) hn hf ?_ ?_
    · intro e6 hf
      refine z_iload_n (pc := 47) 0 (zdg D_X0_holes 22 (47, .iload_n 3, 1) rfl) rfl rfl ?_
      exact z_iret (pc := 48) rfl rfl (zdg D_X0_holes 23 (48, .ireturn, 1) rfl) (hP _ hf)
    · rintro ⟨v3_2, v4_3⟩ hn hi hx
      have hf := b_X0_holes_13.eq_1 q1 σ v3_2 v4_3
      refine z_iload (pc := 13) 3 (zdg D_X0_holes 8 (13, .iload 4, 2) rfl) rfl ?_
      refine z_bipush (pc := 15) (v := 56) (zdg D_X0_holes 9 (15, .bipush 56, 2) rfl) rfl ?_
      refine z_icmp_ge (pc := 17) 47 (zdg D_X0_holes 10 (17, .if_icmp .ge 30, 3) rfl) rfl hf (fun hf => ?_) (fun hf => ?_)
      · refine z_sub (al' := [(3, zI v3_2)]) [2] rfl ?_
        exact hx v3_2 hf
      · refine z_lload_n (pc := 20) 1 (zdg D_X0_holes 11 (20, .lload_n 1, 1) rfl) rfl rfl ?_
        refine z_iload (pc := 21) 3 (zdg D_X0_holes 12 (21, .iload 4, 2) rfl) rfl ?_
        refine z_callSN (pc := 23) (rest := []) (st2 := [zI (f_X11_holds q1 v4_3)]) (host := "NobodyThere") (fun l => c_X11_holds l q1 v4_3 σ) zs_X11_holds (by decide +kernel) rfl rfl rfl (Nat.le_of_ble_eq_true rfl) ⟨Nat.le_of_ble_eq_true rfl, Nat.le_of_ble_eq_true rfl⟩ (zdg D_X0_holes 13 (23, .invokestatic 63, 3) rfl) ?_
        refine z_if_eq (pc := 26) 41 (zdg D_X0_holes 14 (26, .ifCond .eq 15, 3) rfl) rfl hf (fun hf => ?_) (fun hf => ?_)
        · refine z_iinc (pc := 41) (v0 := (v4_3 + 1)) (al' := [(4, zI (v4_3 + 1)), (0, zR 6 0), (1, zL q1), (3, zI v3_2)]) 3 (zdg D_X0_holes 20 (41, .iinc 4 1, 3) rfl) rfl rfl (by decide) rfl ?_
          refine z_goto (pc := 44) 13 (zdg D_X0_holes 21 (44, .goto (-31), 3) rfl) rfl ?_
          refine z_sub (al' := [(0, zR 6 0), (1, zL q1), (3, zI v3_2), (4, zI (v4_3 + 1))]) [1, 2, 3, 0] rfl ?_
          exact hi (v3_2, (v4_3 + 1)) hf
        · refine z_aload_n (pc := 29) 0 (zdg D_X0_holes 15 (29, .aload_n 0, 1) rfl) rfl rfl ?_
          refine z_iload (pc := 30) 3 (zdg D_X0_holes 16 (30, .iload 4, 2) rfl) rfl ?_
          refine z_bind hn hf (fun q4 hq hf => ?_)
          refine z_callV (pc := 32) (rest := []) (st2 := [zQ 11 q4]) (fun l => c_X0_sourceOf l v4_3 σ q4 hq) zv_X0_sourceOf lm_X0_90 rfl rfl rfl rfl rfl rfl (Nat.le_of_ble_eq_true rfl) ⟨Nat.le_of_ble_eq_true rfl, Nat.le_of_ble_eq_true rfl⟩ (zdg D_X0_holes 17 (32, .invokevirtual 90, 3) rfl) ?_
          refine z_ifnonnull (pc := 35) (al := fun o => [(0, zR 6 0), (1, zL q1), (3, zI v3_2), (4, zI v4_3)]) (as := fun o => []) 41 q4 (zdg D_X0_holes 18 (35, .ifnonnull 6, 3) rfl) rfl hf (fun hf => ?_) (fun k5 hf => ?_)
          · refine z_iinc (pc := 38) (v0 := (v3_2 + 1)) (al' := [(3, zI (v3_2 + 1)), (0, zR 6 0), (1, zL q1), (4, zI v4_3)]) 2 (zdg D_X0_holes 19 (38, .iinc 3 1, 3) rfl) rfl rfl (by decide) rfl ?_
            refine z_iinc (pc := 41) (v0 := (v4_3 + 1)) (al' := [(4, zI (v4_3 + 1)), (3, zI (v3_2 + 1)), (0, zR 6 0), (1, zL q1)]) 3 (zdg D_X0_holes 20 (41, .iinc 4 1, 3) rfl) rfl rfl (by decide) rfl ?_
            refine z_goto (pc := 44) 13 (zdg D_X0_holes 21 (44, .goto (-31), 3) rfl) rfl ?_
            refine z_sub (al' := [(0, zR 6 0), (1, zL q1), (3, zI (v3_2 + 1)), (4, zI (v4_3 + 1))]) [2, 3, 1, 0] rfl ?_
            exact hi ((v3_2 + 1), (v4_3 + 1)) hf
          · refine z_iinc (pc := 41) (v0 := (v4_3 + 1)) (al' := [(4, zI (v4_3 + 1)), (0, zR 6 0), (1, zL q1), (3, zI v3_2)]) 3 (zdg D_X0_holes 20 (41, .iinc 4 1, 3) rfl) rfl rfl (by decide) rfl ?_
            refine z_goto (pc := 44) 13 (zdg D_X0_holes 21 (44, .goto (-31), 3) rfl) rfl ?_
            refine z_sub (al' := [(0, zR 6 0), (1, zL q1), (3, zI v3_2), (4, zI (v4_3 + 1))]) [1, 2, 3, 0] rfl ?_
            exact hi (v3_2, (v4_3 + 1)) hf

def L_X0_isSeam : List (Nat × Instr × Nat) := [(0, .iload_n 2, 1), (1, .iload_n 1, 1), (2, .iconst 1, 1), (3, .iadd, 1), (4, .if_icmp .ne 10, 3), (7, .iload_n 2, 1), (8, .bipush 8, 2), (10, .irem, 1), (11, .ifCond .eq 19, 3), (14, .aload_n 0, 1), (15, .iload_n 1, 1), (16, .invokevirtual 90, 3), (19, .ifnull 11, 3), (22, .aload_n 0, 1), (23, .iload_n 2, 1), (24, .invokevirtual 90, 3), (27, .ifnonnull 5, 3), (30, .iconst 0, 1), (31, .ireturn, 1), (32, .aload_n 0, 1), (33, .getfield 9, 3), (36, .getfield 82, 3), (39, .iload_n 1, 1), (40, .iaload, 1), (41, .aload_n 0, 1), (42, .getfield 9, 3), (45, .getfield 82, 3), (48, .iload_n 2, 1), (49, .iaload, 1), (50, .if_icmp .eq 7, 3), (53, .iconst 1, 1), (54, .goto 4, 3), (57, .iconst 0, 1), (58, .ireturn, 1)]
set_option maxRecDepth 100000 in
theorem D_X0_isSeam : zdecs cX0_isSeam L_X0_isSeam = true := by decide +kernel
noncomputable def j_X0_isSeam_14 (p1 : Int32) (σ : zG) (p2 : Int32) : Option (Int32) :=
  (f_X0_sourceOf p1 σ).bind (fun q1 => zoc q1 (some (0 : Int32)) (fun k2 => (f_X0_sourceOf p2 σ).bind (fun q3 => zoc q3 (some (0 : Int32)) (fun k4 => zg (zin p1 56) (zg (zin p2 56) (if (σ.1 32 0 p1.toNatClampNeg) = (σ.1 32 0 p2.toNatClampNeg) then some (0 : Int32) else some (1 : Int32)))))))
noncomputable def f_X0_isSeam (p1 : Int32) (p2 : Int32) (σ : zG) : Option (Int32) :=
  if p2 = (p1 + (1 : Int32)) then if (zrem p2 (8 : Int32)) = 0 then some (0 : Int32) else j_X0_isSeam_14 p1 σ p2 else j_X0_isSeam_14 p1 σ p2
set_option maxRecDepth 100000 in
set_option maxHeartbeats 4000000 in
theorem c_X0_isSeam (l : Launch) (p1 : Int32) (p2 : Int32) (σ : zG) (q : Int32) (hq : f_X0_isSeam p1 p2 σ = some q) : zMet l zsyC m_X0_isSeam yX0_isSeam [zR 6 0, zI p1, zI p2] σ (some (zI q)) σ := by
  refine zEnter [(0, zR 6 0), (1, zI p1), (2, zI p2)] (by decide) rfl (fun _ => Nat.le_of_ble_eq_true rfl) (fun _ => rfl) (fun w h => ?_) (fun K hv hs => ?_)
  · exact zokm rfl h
  · have hP : ∀ x, f_X0_isSeam p1 p2 σ = some x → zKv K = some (zI x) ∧ zKs K = σ := fun x h => by rw [hq] at h; cases h; exact ⟨hv, hs⟩
    have hn : f_X0_isSeam p1 p2 σ ≠ none := fun z => by rw [hq] at z; cases z
    have hf := f_X0_isSeam.eq_1 p1 p2 σ
    have t_14 : f_X0_isSeam p1 p2 σ = j_X0_isSeam_14 p1 σ p2 → zX zsyC m_X0_isSeam K 14 [(0, zR 6 0), (1, zI p1), (2, zI p2)] [] σ := by
      intro  hf
      replace hf := hf.trans (j_X0_isSeam_14.eq_1 p1 σ p2)
      refine z_aload_n (pc := 14) 0 (zdg D_X0_isSeam 9 (14, .aload_n 0, 1) rfl) rfl rfl ?_
      refine z_iload_n (pc := 15) 1 (zdg D_X0_isSeam 10 (15, .iload_n 1, 1) rfl) rfl rfl ?_
      refine z_bind hn hf (fun q1 hq hf => ?_)
      refine z_callV (pc := 16) (rest := []) (st2 := [zQ 11 q1]) (fun l => c_X0_sourceOf l p1 σ q1 hq) zv_X0_sourceOf lm_X0_90 rfl rfl rfl rfl rfl rfl (Nat.le_of_ble_eq_true rfl) ⟨Nat.le_of_ble_eq_true rfl, Nat.le_of_ble_eq_true rfl⟩ (zdg D_X0_isSeam 11 (16, .invokevirtual 90, 3) rfl) ?_
      refine z_ifnull (pc := 19) (al := fun o => [(0, zR 6 0), (1, zI p1), (2, zI p2)]) (as := fun o => []) 30 q1 (zdg D_X0_isSeam 12 (19, .ifnull 11, 3) rfl) rfl hf (fun hf => ?_) (fun k2 hf => ?_)
      · refine z_iconst (pc := 30) (v := 0) (zdg D_X0_isSeam 17 (30, .iconst 0, 1) rfl) rfl ?_
        exact z_iret (pc := 31) rfl rfl (zdg D_X0_isSeam 18 (31, .ireturn, 1) rfl) (hP _ hf)
      · refine z_aload_n (pc := 22) 0 (zdg D_X0_isSeam 13 (22, .aload_n 0, 1) rfl) rfl rfl ?_
        refine z_iload_n (pc := 23) 2 (zdg D_X0_isSeam 14 (23, .iload_n 2, 1) rfl) rfl rfl ?_
        refine z_bind hn hf (fun q3 hq hf => ?_)
        refine z_callV (pc := 24) (rest := []) (st2 := [zQ 11 q3]) (fun l => c_X0_sourceOf l p2 σ q3 hq) zv_X0_sourceOf lm_X0_90 rfl rfl rfl rfl rfl rfl (Nat.le_of_ble_eq_true rfl) ⟨Nat.le_of_ble_eq_true rfl, Nat.le_of_ble_eq_true rfl⟩ (zdg D_X0_isSeam 15 (24, .invokevirtual 90, 3) rfl) ?_
        refine z_ifnonnull (pc := 27) (al := fun o => [(0, zR 6 0), (1, zI p1), (2, zI p2)]) (as := fun o => []) 32 q3 (zdg D_X0_isSeam 16 (27, .ifnonnull 5, 3) rfl) rfl hf (fun hf => ?_) (fun k4 hf => ?_)
        · refine z_iconst (pc := 30) (v := 0) (zdg D_X0_isSeam 17 (30, .iconst 0, 1) rfl) rfl ?_
          exact z_iret (pc := 31) rfl rfl (zdg D_X0_isSeam 18 (31, .ireturn, 1) rfl) (hP _ hf)
        · refine z_aload_n (pc := 32) 0 (zdg D_X0_isSeam 19 (32, .aload_n 0, 1) rfl) rfl rfl ?_
          refine z_getR (pc := 33) (g := 1) (j := 0) lf_X0_9 rfl rfl rfl (zdg D_X0_isSeam 20 (33, .getfield 9, 3) rfl) ?_
          refine z_getR (pc := 36) (g := 32) (j := 0) lf_X0_82 rfl rfl rfl (zdg D_X0_isSeam 21 (36, .getfield 82, 3) rfl) ?_
          refine z_iload_n (pc := 39) 1 (zdg D_X0_isSeam 22 (39, .iload_n 1, 1) rfl) rfl rfl ?_
          refine z_iald (pc := 40) rfl (fun _ => rfl) (zdg D_X0_isSeam 23 (40, .iaload, 1) rfl) hn hf (fun hf => ?_)
          refine z_aload_n (pc := 41) 0 (zdg D_X0_isSeam 24 (41, .aload_n 0, 1) rfl) rfl rfl ?_
          refine z_getR (pc := 42) (g := 1) (j := 0) lf_X0_9 rfl rfl rfl (zdg D_X0_isSeam 25 (42, .getfield 9, 3) rfl) ?_
          refine z_getR (pc := 45) (g := 32) (j := 0) lf_X0_82 rfl rfl rfl (zdg D_X0_isSeam 26 (45, .getfield 82, 3) rfl) ?_
          refine z_iload_n (pc := 48) 2 (zdg D_X0_isSeam 27 (48, .iload_n 2, 1) rfl) rfl rfl ?_
          refine z_iald (pc := 49) rfl (fun _ => rfl) (zdg D_X0_isSeam 28 (49, .iaload, 1) rfl) hn hf (fun hf => ?_)
          refine z_icmp_eq (pc := 50) 57 (zdg D_X0_isSeam 29 (50, .if_icmp .eq 7, 3) rfl) rfl hf (fun hf => ?_) (fun hf => ?_)
          · refine z_iconst (pc := 57) (v := 0) (zdg D_X0_isSeam 32 (57, .iconst 0, 1) rfl) rfl ?_
            exact z_iret (pc := 58) rfl rfl (zdg D_X0_isSeam 33 (58, .ireturn, 1) rfl) (hP _ hf)
          · refine z_iconst (pc := 53) (v := 1) (zdg D_X0_isSeam 30 (53, .iconst 1, 1) rfl) rfl ?_
            refine z_goto (pc := 54) 58 (zdg D_X0_isSeam 31 (54, .goto 4, 3) rfl) rfl ?_
            exact z_iret (pc := 58) rfl rfl (zdg D_X0_isSeam 33 (58, .ireturn, 1) rfl) (hP _ hf)
    refine z_iload_n (pc := 0) 2 (zdg D_X0_isSeam 0 (0, .iload_n 2, 1) rfl) rfl rfl ?_
    refine z_iload_n (pc := 1) 1 (zdg D_X0_isSeam 1 (1, .iload_n 1, 1) rfl) rfl rfl ?_
    refine z_iconst (pc := 2) (v := 1) (zdg D_X0_isSeam 2 (2, .iconst 1, 1) rfl) rfl ?_
    refine z_iadd (pc := 3) (zdg D_X0_isSeam 3 (3, .iadd, 1) rfl) ?_
    refine z_icmp_ne (pc := 4) 14 (zdg D_X0_isSeam 4 (4, .if_icmp .ne 10, 3) rfl) rfl hf (fun hf => ?_) (fun hf => ?_)
    · exact t_14  hf
    · refine z_iload_n (pc := 7) 2 (zdg D_X0_isSeam 5 (7, .iload_n 2, 1) rfl) rfl rfl ?_
      refine z_bipush (pc := 8) (v := 8) (zdg D_X0_isSeam 6 (8, .bipush 8, 2) rfl) rfl ?_
      refine z_iremK (pc := 10) (zdg D_X0_isSeam 7 (10, .irem, 1) rfl) rfl ?_
      refine z_if_eq (pc := 11) 30 (zdg D_X0_isSeam 8 (11, .ifCond .eq 19, 3) rfl) rfl hf (fun hf => ?_) (fun hf => ?_)
      · refine z_iconst (pc := 30) (v := 0) (zdg D_X0_isSeam 17 (30, .iconst 0, 1) rfl) rfl ?_
        exact z_iret (pc := 31) rfl rfl (zdg D_X0_isSeam 18 (31, .ireturn, 1) rfl) (hP _ hf)
      · exact t_14  hf

def L_X0_seams : List (Nat × Instr × Nat) := [(0, .iconst 0, 1), (1, .istore_n 1, 1), (2, .iconst 0, 1), (3, .istore_n 2, 1), (4, .iload_n 2, 1), (5, .bipush 56, 2), (7, .if_icmp .ge 48, 3), (10, .iload_n 1, 1), (11, .aload_n 0, 1), (12, .iload_n 2, 1), (13, .iload_n 2, 1), (14, .iconst 1, 1), (15, .iadd, 1), (16, .invokevirtual 96, 3), (19, .ifCond .eq 7, 3), (22, .iconst 1, 1), (23, .goto 4, 3), (26, .iconst 0, 1), (27, .iadd, 1), (28, .istore_n 1, 1), (29, .iload_n 1, 1), (30, .aload_n 0, 1), (31, .iload_n 2, 1), (32, .iload_n 2, 1), (33, .bipush 8, 2), (35, .iadd, 1), (36, .invokevirtual 96, 3), (39, .ifCond .eq 7, 3), (42, .iconst 1, 1), (43, .goto 4, 3), (46, .iconst 0, 1), (47, .iadd, 1), (48, .istore_n 1, 1), (49, .iinc 2 1, 3), (52, .goto (-48), 3), (55, .iload_n 1, 1), (56, .ireturn, 1)]
set_option maxRecDepth 100000 in
theorem D_X0_seams : zdecs cX0_seams L_X0_seams = true := by decide +kernel
noncomputable def j_X0_seams_27_4 (σ : zG) (w2_4 : Int32) (t5 : Int32) (t6 : Int32) : Option ((Int32 × Int32) ⊕ (Int32)) :=
  (f_X0_isSeam w2_4 (w2_4 + (8 : Int32)) σ).bind (fun q7 => if q7 = 0 then some (Sum.inl (((t6 + t5) + (0 : Int32)), (w2_4 + 1))) else some (Sum.inl (((t6 + t5) + (1 : Int32)), (w2_4 + 1))))
noncomputable def b_X0_seams_4 (σ : zG) (v1_1 : Int32) (v2_2 : Int32) : Option ((Int32 × Int32) ⊕ (Int32)) :=
  if v2_2 < (56 : Int32) then (f_X0_isSeam v2_2 (v2_2 + (1 : Int32)) σ).bind (fun q3 => if q3 = 0 then j_X0_seams_27_4 σ v2_2 (0 : Int32) v1_1 else j_X0_seams_27_4 σ v2_2 (1 : Int32) v1_1) else some (Sum.inr v1_1)
noncomputable def f_X0_seams (σ : zG) : Option (Int32) :=
  (zlp (fun q : Int32 × Int32 => b_X0_seams_4 σ q.1 q.2) ((0 : Int32), (0 : Int32))).bind (fun e8 : Int32 => some e8)
set_option maxRecDepth 100000 in
set_option maxHeartbeats 4000000 in
theorem c_X0_seams (l : Launch)  (σ : zG) (q : Int32) (hq : f_X0_seams σ = some q) : zMet l zsyC m_X0_seams yX0_seams [zR 6 0] σ (some (zI q)) σ := by
  refine zEnter [(0, zR 6 0)] (by decide) rfl (fun _ => Nat.le_of_ble_eq_true rfl) (fun _ => rfl) (fun w h => ?_) (fun K hv hs => ?_)
  · exact zokm rfl h
  · have hP : ∀ x, f_X0_seams σ = some x → zKv K = some (zI x) ∧ zKs K = σ := fun x h => by rw [hq] at h; cases h; exact ⟨hv, hs⟩
    have hn : f_X0_seams σ ≠ none := fun z => by rw [hq] at z; cases z
    have hf := f_X0_seams.eq_1 σ
    refine z_iconst (pc := 0) (v := 0) (zdg D_X0_seams 0 (0, .iconst 0, 1) rfl) rfl ?_
    refine z_istore_n (pc := 1) (al' := [(1, zI (0 : Int32)), (0, zR 6 0)]) (zdg D_X0_seams 1 (1, .istore_n 1, 1) rfl) rfl (by decide) rfl ?_
    refine z_iconst (pc := 2) (v := 0) (zdg D_X0_seams 2 (2, .iconst 0, 1) rfl) rfl ?_
    refine z_istore_n (pc := 3) (al' := [(2, zI (0 : Int32)), (1, zI (0 : Int32)), (0, zR 6 0)]) (zdg D_X0_seams 3 (3, .istore_n 2, 1) rfl) rfl (by decide) rfl ?_
    refine z_sub (al' := [(0, zR 6 0), (1, zI (0 : Int32)), (2, zI (0 : Int32))]) [2, 1, 0] rfl ?_
    refine z_loop (f := (fun q : Int32 × Int32 => b_X0_seams_4 σ q.1 q.2)) (a := ((0 : Int32), (0 : Int32))) (fun q : Int32 × Int32 => zX zsyC m_X0_seams K 4 [(0, zR 6 0), (1, zI q.1), (2, zI q.2)] [] σ) (fun e8 : Int32 => zX zsyC m_X0_seams K 55 [(1, zI e8)] [] σ) hn hf ?_ ?_
    · intro e8 hf
      refine z_iload_n (pc := 55) 0 (zdg D_X0_seams 35 (55, .iload_n 1, 1) rfl) rfl rfl ?_
      exact z_iret (pc := 56) rfl rfl (zdg D_X0_seams 36 (56, .ireturn, 1) rfl) (hP _ hf)
    · rintro ⟨v1_1, v2_2⟩ hn hi hx
      have hf := b_X0_seams_4.eq_1 σ v1_1 v2_2
      have t_27 : ∀ (w2_4 : Int32) (t5 : Int32) (t6 : Int32), b_X0_seams_4 σ v1_1 v2_2 = j_X0_seams_27_4 σ w2_4 t5 t6 → zX zsyC m_X0_seams K 27 [(0, zR 6 0), (2, zI w2_4)] [zI t5, zI t6] σ := by
        intro w2_4 t5 t6 hf
        replace hf := hf.trans (j_X0_seams_27_4.eq_1 σ w2_4 t5 t6)
        refine z_iadd (pc := 27) (zdg D_X0_seams 18 (27, .iadd, 1) rfl) ?_
        refine z_istore_n (pc := 28) (al' := [(1, zI (t6 + t5)), (0, zR 6 0), (2, zI w2_4)]) (zdg D_X0_seams 19 (28, .istore_n 1, 1) rfl) rfl (by decide) rfl ?_
        refine z_iload_n (pc := 29) 0 (zdg D_X0_seams 20 (29, .iload_n 1, 1) rfl) rfl rfl ?_
        refine z_aload_n (pc := 30) 1 (zdg D_X0_seams 21 (30, .aload_n 0, 1) rfl) rfl rfl ?_
        refine z_iload_n (pc := 31) 2 (zdg D_X0_seams 22 (31, .iload_n 2, 1) rfl) rfl rfl ?_
        refine z_iload_n (pc := 32) 2 (zdg D_X0_seams 23 (32, .iload_n 2, 1) rfl) rfl rfl ?_
        refine z_bipush (pc := 33) (v := 8) (zdg D_X0_seams 24 (33, .bipush 8, 2) rfl) rfl ?_
        refine z_iadd (pc := 35) (zdg D_X0_seams 25 (35, .iadd, 1) rfl) ?_
        refine z_bind hn hf (fun q7 hq hf => ?_)
        refine z_callV (pc := 36) (rest := [zI (t6 + t5)]) (st2 := [zI q7, zI (t6 + t5)]) (fun l => c_X0_isSeam l w2_4 (w2_4 + (8 : Int32)) σ q7 hq) zv_X0_isSeam lm_X0_96 rfl rfl rfl rfl rfl rfl (Nat.le_of_ble_eq_true rfl) ⟨Nat.le_of_ble_eq_true rfl, Nat.le_of_ble_eq_true rfl⟩ (zdg D_X0_seams 26 (36, .invokevirtual 96, 3) rfl) ?_
        refine z_if_eq (pc := 39) 46 (zdg D_X0_seams 27 (39, .ifCond .eq 7, 3) rfl) rfl hf (fun hf => ?_) (fun hf => ?_)
        · refine z_iconst (pc := 46) (v := 0) (zdg D_X0_seams 30 (46, .iconst 0, 1) rfl) rfl ?_
          refine z_iadd (pc := 47) (zdg D_X0_seams 31 (47, .iadd, 1) rfl) ?_
          refine z_istore_n (pc := 48) (al' := [(1, zI ((t6 + t5) + (0 : Int32))), (0, zR 6 0), (2, zI w2_4)]) (zdg D_X0_seams 32 (48, .istore_n 1, 1) rfl) rfl (by decide) rfl ?_
          refine z_iinc (pc := 49) (v0 := (w2_4 + 1)) (al' := [(2, zI (w2_4 + 1)), (1, zI ((t6 + t5) + (0 : Int32))), (0, zR 6 0)]) 2 (zdg D_X0_seams 33 (49, .iinc 2 1, 3) rfl) rfl rfl (by decide) rfl ?_
          refine z_goto (pc := 52) 4 (zdg D_X0_seams 34 (52, .goto (-48), 3) rfl) rfl ?_
          refine z_sub (al' := [(0, zR 6 0), (1, zI ((t6 + t5) + (0 : Int32))), (2, zI (w2_4 + 1))]) [2, 1, 0] rfl ?_
          exact hi (((t6 + t5) + (0 : Int32)), (w2_4 + 1)) hf
        · refine z_iconst (pc := 42) (v := 1) (zdg D_X0_seams 28 (42, .iconst 1, 1) rfl) rfl ?_
          refine z_goto (pc := 43) 47 (zdg D_X0_seams 29 (43, .goto 4, 3) rfl) rfl ?_
          refine z_iadd (pc := 47) (zdg D_X0_seams 31 (47, .iadd, 1) rfl) ?_
          refine z_istore_n (pc := 48) (al' := [(1, zI ((t6 + t5) + (1 : Int32))), (0, zR 6 0), (2, zI w2_4)]) (zdg D_X0_seams 32 (48, .istore_n 1, 1) rfl) rfl (by decide) rfl ?_
          refine z_iinc (pc := 49) (v0 := (w2_4 + 1)) (al' := [(2, zI (w2_4 + 1)), (1, zI ((t6 + t5) + (1 : Int32))), (0, zR 6 0)]) 2 (zdg D_X0_seams 33 (49, .iinc 2 1, 3) rfl) rfl rfl (by decide) rfl ?_
          refine z_goto (pc := 52) 4 (zdg D_X0_seams 34 (52, .goto (-48), 3) rfl) rfl ?_
          refine z_sub (al' := [(0, zR 6 0), (1, zI ((t6 + t5) + (1 : Int32))), (2, zI (w2_4 + 1))]) [2, 1, 0] rfl ?_
          exact hi (((t6 + t5) + (1 : Int32)), (w2_4 + 1)) hf
      refine z_iload_n (pc := 4) 2 (zdg D_X0_seams 4 (4, .iload_n 2, 1) rfl) rfl rfl ?_
      refine z_bipush (pc := 5) (v := 56) (zdg D_X0_seams 5 (5, .bipush 56, 2) rfl) rfl ?_
      refine z_icmp_ge (pc := 7) 55 (zdg D_X0_seams 6 (7, .if_icmp .ge 48, 3) rfl) rfl hf (fun hf => ?_) (fun hf => ?_)
      · refine z_sub (al' := [(1, zI v1_1)]) [1] rfl ?_
        exact hx v1_1 hf
      · refine z_iload_n (pc := 10) 1 (zdg D_X0_seams 7 (10, .iload_n 1, 1) rfl) rfl rfl ?_
        refine z_aload_n (pc := 11) 0 (zdg D_X0_seams 8 (11, .aload_n 0, 1) rfl) rfl rfl ?_
        refine z_iload_n (pc := 12) 2 (zdg D_X0_seams 9 (12, .iload_n 2, 1) rfl) rfl rfl ?_
        refine z_iload_n (pc := 13) 2 (zdg D_X0_seams 10 (13, .iload_n 2, 1) rfl) rfl rfl ?_
        refine z_iconst (pc := 14) (v := 1) (zdg D_X0_seams 11 (14, .iconst 1, 1) rfl) rfl ?_
        refine z_iadd (pc := 15) (zdg D_X0_seams 12 (15, .iadd, 1) rfl) ?_
        refine z_bind hn hf (fun q3 hq hf => ?_)
        refine z_callV (pc := 16) (rest := [zI v1_1]) (st2 := [zI q3, zI v1_1]) (fun l => c_X0_isSeam l v2_2 (v2_2 + (1 : Int32)) σ q3 hq) zv_X0_isSeam lm_X0_96 rfl rfl rfl rfl rfl rfl (Nat.le_of_ble_eq_true rfl) ⟨Nat.le_of_ble_eq_true rfl, Nat.le_of_ble_eq_true rfl⟩ (zdg D_X0_seams 13 (16, .invokevirtual 96, 3) rfl) ?_
        refine z_if_eq (pc := 19) 26 (zdg D_X0_seams 14 (19, .ifCond .eq 7, 3) rfl) rfl hf (fun hf => ?_) (fun hf => ?_)
        · refine z_iconst (pc := 26) (v := 0) (zdg D_X0_seams 17 (26, .iconst 0, 1) rfl) rfl ?_
          refine z_sub (al' := [(0, zR 6 0), (2, zI v2_2)]) [0, 2] rfl ?_
          exact t_27 v2_2 (0 : Int32) v1_1 hf
        · refine z_iconst (pc := 22) (v := 1) (zdg D_X0_seams 15 (22, .iconst 1, 1) rfl) rfl ?_
          refine z_goto (pc := 23) 27 (zdg D_X0_seams 16 (23, .goto 4, 3) rfl) rfl ?_
          refine z_sub (al' := [(0, zR 6 0), (2, zI v2_2)]) [0, 2] rfl ?_
          exact t_27 v2_2 (1 : Int32) v1_1 hf

def L_X5_clear : List (Nat × Instr × Nat) := [(0, .aload_n 0, 1), (1, .getfield 9, 3), (4, .iconst (-1), 1), (5, .invokestatic 19, 3), (8, .aload_n 0, 1), (9, .getfield 15, 3), (12, .lconst 0, 1), (13, .invokestatic 25, 3), (16, .return_, 1)]
set_option maxRecDepth 100000 in
theorem D_X5_clear : zdecs cX5_clear L_X5_clear = true := by decide +kernel
noncomputable def f_X5_clear (i : Nat) (σ : zG) : zG :=
  zb (zflB σ 21 i 6012 (-1 : Int32)) (fun s1 => zb (zflL s1 22 i 501 (0 : Int64)) (fun s2 => s2))
set_option maxRecDepth 100000 in
set_option maxHeartbeats 4000000 in
theorem c_X5_clear (l : Launch) (i : Nat) (σ : zG) : zMet l zsyC m_X5_clear yX5_clear [zR 9 i] σ none (f_X5_clear i σ) := by
  refine zEnter [(0, zR 9 i)] (by decide) rfl (fun _ => Nat.le_of_ble_eq_true rfl) (fun _ => rfl) (fun w h => ?_) (fun K hv hs => ?_)
  · exact zokm rfl h
  · have hP : ∀ s, f_X5_clear i σ = s → zKv K = none ∧ zKs K = s := fun s h => by rw [h] at hs; exact ⟨hv, hs⟩
    have hf := f_X5_clear.eq_1 i σ
    refine z_aload_n (pc := 0) 0 (zdg D_X5_clear 0 (0, .aload_n 0, 1) rfl) rfl rfl ?_
    refine z_getR (pc := 1) (g := 21) (j := i) lf_X5_9 rfl rfl rfl (zdg D_X5_clear 1 (1, .getfield 9, 3) rfl) ?_
    refine z_iconst (pc := 4) (v := -1) (zdg D_X5_clear 2 (4, .iconst (-1), 1) rfl) rfl ?_
    refine z_callS (pc := 5) (rest := []) (st2 := []) (fun l => c_fillB l zsyC 21 i 6012 (-1 : Int32) σ rfl (fun _ => rfl) (by decide) (by rfl)) zs_J7_fill_031fb lm_X5_19 rfl rfl rfl (Nat.le_of_ble_eq_true rfl) ⟨Nat.le_of_ble_eq_true rfl, Nat.le_of_ble_eq_true rfl⟩ (zdg D_X5_clear 3 (5, .invokestatic 19, 3) rfl) ?_
    refine z_nmS hf (fun s1 hf => ?_)
    refine z_aload_n (pc := 8) 0 (zdg D_X5_clear 4 (8, .aload_n 0, 1) rfl) rfl rfl ?_
    refine z_getR (pc := 9) (g := 22) (j := i) lf_X5_15 rfl rfl rfl (zdg D_X5_clear 5 (9, .getfield 15, 3) rfl) ?_
    refine z_lconst (pc := 12) (v := 0) (zdg D_X5_clear 6 (12, .lconst 0, 1) rfl) rfl ?_
    refine z_callS (pc := 13) (rest := []) (st2 := []) (fun l => c_fillL l zsyC 22 i 501 (0 : Int64) s1 rfl (fun _ => rfl) (by decide)) zs_J7_fill_d0a16 lm_X5_25 rfl rfl rfl (Nat.le_of_ble_eq_true rfl) ⟨Nat.le_of_ble_eq_true rfl, Nat.le_of_ble_eq_true rfl⟩ (zdg D_X5_clear 7 (13, .invokestatic 25, 3) rfl) ?_
    refine z_nmS hf (fun s2 hf => ?_)
    exact z_vret (pc := 16) rfl (zdg D_X5_clear 8 (16, .return_, 1) rfl) (hP _ hf)

def L_X3_clear : List (Nat × Instr × Nat) := [(0, .aload_n 0, 1), (1, .iconst 0, 1), (2, .putfield 30, 3), (5, .aload_n 0, 1), (6, .iconst 0, 1), (7, .putfield 34, 3), (10, .return_, 1)]
set_option maxRecDepth 100000 in
theorem D_X3_clear : zdecs cX3_clear L_X3_clear = true := by decide +kernel
noncomputable def f_X3_clear (i : Nat) (σ : zG) : zG :=
  zb (zwI σ 10 i 0 (0 : Int32)) (fun s1 => zb (zwI s1 10 i 1 (0 : Int32)) (fun s2 => s2))
set_option maxRecDepth 100000 in
set_option maxHeartbeats 4000000 in
theorem c_X3_clear (l : Launch) (i : Nat) (σ : zG) : zMet l zsyC m_X3_clear yX3_clear [zR 10 i] σ none (f_X3_clear i σ) := by
  refine zEnter [(0, zR 10 i)] (by decide) rfl (fun _ => Nat.le_of_ble_eq_true rfl) (fun _ => rfl) (fun w h => ?_) (fun K hv hs => ?_)
  · exact zokm rfl h
  · have hP : ∀ s, f_X3_clear i σ = s → zKv K = none ∧ zKs K = s := fun s h => by rw [h] at hs; exact ⟨hv, hs⟩
    have hf := f_X3_clear.eq_1 i σ
    refine z_aload_n (pc := 0) 0 (zdg D_X3_clear 0 (0, .aload_n 0, 1) rfl) rfl rfl ?_
    refine z_iconst (pc := 1) (v := 0) (zdg D_X3_clear 1 (1, .iconst 0, 1) rfl) rfl ?_
    refine z_putI (pc := 2) lw_X3_30 rfl rfl rfl rfl (zdg D_X3_clear 2 (2, .putfield 30, 3) rfl) ?_
    refine z_nmS hf (fun s1 hf => ?_)
    refine z_aload_n (pc := 5) 0 (zdg D_X3_clear 3 (5, .aload_n 0, 1) rfl) rfl rfl ?_
    refine z_iconst (pc := 6) (v := 0) (zdg D_X3_clear 4 (6, .iconst 0, 1) rfl) rfl ?_
    refine z_putI (pc := 7) lw_X3_34 rfl rfl rfl rfl (zdg D_X3_clear 5 (7, .putfield 34, 3) rfl) ?_
    refine z_nmS hf (fun s2 hf => ?_)
    exact z_vret (pc := 10) rfl (zdg D_X3_clear 6 (10, .return_, 1) rfl) (hP _ hf)

def L_X1_startAnew : List (Nat × Instr × Nat) := [(0, .aload_n 0, 1), (1, .iload_n 1, 1), (2, .putfield 57, 3), (5, .aload_n 0, 1), (6, .iload_n 2, 1), (7, .putfield 61, 3), (10, .aload_n 0, 1), (11, .iconst 0, 1), (12, .putfield 64, 3), (15, .aload_n 0, 1), (16, .iload_n 1, 1), (17, .putfield 67, 3), (20, .aload_n 0, 1), (21, .iconst 0, 1), (22, .putfield 70, 3), (25, .aload_n 0, 1), (26, .iconst 0, 1), (27, .putfield 73, 3), (30, .aload_n 0, 1), (31, .iconst 5, 1), (32, .putfield 76, 3), (35, .aload_n 0, 1), (36, .bipush 20, 2), (38, .putfield 79, 3), (41, .aload_n 0, 1), (42, .iconst 0, 1), (43, .putfield 82, 3), (46, .aload_n 0, 1), (47, .getfield 12, 3), (50, .iconst 0, 1), (51, .putfield 85, 3), (54, .aload_n 0, 1), (55, .getfield 21, 3), (58, .iconst 0, 1), (59, .putfield 88, 3), (62, .aload_n 0, 1), (63, .getfield 28, 3), (66, .invokevirtual 89, 3), (69, .aload_n 0, 1), (70, .getfield 35, 3), (73, .invokevirtual 92, 3), (76, .aload_n 0, 1), (77, .getfield 39, 3), (80, .invokevirtual 92, 3), (83, .aload_n 0, 1), (84, .getfield 48, 3), (87, .iconst (-1), 1), (88, .invokestatic 93, 3), (91, .return_, 1)]
set_option maxRecDepth 100000 in
theorem D_X1_startAnew : zdecs cX1_startAnew L_X1_startAnew = true := by decide +kernel
noncomputable def f_X1_startAnew (i : Nat) (p1 : Int32) (p2 : Int32) (σ : zG) : zG :=
  zb (zwI σ 1 i 0 p1) (fun s1 => zb (zwI s1 1 i 1 p2) (fun s2 => zb (zwI s2 1 i 3 (0 : Int32)) (fun s3 => zb (zwI s3 1 i 4 p1) (fun s4 => zb (zwI s4 1 i 5 (0 : Int32)) (fun s5 => zb (zwI s5 1 i 6 (0 : Int32)) (fun s6 => zb (zwI s6 1 i 7 (5 : Int32)) (fun s7 => zb (zwI s7 1 i 8 (20 : Int32)) (fun s8 => zb (zwI s8 1 i 9 (0 : Int32)) (fun s9 => zb (zwI s9 7 (7 * i) 0 (0 : Int32)) (fun s10 => zb (zwI s10 8 (2 * i) 0 (0 : Int32)) (fun s11 => zb (f_X5_clear i s11) (fun s12 => zb (f_X3_clear (3 * i) s12) (fun s13 => zb (f_X3_clear (3 * i + 1) s13) (fun s14 => zb (zflI s14 32 i 56 (-1 : Int32)) (fun s15 => s15)))))))))))))))
set_option maxRecDepth 100000 in
set_option maxHeartbeats 4000000 in
theorem c_X1_startAnew (l : Launch) (i : Nat) (p1 : Int32) (p2 : Int32) (σ : zG) : zMet l zsyC m_X1_startAnew yX1_startAnew [zR 1 i, zI p1, zI p2] σ none (f_X1_startAnew i p1 p2 σ) := by
  refine zEnter [(0, zR 1 i), (1, zI p1), (2, zI p2)] (by decide) rfl (fun _ => Nat.le_of_ble_eq_true rfl) (fun _ => rfl) (fun w h => ?_) (fun K hv hs => ?_)
  · exact zokm rfl h
  · have hP : ∀ s, f_X1_startAnew i p1 p2 σ = s → zKv K = none ∧ zKs K = s := fun s h => by rw [h] at hs; exact ⟨hv, hs⟩
    have hf := f_X1_startAnew.eq_1 i p1 p2 σ
    refine z_aload_n (pc := 0) 0 (zdg D_X1_startAnew 0 (0, .aload_n 0, 1) rfl) rfl rfl ?_
    refine z_iload_n (pc := 1) 1 (zdg D_X1_startAnew 1 (1, .iload_n 1, 1) rfl) rfl rfl ?_
    refine z_putI (pc := 2) lw_X1_57 rfl rfl rfl rfl (zdg D_X1_startAnew 2 (2, .putfield 57, 3) rfl) ?_
    refine z_nmS hf (fun s1 hf => ?_)
    refine z_aload_n (pc := 5) 0 (zdg D_X1_startAnew 3 (5, .aload_n 0, 1) rfl) rfl rfl ?_
    refine z_iload_n (pc := 6) 2 (zdg D_X1_startAnew 4 (6, .iload_n 2, 1) rfl) rfl rfl ?_
    refine z_putI (pc := 7) lw_X1_61 rfl rfl rfl rfl (zdg D_X1_startAnew 5 (7, .putfield 61, 3) rfl) ?_
    refine z_nmS hf (fun s2 hf => ?_)
    refine z_aload_n (pc := 10) 0 (zdg D_X1_startAnew 6 (10, .aload_n 0, 1) rfl) rfl rfl ?_
    refine z_iconst (pc := 11) (v := 0) (zdg D_X1_startAnew 7 (11, .iconst 0, 1) rfl) rfl ?_
    refine z_putI (pc := 12) lw_X1_64 rfl rfl rfl rfl (zdg D_X1_startAnew 8 (12, .putfield 64, 3) rfl) ?_
    refine z_nmS hf (fun s3 hf => ?_)
    refine z_aload_n (pc := 15) 0 (zdg D_X1_startAnew 9 (15, .aload_n 0, 1) rfl) rfl rfl ?_
    refine z_iload_n (pc := 16) 1 (zdg D_X1_startAnew 10 (16, .iload_n 1, 1) rfl) rfl rfl ?_
    refine z_putI (pc := 17) lw_X1_67 rfl rfl rfl rfl (zdg D_X1_startAnew 11 (17, .putfield 67, 3) rfl) ?_
    refine z_nmS hf (fun s4 hf => ?_)
    refine z_aload_n (pc := 20) 0 (zdg D_X1_startAnew 12 (20, .aload_n 0, 1) rfl) rfl rfl ?_
    refine z_iconst (pc := 21) (v := 0) (zdg D_X1_startAnew 13 (21, .iconst 0, 1) rfl) rfl ?_
    refine z_putI (pc := 22) lw_X1_70 rfl rfl rfl rfl (zdg D_X1_startAnew 14 (22, .putfield 70, 3) rfl) ?_
    refine z_nmS hf (fun s5 hf => ?_)
    refine z_aload_n (pc := 25) 0 (zdg D_X1_startAnew 15 (25, .aload_n 0, 1) rfl) rfl rfl ?_
    refine z_iconst (pc := 26) (v := 0) (zdg D_X1_startAnew 16 (26, .iconst 0, 1) rfl) rfl ?_
    refine z_putI (pc := 27) lw_X1_73 rfl rfl rfl rfl (zdg D_X1_startAnew 17 (27, .putfield 73, 3) rfl) ?_
    refine z_nmS hf (fun s6 hf => ?_)
    refine z_aload_n (pc := 30) 0 (zdg D_X1_startAnew 18 (30, .aload_n 0, 1) rfl) rfl rfl ?_
    refine z_iconst (pc := 31) (v := 5) (zdg D_X1_startAnew 19 (31, .iconst 5, 1) rfl) rfl ?_
    refine z_putI (pc := 32) lw_X1_76 rfl rfl rfl rfl (zdg D_X1_startAnew 20 (32, .putfield 76, 3) rfl) ?_
    refine z_nmS hf (fun s7 hf => ?_)
    refine z_aload_n (pc := 35) 0 (zdg D_X1_startAnew 21 (35, .aload_n 0, 1) rfl) rfl rfl ?_
    refine z_bipush (pc := 36) (v := 20) (zdg D_X1_startAnew 22 (36, .bipush 20, 2) rfl) rfl ?_
    refine z_putI (pc := 38) lw_X1_79 rfl rfl rfl rfl (zdg D_X1_startAnew 23 (38, .putfield 79, 3) rfl) ?_
    refine z_nmS hf (fun s8 hf => ?_)
    refine z_aload_n (pc := 41) 0 (zdg D_X1_startAnew 24 (41, .aload_n 0, 1) rfl) rfl rfl ?_
    refine z_iconst (pc := 42) (v := 0) (zdg D_X1_startAnew 25 (42, .iconst 0, 1) rfl) rfl ?_
    refine z_putI (pc := 43) lw_X1_82 rfl rfl rfl rfl (zdg D_X1_startAnew 26 (43, .putfield 82, 3) rfl) ?_
    refine z_nmS hf (fun s9 hf => ?_)
    refine z_aload_n (pc := 46) 0 (zdg D_X1_startAnew 27 (46, .aload_n 0, 1) rfl) rfl rfl ?_
    refine z_getR (pc := 47) (g := 7) (j := 7 * i) lf_X1_12 rfl rfl rfl (zdg D_X1_startAnew 28 (47, .getfield 12, 3) rfl) ?_
    refine z_iconst (pc := 50) (v := 0) (zdg D_X1_startAnew 29 (50, .iconst 0, 1) rfl) rfl ?_
    refine z_putI (pc := 51) lw_X1_85 rfl rfl rfl rfl (zdg D_X1_startAnew 30 (51, .putfield 85, 3) rfl) ?_
    refine z_nmS hf (fun s10 hf => ?_)
    refine z_aload_n (pc := 54) 0 (zdg D_X1_startAnew 31 (54, .aload_n 0, 1) rfl) rfl rfl ?_
    refine z_getR (pc := 55) (g := 8) (j := 2 * i) lf_X1_21 rfl rfl rfl (zdg D_X1_startAnew 32 (55, .getfield 21, 3) rfl) ?_
    refine z_iconst (pc := 58) (v := 0) (zdg D_X1_startAnew 33 (58, .iconst 0, 1) rfl) rfl ?_
    refine z_putI (pc := 59) lw_X1_88 rfl rfl rfl rfl (zdg D_X1_startAnew 34 (59, .putfield 88, 3) rfl) ?_
    refine z_nmS hf (fun s11 hf => ?_)
    refine z_aload_n (pc := 62) 0 (zdg D_X1_startAnew 35 (62, .aload_n 0, 1) rfl) rfl rfl ?_
    refine z_getR (pc := 63) (g := 9) (j := i) lf_X1_28 rfl rfl rfl (zdg D_X1_startAnew 36 (63, .getfield 28, 3) rfl) ?_
    refine z_callV (pc := 66) (rest := []) (st2 := []) (fun l => c_X5_clear l i s11) zv_X5_clear lm_X1_89 rfl rfl rfl rfl rfl rfl (Nat.le_of_ble_eq_true rfl) ⟨Nat.le_of_ble_eq_true rfl, Nat.le_of_ble_eq_true rfl⟩ (zdg D_X1_startAnew 37 (66, .invokevirtual 89, 3) rfl) ?_
    refine z_nmS hf (fun s12 hf => ?_)
    refine z_aload_n (pc := 69) 0 (zdg D_X1_startAnew 38 (69, .aload_n 0, 1) rfl) rfl rfl ?_
    refine z_getR (pc := 70) (g := 10) (j := 3 * i) lf_X1_35 rfl rfl rfl (zdg D_X1_startAnew 39 (70, .getfield 35, 3) rfl) ?_
    refine z_callV (pc := 73) (rest := []) (st2 := []) (fun l => c_X3_clear l (3 * i) s12) zv_X3_clear lm_X1_92 rfl rfl rfl rfl rfl rfl (Nat.le_of_ble_eq_true rfl) ⟨Nat.le_of_ble_eq_true rfl, Nat.le_of_ble_eq_true rfl⟩ (zdg D_X1_startAnew 40 (73, .invokevirtual 92, 3) rfl) ?_
    refine z_nmS hf (fun s13 hf => ?_)
    refine z_aload_n (pc := 76) 0 (zdg D_X1_startAnew 41 (76, .aload_n 0, 1) rfl) rfl rfl ?_
    refine z_getR (pc := 77) (g := 10) (j := 3 * i + 1) lf_X1_39 rfl rfl rfl (zdg D_X1_startAnew 42 (77, .getfield 39, 3) rfl) ?_
    refine z_callV (pc := 80) (rest := []) (st2 := []) (fun l => c_X3_clear l (3 * i + 1) s13) zv_X3_clear lm_X1_92 rfl rfl rfl rfl rfl rfl (Nat.le_of_ble_eq_true rfl) ⟨Nat.le_of_ble_eq_true rfl, Nat.le_of_ble_eq_true rfl⟩ (zdg D_X1_startAnew 43 (80, .invokevirtual 92, 3) rfl) ?_
    refine z_nmS hf (fun s14 hf => ?_)
    refine z_aload_n (pc := 83) 0 (zdg D_X1_startAnew 44 (83, .aload_n 0, 1) rfl) rfl rfl ?_
    refine z_getR (pc := 84) (g := 32) (j := i) lf_X1_48 rfl rfl rfl (zdg D_X1_startAnew 45 (84, .getfield 48, 3) rfl) ?_
    refine z_iconst (pc := 87) (v := -1) (zdg D_X1_startAnew 46 (87, .iconst (-1), 1) rfl) rfl ?_
    refine z_callS (pc := 88) (rest := []) (st2 := []) (fun l => c_fillI l zsyC 32 i 56 (-1 : Int32) s14 rfl (fun _ => rfl) (by decide)) zs_J7_fill_53178 lm_X1_93 rfl rfl rfl (Nat.le_of_ble_eq_true rfl) ⟨Nat.le_of_ble_eq_true rfl, Nat.le_of_ble_eq_true rfl⟩ (zdg D_X1_startAnew 47 (88, .invokestatic 93, 3) rfl) ?_
    refine z_nmS hf (fun s15 hf => ?_)
    exact z_vret (pc := 91) rfl (zdg D_X1_startAnew 48 (91, .return_, 1) rfl) (hP _ hf)

def L_X7_copyFrom : List (Nat × Instr × Nat) := [(0, .aload_n 0, 1), (1, .aload_n 1, 1), (2, .getfield 21, 3), (5, .putfield 21, 3), (8, .aload_n 1, 1), (9, .getfield 9, 3), (12, .iconst 0, 1), (13, .aload_n 0, 1), (14, .getfield 9, 3), (17, .iconst 0, 1), (18, .bipush 8, 2), (20, .invokestatic 33, 3), (23, .aload_n 1, 1), (24, .getfield 15, 3), (27, .iconst 0, 1), (28, .aload_n 0, 1), (29, .getfield 15, 3), (32, .iconst 0, 1), (33, .bipush 8, 2), (35, .invokestatic 33, 3), (38, .aload_n 1, 1), (39, .getfield 18, 3), (42, .iconst 0, 1), (43, .aload_n 0, 1), (44, .getfield 18, 3), (47, .iconst 0, 1), (48, .bipush 8, 2), (50, .invokestatic 33, 3), (53, .return_, 1)]
set_option maxRecDepth 100000 in
theorem D_X7_copyFrom : zdecs cX7_copyFrom L_X7_copyFrom = true := by decide +kernel
noncomputable def f_X7_copyFrom (i : Nat) (p1 : Nat) (σ : zG) : zG :=
  zb (zwI σ 7 i 0 (σ.1 7 p1 0)) (fun s1 => zb (zcpI s1 12 p1 12 i 8) (fun s2 => zb (zcpI s2 13 p1 13 i 8) (fun s3 => zb (zcpI s3 14 p1 14 i 8) (fun s4 => s4))))
set_option maxRecDepth 100000 in
set_option maxHeartbeats 4000000 in
theorem c_X7_copyFrom (l : Launch) (i : Nat) (p1 : Nat) (σ : zG) : zMet l zsyC m_X7_copyFrom yX7_copyFrom [zR 7 i, zR 7 p1] σ none (f_X7_copyFrom i p1 σ) := by
  refine zEnter [(0, zR 7 i), (1, zR 7 p1)] (by decide) rfl (fun _ => Nat.le_of_ble_eq_true rfl) (fun _ => rfl) (fun w h => ?_) (fun K hv hs => ?_)
  · exact zokm rfl h
  · have hP : ∀ s, f_X7_copyFrom i p1 σ = s → zKv K = none ∧ zKs K = s := fun s h => by rw [h] at hs; exact ⟨hv, hs⟩
    have hf := f_X7_copyFrom.eq_1 i p1 σ
    refine z_aload_n (pc := 0) 0 (zdg D_X7_copyFrom 0 (0, .aload_n 0, 1) rfl) rfl rfl ?_
    refine z_aload_n (pc := 1) 1 (zdg D_X7_copyFrom 1 (1, .aload_n 1, 1) rfl) rfl rfl ?_
    refine z_getI (pc := 2) lf_X7_21 rfl rfl (zdg D_X7_copyFrom 2 (2, .getfield 21, 3) rfl) ?_
    refine z_putI (pc := 5) lw_X7_21 rfl rfl rfl rfl (zdg D_X7_copyFrom 3 (5, .putfield 21, 3) rfl) ?_
    refine z_nmS hf (fun s1 hf => ?_)
    refine z_aload_n (pc := 8) 1 (zdg D_X7_copyFrom 4 (8, .aload_n 1, 1) rfl) rfl rfl ?_
    refine z_getR (pc := 9) (g := 12) (j := p1) lf_X7_9 rfl rfl rfl (zdg D_X7_copyFrom 5 (9, .getfield 9, 3) rfl) ?_
    refine z_iconst (pc := 12) (v := 0) (zdg D_X7_copyFrom 6 (12, .iconst 0, 1) rfl) rfl ?_
    refine z_aload_n (pc := 13) 0 (zdg D_X7_copyFrom 7 (13, .aload_n 0, 1) rfl) rfl rfl ?_
    refine z_getR (pc := 14) (g := 12) (j := i) lf_X7_9 rfl rfl rfl (zdg D_X7_copyFrom 8 (14, .getfield 9, 3) rfl) ?_
    refine z_iconst (pc := 17) (v := 0) (zdg D_X7_copyFrom 9 (17, .iconst 0, 1) rfl) rfl ?_
    refine z_bipush (pc := 18) (v := 8) (zdg D_X7_copyFrom 10 (18, .bipush 8, 2) rfl) rfl ?_
    refine z_copyI (pc := 20) (n := 8) (ty := .int) lm_X7_33 rfl rfl (fun _ => rfl) (fun _ => rfl) rfl rfl rfl (Nat.le_of_ble_eq_true rfl) (Nat.le_of_ble_eq_true rfl) (zdg D_X7_copyFrom 11 (20, .invokestatic 33, 3) rfl) ?_
    refine z_nmS hf (fun s2 hf => ?_)
    refine z_aload_n (pc := 23) 1 (zdg D_X7_copyFrom 12 (23, .aload_n 1, 1) rfl) rfl rfl ?_
    refine z_getR (pc := 24) (g := 13) (j := p1) lf_X7_15 rfl rfl rfl (zdg D_X7_copyFrom 13 (24, .getfield 15, 3) rfl) ?_
    refine z_iconst (pc := 27) (v := 0) (zdg D_X7_copyFrom 14 (27, .iconst 0, 1) rfl) rfl ?_
    refine z_aload_n (pc := 28) 0 (zdg D_X7_copyFrom 15 (28, .aload_n 0, 1) rfl) rfl rfl ?_
    refine z_getR (pc := 29) (g := 13) (j := i) lf_X7_15 rfl rfl rfl (zdg D_X7_copyFrom 16 (29, .getfield 15, 3) rfl) ?_
    refine z_iconst (pc := 32) (v := 0) (zdg D_X7_copyFrom 17 (32, .iconst 0, 1) rfl) rfl ?_
    refine z_bipush (pc := 33) (v := 8) (zdg D_X7_copyFrom 18 (33, .bipush 8, 2) rfl) rfl ?_
    refine z_copyI (pc := 35) (n := 8) (ty := .int) lm_X7_33 rfl rfl (fun _ => rfl) (fun _ => rfl) rfl rfl rfl (Nat.le_of_ble_eq_true rfl) (Nat.le_of_ble_eq_true rfl) (zdg D_X7_copyFrom 19 (35, .invokestatic 33, 3) rfl) ?_
    refine z_nmS hf (fun s3 hf => ?_)
    refine z_aload_n (pc := 38) 1 (zdg D_X7_copyFrom 20 (38, .aload_n 1, 1) rfl) rfl rfl ?_
    refine z_getR (pc := 39) (g := 14) (j := p1) lf_X7_18 rfl rfl rfl (zdg D_X7_copyFrom 21 (39, .getfield 18, 3) rfl) ?_
    refine z_iconst (pc := 42) (v := 0) (zdg D_X7_copyFrom 22 (42, .iconst 0, 1) rfl) rfl ?_
    refine z_aload_n (pc := 43) 0 (zdg D_X7_copyFrom 23 (43, .aload_n 0, 1) rfl) rfl rfl ?_
    refine z_getR (pc := 44) (g := 14) (j := i) lf_X7_18 rfl rfl rfl (zdg D_X7_copyFrom 24 (44, .getfield 18, 3) rfl) ?_
    refine z_iconst (pc := 47) (v := 0) (zdg D_X7_copyFrom 25 (47, .iconst 0, 1) rfl) rfl ?_
    refine z_bipush (pc := 48) (v := 8) (zdg D_X7_copyFrom 26 (48, .bipush 8, 2) rfl) rfl ?_
    refine z_copyI (pc := 50) (n := 8) (ty := .int) lm_X7_33 rfl rfl (fun _ => rfl) (fun _ => rfl) rfl rfl rfl (Nat.le_of_ble_eq_true rfl) (Nat.le_of_ble_eq_true rfl) (zdg D_X7_copyFrom 27 (50, .invokestatic 33, 3) rfl) ?_
    refine z_nmS hf (fun s4 hf => ?_)
    exact z_vret (pc := 53) rfl (zdg D_X7_copyFrom 28 (53, .return_, 1) rfl) (hP _ hf)

def L_X10_copyFrom : List (Nat × Instr × Nat) := [(0, .aload_n 0, 1), (1, .aload_n 1, 1), (2, .getfield 30, 3), (5, .putfield 30, 3), (8, .aload_n 1, 1), (9, .getfield 9, 3), (12, .iconst 0, 1), (13, .aload_n 0, 1), (14, .getfield 9, 3), (17, .iconst 0, 1), (18, .bipush 12, 2), (20, .invokestatic 34, 3), (23, .aload_n 1, 1), (24, .getfield 15, 3), (27, .iconst 0, 1), (28, .aload_n 0, 1), (29, .getfield 15, 3), (32, .iconst 0, 1), (33, .bipush 12, 2), (35, .invokestatic 34, 3), (38, .aload_n 1, 1), (39, .getfield 18, 3), (42, .iconst 0, 1), (43, .aload_n 0, 1), (44, .getfield 18, 3), (47, .iconst 0, 1), (48, .bipush 12, 2), (50, .invokestatic 34, 3), (53, .aload_n 1, 1), (54, .getfield 21, 3), (57, .iconst 0, 1), (58, .aload_n 0, 1), (59, .getfield 21, 3), (62, .iconst 0, 1), (63, .bipush 12, 2), (65, .invokestatic 34, 3), (68, .aload_n 1, 1), (69, .getfield 24, 3), (72, .iconst 0, 1), (73, .aload_n 0, 1), (74, .getfield 24, 3), (77, .iconst 0, 1), (78, .bipush 96, 2), (80, .invokestatic 34, 3), (83, .aload_n 1, 1), (84, .getfield 27, 3), (87, .iconst 0, 1), (88, .aload_n 0, 1), (89, .getfield 27, 3), (92, .iconst 0, 1), (93, .bipush 96, 2), (95, .invokestatic 34, 3), (98, .return_, 1)]
set_option maxRecDepth 100000 in
theorem D_X10_copyFrom : zdecs cX10_copyFrom L_X10_copyFrom = true := by decide +kernel
noncomputable def f_X10_copyFrom (i : Nat) (p1 : Nat) (σ : zG) : zG :=
  zb (zwI σ 8 i 0 (σ.1 8 p1 0)) (fun s1 => zb (zcpI s1 15 p1 15 i 12) (fun s2 => zb (zcpI s2 16 p1 16 i 12) (fun s3 => zb (zcpI s3 17 p1 17 i 12) (fun s4 => zb (zcpI s4 18 p1 18 i 12) (fun s5 => zb (zcpI s5 19 p1 19 i 96) (fun s6 => zb (zcpI s6 20 p1 20 i 96) (fun s7 => s7)))))))
set_option maxRecDepth 100000 in
set_option maxHeartbeats 4000000 in
theorem c_X10_copyFrom (l : Launch) (i : Nat) (p1 : Nat) (σ : zG) : zMet l zsyC m_X10_copyFrom yX10_copyFrom [zR 8 i, zR 8 p1] σ none (f_X10_copyFrom i p1 σ) := by
  refine zEnter [(0, zR 8 i), (1, zR 8 p1)] (by decide) rfl (fun _ => Nat.le_of_ble_eq_true rfl) (fun _ => rfl) (fun w h => ?_) (fun K hv hs => ?_)
  · exact zokm rfl h
  · have hP : ∀ s, f_X10_copyFrom i p1 σ = s → zKv K = none ∧ zKs K = s := fun s h => by rw [h] at hs; exact ⟨hv, hs⟩
    have hf := f_X10_copyFrom.eq_1 i p1 σ
    refine z_aload_n (pc := 0) 0 (zdg D_X10_copyFrom 0 (0, .aload_n 0, 1) rfl) rfl rfl ?_
    refine z_aload_n (pc := 1) 1 (zdg D_X10_copyFrom 1 (1, .aload_n 1, 1) rfl) rfl rfl ?_
    refine z_getI (pc := 2) lf_X10_30 rfl rfl (zdg D_X10_copyFrom 2 (2, .getfield 30, 3) rfl) ?_
    refine z_putI (pc := 5) lw_X10_30 rfl rfl rfl rfl (zdg D_X10_copyFrom 3 (5, .putfield 30, 3) rfl) ?_
    refine z_nmS hf (fun s1 hf => ?_)
    refine z_aload_n (pc := 8) 1 (zdg D_X10_copyFrom 4 (8, .aload_n 1, 1) rfl) rfl rfl ?_
    refine z_getR (pc := 9) (g := 15) (j := p1) lf_X10_9 rfl rfl rfl (zdg D_X10_copyFrom 5 (9, .getfield 9, 3) rfl) ?_
    refine z_iconst (pc := 12) (v := 0) (zdg D_X10_copyFrom 6 (12, .iconst 0, 1) rfl) rfl ?_
    refine z_aload_n (pc := 13) 0 (zdg D_X10_copyFrom 7 (13, .aload_n 0, 1) rfl) rfl rfl ?_
    refine z_getR (pc := 14) (g := 15) (j := i) lf_X10_9 rfl rfl rfl (zdg D_X10_copyFrom 8 (14, .getfield 9, 3) rfl) ?_
    refine z_iconst (pc := 17) (v := 0) (zdg D_X10_copyFrom 9 (17, .iconst 0, 1) rfl) rfl ?_
    refine z_bipush (pc := 18) (v := 12) (zdg D_X10_copyFrom 10 (18, .bipush 12, 2) rfl) rfl ?_
    refine z_copyI (pc := 20) (n := 12) (ty := .int) lm_X10_34 rfl rfl (fun _ => rfl) (fun _ => rfl) rfl rfl rfl (Nat.le_of_ble_eq_true rfl) (Nat.le_of_ble_eq_true rfl) (zdg D_X10_copyFrom 11 (20, .invokestatic 34, 3) rfl) ?_
    refine z_nmS hf (fun s2 hf => ?_)
    refine z_aload_n (pc := 23) 1 (zdg D_X10_copyFrom 12 (23, .aload_n 1, 1) rfl) rfl rfl ?_
    refine z_getR (pc := 24) (g := 16) (j := p1) lf_X10_15 rfl rfl rfl (zdg D_X10_copyFrom 13 (24, .getfield 15, 3) rfl) ?_
    refine z_iconst (pc := 27) (v := 0) (zdg D_X10_copyFrom 14 (27, .iconst 0, 1) rfl) rfl ?_
    refine z_aload_n (pc := 28) 0 (zdg D_X10_copyFrom 15 (28, .aload_n 0, 1) rfl) rfl rfl ?_
    refine z_getR (pc := 29) (g := 16) (j := i) lf_X10_15 rfl rfl rfl (zdg D_X10_copyFrom 16 (29, .getfield 15, 3) rfl) ?_
    refine z_iconst (pc := 32) (v := 0) (zdg D_X10_copyFrom 17 (32, .iconst 0, 1) rfl) rfl ?_
    refine z_bipush (pc := 33) (v := 12) (zdg D_X10_copyFrom 18 (33, .bipush 12, 2) rfl) rfl ?_
    refine z_copyI (pc := 35) (n := 12) (ty := .int) lm_X10_34 rfl rfl (fun _ => rfl) (fun _ => rfl) rfl rfl rfl (Nat.le_of_ble_eq_true rfl) (Nat.le_of_ble_eq_true rfl) (zdg D_X10_copyFrom 19 (35, .invokestatic 34, 3) rfl) ?_
    refine z_nmS hf (fun s3 hf => ?_)
    refine z_aload_n (pc := 38) 1 (zdg D_X10_copyFrom 20 (38, .aload_n 1, 1) rfl) rfl rfl ?_
    refine z_getR (pc := 39) (g := 17) (j := p1) lf_X10_18 rfl rfl rfl (zdg D_X10_copyFrom 21 (39, .getfield 18, 3) rfl) ?_
    refine z_iconst (pc := 42) (v := 0) (zdg D_X10_copyFrom 22 (42, .iconst 0, 1) rfl) rfl ?_
    refine z_aload_n (pc := 43) 0 (zdg D_X10_copyFrom 23 (43, .aload_n 0, 1) rfl) rfl rfl ?_
    refine z_getR (pc := 44) (g := 17) (j := i) lf_X10_18 rfl rfl rfl (zdg D_X10_copyFrom 24 (44, .getfield 18, 3) rfl) ?_
    refine z_iconst (pc := 47) (v := 0) (zdg D_X10_copyFrom 25 (47, .iconst 0, 1) rfl) rfl ?_
    refine z_bipush (pc := 48) (v := 12) (zdg D_X10_copyFrom 26 (48, .bipush 12, 2) rfl) rfl ?_
    refine z_copyI (pc := 50) (n := 12) (ty := .int) lm_X10_34 rfl rfl (fun _ => rfl) (fun _ => rfl) rfl rfl rfl (Nat.le_of_ble_eq_true rfl) (Nat.le_of_ble_eq_true rfl) (zdg D_X10_copyFrom 27 (50, .invokestatic 34, 3) rfl) ?_
    refine z_nmS hf (fun s4 hf => ?_)
    refine z_aload_n (pc := 53) 1 (zdg D_X10_copyFrom 28 (53, .aload_n 1, 1) rfl) rfl rfl ?_
    refine z_getR (pc := 54) (g := 18) (j := p1) lf_X10_21 rfl rfl rfl (zdg D_X10_copyFrom 29 (54, .getfield 21, 3) rfl) ?_
    refine z_iconst (pc := 57) (v := 0) (zdg D_X10_copyFrom 30 (57, .iconst 0, 1) rfl) rfl ?_
    refine z_aload_n (pc := 58) 0 (zdg D_X10_copyFrom 31 (58, .aload_n 0, 1) rfl) rfl rfl ?_
    refine z_getR (pc := 59) (g := 18) (j := i) lf_X10_21 rfl rfl rfl (zdg D_X10_copyFrom 32 (59, .getfield 21, 3) rfl) ?_
    refine z_iconst (pc := 62) (v := 0) (zdg D_X10_copyFrom 33 (62, .iconst 0, 1) rfl) rfl ?_
    refine z_bipush (pc := 63) (v := 12) (zdg D_X10_copyFrom 34 (63, .bipush 12, 2) rfl) rfl ?_
    refine z_copyI (pc := 65) (n := 12) (ty := .int) lm_X10_34 rfl rfl (fun _ => rfl) (fun _ => rfl) rfl rfl rfl (Nat.le_of_ble_eq_true rfl) (Nat.le_of_ble_eq_true rfl) (zdg D_X10_copyFrom 35 (65, .invokestatic 34, 3) rfl) ?_
    refine z_nmS hf (fun s5 hf => ?_)
    refine z_aload_n (pc := 68) 1 (zdg D_X10_copyFrom 36 (68, .aload_n 1, 1) rfl) rfl rfl ?_
    refine z_getR (pc := 69) (g := 19) (j := p1) lf_X10_24 rfl rfl rfl (zdg D_X10_copyFrom 37 (69, .getfield 24, 3) rfl) ?_
    refine z_iconst (pc := 72) (v := 0) (zdg D_X10_copyFrom 38 (72, .iconst 0, 1) rfl) rfl ?_
    refine z_aload_n (pc := 73) 0 (zdg D_X10_copyFrom 39 (73, .aload_n 0, 1) rfl) rfl rfl ?_
    refine z_getR (pc := 74) (g := 19) (j := i) lf_X10_24 rfl rfl rfl (zdg D_X10_copyFrom 40 (74, .getfield 24, 3) rfl) ?_
    refine z_iconst (pc := 77) (v := 0) (zdg D_X10_copyFrom 41 (77, .iconst 0, 1) rfl) rfl ?_
    refine z_bipush (pc := 78) (v := 96) (zdg D_X10_copyFrom 42 (78, .bipush 96, 2) rfl) rfl ?_
    refine z_copyI (pc := 80) (n := 96) (ty := .int) lm_X10_34 rfl rfl (fun _ => rfl) (fun _ => rfl) rfl rfl rfl (Nat.le_of_ble_eq_true rfl) (Nat.le_of_ble_eq_true rfl) (zdg D_X10_copyFrom 43 (80, .invokestatic 34, 3) rfl) ?_
    refine z_nmS hf (fun s6 hf => ?_)
    refine z_aload_n (pc := 83) 1 (zdg D_X10_copyFrom 44 (83, .aload_n 1, 1) rfl) rfl rfl ?_
    refine z_getR (pc := 84) (g := 20) (j := p1) lf_X10_27 rfl rfl rfl (zdg D_X10_copyFrom 45 (84, .getfield 27, 3) rfl) ?_
    refine z_iconst (pc := 87) (v := 0) (zdg D_X10_copyFrom 46 (87, .iconst 0, 1) rfl) rfl ?_
    refine z_aload_n (pc := 88) 0 (zdg D_X10_copyFrom 47 (88, .aload_n 0, 1) rfl) rfl rfl ?_
    refine z_getR (pc := 89) (g := 20) (j := i) lf_X10_27 rfl rfl rfl (zdg D_X10_copyFrom 48 (89, .getfield 27, 3) rfl) ?_
    refine z_iconst (pc := 92) (v := 0) (zdg D_X10_copyFrom 49 (92, .iconst 0, 1) rfl) rfl ?_
    refine z_bipush (pc := 93) (v := 96) (zdg D_X10_copyFrom 50 (93, .bipush 96, 2) rfl) rfl ?_
    refine z_copyI (pc := 95) (n := 96) (ty := .int) lm_X10_34 rfl rfl (fun _ => rfl) (fun _ => rfl) rfl rfl rfl (Nat.le_of_ble_eq_true rfl) (Nat.le_of_ble_eq_true rfl) (zdg D_X10_copyFrom 51 (95, .invokestatic 34, 3) rfl) ?_
    refine z_nmS hf (fun s7 hf => ?_)
    exact z_vret (pc := 98) rfl (zdg D_X10_copyFrom 52 (98, .return_, 1) rfl) (hP _ hf)

def L_X5_copyFrom : List (Nat × Instr × Nat) := [(0, .aload_n 1, 1), (1, .getfield 9, 3), (4, .iconst 0, 1), (5, .aload_n 0, 1), (6, .getfield 9, 3), (9, .iconst 0, 1), (10, .sipush 6012, 3), (13, .invokestatic 69, 3), (16, .aload_n 1, 1), (17, .getfield 15, 3), (20, .iconst 0, 1), (21, .aload_n 0, 1), (22, .getfield 15, 3), (25, .iconst 0, 1), (26, .sipush 501, 3), (29, .invokestatic 69, 3), (32, .return_, 1)]
set_option maxRecDepth 100000 in
theorem D_X5_copyFrom : zdecs cX5_copyFrom L_X5_copyFrom = true := by decide +kernel
noncomputable def f_X5_copyFrom (i : Nat) (p1 : Nat) (σ : zG) : zG :=
  zb (zcpI σ 21 p1 21 i 6012) (fun s1 => zb (zcpL s1 22 p1 22 i 501) (fun s2 => s2))
set_option maxRecDepth 100000 in
set_option maxHeartbeats 4000000 in
theorem c_X5_copyFrom (l : Launch) (i : Nat) (p1 : Nat) (σ : zG) : zMet l zsyC m_X5_copyFrom yX5_copyFrom [zR 9 i, zR 9 p1] σ none (f_X5_copyFrom i p1 σ) := by
  refine zEnter [(0, zR 9 i), (1, zR 9 p1)] (by decide) rfl (fun _ => Nat.le_of_ble_eq_true rfl) (fun _ => rfl) (fun w h => ?_) (fun K hv hs => ?_)
  · exact zokm rfl h
  · have hP : ∀ s, f_X5_copyFrom i p1 σ = s → zKv K = none ∧ zKs K = s := fun s h => by rw [h] at hs; exact ⟨hv, hs⟩
    have hf := f_X5_copyFrom.eq_1 i p1 σ
    refine z_aload_n (pc := 0) 1 (zdg D_X5_copyFrom 0 (0, .aload_n 1, 1) rfl) rfl rfl ?_
    refine z_getR (pc := 1) (g := 21) (j := p1) lf_X5_9 rfl rfl rfl (zdg D_X5_copyFrom 1 (1, .getfield 9, 3) rfl) ?_
    refine z_iconst (pc := 4) (v := 0) (zdg D_X5_copyFrom 2 (4, .iconst 0, 1) rfl) rfl ?_
    refine z_aload_n (pc := 5) 0 (zdg D_X5_copyFrom 3 (5, .aload_n 0, 1) rfl) rfl rfl ?_
    refine z_getR (pc := 6) (g := 21) (j := i) lf_X5_9 rfl rfl rfl (zdg D_X5_copyFrom 4 (6, .getfield 9, 3) rfl) ?_
    refine z_iconst (pc := 9) (v := 0) (zdg D_X5_copyFrom 5 (9, .iconst 0, 1) rfl) rfl ?_
    refine z_sipush (pc := 10) (v := 6012) (zdg D_X5_copyFrom 6 (10, .sipush 6012, 3) rfl) rfl ?_
    refine z_copyI (pc := 13) (n := 6012) (ty := .byte) lm_X5_69 rfl rfl (fun _ => rfl) (fun _ => rfl) rfl rfl rfl (Nat.le_of_ble_eq_true rfl) (Nat.le_of_ble_eq_true rfl) (zdg D_X5_copyFrom 7 (13, .invokestatic 69, 3) rfl) ?_
    refine z_nmS hf (fun s1 hf => ?_)
    refine z_aload_n (pc := 16) 1 (zdg D_X5_copyFrom 8 (16, .aload_n 1, 1) rfl) rfl rfl ?_
    refine z_getR (pc := 17) (g := 22) (j := p1) lf_X5_15 rfl rfl rfl (zdg D_X5_copyFrom 9 (17, .getfield 15, 3) rfl) ?_
    refine z_iconst (pc := 20) (v := 0) (zdg D_X5_copyFrom 10 (20, .iconst 0, 1) rfl) rfl ?_
    refine z_aload_n (pc := 21) 0 (zdg D_X5_copyFrom 11 (21, .aload_n 0, 1) rfl) rfl rfl ?_
    refine z_getR (pc := 22) (g := 22) (j := i) lf_X5_15 rfl rfl rfl (zdg D_X5_copyFrom 12 (22, .getfield 15, 3) rfl) ?_
    refine z_iconst (pc := 25) (v := 0) (zdg D_X5_copyFrom 13 (25, .iconst 0, 1) rfl) rfl ?_
    refine z_sipush (pc := 26) (v := 501) (zdg D_X5_copyFrom 14 (26, .sipush 501, 3) rfl) rfl ?_
    refine z_copyL (pc := 29) (n := 501) (ty := .long) lm_X5_69 rfl rfl (fun _ => rfl) (fun _ => rfl) rfl rfl rfl (Nat.le_of_ble_eq_true rfl) (Nat.le_of_ble_eq_true rfl) (zdg D_X5_copyFrom 15 (29, .invokestatic 69, 3) rfl) ?_
    refine z_nmS hf (fun s2 hf => ?_)
    exact z_vret (pc := 32) rfl (zdg D_X5_copyFrom 16 (32, .return_, 1) rfl) (hP _ hf)

def L_X3_copyFrom : List (Nat × Instr × Nat) := [(0, .aload_n 0, 1), (1, .aload_n 1, 1), (2, .getfield 30, 3), (5, .putfield 30, 3), (8, .aload_n 0, 1), (9, .aload_n 1, 1), (10, .getfield 34, 3), (13, .putfield 34, 3), (16, .aload_n 1, 1), (17, .getfield 9, 3), (20, .iconst 0, 1), (21, .aload_n 0, 1), (22, .getfield 9, 3), (25, .iconst 0, 1), (26, .sipush 400, 3), (29, .invokestatic 38, 3), (32, .aload_n 1, 1), (33, .getfield 15, 3), (36, .iconst 0, 1), (37, .aload_n 0, 1), (38, .getfield 15, 3), (41, .iconst 0, 1), (42, .bipush 16, 2), (44, .invokestatic 38, 3), (47, .aload_n 1, 1), (48, .getfield 18, 3), (51, .iconst 0, 1), (52, .aload_n 0, 1), (53, .getfield 18, 3), (56, .iconst 0, 1), (57, .bipush 16, 2), (59, .invokestatic 38, 3), (62, .aload_n 1, 1), (63, .getfield 21, 3), (66, .iconst 0, 1), (67, .aload_n 0, 1), (68, .getfield 21, 3), (71, .iconst 0, 1), (72, .bipush 16, 2), (74, .invokestatic 38, 3), (77, .return_, 1)]
set_option maxRecDepth 100000 in
theorem D_X3_copyFrom : zdecs cX3_copyFrom L_X3_copyFrom = true := by decide +kernel
noncomputable def f_X3_copyFrom (i : Nat) (p1 : Nat) (σ : zG) : zG :=
  zb (zwI σ 10 i 0 (σ.1 10 p1 0)) (fun s1 => zb (zwI s1 10 i 1 (s1.1 10 p1 1)) (fun s2 => zb (zcpI s2 23 p1 23 i 400) (fun s3 => zb (zcpI s3 24 p1 24 i 16) (fun s4 => zb (zcpI s4 25 p1 25 i 16) (fun s5 => zb (zcpI s5 26 p1 26 i 16) (fun s6 => s6))))))
set_option maxRecDepth 100000 in
set_option maxHeartbeats 4000000 in
theorem c_X3_copyFrom (l : Launch) (i : Nat) (p1 : Nat) (σ : zG) : zMet l zsyC m_X3_copyFrom yX3_copyFrom [zR 10 i, zR 10 p1] σ none (f_X3_copyFrom i p1 σ) := by
  refine zEnter [(0, zR 10 i), (1, zR 10 p1)] (by decide) rfl (fun _ => Nat.le_of_ble_eq_true rfl) (fun _ => rfl) (fun w h => ?_) (fun K hv hs => ?_)
  · exact zokm rfl h
  · have hP : ∀ s, f_X3_copyFrom i p1 σ = s → zKv K = none ∧ zKs K = s := fun s h => by rw [h] at hs; exact ⟨hv, hs⟩
    have hf := f_X3_copyFrom.eq_1 i p1 σ
    refine z_aload_n (pc := 0) 0 (zdg D_X3_copyFrom 0 (0, .aload_n 0, 1) rfl) rfl rfl ?_
    refine z_aload_n (pc := 1) 1 (zdg D_X3_copyFrom 1 (1, .aload_n 1, 1) rfl) rfl rfl ?_
    refine z_getI (pc := 2) lf_X3_30 rfl rfl (zdg D_X3_copyFrom 2 (2, .getfield 30, 3) rfl) ?_
    refine z_putI (pc := 5) lw_X3_30 rfl rfl rfl rfl (zdg D_X3_copyFrom 3 (5, .putfield 30, 3) rfl) ?_
    refine z_nmS hf (fun s1 hf => ?_)
    refine z_aload_n (pc := 8) 0 (zdg D_X3_copyFrom 4 (8, .aload_n 0, 1) rfl) rfl rfl ?_
    refine z_aload_n (pc := 9) 1 (zdg D_X3_copyFrom 5 (9, .aload_n 1, 1) rfl) rfl rfl ?_
    refine z_getI (pc := 10) lf_X3_34 rfl rfl (zdg D_X3_copyFrom 6 (10, .getfield 34, 3) rfl) ?_
    refine z_putI (pc := 13) lw_X3_34 rfl rfl rfl rfl (zdg D_X3_copyFrom 7 (13, .putfield 34, 3) rfl) ?_
    refine z_nmS hf (fun s2 hf => ?_)
    refine z_aload_n (pc := 16) 1 (zdg D_X3_copyFrom 8 (16, .aload_n 1, 1) rfl) rfl rfl ?_
    refine z_getR (pc := 17) (g := 23) (j := p1) lf_X3_9 rfl rfl rfl (zdg D_X3_copyFrom 9 (17, .getfield 9, 3) rfl) ?_
    refine z_iconst (pc := 20) (v := 0) (zdg D_X3_copyFrom 10 (20, .iconst 0, 1) rfl) rfl ?_
    refine z_aload_n (pc := 21) 0 (zdg D_X3_copyFrom 11 (21, .aload_n 0, 1) rfl) rfl rfl ?_
    refine z_getR (pc := 22) (g := 23) (j := i) lf_X3_9 rfl rfl rfl (zdg D_X3_copyFrom 12 (22, .getfield 9, 3) rfl) ?_
    refine z_iconst (pc := 25) (v := 0) (zdg D_X3_copyFrom 13 (25, .iconst 0, 1) rfl) rfl ?_
    refine z_sipush (pc := 26) (v := 400) (zdg D_X3_copyFrom 14 (26, .sipush 400, 3) rfl) rfl ?_
    refine z_copyI (pc := 29) (n := 400) (ty := .int) lm_X3_38 rfl rfl (fun _ => rfl) (fun _ => rfl) rfl rfl rfl (Nat.le_of_ble_eq_true rfl) (Nat.le_of_ble_eq_true rfl) (zdg D_X3_copyFrom 15 (29, .invokestatic 38, 3) rfl) ?_
    refine z_nmS hf (fun s3 hf => ?_)
    refine z_aload_n (pc := 32) 1 (zdg D_X3_copyFrom 16 (32, .aload_n 1, 1) rfl) rfl rfl ?_
    refine z_getR (pc := 33) (g := 24) (j := p1) lf_X3_15 rfl rfl rfl (zdg D_X3_copyFrom 17 (33, .getfield 15, 3) rfl) ?_
    refine z_iconst (pc := 36) (v := 0) (zdg D_X3_copyFrom 18 (36, .iconst 0, 1) rfl) rfl ?_
    refine z_aload_n (pc := 37) 0 (zdg D_X3_copyFrom 19 (37, .aload_n 0, 1) rfl) rfl rfl ?_
    refine z_getR (pc := 38) (g := 24) (j := i) lf_X3_15 rfl rfl rfl (zdg D_X3_copyFrom 20 (38, .getfield 15, 3) rfl) ?_
    refine z_iconst (pc := 41) (v := 0) (zdg D_X3_copyFrom 21 (41, .iconst 0, 1) rfl) rfl ?_
    refine z_bipush (pc := 42) (v := 16) (zdg D_X3_copyFrom 22 (42, .bipush 16, 2) rfl) rfl ?_
    refine z_copyI (pc := 44) (n := 16) (ty := .int) lm_X3_38 rfl rfl (fun _ => rfl) (fun _ => rfl) rfl rfl rfl (Nat.le_of_ble_eq_true rfl) (Nat.le_of_ble_eq_true rfl) (zdg D_X3_copyFrom 23 (44, .invokestatic 38, 3) rfl) ?_
    refine z_nmS hf (fun s4 hf => ?_)
    refine z_aload_n (pc := 47) 1 (zdg D_X3_copyFrom 24 (47, .aload_n 1, 1) rfl) rfl rfl ?_
    refine z_getR (pc := 48) (g := 25) (j := p1) lf_X3_18 rfl rfl rfl (zdg D_X3_copyFrom 25 (48, .getfield 18, 3) rfl) ?_
    refine z_iconst (pc := 51) (v := 0) (zdg D_X3_copyFrom 26 (51, .iconst 0, 1) rfl) rfl ?_
    refine z_aload_n (pc := 52) 0 (zdg D_X3_copyFrom 27 (52, .aload_n 0, 1) rfl) rfl rfl ?_
    refine z_getR (pc := 53) (g := 25) (j := i) lf_X3_18 rfl rfl rfl (zdg D_X3_copyFrom 28 (53, .getfield 18, 3) rfl) ?_
    refine z_iconst (pc := 56) (v := 0) (zdg D_X3_copyFrom 29 (56, .iconst 0, 1) rfl) rfl ?_
    refine z_bipush (pc := 57) (v := 16) (zdg D_X3_copyFrom 30 (57, .bipush 16, 2) rfl) rfl ?_
    refine z_copyI (pc := 59) (n := 16) (ty := .int) lm_X3_38 rfl rfl (fun _ => rfl) (fun _ => rfl) rfl rfl rfl (Nat.le_of_ble_eq_true rfl) (Nat.le_of_ble_eq_true rfl) (zdg D_X3_copyFrom 31 (59, .invokestatic 38, 3) rfl) ?_
    refine z_nmS hf (fun s5 hf => ?_)
    refine z_aload_n (pc := 62) 1 (zdg D_X3_copyFrom 32 (62, .aload_n 1, 1) rfl) rfl rfl ?_
    refine z_getR (pc := 63) (g := 26) (j := p1) lf_X3_21 rfl rfl rfl (zdg D_X3_copyFrom 33 (63, .getfield 21, 3) rfl) ?_
    refine z_iconst (pc := 66) (v := 0) (zdg D_X3_copyFrom 34 (66, .iconst 0, 1) rfl) rfl ?_
    refine z_aload_n (pc := 67) 0 (zdg D_X3_copyFrom 35 (67, .aload_n 0, 1) rfl) rfl rfl ?_
    refine z_getR (pc := 68) (g := 26) (j := i) lf_X3_21 rfl rfl rfl (zdg D_X3_copyFrom 36 (68, .getfield 21, 3) rfl) ?_
    refine z_iconst (pc := 71) (v := 0) (zdg D_X3_copyFrom 37 (71, .iconst 0, 1) rfl) rfl ?_
    refine z_bipush (pc := 72) (v := 16) (zdg D_X3_copyFrom 38 (72, .bipush 16, 2) rfl) rfl ?_
    refine z_copyI (pc := 74) (n := 16) (ty := .int) lm_X3_38 rfl rfl (fun _ => rfl) (fun _ => rfl) rfl rfl rfl (Nat.le_of_ble_eq_true rfl) (Nat.le_of_ble_eq_true rfl) (zdg D_X3_copyFrom 39 (74, .invokestatic 38, 3) rfl) ?_
    refine z_nmS hf (fun s6 hf => ?_)
    exact z_vret (pc := 77) rfl (zdg D_X3_copyFrom 40 (77, .return_, 1) rfl) (hP _ hf)

def L_X6_copyFrom : List (Nat × Instr × Nat) := [(0, .aload_n 0, 1), (1, .aload_n 1, 1), (2, .getfield 27, 3), (5, .putfield 27, 3), (8, .aload_n 0, 1), (9, .aload_n 1, 1), (10, .getfield 31, 3), (13, .putfield 31, 3), (16, .aload_n 0, 1), (17, .aload_n 1, 1), (18, .getfield 34, 3), (21, .putfield 34, 3), (24, .aload_n 0, 1), (25, .aload_n 1, 1), (26, .getfield 18, 3), (29, .putfield 18, 3), (32, .aload_n 0, 1), (33, .aload_n 1, 1), (34, .getfield 22, 3), (37, .putfield 22, 3), (40, .aload_n 1, 1), (41, .getfield 9, 3), (44, .iconst 0, 1), (45, .aload_n 0, 1), (46, .getfield 9, 3), (49, .iconst 0, 1), (50, .bipush 56, 2), (52, .invokestatic 37, 3), (55, .aload_n 1, 1), (56, .getfield 15, 3), (59, .iconst 0, 1), (60, .aload_n 0, 1), (61, .getfield 15, 3), (64, .iconst 0, 1), (65, .bipush 56, 2), (67, .invokestatic 37, 3), (70, .return_, 1)]
set_option maxRecDepth 100000 in
theorem D_X6_copyFrom : zdecs cX6_copyFrom L_X6_copyFrom = true := by decide +kernel
noncomputable def f_X6_copyFrom (i : Nat) (p1 : Nat) (σ : zG) : zG :=
  zb (zwI σ 11 i 0 (σ.1 11 p1 0)) (fun s1 => zb (zwI s1 11 i 1 (s1.1 11 p1 1)) (fun s2 => zb (zwI s2 11 i 2 (s2.1 11 p1 2)) (fun s3 => zb (zwL s3 11 i 3 (s3.2 11 p1 3)) (fun s4 => zb (zwL s4 11 i 4 (s4.2 11 p1 4)) (fun s5 => zb (zcpI s5 29 p1 29 i 56) (fun s6 => zb (zcpI s6 30 p1 30 i 56) (fun s7 => s7)))))))
set_option maxRecDepth 100000 in
set_option maxHeartbeats 4000000 in
theorem c_X6_copyFrom (l : Launch) (i : Nat) (p1 : Nat) (σ : zG) : zMet l zsyC m_X6_copyFrom yX6_copyFrom [zR 11 i, zR 11 p1] σ none (f_X6_copyFrom i p1 σ) := by
  refine zEnter [(0, zR 11 i), (1, zR 11 p1)] (by decide) rfl (fun _ => Nat.le_of_ble_eq_true rfl) (fun _ => rfl) (fun w h => ?_) (fun K hv hs => ?_)
  · exact zokm rfl h
  · have hP : ∀ s, f_X6_copyFrom i p1 σ = s → zKv K = none ∧ zKs K = s := fun s h => by rw [h] at hs; exact ⟨hv, hs⟩
    have hf := f_X6_copyFrom.eq_1 i p1 σ
    refine z_aload_n (pc := 0) 0 (zdg D_X6_copyFrom 0 (0, .aload_n 0, 1) rfl) rfl rfl ?_
    refine z_aload_n (pc := 1) 1 (zdg D_X6_copyFrom 1 (1, .aload_n 1, 1) rfl) rfl rfl ?_
    refine z_getI (pc := 2) lf_X6_27 rfl rfl (zdg D_X6_copyFrom 2 (2, .getfield 27, 3) rfl) ?_
    refine z_putI (pc := 5) lw_X6_27 rfl rfl rfl rfl (zdg D_X6_copyFrom 3 (5, .putfield 27, 3) rfl) ?_
    refine z_nmS hf (fun s1 hf => ?_)
    refine z_aload_n (pc := 8) 0 (zdg D_X6_copyFrom 4 (8, .aload_n 0, 1) rfl) rfl rfl ?_
    refine z_aload_n (pc := 9) 1 (zdg D_X6_copyFrom 5 (9, .aload_n 1, 1) rfl) rfl rfl ?_
    refine z_getI (pc := 10) lf_X6_31 rfl rfl (zdg D_X6_copyFrom 6 (10, .getfield 31, 3) rfl) ?_
    refine z_putI (pc := 13) lw_X6_31 rfl rfl rfl rfl (zdg D_X6_copyFrom 7 (13, .putfield 31, 3) rfl) ?_
    refine z_nmS hf (fun s2 hf => ?_)
    refine z_aload_n (pc := 16) 0 (zdg D_X6_copyFrom 8 (16, .aload_n 0, 1) rfl) rfl rfl ?_
    refine z_aload_n (pc := 17) 1 (zdg D_X6_copyFrom 9 (17, .aload_n 1, 1) rfl) rfl rfl ?_
    refine z_getI (pc := 18) lf_X6_34 rfl rfl (zdg D_X6_copyFrom 10 (18, .getfield 34, 3) rfl) ?_
    refine z_putI (pc := 21) lw_X6_34 rfl rfl rfl rfl (zdg D_X6_copyFrom 11 (21, .putfield 34, 3) rfl) ?_
    refine z_nmS hf (fun s3 hf => ?_)
    refine z_aload_n (pc := 24) 0 (zdg D_X6_copyFrom 12 (24, .aload_n 0, 1) rfl) rfl rfl ?_
    refine z_aload_n (pc := 25) 1 (zdg D_X6_copyFrom 13 (25, .aload_n 1, 1) rfl) rfl rfl ?_
    refine z_getL (pc := 26) lf_X6_18 rfl rfl (zdg D_X6_copyFrom 14 (26, .getfield 18, 3) rfl) ?_
    refine z_putL (pc := 29) lw_X6_18 rfl rfl (zdg D_X6_copyFrom 15 (29, .putfield 18, 3) rfl) ?_
    refine z_nmS hf (fun s4 hf => ?_)
    refine z_aload_n (pc := 32) 0 (zdg D_X6_copyFrom 16 (32, .aload_n 0, 1) rfl) rfl rfl ?_
    refine z_aload_n (pc := 33) 1 (zdg D_X6_copyFrom 17 (33, .aload_n 1, 1) rfl) rfl rfl ?_
    refine z_getL (pc := 34) lf_X6_22 rfl rfl (zdg D_X6_copyFrom 18 (34, .getfield 22, 3) rfl) ?_
    refine z_putL (pc := 37) lw_X6_22 rfl rfl (zdg D_X6_copyFrom 19 (37, .putfield 22, 3) rfl) ?_
    refine z_nmS hf (fun s5 hf => ?_)
    refine z_aload_n (pc := 40) 1 (zdg D_X6_copyFrom 20 (40, .aload_n 1, 1) rfl) rfl rfl ?_
    refine z_getR (pc := 41) (g := 29) (j := p1) lf_X6_9 rfl rfl rfl (zdg D_X6_copyFrom 21 (41, .getfield 9, 3) rfl) ?_
    refine z_iconst (pc := 44) (v := 0) (zdg D_X6_copyFrom 22 (44, .iconst 0, 1) rfl) rfl ?_
    refine z_aload_n (pc := 45) 0 (zdg D_X6_copyFrom 23 (45, .aload_n 0, 1) rfl) rfl rfl ?_
    refine z_getR (pc := 46) (g := 29) (j := i) lf_X6_9 rfl rfl rfl (zdg D_X6_copyFrom 24 (46, .getfield 9, 3) rfl) ?_
    refine z_iconst (pc := 49) (v := 0) (zdg D_X6_copyFrom 25 (49, .iconst 0, 1) rfl) rfl ?_
    refine z_bipush (pc := 50) (v := 56) (zdg D_X6_copyFrom 26 (50, .bipush 56, 2) rfl) rfl ?_
    refine z_copyI (pc := 52) (n := 56) (ty := .byte) lm_X6_37 rfl rfl (fun _ => rfl) (fun _ => rfl) rfl rfl rfl (Nat.le_of_ble_eq_true rfl) (Nat.le_of_ble_eq_true rfl) (zdg D_X6_copyFrom 27 (52, .invokestatic 37, 3) rfl) ?_
    refine z_nmS hf (fun s6 hf => ?_)
    refine z_aload_n (pc := 55) 1 (zdg D_X6_copyFrom 28 (55, .aload_n 1, 1) rfl) rfl rfl ?_
    refine z_getR (pc := 56) (g := 30) (j := p1) lf_X6_15 rfl rfl rfl (zdg D_X6_copyFrom 29 (56, .getfield 15, 3) rfl) ?_
    refine z_iconst (pc := 59) (v := 0) (zdg D_X6_copyFrom 30 (59, .iconst 0, 1) rfl) rfl ?_
    refine z_aload_n (pc := 60) 0 (zdg D_X6_copyFrom 31 (60, .aload_n 0, 1) rfl) rfl rfl ?_
    refine z_getR (pc := 61) (g := 30) (j := i) lf_X6_15 rfl rfl rfl (zdg D_X6_copyFrom 32 (61, .getfield 15, 3) rfl) ?_
    refine z_iconst (pc := 64) (v := 0) (zdg D_X6_copyFrom 33 (64, .iconst 0, 1) rfl) rfl ?_
    refine z_bipush (pc := 65) (v := 56) (zdg D_X6_copyFrom 34 (65, .bipush 56, 2) rfl) rfl ?_
    refine z_copyI (pc := 67) (n := 56) (ty := .byte) lm_X6_37 rfl rfl (fun _ => rfl) (fun _ => rfl) rfl rfl rfl (Nat.le_of_ble_eq_true rfl) (Nat.le_of_ble_eq_true rfl) (zdg D_X6_copyFrom 35 (67, .invokestatic 37, 3) rfl) ?_
    refine z_nmS hf (fun s7 hf => ?_)
    exact z_vret (pc := 70) rfl (zdg D_X6_copyFrom 36 (70, .return_, 1) rfl) (hP _ hf)
