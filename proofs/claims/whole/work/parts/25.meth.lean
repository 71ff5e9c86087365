/-! METHODS, by program: functions and contracts -/
def L_X11_book : List (Nat × Instr × Nat) := [(0, .aload_n 0, 1), (1, .getfield 12, 3), (4, .iload_n 1, 1), (5, .invokevirtual 234, 3), (8, .astore 4, 2), (10, .aload 4, 2), (12, .ifnull 26, 3), (15, .aload_n 0, 1), (16, .getfield 12, 3), (19, .iload_n 2, 1), (20, .invokevirtual 218, 3), (23, .ifCond .eq 15, 3), (26, .aload 4, 2), (28, .getfield 253, 3), (31, .iload_n 2, 1), (32, .invokestatic 221, 3), (35, .ifCond .ne 6, 3), (38, .bipush (-2), 2), (40, .ireturn, 1), (41, .iload_n 3, 1), (42, .ifCond .ne 11, 3), (45, .aload 4, 2), (47, .getfield 256, 3), (50, .iload_n 2, 1), (51, .baload, 1), (52, .ireturn, 1), (53, .iload_n 3, 1), (54, .iconst 1, 1), (55, .if_icmp .ne 13, 3), (58, .aload 4, 2), (60, .getfield 260, 3), (63, .iload_n 2, 1), (64, .baload, 1), (65, .goto 5, 3), (68, .bipush (-2), 2), (70, .ireturn, 1)]
set_option maxRecDepth 100000 in
theorem D_X11_book : zdecs cX11_book L_X11_book = true := by decide +kernel
noncomputable def f_X11_book (p1 : Int32) (p2 : Int32) (p3 : Int32) (σ : zG) : Option (Int32) :=
  (f_X1_shotOf 0 p1 σ).bind (fun q1 => zoc q1 (some (-2 : Int32)) (fun k2 => if (f_X1_isSpot 0 p2 σ) = 0 then some (-2 : Int32) else if (f_X11_holds (σ.2 11 k2 3) p2) = 0 then some (-2 : Int32) else if p3 = 0 then zg (zin p2 56) (some (σ.1 30 k2 p2.toNatClampNeg)) else if p3 = (1 : Int32) then zg (zin p2 56) (some (σ.1 29 k2 p2.toNatClampNeg)) else some (-2 : Int32)))
set_option maxRecDepth 100000 in
set_option maxHeartbeats 4000000 in
theorem c_X11_book (l : Launch) (p1 : Int32) (p2 : Int32) (p3 : Int32) (σ : zG) (q : Int32) (hq : f_X11_book p1 p2 p3 σ = some q) : zMet l zsyC m_X11_book yX11_book [zR 0 0, zI p1, zI p2, zI p3] σ (some (zI q)) σ := by
  refine zEnter [(0, zR 0 0), (1, zI p1), (2, zI p2), (3, zI p3)] (by decide) rfl (fun _ => Nat.le_of_ble_eq_true rfl) (fun _ => rfl) (fun w h => ?_) (fun K hv hs => ?_)
  · exact zokm rfl h
  · have hP : ∀ x, f_X11_book p1 p2 p3 σ = some x → zKv K = some (zI x) ∧ zKs K = σ := fun x h => by rw [hq] at h; cases h; exact ⟨hv, hs⟩
    have hn : f_X11_book p1 p2 p3 σ ≠ none := fun z => by rw [hq] at z; cases z
    have hf := f_X11_book.eq_1 p1 p2 p3 σ
    refine z_aload_n (pc := 0) 0 (zdg D_X11_book 0 (0, .aload_n 0, 1) rfl) rfl rfl ?_
    refine z_getR (pc := 1) (g := 1) (j := 0) lf_X11_12 rfl rfl rfl (zdg D_X11_book 1 (1, .getfield 12, 3) rfl) ?_
    refine z_iload_n (pc := 4) 1 (zdg D_X11_book 2 (4, .iload_n 1, 1) rfl) rfl rfl ?_
    refine z_bind hn hf (fun q1 hq hf => ?_)
    refine z_callV (pc := 5) (rest := []) (st2 := [zQ 11 q1]) (fun l => c_X1_shotOf l 0 p1 σ q1 hq) zv_X1_shotOf lm_X11_234 rfl rfl rfl rfl rfl rfl (Nat.le_of_ble_eq_true rfl) ⟨Nat.le_of_ble_eq_true rfl, Nat.le_of_ble_eq_true rfl⟩ (zdg D_X11_book 3 (5, .invokevirtual 234, 3) rfl) ?_
    refine z_astore (pc := 8) (al' := [(4, zQ 11 q1), (0, zR 0 0), (1, zI p1), (2, zI p2), (3, zI p3)]) (zdg D_X11_book 4 (8, .astore 4, 2) rfl) (by decide) rfl ?_
    refine z_aload (pc := 10) 0 (zdg D_X11_book 5 (10, .aload 4, 2) rfl) rfl ?_
    refine z_ifnull (pc := 12) (al := fun o => [(4, zQ 11 o), (0, zR 0 0), (1, zI p1), (2, zI p2), (3, zI p3)]) (as := fun o => []) 38 q1 (zdg D_X11_book 6 (12, .ifnull 26, 3) rfl) rfl hf (fun hf => ?_) (fun k2 hf => ?_)
    · refine z_bipush (pc := 38) (v := -2) (zdg D_X11_book 17 (38, .bipush (-2), 2) rfl) rfl ?_
      exact z_iret (pc := 40) rfl rfl (zdg D_X11_book 18 (40, .ireturn, 1) rfl) (hP _ hf)
    · refine z_aload_n (pc := 15) 1 (zdg D_X11_book 7 (15, .aload_n 0, 1) rfl) rfl rfl ?_
      refine z_getR (pc := 16) (g := 1) (j := 0) lf_X11_12 rfl rfl rfl (zdg D_X11_book 8 (16, .getfield 12, 3) rfl) ?_
      refine z_iload_n (pc := 19) 3 (zdg D_X11_book 9 (19, .iload_n 2, 1) rfl) rfl rfl ?_
      refine z_callV (pc := 20) (rest := []) (st2 := [zI (f_X1_isSpot 0 p2 σ)]) (fun l => c_X1_isSpot l 0 p2 σ) zv_X1_isSpot lm_X11_218 rfl rfl rfl rfl rfl rfl (Nat.le_of_ble_eq_true rfl) ⟨Nat.le_of_ble_eq_true rfl, Nat.le_of_ble_eq_true rfl⟩ (zdg D_X11_book 10 (20, .invokevirtual 218, 3) rfl) ?_
      refine z_if_eq (pc := 23) 38 (zdg D_X11_book 11 (23, .ifCond .eq 15, 3) rfl) rfl hf (fun hf => ?_) (fun hf => ?_)
      · refine z_bipush (pc := 38) (v := -2) (zdg D_X11_book 17 (38, .bipush (-2), 2) rfl) rfl ?_
        exact z_iret (pc := 40) rfl rfl (zdg D_X11_book 18 (40, .ireturn, 1) rfl) (hP _ hf)
      · refine z_aload (pc := 26) 0 (zdg D_X11_book 12 (26, .aload 4, 2) rfl) rfl ?_
        refine z_getL (pc := 28) lf_X11_253 rfl rfl (zdg D_X11_book 13 (28, .getfield 253, 3) rfl) ?_
        refine z_iload_n (pc := 31) 3 (zdg D_X11_book 14 (31, .iload_n 2, 1) rfl) rfl rfl ?_
        refine z_callS (pc := 32) (rest := []) (st2 := [zI (f_X11_holds (σ.2 11 k2 3) p2)]) (fun l => c_X11_holds l (σ.2 11 k2 3) p2 σ) zs_X11_holds lm_X11_221 rfl rfl rfl (Nat.le_of_ble_eq_true rfl) ⟨Nat.le_of_ble_eq_true rfl, Nat.le_of_ble_eq_true rfl⟩ (zdg D_X11_book 15 (32, .invokestatic 221, 3) rfl) ?_
        refine z_if_ne (pc := 35) 41 (zdg D_X11_book 16 (35, .ifCond .ne 6, 3) rfl) rfl hf (fun hf => ?_) (fun hf => ?_)
        · refine z_iload_n (pc := 41) 4 (zdg D_X11_book 19 (41, .iload_n 3, 1) rfl) rfl rfl ?_
          refine z_if_ne (pc := 42) 53 (zdg D_X11_book 20 (42, .ifCond .ne 11, 3) rfl) rfl hf (fun hf => ?_) (fun hf => ?_)
          · refine z_iload_n (pc := 53) 4 (zdg D_X11_book 26 (53, .iload_n 3, 1) rfl) rfl rfl ?_
            refine z_iconst (pc := 54) (v := 1) (zdg D_X11_book 27 (54, .iconst 1, 1) rfl) rfl ?_
            refine z_icmp_ne (pc := 55) 68 (zdg D_X11_book 28 (55, .if_icmp .ne 13, 3) rfl) rfl hf (fun hf => ?_) (fun hf => ?_)
            · refine z_bipush (pc := 68) (v := -2) (zdg D_X11_book 34 (68, .bipush (-2), 2) rfl) rfl ?_
              exact z_iret (pc := 70) rfl rfl (zdg D_X11_book 35 (70, .ireturn, 1) rfl) (hP _ hf)
            · refine z_aload (pc := 58) 0 (zdg D_X11_book 29 (58, .aload 4, 2) rfl) rfl ?_
              refine z_getR (pc := 60) (g := 29) (j := k2) lf_X11_260 rfl rfl rfl (zdg D_X11_book 30 (60, .getfield 260, 3) rfl) ?_
              refine z_iload_n (pc := 63) 3 (zdg D_X11_book 31 (63, .iload_n 2, 1) rfl) rfl rfl ?_
              refine z_bald (pc := 64) rfl (fun _ => rfl) (zdg D_X11_book 32 (64, .baload, 1) rfl) hn hf (fun hf => ?_)
              refine z_goto (pc := 65) 70 (zdg D_X11_book 33 (65, .goto 5, 3) rfl) rfl ?_
              exact z_iret (pc := 70) rfl rfl (zdg D_X11_book 35 (70, .ireturn, 1) rfl) (hP _ hf)
          · refine z_aload (pc := 45) 0 (zdg D_X11_book 21 (45, .aload 4, 2) rfl) rfl ?_
            refine z_getR (pc := 47) (g := 30) (j := k2) lf_X11_256 rfl rfl rfl (zdg D_X11_book 22 (47, .getfield 256, 3) rfl) ?_
            refine z_iload_n (pc := 50) 3 (zdg D_X11_book 23 (50, .iload_n 2, 1) rfl) rfl rfl ?_
            refine z_bald (pc := 51) rfl (fun _ => rfl) (zdg D_X11_book 24 (51, .baload, 1) rfl) hn hf (fun hf => ?_)
            exact z_iret (pc := 52) rfl rfl (zdg D_X11_book 25 (52, .ireturn, 1) rfl) (hP _ hf)
        · refine z_bipush (pc := 38) (v := -2) (zdg D_X11_book 17 (38, .bipush (-2), 2) rfl) rfl ?_
          exact z_iret (pc := 40) rfl rfl (zdg D_X11_book 18 (40, .ireturn, 1) rfl) (hP _ hf)

def L_X11_waits : List (Nat × Instr × Nat) := [(0, .aload_n 0, 1), (1, .getfield 44, 3), (4, .invokevirtual 262, 3), (7, .ireturn, 1)]
set_option maxRecDepth 100000 in
theorem D_X11_waits : zdecs cX11_waits L_X11_waits = true := by decide +kernel
noncomputable def f_X11_waits (σ : zG) : Option (Int32) :=
  (f_X9_firstFree σ).bind (fun q1 => some q1)
set_option maxRecDepth 100000 in
set_option maxHeartbeats 4000000 in
theorem c_X11_waits (l : Launch)  (σ : zG) (q : Int32) (hq : f_X11_waits σ = some q) : zMet l zsyC m_X11_waits yX11_waits [zR 0 0] σ (some (zI q)) σ := by
  refine zEnter [(0, zR 0 0)] (by decide) rfl (fun _ => Nat.le_of_ble_eq_true rfl) (fun _ => rfl) (fun w h => ?_) (fun K hv hs => ?_)
  · exact zokm rfl h
  · have hP : ∀ x, f_X11_waits σ = some x → zKv K = some (zI x) ∧ zKs K = σ := fun x h => by rw [hq] at h; cases h; exact ⟨hv, hs⟩
    have hn : f_X11_waits σ ≠ none := fun z => by rw [hq] at z; cases z
    have hf := f_X11_waits.eq_1 σ
    refine z_aload_n (pc := 0) 0 (zdg D_X11_waits 0 (0, .aload_n 0, 1) rfl) rfl rfl ?_
    refine z_getR (pc := 1) (g := 5) (j := 0) lf_X11_44 rfl rfl rfl (zdg D_X11_waits 1 (1, .getfield 44, 3) rfl) ?_
    refine z_bind hn hf (fun q1 hq hf => ?_)
    refine z_callV (pc := 4) (rest := []) (st2 := [zI q1]) (fun l => c_X9_firstFree l σ q1 hq) zv_X9_firstFree lm_X11_262 rfl rfl rfl rfl rfl rfl (Nat.le_of_ble_eq_true rfl) ⟨Nat.le_of_ble_eq_true rfl, Nat.le_of_ble_eq_true rfl⟩ (zdg D_X11_waits 2 (4, .invokevirtual 262, 3) rfl) ?_
    exact z_iret (pc := 7) rfl rfl (zdg D_X11_waits 3 (7, .ireturn, 1) rfl) (hP _ hf)

def L_X11_row : List (Nat × Instr × Nat) := [(0, .aload_n 0, 1), (1, .getfield 44, 3), (4, .iload_n 1, 1), (5, .invokevirtual 265, 3), (8, .ireturn, 1)]
set_option maxRecDepth 100000 in
theorem D_X11_row : zdecs cX11_row L_X11_row = true := by decide +kernel
noncomputable def f_X11_row (p1 : Int32) (σ : zG) : Option (Int32) :=
  (f_X9_longestFree p1 σ).bind (fun q1 => some q1)
set_option maxRecDepth 100000 in
set_option maxHeartbeats 4000000 in
theorem c_X11_row (l : Launch) (p1 : Int32) (σ : zG) (q : Int32) (hq : f_X11_row p1 σ = some q) : zMet l zsyC m_X11_row yX11_row [zR 0 0, zI p1] σ (some (zI q)) σ := by
  refine zEnter [(0, zR 0 0), (1, zI p1)] (by decide) rfl (fun _ => Nat.le_of_ble_eq_true rfl) (fun _ => rfl) (fun w h => ?_) (fun K hv hs => ?_)
  · exact zokm rfl h
  · have hP : ∀ x, f_X11_row p1 σ = some x → zKv K = some (zI x) ∧ zKs K = σ := fun x h => by rw [hq] at h; cases h; exact ⟨hv, hs⟩
    have hn : f_X11_row p1 σ ≠ none := fun z => by rw [hq] at z; cases z
    have hf := f_X11_row.eq_1 p1 σ
    refine z_aload_n (pc := 0) 0 (zdg D_X11_row 0 (0, .aload_n 0, 1) rfl) rfl rfl ?_
    refine z_getR (pc := 1) (g := 5) (j := 0) lf_X11_44 rfl rfl rfl (zdg D_X11_row 1 (1, .getfield 44, 3) rfl) ?_
    refine z_iload_n (pc := 4) 1 (zdg D_X11_row 2 (4, .iload_n 1, 1) rfl) rfl rfl ?_
    refine z_bind hn hf (fun q1 hq hf => ?_)
    refine z_callV (pc := 5) (rest := []) (st2 := [zI q1]) (fun l => c_X9_longestFree l p1 σ q1 hq) zv_X9_longestFree lm_X11_265 rfl rfl rfl rfl rfl rfl (Nat.le_of_ble_eq_true rfl) ⟨Nat.le_of_ble_eq_true rfl, Nat.le_of_ble_eq_true rfl⟩ (zdg D_X11_row 3 (5, .invokevirtual 265, 3) rfl) ?_
    exact z_iret (pc := 8) rfl rfl (zdg D_X11_row 4 (8, .ireturn, 1) rfl) (hP _ hf)

def L_X11_best : List (Nat × Instr × Nat) := [(0, .iload_n 1, 1), (1, .ifCond .eq 12, 3), (4, .iload_n 1, 1), (5, .iconst 1, 1), (6, .if_icmp .eq 7, 3), (9, .sipush (-1000), 3), (12, .ireturn, 1), (13, .aload_n 0, 1), (14, .getfield 44, 3), (17, .invokevirtual 268, 3), (20, .istore_n 2, 1), (21, .iload_n 1, 1), (22, .ifCond .ne 7, 3), (25, .iload_n 2, 1), (26, .goto 11, 3), (29, .aload_n 0, 1), (30, .getfield 12, 3), (33, .iload_n 2, 1), (34, .invokevirtual 231, 3), (37, .ireturn, 1)]
set_option maxRecDepth 100000 in
theorem D_X11_best : zdecs cX11_best L_X11_best = true := by decide +kernel
noncomputable def j_X11_best_13 (p1 : Int32) (s1 : zG) : Option (Int32 × zG) :=
  (f_X9_bestMinute s1).bind (fun q2 => if p1 = 0 then some (q2.1, q2.2) else (f_X1_worthOf 0 q2.1 q2.2).bind (fun q3 => some (q3.1, q3.2)))
noncomputable def f_X11_best (p1 : Int32) (σ : zG) : Option (Int32 × zG) :=
  if p1 = 0 then j_X11_best_13 p1 σ else if p1 = (1 : Int32) then j_X11_best_13 p1 σ else some ((-1000 : Int32), σ)
set_option maxRecDepth 100000 in
set_option maxHeartbeats 4000000 in
theorem c_X11_best (l : Launch) (p1 : Int32) (σ : zG) (q : Int32 × zG) (hq : f_X11_best p1 σ = some q) : zMet l zsyC m_X11_best yX11_best [zR 0 0, zI p1] σ (some (zI q.1)) q.2 := by
  refine zEnter [(0, zR 0 0), (1, zI p1)] (by decide) rfl (fun _ => Nat.le_of_ble_eq_true rfl) (fun _ => rfl) (fun w h => ?_) (fun K hv hs => ?_)
  · exact zokm rfl h
  · have hP : ∀ x s, f_X11_best p1 σ = some (x, s) → zKv K = some (zI x) ∧ zKs K = s := fun x s h => by rw [hq] at h; cases h; exact ⟨hv, hs⟩
    have hn : f_X11_best p1 σ ≠ none := fun z => by rw [hq] at z; cases z
    have hf := f_X11_best.eq_1 p1 σ
    have t_13 : ∀ (s1 : zG), f_X11_best p1 σ = j_X11_best_13 p1 s1 → zX zsyC m_X11_best K 13 [(0, zR 0 0), (1, zI p1)] [] s1 := by
      intro s1 hf
      replace hf := hf.trans (j_X11_best_13.eq_1 p1 s1)
      refine z_aload_n (pc := 13) 0 (zdg D_X11_best 7 (13, .aload_n 0, 1) rfl) rfl rfl ?_
      refine z_getR (pc := 14) (g := 5) (j := 0) lf_X11_44 rfl rfl rfl (zdg D_X11_best 8 (14, .getfield 44, 3) rfl) ?_
      refine z_bind hn hf (fun q2 hq hf => ?_)
      refine z_callV (pc := 17) (rest := []) (st2 := [zI q2.1]) (fun l => c_X9_bestMinute l s1 q2 hq) zv_X9_bestMinute lm_X11_268 rfl rfl rfl rfl rfl rfl (Nat.le_of_ble_eq_true rfl) ⟨Nat.le_of_ble_eq_true rfl, Nat.le_of_ble_eq_true rfl⟩ (zdg D_X11_best 9 (17, .invokevirtual 268, 3) rfl) ?_
      refine z_istore_n (pc := 20) (al' := [(2, zI q2.1), (0, zR 0 0), (1, zI p1)]) (zdg D_X11_best 10 (20, .istore_n 2, 1) rfl) rfl (by decide) rfl ?_
      refine z_iload_n (pc := 21) 2 (zdg D_X11_best 11 (21, .iload_n 1, 1) rfl) rfl rfl ?_
      refine z_if_ne (pc := 22) 29 (zdg D_X11_best 12 (22, .ifCond .ne 7, 3) rfl) rfl hf (fun hf => ?_) (fun hf => ?_)
      · refine z_aload_n (pc := 29) 1 (zdg D_X11_best 15 (29, .aload_n 0, 1) rfl) rfl rfl ?_
        refine z_getR (pc := 30) (g := 1) (j := 0) lf_X11_12 rfl rfl rfl (zdg D_X11_best 16 (30, .getfield 12, 3) rfl) ?_
        refine z_iload_n (pc := 33) 0 (zdg D_X11_best 17 (33, .iload_n 2, 1) rfl) rfl rfl ?_
        refine z_bind hn hf (fun q3 hq hf => ?_)
        refine z_callV (pc := 34) (rest := []) (st2 := [zI q3.1]) (fun l => c_X1_worthOf l 0 q2.1 q2.2 q3 hq) zv_X1_worthOf lm_X11_231 rfl rfl rfl rfl rfl rfl (Nat.le_of_ble_eq_true rfl) ⟨Nat.le_of_ble_eq_true rfl, Nat.le_of_ble_eq_true rfl⟩ (zdg D_X11_best 18 (34, .invokevirtual 231, 3) rfl) ?_
        exact z_iret (pc := 37) rfl rfl (zdg D_X11_best 19 (37, .ireturn, 1) rfl) (hP _ _ hf)
      · refine z_iload_n (pc := 25) 0 (zdg D_X11_best 13 (25, .iload_n 2, 1) rfl) rfl rfl ?_
        refine z_goto (pc := 26) 37 (zdg D_X11_best 14 (26, .goto 11, 3) rfl) rfl ?_
        exact z_iret (pc := 37) rfl rfl (zdg D_X11_best 19 (37, .ireturn, 1) rfl) (hP _ _ hf)
    refine z_iload_n (pc := 0) 1 (zdg D_X11_best 0 (0, .iload_n 1, 1) rfl) rfl rfl ?_
    refine z_if_eq (pc := 1) 13 (zdg D_X11_best 1 (1, .ifCond .eq 12, 3) rfl) rfl hf (fun hf => ?_) (fun hf => ?_)
    · exact t_13 σ hf
    · refine z_iload_n (pc := 4) 1 (zdg D_X11_best 2 (4, .iload_n 1, 1) rfl) rfl rfl ?_
      refine z_iconst (pc := 5) (v := 1) (zdg D_X11_best 3 (5, .iconst 1, 1) rfl) rfl ?_
      refine z_icmp_eq (pc := 6) 13 (zdg D_X11_best 4 (6, .if_icmp .eq 7, 3) rfl) rfl hf (fun hf => ?_) (fun hf => ?_)
      · exact t_13 σ hf
      · refine z_sipush (pc := 9) (v := -1000) (zdg D_X11_best 5 (9, .sipush (-1000), 3) rfl) rfl ?_
        exact z_iret (pc := 12) rfl rfl (zdg D_X11_best 6 (12, .ireturn, 1) rfl) (hP _ _ hf)

def L_X11_isSpan : List (Nat × Instr × Nat) := [(0, .iload_n 0, 1), (1, .ifCond .lt 19, 3), (4, .iload_n 0, 1), (5, .iload_n 1, 1), (6, .if_icmp .gt 14, 3), (9, .iload_n 1, 1), (10, .sipush 500, 3), (13, .if_icmp .gt 7, 3), (16, .iconst 1, 1), (17, .goto 4, 3), (20, .iconst 0, 1), (21, .ireturn, 1)]
set_option maxRecDepth 100000 in
theorem D_X11_isSpan : zdecs cX11_isSpan L_X11_isSpan = true := by decide +kernel
noncomputable def f_X11_isSpan (p1 : Int32) (p2 : Int32) : Int32 :=
  if 0 ≤ p1 then if p1 ≤ p2 then if p2 ≤ (500 : Int32) then (1 : Int32) else (0 : Int32) else (0 : Int32) else (0 : Int32)
set_option maxRecDepth 100000 in
set_option maxHeartbeats 4000000 in
theorem c_X11_isSpan (l : Launch) (p1 : Int32) (p2 : Int32) (σ : zG) : zMet l zsyC m_X11_isSpan yX11_isSpan [zI p1, zI p2] σ (some (zI (f_X11_isSpan p1 p2))) σ := by
  refine zEnter [(0, zI p1), (1, zI p2)] (by decide) rfl (fun _ => Nat.le_of_ble_eq_true rfl) (fun _ => rfl) (fun w h => ?_) (fun K hv hs => ?_)
  · exact zokm rfl h
  · have hP : ∀ x, f_X11_isSpan p1 p2 = x → zKv K = some (zI x) ∧ zKs K = σ := fun x h => by rw [h] at hv; exact ⟨hv, hs⟩
    have hf := f_X11_isSpan.eq_1 p1 p2
    refine z_iload_n (pc := 0) 0 (zdg D_X11_isSpan 0 (0, .iload_n 0, 1) rfl) rfl rfl ?_
    refine z_if_lt (pc := 1) 20 (zdg D_X11_isSpan 1 (1, .ifCond .lt 19, 3) rfl) rfl hf (fun hf => ?_) (fun hf => ?_)
    · refine z_iconst (pc := 20) (v := 0) (zdg D_X11_isSpan 10 (20, .iconst 0, 1) rfl) rfl ?_
      exact z_iret (pc := 21) rfl rfl (zdg D_X11_isSpan 11 (21, .ireturn, 1) rfl) (hP _ hf)
    · refine z_iload_n (pc := 4) 0 (zdg D_X11_isSpan 2 (4, .iload_n 0, 1) rfl) rfl rfl ?_
      refine z_iload_n (pc := 5) 1 (zdg D_X11_isSpan 3 (5, .iload_n 1, 1) rfl) rfl rfl ?_
      refine z_icmp_gt (pc := 6) 20 (zdg D_X11_isSpan 4 (6, .if_icmp .gt 14, 3) rfl) rfl hf (fun hf => ?_) (fun hf => ?_)
      · refine z_iconst (pc := 20) (v := 0) (zdg D_X11_isSpan 10 (20, .iconst 0, 1) rfl) rfl ?_
        exact z_iret (pc := 21) rfl rfl (zdg D_X11_isSpan 11 (21, .ireturn, 1) rfl) (hP _ hf)
      · refine z_iload_n (pc := 9) 1 (zdg D_X11_isSpan 5 (9, .iload_n 1, 1) rfl) rfl rfl ?_
        refine z_sipush (pc := 10) (v := 500) (zdg D_X11_isSpan 6 (10, .sipush 500, 3) rfl) rfl ?_
        refine z_icmp_gt (pc := 13) 20 (zdg D_X11_isSpan 7 (13, .if_icmp .gt 7, 3) rfl) rfl hf (fun hf => ?_) (fun hf => ?_)
        · refine z_iconst (pc := 20) (v := 0) (zdg D_X11_isSpan 10 (20, .iconst 0, 1) rfl) rfl ?_
          exact z_iret (pc := 21) rfl rfl (zdg D_X11_isSpan 11 (21, .ireturn, 1) rfl) (hP _ hf)
        · refine z_iconst (pc := 16) (v := 1) (zdg D_X11_isSpan 8 (16, .iconst 1, 1) rfl) rfl ?_
          refine z_goto (pc := 17) 21 (zdg D_X11_isSpan 9 (17, .goto 4, 3) rfl) rfl ?_
          exact z_iret (pc := 21) rfl rfl (zdg D_X11_isSpan 11 (21, .ireturn, 1) rfl) (hP _ hf)

def L_X11_steps : List (Nat × Instr × Nat) := [(0, .iload_n 1, 1), (1, .iload_n 2, 1), (2, .invokestatic 271, 3), (5, .ifCond .eq 15, 3), (8, .aload_n 0, 1), (9, .getfield 44, 3), (12, .iload_n 1, 1), (13, .iload_n 2, 1), (14, .invokevirtual 274, 3), (17, .goto 4, 3), (20, .iconst (-1), 1), (21, .ireturn, 1)]
set_option maxRecDepth 100000 in
theorem D_X11_steps : zdecs cX11_steps L_X11_steps = true := by decide +kernel
noncomputable def f_X11_steps (p1 : Int32) (p2 : Int32) (σ : zG) : Option (Int32) :=
  if (f_X11_isSpan p1 p2) = 0 then some (-1 : Int32) else (f_X9_bestStep p1 p2 σ).bind (fun q1 => some q1)
set_option maxRecDepth 100000 in
set_option maxHeartbeats 4000000 in
theorem c_X11_steps (l : Launch) (p1 : Int32) (p2 : Int32) (σ : zG) (q : Int32) (hq : f_X11_steps p1 p2 σ = some q) : zMet l zsyC m_X11_steps yX11_steps [zR 0 0, zI p1, zI p2] σ (some (zI q)) σ := by
  refine zEnter [(0, zR 0 0), (1, zI p1), (2, zI p2)] (by decide) rfl (fun _ => Nat.le_of_ble_eq_true rfl) (fun _ => rfl) (fun w h => ?_) (fun K hv hs => ?_)
  · exact zokm rfl h
  · have hP : ∀ x, f_X11_steps p1 p2 σ = some x → zKv K = some (zI x) ∧ zKs K = σ := fun x h => by rw [hq] at h; cases h; exact ⟨hv, hs⟩
    have hn : f_X11_steps p1 p2 σ ≠ none := fun z => by rw [hq] at z; cases z
    have hf := f_X11_steps.eq_1 p1 p2 σ
    refine z_iload_n (pc := 0) 1 (zdg D_X11_steps 0 (0, .iload_n 1, 1) rfl) rfl rfl ?_
    refine z_iload_n (pc := 1) 2 (zdg D_X11_steps 1 (1, .iload_n 2, 1) rfl) rfl rfl ?_
    refine z_callS (pc := 2) (rest := []) (st2 := [zI (f_X11_isSpan p1 p2)]) (fun l => c_X11_isSpan l p1 p2 σ) zs_X11_isSpan lm_X11_271 rfl rfl rfl (Nat.le_of_ble_eq_true rfl) ⟨Nat.le_of_ble_eq_true rfl, Nat.le_of_ble_eq_true rfl⟩ (zdg D_X11_steps 2 (2, .invokestatic 271, 3) rfl) ?_
    refine z_if_eq (pc := 5) 20 (zdg D_X11_steps 3 (5, .ifCond .eq 15, 3) rfl) rfl hf (fun hf => ?_) (fun hf => ?_)
    · refine z_iconst (pc := 20) (v := -1) (zdg D_X11_steps 10 (20, .iconst (-1), 1) rfl) rfl ?_
      exact z_iret (pc := 21) rfl rfl (zdg D_X11_steps 11 (21, .ireturn, 1) rfl) (hP _ hf)
    · refine z_aload_n (pc := 8) 0 (zdg D_X11_steps 4 (8, .aload_n 0, 1) rfl) rfl rfl ?_
      refine z_getR (pc := 9) (g := 5) (j := 0) lf_X11_44 rfl rfl rfl (zdg D_X11_steps 5 (9, .getfield 44, 3) rfl) ?_
      refine z_iload_n (pc := 12) 1 (zdg D_X11_steps 6 (12, .iload_n 1, 1) rfl) rfl rfl ?_
      refine z_iload_n (pc := 13) 2 (zdg D_X11_steps 7 (13, .iload_n 2, 1) rfl) rfl rfl ?_
      refine z_bind hn hf (fun q1 hq hf => ?_)
      refine z_callV (pc := 14) (rest := []) (st2 := [zI q1]) (fun l => c_X9_bestStep l p1 p2 σ q1 hq) zv_X9_bestStep lm_X11_274 rfl rfl rfl rfl rfl rfl (Nat.le_of_ble_eq_true rfl) ⟨Nat.le_of_ble_eq_true rfl, Nat.le_of_ble_eq_true rfl⟩ (zdg D_X11_steps 8 (14, .invokevirtual 274, 3) rfl) ?_
      refine z_goto (pc := 17) 21 (zdg D_X11_steps 9 (17, .goto 4, 3) rfl) rfl ?_
      exact z_iret (pc := 21) rfl rfl (zdg D_X11_steps 11 (21, .ireturn, 1) rfl) (hP _ hf)

def L_X11_laid : List (Nat × Instr × Nat) := [(0, .aload_n 0, 1), (1, .getfield 51, 3), (4, .iload_n 1, 1), (5, .invokevirtual 277, 3), (8, .ifCond .eq 14, 3), (11, .aload_n 0, 1), (12, .getfield 51, 3), (15, .iload_n 1, 1), (16, .invokevirtual 280, 3), (19, .goto 6, 3), (22, .ldc2_w 216, 3), (25, .lreturn, 1)]
set_option maxRecDepth 100000 in
theorem D_X11_laid : zdecs cX11_laid L_X11_laid = true := by decide +kernel
noncomputable def f_X11_laid (p1 : Int32) (σ : zG) : Option (Int64) :=
  if (f_X0_isSetOfShots p1 σ) = 0 then some (-1 : Int64) else (f_X0_laidBy p1 σ).bind (fun q1 => some q1)
set_option maxRecDepth 100000 in
set_option maxHeartbeats 4000000 in
theorem c_X11_laid (l : Launch) (p1 : Int32) (σ : zG) (q : Int64) (hq : f_X11_laid p1 σ = some q) : zMet l zsyC m_X11_laid yX11_laid [zR 0 0, zI p1] σ (some (zL q)) σ := by
  refine zEnter [(0, zR 0 0), (1, zI p1)] (by decide) rfl (fun _ => Nat.le_of_ble_eq_true rfl) (fun _ => rfl) (fun w h => ?_) (fun K hv hs => ?_)
  · exact zokm rfl h
  · have hP : ∀ x, f_X11_laid p1 σ = some x → zKv K = some (zL x) ∧ zKs K = σ := fun x h => by rw [hq] at h; cases h; exact ⟨hv, hs⟩
    have hn : f_X11_laid p1 σ ≠ none := fun z => by rw [hq] at z; cases z
    have hf := f_X11_laid.eq_1 p1 σ
    refine z_aload_n (pc := 0) 0 (zdg D_X11_laid 0 (0, .aload_n 0, 1) rfl) rfl rfl ?_
    refine z_getR (pc := 1) (g := 6) (j := 0) lf_X11_51 rfl rfl rfl (zdg D_X11_laid 1 (1, .getfield 51, 3) rfl) ?_
    refine z_iload_n (pc := 4) 1 (zdg D_X11_laid 2 (4, .iload_n 1, 1) rfl) rfl rfl ?_
    refine z_callV (pc := 5) (rest := []) (st2 := [zI (f_X0_isSetOfShots p1 σ)]) (fun l => c_X0_isSetOfShots l p1 σ) zv_X0_isSetOfShots lm_X11_277 rfl rfl rfl rfl rfl rfl (Nat.le_of_ble_eq_true rfl) ⟨Nat.le_of_ble_eq_true rfl, Nat.le_of_ble_eq_true rfl⟩ (zdg D_X11_laid 3 (5, .invokevirtual 277, 3) rfl) ?_
    refine z_if_eq (pc := 8) 22 (zdg D_X11_laid 4 (8, .ifCond .eq 14, 3) rfl) rfl hf (fun hf => ?_) (fun hf => ?_)
    · refine z_ldc2 (pc := 22) lc_X11_216 (zdg D_X11_laid 10 (22, .ldc2_w 216, 3) rfl) ?_
      exact z_lret (pc := 25) rfl (zdg D_X11_laid 11 (25, .lreturn, 1) rfl) (hP _ hf)
    · refine z_aload_n (pc := 11) 0 (zdg D_X11_laid 5 (11, .aload_n 0, 1) rfl) rfl rfl ?_
      refine z_getR (pc := 12) (g := 6) (j := 0) lf_X11_51 rfl rfl rfl (zdg D_X11_laid 6 (12, .getfield 51, 3) rfl) ?_
      refine z_iload_n (pc := 15) 1 (zdg D_X11_laid 7 (15, .iload_n 1, 1) rfl) rfl rfl ?_
      refine z_bind hn hf (fun q1 hq hf => ?_)
      refine z_callV (pc := 16) (rest := []) (st2 := [zL q1]) (fun l => c_X0_laidBy l p1 σ q1 hq) zv_X0_laidBy lm_X11_280 rfl rfl rfl rfl rfl rfl (Nat.le_of_ble_eq_true rfl) ⟨Nat.le_of_ble_eq_true rfl, Nat.le_of_ble_eq_true rfl⟩ (zdg D_X11_laid 8 (16, .invokevirtual 280, 3) rfl) ?_
      refine z_goto (pc := 19) 25 (zdg D_X11_laid 9 (19, .goto 6, 3) rfl) rfl ?_
      exact z_lret (pc := 25) rfl (zdg D_X11_laid 11 (25, .lreturn, 1) rfl) (hP _ hf)

def L_X11_fewest : List (Nat × Instr × Nat) := [(0, .iload_n 1, 1), (1, .ifCond .ne 14, 3), (4, .aload_n 0, 1), (5, .getfield 51, 3), (8, .invokevirtual 283, 3), (11, .invokestatic 286, 3), (14, .ireturn, 1), (15, .iload_n 1, 1), (16, .iconst 1, 1), (17, .if_icmp .ne 11, 3), (20, .aload_n 0, 1), (21, .getfield 51, 3), (24, .invokevirtual 283, 3), (27, .ireturn, 1), (28, .iload_n 1, 1), (29, .iconst 2, 1), (30, .if_icmp .ne 13, 3), (33, .aload_n 0, 1), (34, .getfield 51, 3), (37, .invokevirtual 290, 3), (40, .goto 4, 3), (43, .iconst (-1), 1), (44, .ireturn, 1)]
set_option maxRecDepth 100000 in
theorem D_X11_fewest : zdecs cX11_fewest L_X11_fewest = true := by decide +kernel
noncomputable def f_X11_fewest (p1 : Int32) (σ : zG) : Option (Int32) :=
  if p1 = 0 then (f_X0_fewestSet σ).bind (fun q3 => some (f_J6_bitCount_0f7a4 q3)) else if p1 = (1 : Int32) then (f_X0_fewestSet σ).bind (fun q2 => some q2) else if p1 = (2 : Int32) then (f_X0_greedy σ).bind (fun q1 => some q1) else some (-1 : Int32)
set_option maxRecDepth 100000 in
set_option maxHeartbeats 4000000 in
theorem c_X11_fewest (l : Launch) (p1 : Int32) (σ : zG) (q : Int32) (hq : f_X11_fewest p1 σ = some q) : zMet l zsyC m_X11_fewest yX11_fewest [zR 0 0, zI p1] σ (some (zI q)) σ := by
  refine zEnter [(0, zR 0 0), (1, zI p1)] (by decide) rfl (fun _ => Nat.le_of_ble_eq_true rfl) (fun _ => rfl) (fun w h => ?_) (fun K hv hs => ?_)
  · exact zokm rfl h
  · have hP : ∀ x, f_X11_fewest p1 σ = some x → zKv K = some (zI x) ∧ zKs K = σ := fun x h => by rw [hq] at h; cases h; exact ⟨hv, hs⟩
    have hn : f_X11_fewest p1 σ ≠ none := fun z => by rw [hq] at z; cases z
    have hf := f_X11_fewest.eq_1 p1 σ
    refine z_iload_n (pc := 0) 1 (zdg D_X11_fewest 0 (0, .iload_n 1, 1) rfl) rfl rfl ?_
    refine z_if_ne (pc := 1) 15 (zdg D_X11_fewest 1 (1, .ifCond .ne 14, 3) rfl) rfl hf (fun hf => ?_) (fun hf => ?_)
    · refine z_iload_n (pc := 15) 1 (zdg D_X11_fewest 7 (15, .iload_n 1, 1) rfl) rfl rfl ?_
      refine z_iconst (pc := 16) (v := 1) (zdg D_X11_fewest 8 (16, .iconst 1, 1) rfl) rfl ?_
      refine z_icmp_ne (pc := 17) 28 (zdg D_X11_fewest 9 (17, .if_icmp .ne 11, 3) rfl) rfl hf (fun hf => ?_) (fun hf => ?_)
      · refine z_iload_n (pc := 28) 1 (zdg D_X11_fewest 14 (28, .iload_n 1, 1) rfl) rfl rfl ?_
        refine z_iconst (pc := 29) (v := 2) (zdg D_X11_fewest 15 (29, .iconst 2, 1) rfl) rfl ?_
        refine z_icmp_ne (pc := 30) 43 (zdg D_X11_fewest 16 (30, .if_icmp .ne 13, 3) rfl) rfl hf (fun hf => ?_) (fun hf => ?_)
        · refine z_iconst (pc := 43) (v := -1) (zdg D_X11_fewest 21 (43, .iconst (-1), 1) rfl) rfl ?_
          exact z_iret (pc := 44) rfl rfl (zdg D_X11_fewest 22 (44, .ireturn, 1) rfl) (hP _ hf)
        · refine z_aload_n (pc := 33) 0 (zdg D_X11_fewest 17 (33, .aload_n 0, 1) rfl) rfl rfl ?_
          refine z_getR (pc := 34) (g := 6) (j := 0) lf_X11_51 rfl rfl rfl (zdg D_X11_fewest 18 (34, .getfield 51, 3) rfl) ?_
          refine z_bind hn hf (fun q1 hq hf => ?_)
          refine z_callV (pc := 37) (rest := []) (st2 := [zI q1]) (fun l => c_X0_greedy l σ q1 hq) zv_X0_greedy lm_X11_290 rfl rfl rfl rfl rfl rfl (Nat.le_of_ble_eq_true rfl) ⟨Nat.le_of_ble_eq_true rfl, Nat.le_of_ble_eq_true rfl⟩ (zdg D_X11_fewest 19 (37, .invokevirtual 290, 3) rfl) ?_
          refine z_goto (pc := 40) 44 (zdg D_X11_fewest 20 (40, .goto 4, 3) rfl) rfl ?_
          exact z_iret (pc := 44) rfl rfl (zdg D_X11_fewest 22 (44, .ireturn, 1) rfl) (hP _ hf)
      · refine z_aload_n (pc := 20) 0 (zdg D_X11_fewest 10 (20, .aload_n 0, 1) rfl) rfl rfl ?_
        refine z_getR (pc := 21) (g := 6) (j := 0) lf_X11_51 rfl rfl rfl (zdg D_X11_fewest 11 (21, .getfield 51, 3) rfl) ?_
        refine z_bind hn hf (fun q2 hq hf => ?_)
        refine z_callV (pc := 24) (rest := []) (st2 := [zI q2]) (fun l => c_X0_fewestSet l σ q2 hq) zv_X0_fewestSet lm_X11_283 rfl rfl rfl rfl rfl rfl (Nat.le_of_ble_eq_true rfl) ⟨Nat.le_of_ble_eq_true rfl, Nat.le_of_ble_eq_true rfl⟩ (zdg D_X11_fewest 12 (24, .invokevirtual 283, 3) rfl) ?_
        exact z_iret (pc := 27) rfl rfl (zdg D_X11_fewest 13 (27, .ireturn, 1) rfl) (hP _ hf)
    · refine z_aload_n (pc := 4) 0 (zdg D_X11_fewest 2 (4, .aload_n 0, 1) rfl) rfl rfl ?_
      refine z_getR (pc := 5) (g := 6) (j := 0) lf_X11_51 rfl rfl rfl (zdg D_X11_fewest 3 (5, .getfield 51, 3) rfl) ?_
      refine z_bind hn hf (fun q3 hq hf => ?_)
      refine z_callV (pc := 8) (rest := []) (st2 := [zI q3]) (fun l => c_X0_fewestSet l σ q3 hq) zv_X0_fewestSet lm_X11_283 rfl rfl rfl rfl rfl rfl (Nat.le_of_ble_eq_true rfl) ⟨Nat.le_of_ble_eq_true rfl, Nat.le_of_ble_eq_true rfl⟩ (zdg D_X11_fewest 4 (8, .invokevirtual 283, 3) rfl) ?_
      refine z_callS (pc := 11) (rest := []) (st2 := [zI (f_J6_bitCount_0f7a4 q3)]) (fun l => c_J6_bitCount_0f7a4 l zsyC q3 σ) zs_J6_bitCount_0f7a4 lm_X11_286 rfl rfl rfl (Nat.le_of_ble_eq_true rfl) ⟨Nat.le_of_ble_eq_true rfl, Nat.le_of_ble_eq_true rfl⟩ (zdg D_X11_fewest 5 (11, .invokestatic 286, 3) rfl) ?_
      exact z_iret (pc := 14) rfl rfl (zdg D_X11_fewest 6 (14, .ireturn, 1) rfl) (hP _ hf)

def L_X11_never : List (Nat × Instr × Nat) := [(0, .iload_n 1, 1), (1, .iload_n 2, 1), (2, .invokestatic 271, 3), (5, .ifCond .eq 15, 3), (8, .aload_n 0, 1), (9, .getfield 44, 3), (12, .iload_n 1, 1), (13, .iload_n 2, 1), (14, .invokevirtual 293, 3), (17, .goto 6, 3), (20, .ldc2_w 216, 3), (23, .lreturn, 1)]
set_option maxRecDepth 100000 in
theorem D_X11_never : zdecs cX11_never L_X11_never = true := by decide +kernel
noncomputable def f_X11_never (p1 : Int32) (p2 : Int32) (σ : zG) : Option (Int64) :=
  if (f_X11_isSpan p1 p2) = 0 then some (-1 : Int64) else (f_X9_neverClear p1 p2 σ).bind (fun q1 => some q1)
set_option maxRecDepth 100000 in
set_option maxHeartbeats 4000000 in
theorem c_X11_never (l : Launch) (p1 : Int32) (p2 : Int32) (σ : zG) (q : Int64) (hq : f_X11_never p1 p2 σ = some q) : zMet l zsyC m_X11_never yX11_never [zR 0 0, zI p1, zI p2] σ (some (zL q)) σ := by
  refine zEnter [(0, zR 0 0), (1, zI p1), (2, zI p2)] (by decide) rfl (fun _ => Nat.le_of_ble_eq_true rfl) (fun _ => rfl) (fun w h => ?_) (fun K hv hs => ?_)
  · exact zokm rfl h
  · have hP : ∀ x, f_X11_never p1 p2 σ = some x → zKv K = some (zL x) ∧ zKs K = σ := fun x h => by rw [hq] at h; cases h; exact ⟨hv, hs⟩
    have hn : f_X11_never p1 p2 σ ≠ none := fun z => by rw [hq] at z; cases z
    have hf := f_X11_never.eq_1 p1 p2 σ
    refine z_iload_n (pc := 0) 1 (zdg D_X11_never 0 (0, .iload_n 1, 1) rfl) rfl rfl ?_
    refine z_iload_n (pc := 1) 2 (zdg D_X11_never 1 (1, .iload_n 2, 1) rfl) rfl rfl ?_
    refine z_callS (pc := 2) (rest := []) (st2 := [zI (f_X11_isSpan p1 p2)]) (fun l => c_X11_isSpan l p1 p2 σ) zs_X11_isSpan lm_X11_271 rfl rfl rfl (Nat.le_of_ble_eq_true rfl) ⟨Nat.le_of_ble_eq_true rfl, Nat.le_of_ble_eq_true rfl⟩ (zdg D_X11_never 2 (2, .invokestatic 271, 3) rfl) ?_
    refine z_if_eq (pc := 5) 20 (zdg D_X11_never 3 (5, .ifCond .eq 15, 3) rfl) rfl hf (fun hf => ?_) (fun hf => ?_)
    · refine z_ldc2 (pc := 20) lc_X11_216 (zdg D_X11_never 10 (20, .ldc2_w 216, 3) rfl) ?_
      exact z_lret (pc := 23) rfl (zdg D_X11_never 11 (23, .lreturn, 1) rfl) (hP _ hf)
    · refine z_aload_n (pc := 8) 0 (zdg D_X11_never 4 (8, .aload_n 0, 1) rfl) rfl rfl ?_
      refine z_getR (pc := 9) (g := 5) (j := 0) lf_X11_44 rfl rfl rfl (zdg D_X11_never 5 (9, .getfield 44, 3) rfl) ?_
      refine z_iload_n (pc := 12) 1 (zdg D_X11_never 6 (12, .iload_n 1, 1) rfl) rfl rfl ?_
      refine z_iload_n (pc := 13) 2 (zdg D_X11_never 7 (13, .iload_n 2, 1) rfl) rfl rfl ?_
      refine z_bind hn hf (fun q1 hq hf => ?_)
      refine z_callV (pc := 14) (rest := []) (st2 := [zL q1]) (fun l => c_X9_neverClear l p1 p2 σ q1 hq) zv_X9_neverClear lm_X11_293 rfl rfl rfl rfl rfl rfl (Nat.le_of_ble_eq_true rfl) ⟨Nat.le_of_ble_eq_true rfl, Nat.le_of_ble_eq_true rfl⟩ (zdg D_X11_never 8 (14, .invokevirtual 293, 3) rfl) ?_
      refine z_goto (pc := 17) 23 (zdg D_X11_never 9 (17, .goto 6, 3) rfl) rfl ?_
      exact z_lret (pc := 23) rfl (zdg D_X11_never 11 (23, .lreturn, 1) rfl) (hP _ hf)

def L_X11_most : List (Nat × Instr × Nat) := [(0, .aload_n 0, 1), (1, .getfield 51, 3), (4, .iload_n 1, 1), (5, .invokevirtual 277, 3), (8, .ifCond .eq 14, 3), (11, .aload_n 0, 1), (12, .getfield 51, 3), (15, .iload_n 1, 1), (16, .invokevirtual 297, 3), (19, .goto 6, 3), (22, .ldc2_w 216, 3), (25, .lreturn, 1)]
set_option maxRecDepth 100000 in
theorem D_X11_most : zdecs cX11_most L_X11_most = true := by decide +kernel
noncomputable def f_X11_most (p1 : Int32) (σ : zG) : Option (Int64) :=
  if (f_X0_isSetOfShots p1 σ) = 0 then some (-1 : Int64) else (f_X0_mostlyClear p1 σ).bind (fun q1 => some q1)
set_option maxRecDepth 100000 in
set_option maxHeartbeats 4000000 in
theorem c_X11_most (l : Launch) (p1 : Int32) (σ : zG) (q : Int64) (hq : f_X11_most p1 σ = some q) : zMet l zsyC m_X11_most yX11_most [zR 0 0, zI p1] σ (some (zL q)) σ := by
  refine zEnter [(0, zR 0 0), (1, zI p1)] (by decide) rfl (fun _ => Nat.le_of_ble_eq_true rfl) (fun _ => rfl) (fun w h => ?_) (fun K hv hs => ?_)
  · exact zokm rfl h
  · have hP : ∀ x, f_X11_most p1 σ = some x → zKv K = some (zL x) ∧ zKs K = σ := fun x h => by rw [hq] at h; cases h; exact ⟨hv, hs⟩
    have hn : f_X11_most p1 σ ≠ none := fun z => by rw [hq] at z; cases z
    have hf := f_X11_most.eq_1 p1 σ
    refine z_aload_n (pc := 0) 0 (zdg D_X11_most 0 (0, .aload_n 0, 1) rfl) rfl rfl ?_
    refine z_getR (pc := 1) (g := 6) (j := 0) lf_X11_51 rfl rfl rfl (zdg D_X11_most 1 (1, .getfield 51, 3) rfl) ?_
    refine z_iload_n (pc := 4) 1 (zdg D_X11_most 2 (4, .iload_n 1, 1) rfl) rfl rfl ?_
    refine z_callV (pc := 5) (rest := []) (st2 := [zI (f_X0_isSetOfShots p1 σ)]) (fun l => c_X0_isSetOfShots l p1 σ) zv_X0_isSetOfShots lm_X11_277 rfl rfl rfl rfl rfl rfl (Nat.le_of_ble_eq_true rfl) ⟨Nat.le_of_ble_eq_true rfl, Nat.le_of_ble_eq_true rfl⟩ (zdg D_X11_most 3 (5, .invokevirtual 277, 3) rfl) ?_
    refine z_if_eq (pc := 8) 22 (zdg D_X11_most 4 (8, .ifCond .eq 14, 3) rfl) rfl hf (fun hf => ?_) (fun hf => ?_)
    · refine z_ldc2 (pc := 22) lc_X11_216 (zdg D_X11_most 10 (22, .ldc2_w 216, 3) rfl) ?_
      exact z_lret (pc := 25) rfl (zdg D_X11_most 11 (25, .lreturn, 1) rfl) (hP _ hf)
    · refine z_aload_n (pc := 11) 0 (zdg D_X11_most 5 (11, .aload_n 0, 1) rfl) rfl rfl ?_
      refine z_getR (pc := 12) (g := 6) (j := 0) lf_X11_51 rfl rfl rfl (zdg D_X11_most 6 (12, .getfield 51, 3) rfl) ?_
      refine z_iload_n (pc := 15) 1 (zdg D_X11_most 7 (15, .iload_n 1, 1) rfl) rfl rfl ?_
      refine z_bind hn hf (fun q1 hq hf => ?_)
      refine z_callV (pc := 16) (rest := []) (st2 := [zL q1]) (fun l => c_X0_mostlyClear l p1 σ q1 hq) zv_X0_mostlyClear lm_X11_297 rfl rfl rfl rfl rfl rfl (Nat.le_of_ble_eq_true rfl) ⟨Nat.le_of_ble_eq_true rfl, Nat.le_of_ble_eq_true rfl⟩ (zdg D_X11_most 8 (16, .invokevirtual 297, 3) rfl) ?_
      refine z_goto (pc := 19) 25 (zdg D_X11_most 9 (19, .goto 6, 3) rfl) rfl ?_
      exact z_lret (pc := 25) rfl (zdg D_X11_most 11 (25, .lreturn, 1) rfl) (hP _ hf)

def L_X11_middle : List (Nat × Instr × Nat) := [(0, .aload_n 0, 1), (1, .getfield 51, 3), (4, .iload_n 1, 1), (5, .invokevirtual 277, 3), (8, .ifCond .eq 14, 3), (11, .aload_n 0, 1), (12, .getfield 12, 3), (15, .iload_n 2, 1), (16, .invokevirtual 218, 3), (19, .ifCond .ne 5, 3), (22, .iconst (-1), 1), (23, .ireturn, 1), (24, .aload_n 0, 1), (25, .getfield 51, 3), (28, .iload_n 1, 1), (29, .iload_n 2, 1), (30, .invokevirtual 300, 3), (33, .ireturn, 1)]
set_option maxRecDepth 100000 in
theorem D_X11_middle : zdecs cX11_middle L_X11_middle = true := by decide +kernel
noncomputable def f_X11_middle (p1 : Int32) (p2 : Int32) (σ : zG) : Option (Int32) :=
  if (f_X0_isSetOfShots p1 σ) = 0 then some (-1 : Int32) else if (f_X1_isSpot 0 p2 σ) = 0 then some (-1 : Int32) else (f_X0_middleTone p1 p2 σ).bind (fun q1 => some q1)
set_option maxRecDepth 100000 in
set_option maxHeartbeats 4000000 in
theorem c_X11_middle (l : Launch) (p1 : Int32) (p2 : Int32) (σ : zG) (q : Int32) (hq : f_X11_middle p1 p2 σ = some q) : zMet l zsyC m_X11_middle yX11_middle [zR 0 0, zI p1, zI p2] σ (some (zI q)) σ := by
  refine zEnter [(0, zR 0 0), (1, zI p1), (2, zI p2)] (by decide) rfl (fun _ => Nat.le_of_ble_eq_true rfl) (fun _ => rfl) (fun w h => ?_) (fun K hv hs => ?_)
  · exact zokm rfl h
  · have hP : ∀ x, f_X11_middle p1 p2 σ = some x → zKv K = some (zI x) ∧ zKs K = σ := fun x h => by rw [hq] at h; cases h; exact ⟨hv, hs⟩
    have hn : f_X11_middle p1 p2 σ ≠ none := fun z => by rw [hq] at z; cases z
    have hf := f_X11_middle.eq_1 p1 p2 σ
    refine z_aload_n (pc := 0) 0 (zdg D_X11_middle 0 (0, .aload_n 0, 1) rfl) rfl rfl ?_
    refine z_getR (pc := 1) (g := 6) (j := 0) lf_X11_51 rfl rfl rfl (zdg D_X11_middle 1 (1, .getfield 51, 3) rfl) ?_
    refine z_iload_n (pc := 4) 1 (zdg D_X11_middle 2 (4, .iload_n 1, 1) rfl) rfl rfl ?_
    refine z_callV (pc := 5) (rest := []) (st2 := [zI (f_X0_isSetOfShots p1 σ)]) (fun l => c_X0_isSetOfShots l p1 σ) zv_X0_isSetOfShots lm_X11_277 rfl rfl rfl rfl rfl rfl (Nat.le_of_ble_eq_true rfl) ⟨Nat.le_of_ble_eq_true rfl, Nat.le_of_ble_eq_true rfl⟩ (zdg D_X11_middle 3 (5, .invokevirtual 277, 3) rfl) ?_
    refine z_if_eq (pc := 8) 22 (zdg D_X11_middle 4 (8, .ifCond .eq 14, 3) rfl) rfl hf (fun hf => ?_) (fun hf => ?_)
    · refine z_iconst (pc := 22) (v := -1) (zdg D_X11_middle 10 (22, .iconst (-1), 1) rfl) rfl ?_
      exact z_iret (pc := 23) rfl rfl (zdg D_X11_middle 11 (23, .ireturn, 1) rfl) (hP _ hf)
    · refine z_aload_n (pc := 11) 0 (zdg D_X11_middle 5 (11, .aload_n 0, 1) rfl) rfl rfl ?_
      refine z_getR (pc := 12) (g := 1) (j := 0) lf_X11_12 rfl rfl rfl (zdg D_X11_middle 6 (12, .getfield 12, 3) rfl) ?_
      refine z_iload_n (pc := 15) 2 (zdg D_X11_middle 7 (15, .iload_n 2, 1) rfl) rfl rfl ?_
      refine z_callV (pc := 16) (rest := []) (st2 := [zI (f_X1_isSpot 0 p2 σ)]) (fun l => c_X1_isSpot l 0 p2 σ) zv_X1_isSpot lm_X11_218 rfl rfl rfl rfl rfl rfl (Nat.le_of_ble_eq_true rfl) ⟨Nat.le_of_ble_eq_true rfl, Nat.le_of_ble_eq_true rfl⟩ (zdg D_X11_middle 8 (16, .invokevirtual 218, 3) rfl) ?_
      refine z_if_ne (pc := 19) 24 (zdg D_X11_middle 9 (19, .ifCond .ne 5, 3) rfl) rfl hf (fun hf => ?_) (fun hf => ?_)
      · refine z_aload_n (pc := 24) 0 (zdg D_X11_middle 12 (24, .aload_n 0, 1) rfl) rfl rfl ?_
        refine z_getR (pc := 25) (g := 6) (j := 0) lf_X11_51 rfl rfl rfl (zdg D_X11_middle 13 (25, .getfield 51, 3) rfl) ?_
        refine z_iload_n (pc := 28) 1 (zdg D_X11_middle 14 (28, .iload_n 1, 1) rfl) rfl rfl ?_
        refine z_iload_n (pc := 29) 2 (zdg D_X11_middle 15 (29, .iload_n 2, 1) rfl) rfl rfl ?_
        refine z_bind hn hf (fun q1 hq hf => ?_)
        refine z_callV (pc := 30) (rest := []) (st2 := [zI q1]) (fun l => c_X0_middleTone l p1 p2 σ q1 hq) zv_X0_middleTone lm_X11_300 rfl rfl rfl rfl rfl rfl (Nat.le_of_ble_eq_true rfl) ⟨Nat.le_of_ble_eq_true rfl, Nat.le_of_ble_eq_true rfl⟩ (zdg D_X11_middle 16 (30, .invokevirtual 300, 3) rfl) ?_
        exact z_iret (pc := 33) rfl rfl (zdg D_X11_middle 17 (33, .ireturn, 1) rfl) (hP _ hf)
      · refine z_iconst (pc := 22) (v := -1) (zdg D_X11_middle 10 (22, .iconst (-1), 1) rfl) rfl ?_
        exact z_iret (pc := 23) rfl rfl (zdg D_X11_middle 11 (23, .ireturn, 1) rfl) (hP _ hf)

def L_X11_sure : List (Nat × Instr × Nat) := [(0, .aload_n 0, 1), (1, .getfield 51, 3), (4, .iload_n 1, 1), (5, .invokevirtual 277, 3), (8, .ifCond .eq 14, 3), (11, .iload_n 2, 1), (12, .iconst 1, 1), (13, .if_icmp .lt 9, 3), (16, .iload_n 2, 1), (17, .bipush 10, 2), (19, .if_icmp .le 7, 3), (22, .ldc2_w 216, 3), (25, .lreturn, 1), (26, .aload_n 0, 1), (27, .getfield 51, 3), (30, .iload_n 1, 1), (31, .iload_n 2, 1), (32, .invokevirtual 303, 3), (35, .lreturn, 1)]
set_option maxRecDepth 100000 in
theorem D_X11_sure : zdecs cX11_sure L_X11_sure = true := by decide +kernel
noncomputable def f_X11_sure (p1 : Int32) (p2 : Int32) (σ : zG) : Option (Int64) :=
  if (f_X0_isSetOfShots p1 σ) = 0 then some (-1 : Int64) else if (1 : Int32) ≤ p2 then if (10 : Int32) < p2 then some (-1 : Int64) else (f_X0_surelyKnown p1 p2 σ).bind (fun q1 => some q1) else some (-1 : Int64)
set_option maxRecDepth 100000 in
set_option maxHeartbeats 4000000 in
theorem c_X11_sure (l : Launch) (p1 : Int32) (p2 : Int32) (σ : zG) (q : Int64) (hq : f_X11_sure p1 p2 σ = some q) : zMet l zsyC m_X11_sure yX11_sure [zR 0 0, zI p1, zI p2] σ (some (zL q)) σ := by
  refine zEnter [(0, zR 0 0), (1, zI p1), (2, zI p2)] (by decide) rfl (fun _ => Nat.le_of_ble_eq_true rfl) (fun _ => rfl) (fun w h => ?_) (fun K hv hs => ?_)
  · exact zokm rfl h
  · have hP : ∀ x, f_X11_sure p1 p2 σ = some x → zKv K = some (zL x) ∧ zKs K = σ := fun x h => by rw [hq] at h; cases h; exact ⟨hv, hs⟩
    have hn : f_X11_sure p1 p2 σ ≠ none := fun z => by rw [hq] at z; cases z
    have hf := f_X11_sure.eq_1 p1 p2 σ
    refine z_aload_n (pc := 0) 0 (zdg D_X11_sure 0 (0, .aload_n 0, 1) rfl) rfl rfl ?_
    refine z_getR (pc := 1) (g := 6) (j := 0) lf_X11_51 rfl rfl rfl (zdg D_X11_sure 1 (1, .getfield 51, 3) rfl) ?_
    refine z_iload_n (pc := 4) 1 (zdg D_X11_sure 2 (4, .iload_n 1, 1) rfl) rfl rfl ?_
    refine z_callV (pc := 5) (rest := []) (st2 := [zI (f_X0_isSetOfShots p1 σ)]) (fun l => c_X0_isSetOfShots l p1 σ) zv_X0_isSetOfShots lm_X11_277 rfl rfl rfl rfl rfl rfl (Nat.le_of_ble_eq_true rfl) ⟨Nat.le_of_ble_eq_true rfl, Nat.le_of_ble_eq_true rfl⟩ (zdg D_X11_sure 3 (5, .invokevirtual 277, 3) rfl) ?_
    refine z_if_eq (pc := 8) 22 (zdg D_X11_sure 4 (8, .ifCond .eq 14, 3) rfl) rfl hf (fun hf => ?_) (fun hf => ?_)
    · refine z_ldc2 (pc := 22) lc_X11_216 (zdg D_X11_sure 11 (22, .ldc2_w 216, 3) rfl) ?_
      exact z_lret (pc := 25) rfl (zdg D_X11_sure 12 (25, .lreturn, 1) rfl) (hP _ hf)
    · refine z_iload_n (pc := 11) 2 (zdg D_X11_sure 5 (11, .iload_n 2, 1) rfl) rfl rfl ?_
      refine z_iconst (pc := 12) (v := 1) (zdg D_X11_sure 6 (12, .iconst 1, 1) rfl) rfl ?_
      refine z_icmp_lt (pc := 13) 22 (zdg D_X11_sure 7 (13, .if_icmp .lt 9, 3) rfl) rfl hf (fun hf => ?_) (fun hf => ?_)
      · refine z_ldc2 (pc := 22) lc_X11_216 (zdg D_X11_sure 11 (22, .ldc2_w 216, 3) rfl) ?_
        exact z_lret (pc := 25) rfl (zdg D_X11_sure 12 (25, .lreturn, 1) rfl) (hP _ hf)
      · refine z_iload_n (pc := 16) 2 (zdg D_X11_sure 8 (16, .iload_n 2, 1) rfl) rfl rfl ?_
        refine z_bipush (pc := 17) (v := 10) (zdg D_X11_sure 9 (17, .bipush 10, 2) rfl) rfl ?_
        refine z_icmp_le (pc := 19) 26 (zdg D_X11_sure 10 (19, .if_icmp .le 7, 3) rfl) rfl hf (fun hf => ?_) (fun hf => ?_)
        · refine z_aload_n (pc := 26) 0 (zdg D_X11_sure 13 (26, .aload_n 0, 1) rfl) rfl rfl ?_
          refine z_getR (pc := 27) (g := 6) (j := 0) lf_X11_51 rfl rfl rfl (zdg D_X11_sure 14 (27, .getfield 51, 3) rfl) ?_
          refine z_iload_n (pc := 30) 1 (zdg D_X11_sure 15 (30, .iload_n 1, 1) rfl) rfl rfl ?_
          refine z_iload_n (pc := 31) 2 (zdg D_X11_sure 16 (31, .iload_n 2, 1) rfl) rfl rfl ?_
          refine z_bind hn hf (fun q1 hq hf => ?_)
          refine z_callV (pc := 32) (rest := []) (st2 := [zL q1]) (fun l => c_X0_surelyKnown l p1 p2 σ q1 hq) zv_X0_surelyKnown lm_X11_303 rfl rfl rfl rfl rfl rfl (Nat.le_of_ble_eq_true rfl) ⟨Nat.le_of_ble_eq_true rfl, Nat.le_of_ble_eq_true rfl⟩ (zdg D_X11_sure 17 (32, .invokevirtual 303, 3) rfl) ?_
          exact z_lret (pc := 35) rfl (zdg D_X11_sure 18 (35, .lreturn, 1) rfl) (hP _ hf)
        · refine z_ldc2 (pc := 22) lc_X11_216 (zdg D_X11_sure 11 (22, .ldc2_w 216, 3) rfl) ?_
          exact z_lret (pc := 25) rfl (zdg D_X11_sure 12 (25, .lreturn, 1) rfl) (hP _ hf)

def L_X11_exposed : List (Nat × Instr × Nat) := [(0, .iload_n 1, 1), (1, .iload_n 2, 1), (2, .invokestatic 271, 3), (5, .ifCond .eq 14, 3), (8, .aload_n 0, 1), (9, .getfield 12, 3), (12, .iload_n 3, 1), (13, .invokevirtual 218, 3), (16, .ifCond .ne 5, 3), (19, .iconst (-1), 1), (20, .ireturn, 1), (21, .iload 4, 2), (23, .ifCond .ne 14, 3), (26, .aload_n 0, 1), (27, .getfield 44, 3), (30, .iload_n 1, 1), (31, .iload_n 2, 1), (32, .iload_n 3, 1), (33, .invokevirtual 306, 3), (36, .ireturn, 1), (37, .iload 4, 2), (39, .iconst 1, 1), (40, .if_icmp .ne 16, 3), (43, .aload_n 0, 1), (44, .getfield 44, 3), (47, .iload_n 1, 1), (48, .iload_n 2, 1), (49, .iload_n 3, 1), (50, .invokevirtual 310, 3), (53, .goto 4, 3), (56, .iconst (-1), 1), (57, .ireturn, 1)]
set_option maxRecDepth 100000 in
theorem D_X11_exposed : zdecs cX11_exposed L_X11_exposed = true := by decide +kernel
noncomputable def f_X11_exposed (p1 : Int32) (p2 : Int32) (p3 : Int32) (p4 : Int32) (σ : zG) : Option (Int32 × zG) :=
  if (f_X11_isSpan p1 p2) = 0 then some ((-1 : Int32), σ) else if (f_X1_isSpot 0 p3 σ) = 0 then some ((-1 : Int32), σ) else if p4 = 0 then (f_X9_minutesCovered p1 p2 p3 σ).bind (fun q2 => some (q2, σ)) else if p4 = (1 : Int32) then (f_X9_meanTone p1 p2 p3 σ).bind (fun q1 => some (q1.1, q1.2)) else some ((-1 : Int32), σ)
set_option maxRecDepth 100000 in
set_option maxHeartbeats 4000000 in
theorem c_X11_exposed (l : Launch) (p1 : Int32) (p2 : Int32) (p3 : Int32) (p4 : Int32) (σ : zG) (q : Int32 × zG) (hq : f_X11_exposed p1 p2 p3 p4 σ = some q) : zMet l zsyC m_X11_exposed yX11_exposed [zR 0 0, zI p1, zI p2, zI p3, zI p4] σ (some (zI q.1)) q.2 := by
  refine zEnter [(0, zR 0 0), (1, zI p1), (2, zI p2), (3, zI p3), (4, zI p4)] (by decide) rfl (fun _ => Nat.le_of_ble_eq_true rfl) (fun _ => rfl) (fun w h => ?_) (fun K hv hs => ?_)
  · exact zokm rfl h
  · have hP : ∀ x s, f_X11_exposed p1 p2 p3 p4 σ = some (x, s) → zKv K = some (zI x) ∧ zKs K = s := fun x s h => by rw [hq] at h; cases h; exact ⟨hv, hs⟩
    have hn : f_X11_exposed p1 p2 p3 p4 σ ≠ none := fun z => by rw [hq] at z; cases z
    have hf := f_X11_exposed.eq_1 p1 p2 p3 p4 σ
    refine z_iload_n (pc := 0) 1 (zdg D_X11_exposed 0 (0, .iload_n 1, 1) rfl) rfl rfl ?_
    refine z_iload_n (pc := 1) 2 (zdg D_X11_exposed 1 (1, .iload_n 2, 1) rfl) rfl rfl ?_
    refine z_callS (pc := 2) (rest := []) (st2 := [zI (f_X11_isSpan p1 p2)]) (fun l => c_X11_isSpan l p1 p2 σ) zs_X11_isSpan lm_X11_271 rfl rfl rfl (Nat.le_of_ble_eq_true rfl) ⟨Nat.le_of_ble_eq_true rfl, Nat.le_of_ble_eq_true rfl⟩ (zdg D_X11_exposed 2 (2, .invokestatic 271, 3) rfl) ?_
    refine z_if_eq (pc := 5) 19 (zdg D_X11_exposed 3 (5, .ifCond .eq 14, 3) rfl) rfl hf (fun hf => ?_) (fun hf => ?_)
    · refine z_iconst (pc := 19) (v := -1) (zdg D_X11_exposed 9 (19, .iconst (-1), 1) rfl) rfl ?_
      exact z_iret (pc := 20) rfl rfl (zdg D_X11_exposed 10 (20, .ireturn, 1) rfl) (hP _ _ hf)
    · refine z_aload_n (pc := 8) 0 (zdg D_X11_exposed 4 (8, .aload_n 0, 1) rfl) rfl rfl ?_
      refine z_getR (pc := 9) (g := 1) (j := 0) lf_X11_12 rfl rfl rfl (zdg D_X11_exposed 5 (9, .getfield 12, 3) rfl) ?_
      refine z_iload_n (pc := 12) 3 (zdg D_X11_exposed 6 (12, .iload_n 3, 1) rfl) rfl rfl ?_
      refine z_callV (pc := 13) (rest := []) (st2 := [zI (f_X1_isSpot 0 p3 σ)]) (fun l => c_X1_isSpot l 0 p3 σ) zv_X1_isSpot lm_X11_218 rfl rfl rfl rfl rfl rfl (Nat.le_of_ble_eq_true rfl) ⟨Nat.le_of_ble_eq_true rfl, Nat.le_of_ble_eq_true rfl⟩ (zdg D_X11_exposed 7 (13, .invokevirtual 218, 3) rfl) ?_
      refine z_if_ne (pc := 16) 21 (zdg D_X11_exposed 8 (16, .ifCond .ne 5, 3) rfl) rfl hf (fun hf => ?_) (fun hf => ?_)
      · refine z_iload (pc := 21) 4 (zdg D_X11_exposed 11 (21, .iload 4, 2) rfl) rfl ?_
        refine z_if_ne (pc := 23) 37 (zdg D_X11_exposed 12 (23, .ifCond .ne 14, 3) rfl) rfl hf (fun hf => ?_) (fun hf => ?_)
        · refine z_iload (pc := 37) 4 (zdg D_X11_exposed 20 (37, .iload 4, 2) rfl) rfl ?_
          refine z_iconst (pc := 39) (v := 1) (zdg D_X11_exposed 21 (39, .iconst 1, 1) rfl) rfl ?_
          refine z_icmp_ne (pc := 40) 56 (zdg D_X11_exposed 22 (40, .if_icmp .ne 16, 3) rfl) rfl hf (fun hf => ?_) (fun hf => ?_)
          · refine z_iconst (pc := 56) (v := -1) (zdg D_X11_exposed 30 (56, .iconst (-1), 1) rfl) rfl ?_
            exact z_iret (pc := 57) rfl rfl (zdg D_X11_exposed 31 (57, .ireturn, 1) rfl) (hP _ _ hf)
          · refine z_aload_n (pc := 43) 0 (zdg D_X11_exposed 23 (43, .aload_n 0, 1) rfl) rfl rfl ?_
            refine z_getR (pc := 44) (g := 5) (j := 0) lf_X11_44 rfl rfl rfl (zdg D_X11_exposed 24 (44, .getfield 44, 3) rfl) ?_
            refine z_iload_n (pc := 47) 1 (zdg D_X11_exposed 25 (47, .iload_n 1, 1) rfl) rfl rfl ?_
            refine z_iload_n (pc := 48) 2 (zdg D_X11_exposed 26 (48, .iload_n 2, 1) rfl) rfl rfl ?_
            refine z_iload_n (pc := 49) 3 (zdg D_X11_exposed 27 (49, .iload_n 3, 1) rfl) rfl rfl ?_
            refine z_bind hn hf (fun q1 hq hf => ?_)
            refine z_callV (pc := 50) (rest := []) (st2 := [zI q1.1]) (fun l => c_X9_meanTone l p1 p2 p3 σ q1 hq) zv_X9_meanTone lm_X11_310 rfl rfl rfl rfl rfl rfl (Nat.le_of_ble_eq_true rfl) ⟨Nat.le_of_ble_eq_true rfl, Nat.le_of_ble_eq_true rfl⟩ (zdg D_X11_exposed 28 (50, .invokevirtual 310, 3) rfl) ?_
            refine z_goto (pc := 53) 57 (zdg D_X11_exposed 29 (53, .goto 4, 3) rfl) rfl ?_
            exact z_iret (pc := 57) rfl rfl (zdg D_X11_exposed 31 (57, .ireturn, 1) rfl) (hP _ _ hf)
        · refine z_aload_n (pc := 26) 0 (zdg D_X11_exposed 13 (26, .aload_n 0, 1) rfl) rfl rfl ?_
          refine z_getR (pc := 27) (g := 5) (j := 0) lf_X11_44 rfl rfl rfl (zdg D_X11_exposed 14 (27, .getfield 44, 3) rfl) ?_
          refine z_iload_n (pc := 30) 1 (zdg D_X11_exposed 15 (30, .iload_n 1, 1) rfl) rfl rfl ?_
          refine z_iload_n (pc := 31) 2 (zdg D_X11_exposed 16 (31, .iload_n 2, 1) rfl) rfl rfl ?_
          refine z_iload_n (pc := 32) 3 (zdg D_X11_exposed 17 (32, .iload_n 3, 1) rfl) rfl rfl ?_
          refine z_bind hn hf (fun q2 hq hf => ?_)
          refine z_callV (pc := 33) (rest := []) (st2 := [zI q2]) (fun l => c_X9_minutesCovered l p1 p2 p3 σ q2 hq) zv_X9_minutesCovered lm_X11_306 rfl rfl rfl rfl rfl rfl (Nat.le_of_ble_eq_true rfl) ⟨Nat.le_of_ble_eq_true rfl, Nat.le_of_ble_eq_true rfl⟩ (zdg D_X11_exposed 18 (33, .invokevirtual 306, 3) rfl) ?_
          exact z_iret (pc := 36) rfl rfl (zdg D_X11_exposed 19 (36, .ireturn, 1) rfl) (hP _ _ hf)
      · refine z_iconst (pc := 19) (v := -1) (zdg D_X11_exposed 9 (19, .iconst (-1), 1) rfl) rfl ?_
        exact z_iret (pc := 20) rfl rfl (zdg D_X11_exposed 10 (20, .ireturn, 1) rfl) (hP _ _ hf)

def L_X11_ghosts : List (Nat × Instr × Nat) := [(0, .iload_n 1, 1), (1, .iload_n 2, 1), (2, .invokestatic 271, 3), (5, .ifCond .eq 15, 3), (8, .aload_n 0, 1), (9, .getfield 44, 3), (12, .iload_n 1, 1), (13, .iload_n 2, 1), (14, .invokevirtual 313, 3), (17, .goto 6, 3), (20, .ldc2_w 216, 3), (23, .lreturn, 1)]
set_option maxRecDepth 100000 in
theorem D_X11_ghosts : zdecs cX11_ghosts L_X11_ghosts = true := by decide +kernel
noncomputable def f_X11_ghosts (p1 : Int32) (p2 : Int32) (σ : zG) : Option (Int64 × zG) :=
  if (f_X11_isSpan p1 p2) = 0 then some ((-1 : Int64), σ) else (f_X9_ghostSpots p1 p2 σ).bind (fun q1 => some (q1.1, q1.2))
set_option maxRecDepth 100000 in
set_option maxHeartbeats 4000000 in
theorem c_X11_ghosts (l : Launch) (p1 : Int32) (p2 : Int32) (σ : zG) (q : Int64 × zG) (hq : f_X11_ghosts p1 p2 σ = some q) : zMet l zsyC m_X11_ghosts yX11_ghosts [zR 0 0, zI p1, zI p2] σ (some (zL q.1)) q.2 := by
  refine zEnter [(0, zR 0 0), (1, zI p1), (2, zI p2)] (by decide) rfl (fun _ => Nat.le_of_ble_eq_true rfl) (fun _ => rfl) (fun w h => ?_) (fun K hv hs => ?_)
  · exact zokm rfl h
  · have hP : ∀ x s, f_X11_ghosts p1 p2 σ = some (x, s) → zKv K = some (zL x) ∧ zKs K = s := fun x s h => by rw [hq] at h; cases h; exact ⟨hv, hs⟩
    have hn : f_X11_ghosts p1 p2 σ ≠ none := fun z => by rw [hq] at z; cases z
    have hf := f_X11_ghosts.eq_1 p1 p2 σ
    refine z_iload_n (pc := 0) 1 (zdg D_X11_ghosts 0 (0, .iload_n 1, 1) rfl) rfl rfl ?_
    refine z_iload_n (pc := 1) 2 (zdg D_X11_ghosts 1 (1, .iload_n 2, 1) rfl) rfl rfl ?_
    refine z_callS (pc := 2) (rest := []) (st2 := [zI (f_X11_isSpan p1 p2)]) (fun l => c_X11_isSpan l p1 p2 σ) zs_X11_isSpan lm_X11_271 rfl rfl rfl (Nat.le_of_ble_eq_true rfl) ⟨Nat.le_of_ble_eq_true rfl, Nat.le_of_ble_eq_true rfl⟩ (zdg D_X11_ghosts 2 (2, .invokestatic 271, 3) rfl) ?_
    refine z_if_eq (pc := 5) 20 (zdg D_X11_ghosts 3 (5, .ifCond .eq 15, 3) rfl) rfl hf (fun hf => ?_) (fun hf => ?_)
    · refine z_ldc2 (pc := 20) lc_X11_216 (zdg D_X11_ghosts 10 (20, .ldc2_w 216, 3) rfl) ?_
      exact z_lret (pc := 23) rfl (zdg D_X11_ghosts 11 (23, .lreturn, 1) rfl) (hP _ _ hf)
    · refine z_aload_n (pc := 8) 0 (zdg D_X11_ghosts 4 (8, .aload_n 0, 1) rfl) rfl rfl ?_
      refine z_getR (pc := 9) (g := 5) (j := 0) lf_X11_44 rfl rfl rfl (zdg D_X11_ghosts 5 (9, .getfield 44, 3) rfl) ?_
      refine z_iload_n (pc := 12) 1 (zdg D_X11_ghosts 6 (12, .iload_n 1, 1) rfl) rfl rfl ?_
      refine z_iload_n (pc := 13) 2 (zdg D_X11_ghosts 7 (13, .iload_n 2, 1) rfl) rfl rfl ?_
      refine z_bind hn hf (fun q1 hq hf => ?_)
      refine z_callV (pc := 14) (rest := []) (st2 := [zL q1.1]) (fun l => c_X9_ghostSpots l p1 p2 σ q1 hq) zv_X9_ghostSpots lm_X11_313 rfl rfl rfl rfl rfl rfl (Nat.le_of_ble_eq_true rfl) ⟨Nat.le_of_ble_eq_true rfl, Nat.le_of_ble_eq_true rfl⟩ (zdg D_X11_ghosts 8 (14, .invokevirtual 313, 3) rfl) ?_
      refine z_goto (pc := 17) 23 (zdg D_X11_ghosts 9 (17, .goto 6, 3) rfl) rfl ?_
      exact z_lret (pc := 23) rfl (zdg D_X11_ghosts 11 (23, .lreturn, 1) rfl) (hP _ _ hf)

def L_X11_nobody : List (Nat × Instr × Nat) := [(0, .iload_n 1, 1), (1, .ifCond .lt 10, 3), (4, .iload_n 1, 1), (5, .sipush 500, 3), (8, .if_icmp .le 5, 3), (11, .iconst (-1), 1), (12, .ireturn, 1), (13, .ldc_w 316, 3), (16, .istore_n 2, 1), (17, .iconst 0, 1), (18, .istore_n 3, 1), (19, .iload_n 3, 1), (20, .iload_n 1, 1), (21, .if_icmp .ge 25, 3), (24, .iload_n 2, 1), (25, .sipush 1000, 3), (28, .aload_n 0, 1), (29, .getfield 12, 3), (32, .getfield 317, 3), (35, .isub, 1), (36, .invokestatic 320, 3), (39, .istore_n 2, 1), (40, .iinc 3 1, 3), (43, .goto (-24), 3), (46, .iload_n 2, 1), (47, .ireturn, 1)]
set_option maxRecDepth 100000 in
theorem D_X11_nobody : zdecs cX11_nobody L_X11_nobody = true := by decide +kernel
noncomputable def b_X11_nobody_19 (p1 : Int32) (σ : zG) (v2_1 : Int32) (v3_2 : Int32) : Option ((Int32 × Int32) ⊕ (Int32)) :=
  if v3_2 < p1 then some (Sum.inl ((f_X11_part v2_1 ((1000 : Int32) - (σ.1 1 0 6))), (v3_2 + 1))) else some (Sum.inr v2_1)
noncomputable def f_X11_nobody (p1 : Int32) (σ : zG) : Option (Int32) :=
  if 0 ≤ p1 then if (500 : Int32) < p1 then some (-1 : Int32) else (zlp (fun q : Int32 × Int32 => b_X11_nobody_19 p1 σ q.1 q.2) ((1000000 : Int32), (0 : Int32))).bind (fun e3 : Int32 => some e3) else some (-1 : Int32)
set_option maxRecDepth 100000 in
set_option maxHeartbeats 4000000 in
theorem c_X11_nobody (l : Launch) (p1 : Int32) (σ : zG) (q : Int32) (hq : f_X11_nobody p1 σ = some q) : zMet l zsyC m_X11_nobody yX11_nobody [zR 0 0, zI p1] σ (some (zI q)) σ := by
  refine zEnter [(0, zR 0 0), (1, zI p1)] (by decide) rfl (fun _ => Nat.le_of_ble_eq_true rfl) (fun _ => rfl) (fun w h => ?_) (fun K hv hs => ?_)
  · exact zokm rfl h
  · have hP : ∀ x, f_X11_nobody p1 σ = some x → zKv K = some (zI x) ∧ zKs K = σ := fun x h => by rw [hq] at h; cases h; exact ⟨hv, hs⟩
    have hn : f_X11_nobody p1 σ ≠ none := fun z => by rw [hq] at z; cases z
    have hf := f_X11_nobody.eq_1 p1 σ
    refine z_iload_n (pc := 0) 1 (zdg D_X11_nobody 0 (0, .iload_n 1, 1) rfl) rfl rfl ?_
    refine z_if_lt (pc := 1) 11 (zdg D_X11_nobody 1 (1, .ifCond .lt 10, 3) rfl) rfl hf (fun hf => ?_) (fun hf => ?_)
    · refine z_iconst (pc := 11) (v := -1) (zdg D_X11_nobody 5 (11, .iconst (-1), 1) rfl) rfl ?_
      exact z_iret (pc := 12) rfl rfl (zdg D_X11_nobody 6 (12, .ireturn, 1) rfl) (hP _ hf)
    · refine z_iload_n (pc := 4) 1 (zdg D_X11_nobody 2 (4, .iload_n 1, 1) rfl) rfl rfl ?_
      refine z_sipush (pc := 5) (v := 500) (zdg D_X11_nobody 3 (5, .sipush 500, 3) rfl) rfl ?_
      refine z_icmp_le (pc := 8) 13 (zdg D_X11_nobody 4 (8, .if_icmp .le 5, 3) rfl) rfl hf (fun hf => ?_) (fun hf => ?_)
      · refine z_ldcw (pc := 13) lc_X11_316 (zdg D_X11_nobody 7 (13, .ldc_w 316, 3) rfl) ?_
        refine z_istore_n (pc := 16) (al' := [(2, zI (1000000 : Int32)), (0, zR 0 0), (1, zI p1)]) (zdg D_X11_nobody 8 (16, .istore_n 2, 1) rfl) rfl (by decide) rfl ?_
        refine z_iconst (pc := 17) (v := 0) (zdg D_X11_nobody 9 (17, .iconst 0, 1) rfl) rfl ?_
        refine z_istore_n (pc := 18) (al' := [(3, zI (0 : Int32)), (2, zI (1000000 : Int32)), (0, zR 0 0), (1, zI p1)]) (zdg D_X11_nobody 10 (18, .istore_n 3, 1) rfl) rfl (by decide) rfl ?_
        refine z_sub (al' := [(0, zR 0 0), (1, zI p1), (2, zI (1000000 : Int32)), (3, zI (0 : Int32))]) [2, 3, 1, 0] rfl ?_
        refine z_loop (f := (fun q : Int32 × Int32 => b_X11_nobody_19 p1 σ q.1 q.2)) (a := ((1000000 : Int32), (0 : Int32))) (fun q : Int32 × Int32 => zX zsyC m_X11_nobody K 19 [(0, zR 0 0), (1, zI p1), (2, zI q.1), (3, zI q.2)] [] σ) (fun e3 : Int32 => zX zsyC m_X11_nobody K 46 [(2, zI e3)] [] σ) hn hf ?_ ?_
        · intro e3 hf
          refine z_iload_n (pc := 46) 0 (zdg D_X11_nobody 24 (46, .iload_n 2, 1) rfl) rfl rfl ?_
          exact z_iret (pc := 47) rfl rfl (zdg D_X11_nobody 25 (47, .ireturn, 1) rfl) (hP _ hf)
        · rintro ⟨v2_1, v3_2⟩ hn hi hx
          have hf := b_X11_nobody_19.eq_1 p1 σ v2_1 v3_2
          refine z_iload_n (pc := 19) 3 (zdg D_X11_nobody 11 (19, .iload_n 3, 1) rfl) rfl rfl ?_
          refine z_iload_n (pc := 20) 1 (zdg D_X11_nobody 12 (20, .iload_n 1, 1) rfl) rfl rfl ?_
          refine z_icmp_ge (pc := 21) 46 (zdg D_X11_nobody 13 (21, .if_icmp .ge 25, 3) rfl) rfl hf (fun hf => ?_) (fun hf => ?_)
          · refine z_sub (al' := [(2, zI v2_1)]) [2] rfl ?_
            exact hx v2_1 hf
          · refine z_iload_n (pc := 24) 2 (zdg D_X11_nobody 14 (24, .iload_n 2, 1) rfl) rfl rfl ?_
            refine z_sipush (pc := 25) (v := 1000) (zdg D_X11_nobody 15 (25, .sipush 1000, 3) rfl) rfl ?_
            refine z_aload_n (pc := 28) 0 (zdg D_X11_nobody 16 (28, .aload_n 0, 1) rfl) rfl rfl ?_
            refine z_getR (pc := 29) (g := 1) (j := 0) lf_X11_12 rfl rfl rfl (zdg D_X11_nobody 17 (29, .getfield 12, 3) rfl) ?_
            refine z_getI (pc := 32) lf_X11_317 rfl rfl (zdg D_X11_nobody 18 (32, .getfield 317, 3) rfl) ?_
            refine z_isub (pc := 35) (zdg D_X11_nobody 19 (35, .isub, 1) rfl) ?_
            refine z_callS (pc := 36) (rest := []) (st2 := [zI (f_X11_part v2_1 ((1000 : Int32) - (σ.1 1 0 6)))]) (fun l => c_X11_part l v2_1 ((1000 : Int32) - (σ.1 1 0 6)) σ) zs_X11_part lm_X11_320 rfl rfl rfl (Nat.le_of_ble_eq_true rfl) ⟨Nat.le_of_ble_eq_true rfl, Nat.le_of_ble_eq_true rfl⟩ (zdg D_X11_nobody 20 (36, .invokestatic 320, 3) rfl) ?_
            refine z_istore_n (pc := 39) (al' := [(2, zI (f_X11_part v2_1 ((1000 : Int32) - (σ.1 1 0 6)))), (0, zR 0 0), (1, zI p1), (3, zI v3_2)]) (zdg D_X11_nobody 21 (39, .istore_n 2, 1) rfl) rfl (by decide) rfl ?_
            refine z_iinc (pc := 40) (v0 := (v3_2 + 1)) (al' := [(3, zI (v3_2 + 1)), (2, zI (f_X11_part v2_1 ((1000 : Int32) - (σ.1 1 0 6)))), (0, zR 0 0), (1, zI p1)]) 3 (zdg D_X11_nobody 22 (40, .iinc 3 1, 3) rfl) rfl rfl (by decide) rfl ?_
            refine z_goto (pc := 43) 19 (zdg D_X11_nobody 23 (43, .goto (-24), 3) rfl) rfl ?_
            refine z_sub (al' := [(0, zR 0 0), (1, zI p1), (2, zI (f_X11_part v2_1 ((1000 : Int32) - (σ.1 1 0 6)))), (3, zI (v3_2 + 1))]) [2, 3, 1, 0] rfl ?_
            exact hi ((f_X11_part v2_1 ((1000 : Int32) - (σ.1 1 0 6))), (v3_2 + 1)) hf
      · refine z_iconst (pc := 11) (v := -1) (zdg D_X11_nobody 5 (11, .iconst (-1), 1) rfl) rfl ?_
        exact z_iret (pc := 12) rfl rfl (zdg D_X11_nobody 6 (12, .ireturn, 1) rfl) (hP _ hf)

def L_X11_copies : List (Nat × Instr × Nat) := [(0, .iload_n 1, 1), (1, .iconst 1, 1), (2, .if_icmp .lt 26, 3), (5, .iload_n 1, 1), (6, .bipush 15, 2), (8, .if_icmp .gt 20, 3), (11, .iload_n 1, 1), (12, .iconst 2, 1), (13, .irem, 1), (14, .ifCond .eq 14, 3), (17, .iload_n 2, 1), (18, .ifCond .lt 10, 3), (21, .iload_n 2, 1), (22, .sipush 1000, 3), (25, .if_icmp .le 5, 3), (28, .iconst (-1), 1), (29, .ireturn, 1), (30, .aload_n 0, 1), (31, .getfield 44, 3), (34, .iload_n 1, 1), (35, .iload_n 2, 1), (36, .invokevirtual 323, 3), (39, .ireturn, 1)]
set_option maxRecDepth 100000 in
theorem D_X11_copies : zdecs cX11_copies L_X11_copies = true := by decide +kernel
noncomputable def f_X11_copies (p1 : Int32) (p2 : Int32) (σ : zG) : Option (Int32 × zG) :=
  if (1 : Int32) ≤ p1 then if p1 ≤ (15 : Int32) then if (zrem p1 (2 : Int32)) = 0 then some ((-1 : Int32), σ) else if 0 ≤ p2 then if (1000 : Int32) < p2 then some ((-1 : Int32), σ) else (f_X9_mostRight p1 p2 σ).bind (fun q1 => some (q1.1, q1.2)) else some ((-1 : Int32), σ) else some ((-1 : Int32), σ) else some ((-1 : Int32), σ)
set_option maxRecDepth 100000 in
set_option maxHeartbeats 4000000 in
theorem c_X11_copies (l : Launch) (p1 : Int32) (p2 : Int32) (σ : zG) (q : Int32 × zG) (hq : f_X11_copies p1 p2 σ = some q) : zMet l zsyC m_X11_copies yX11_copies [zR 0 0, zI p1, zI p2] σ (some (zI q.1)) q.2 := by
  refine zEnter [(0, zR 0 0), (1, zI p1), (2, zI p2)] (by decide) rfl (fun _ => Nat.le_of_ble_eq_true rfl) (fun _ => rfl) (fun w h => ?_) (fun K hv hs => ?_)
  · exact zokm rfl h
  · have hP : ∀ x s, f_X11_copies p1 p2 σ = some (x, s) → zKv K = some (zI x) ∧ zKs K = s := fun x s h => by rw [hq] at h; cases h; exact ⟨hv, hs⟩
    have hn : f_X11_copies p1 p2 σ ≠ none := fun z => by rw [hq] at z; cases z
    have hf := f_X11_copies.eq_1 p1 p2 σ
    refine z_iload_n (pc := 0) 1 (zdg D_X11_copies 0 (0, .iload_n 1, 1) rfl) rfl rfl ?_
    refine z_iconst (pc := 1) (v := 1) (zdg D_X11_copies 1 (1, .iconst 1, 1) rfl) rfl ?_
    refine z_icmp_lt (pc := 2) 28 (zdg D_X11_copies 2 (2, .if_icmp .lt 26, 3) rfl) rfl hf (fun hf => ?_) (fun hf => ?_)
    · refine z_iconst (pc := 28) (v := -1) (zdg D_X11_copies 15 (28, .iconst (-1), 1) rfl) rfl ?_
      exact z_iret (pc := 29) rfl rfl (zdg D_X11_copies 16 (29, .ireturn, 1) rfl) (hP _ _ hf)
    · refine z_iload_n (pc := 5) 1 (zdg D_X11_copies 3 (5, .iload_n 1, 1) rfl) rfl rfl ?_
      refine z_bipush (pc := 6) (v := 15) (zdg D_X11_copies 4 (6, .bipush 15, 2) rfl) rfl ?_
      refine z_icmp_gt (pc := 8) 28 (zdg D_X11_copies 5 (8, .if_icmp .gt 20, 3) rfl) rfl hf (fun hf => ?_) (fun hf => ?_)
      · refine z_iconst (pc := 28) (v := -1) (zdg D_X11_copies 15 (28, .iconst (-1), 1) rfl) rfl ?_
        exact z_iret (pc := 29) rfl rfl (zdg D_X11_copies 16 (29, .ireturn, 1) rfl) (hP _ _ hf)
      · refine z_iload_n (pc := 11) 1 (zdg D_X11_copies 6 (11, .iload_n 1, 1) rfl) rfl rfl ?_
        refine z_iconst (pc := 12) (v := 2) (zdg D_X11_copies 7 (12, .iconst 2, 1) rfl) rfl ?_
        refine z_iremK (pc := 13) (zdg D_X11_copies 8 (13, .irem, 1) rfl) rfl ?_
        refine z_if_eq (pc := 14) 28 (zdg D_X11_copies 9 (14, .ifCond .eq 14, 3) rfl) rfl hf (fun hf => ?_) (fun hf => ?_)
        · refine z_iconst (pc := 28) (v := -1) (zdg D_X11_copies 15 (28, .iconst (-1), 1) rfl) rfl ?_
          exact z_iret (pc := 29) rfl rfl (zdg D_X11_copies 16 (29, .ireturn, 1) rfl) (hP _ _ hf)
        · refine z_iload_n (pc := 17) 2 (zdg D_X11_copies 10 (17, .iload_n 2, 1) rfl) rfl rfl ?_
          refine z_if_lt (pc := 18) 28 (zdg D_X11_copies 11 (18, .ifCond .lt 10, 3) rfl) rfl hf (fun hf => ?_) (fun hf => ?_)
          · refine z_iconst (pc := 28) (v := -1) (zdg D_X11_copies 15 (28, .iconst (-1), 1) rfl) rfl ?_
            exact z_iret (pc := 29) rfl rfl (zdg D_X11_copies 16 (29, .ireturn, 1) rfl) (hP _ _ hf)
          · refine z_iload_n (pc := 21) 2 (zdg D_X11_copies 12 (21, .iload_n 2, 1) rfl) rfl rfl ?_
            refine z_sipush (pc := 22) (v := 1000) (zdg D_X11_copies 13 (22, .sipush 1000, 3) rfl) rfl ?_
            refine z_icmp_le (pc := 25) 30 (zdg D_X11_copies 14 (25, .if_icmp .le 5, 3) rfl) rfl hf (fun hf => ?_) (fun hf => ?_)
            · refine z_aload_n (pc := 30) 0 (zdg D_X11_copies 17 (30, .aload_n 0, 1) rfl) rfl rfl ?_
              refine z_getR (pc := 31) (g := 5) (j := 0) lf_X11_44 rfl rfl rfl (zdg D_X11_copies 18 (31, .getfield 44, 3) rfl) ?_
              refine z_iload_n (pc := 34) 1 (zdg D_X11_copies 19 (34, .iload_n 1, 1) rfl) rfl rfl ?_
              refine z_iload_n (pc := 35) 2 (zdg D_X11_copies 20 (35, .iload_n 2, 1) rfl) rfl rfl ?_
              refine z_bind hn hf (fun q1 hq hf => ?_)
              refine z_callV (pc := 36) (rest := []) (st2 := [zI q1.1]) (fun l => c_X9_mostRight l p1 p2 σ q1 hq) zv_X9_mostRight lm_X11_323 rfl rfl rfl rfl rfl rfl (Nat.le_of_ble_eq_true rfl) ⟨Nat.le_of_ble_eq_true rfl, Nat.le_of_ble_eq_true rfl⟩ (zdg D_X11_copies 21 (36, .invokevirtual 323, 3) rfl) ?_
              exact z_iret (pc := 39) rfl rfl (zdg D_X11_copies 22 (39, .ireturn, 1) rfl) (hP _ _ hf)
            · refine z_iconst (pc := 28) (v := -1) (zdg D_X11_copies 15 (28, .iconst (-1), 1) rfl) rfl ?_
              exact z_iret (pc := 29) rfl rfl (zdg D_X11_copies 16 (29, .ireturn, 1) rfl) (hP _ _ hf)

def L_X11_enough : List (Nat × Instr × Nat) := [(0, .iload_n 1, 1), (1, .ifCond .lt 21, 3), (4, .iload_n 1, 1), (5, .sipush 1000, 3), (8, .if_icmp .gt 14, 3), (11, .iload_n 2, 1), (12, .ifCond .lt 10, 3), (15, .iload_n 2, 1), (16, .ldc_w 316, 3), (19, .if_icmp .le 5, 3), (22, .iconst (-1), 1), (23, .ireturn, 1), (24, .iconst 1, 1), (25, .istore_n 3, 1), (26, .iload_n 3, 1), (27, .bipush 15, 2), (29, .if_icmp .gt 24, 3), (32, .aload_n 0, 1), (33, .getfield 44, 3), (36, .iload_n 3, 1), (37, .iload_n 1, 1), (38, .invokevirtual 323, 3), (41, .iload_n 2, 1), (42, .if_icmp .lt 5, 3), (45, .iload_n 3, 1), (46, .ireturn, 1), (47, .iinc 3 2, 3), (50, .goto (-24), 3), (53, .iconst (-1), 1), (54, .ireturn, 1)]
set_option maxRecDepth 100000 in
theorem D_X11_enough : zdecs cX11_enough L_X11_enough = true := by decide +kernel
noncomputable def b_X11_enough_26 (p1 : Int32) (p2 : Int32) (v3_1 : Int32) (s2 : zG) : Option ((Int32 × zG) ⊕ ((Int32 × zG) ⊕ (zG))) :=
  if v3_1 ≤ (15 : Int32) then (f_X9_mostRight v3_1 p1 s2).bind (fun q3 => if p2 ≤ q3.1 then some (Sum.inr (Sum.inl (v3_1, q3.2))) else some (Sum.inl ((v3_1 + 2), q3.2))) else some (Sum.inr (Sum.inr s2))
noncomputable def f_X11_enough (p1 : Int32) (p2 : Int32) (σ : zG) : Option (Int32 × zG) :=
  if 0 ≤ p1 then if p1 ≤ (1000 : Int32) then if 0 ≤ p2 then if (1000000 : Int32) < p2 then some ((-1 : Int32), σ) else (zlp (fun q : Int32 × zG => b_X11_enough_26 p1 p2 q.1 q.2) ((1 : Int32), σ)).bind (Sum.elim (fun e4 : Int32 × zG => some (e4.1, e4.2)) (fun e5 : zG => some ((-1 : Int32), e5))) else some ((-1 : Int32), σ) else some ((-1 : Int32), σ) else some ((-1 : Int32), σ)
set_option maxRecDepth 100000 in
set_option maxHeartbeats 4000000 in
theorem c_X11_enough (l : Launch) (p1 : Int32) (p2 : Int32) (σ : zG) (q : Int32 × zG) (hq : f_X11_enough p1 p2 σ = some q) : zMet l zsyC m_X11_enough yX11_enough [zR 0 0, zI p1, zI p2] σ (some (zI q.1)) q.2 := by
  refine zEnter [(0, zR 0 0), (1, zI p1), (2, zI p2)] (by decide) rfl (fun _ => Nat.le_of_ble_eq_true rfl) (fun _ => rfl) (fun w h => ?_) (fun K hv hs => ?_)
  · exact zokm rfl h
  · have hP : ∀ x s, f_X11_enough p1 p2 σ = some (x, s) → zKv K = some (zI x) ∧ zKs K = s := fun x s h => by rw [hq] at h; cases h; exact ⟨hv, hs⟩
    have hn : f_X11_enough p1 p2 σ ≠ none := fun z => by rw [hq] at z; cases z
    have hf := f_X11_enough.eq_1 p1 p2 σ
    refine z_iload_n (pc := 0) 1 (zdg D_X11_enough 0 (0, .iload_n 1, 1) rfl) rfl rfl ?_
    refine z_if_lt (pc := 1) 22 (zdg D_X11_enough 1 (1, .ifCond .lt 21, 3) rfl) rfl hf (fun hf => ?_) (fun hf => ?_)
    · refine z_iconst (pc := 22) (v := -1) (zdg D_X11_enough 10 (22, .iconst (-1), 1) rfl) rfl ?_
      exact z_iret (pc := 23) rfl rfl (zdg D_X11_enough 11 (23, .ireturn, 1) rfl) (hP _ _ hf)
    · refine z_iload_n (pc := 4) 1 (zdg D_X11_enough 2 (4, .iload_n 1, 1) rfl) rfl rfl ?_
      refine z_sipush (pc := 5) (v := 1000) (zdg D_X11_enough 3 (5, .sipush 1000, 3) rfl) rfl ?_
      refine z_icmp_gt (pc := 8) 22 (zdg D_X11_enough 4 (8, .if_icmp .gt 14, 3) rfl) rfl hf (fun hf => ?_) (fun hf => ?_)
      · refine z_iconst (pc := 22) (v := -1) (zdg D_X11_enough 10 (22, .iconst (-1), 1) rfl) rfl ?_
        exact z_iret (pc := 23) rfl rfl (zdg D_X11_enough 11 (23, .ireturn, 1) rfl) (hP _ _ hf)
      · refine z_iload_n (pc := 11) 2 (zdg D_X11_enough 5 (11, .iload_n 2, 1) rfl) rfl rfl ?_
        refine z_if_lt (pc := 12) 22 (zdg D_X11_enough 6 (12, .ifCond .lt 10, 3) rfl) rfl hf (fun hf => ?_) (fun hf => ?_)
        · refine z_iconst (pc := 22) (v := -1) (zdg D_X11_enough 10 (22, .iconst (-1), 1) rfl) rfl ?_
          exact z_iret (pc := 23) rfl rfl (zdg D_X11_enough 11 (23, .ireturn, 1) rfl) (hP _ _ hf)
        · refine z_iload_n (pc := 15) 2 (zdg D_X11_enough 7 (15, .iload_n 2, 1) rfl) rfl rfl ?_
          refine z_ldcw (pc := 16) lc_X11_316 (zdg D_X11_enough 8 (16, .ldc_w 316, 3) rfl) ?_
          refine z_icmp_le (pc := 19) 24 (zdg D_X11_enough 9 (19, .if_icmp .le 5, 3) rfl) rfl hf (fun hf => ?_) (fun hf => ?_)
          · refine z_iconst (pc := 24) (v := 1) (zdg D_X11_enough 12 (24, .iconst 1, 1) rfl) rfl ?_
            refine z_istore_n (pc := 25) (al' := [(3, zI (1 : Int32)), (0, zR 0 0), (1, zI p1), (2, zI p2)]) (zdg D_X11_enough 13 (25, .istore_n 3, 1) rfl) rfl (by decide) rfl ?_
            refine z_sub (al' := [(0, zR 0 0), (1, zI p1), (2, zI p2), (3, zI (1 : Int32))]) [1, 2, 3, 0] rfl ?_
            refine z_loop (f := (fun q : Int32 × zG => b_X11_enough_26 p1 p2 q.1 q.2)) (a := ((1 : Int32), σ)) (fun q : Int32 × zG => zX zsyC m_X11_enough K 26 [(0, zR 0 0), (1, zI p1), (2, zI p2), (3, zI q.1)] [] q.2) (Sum.elim (fun e4 : Int32 × zG => zX zsyC m_X11_enough K 45 [(3, zI e4.1)] [] e4.2) (fun e5 : zG => zX zsyC m_X11_enough K 53 [] [] e5)) hn hf ?_ ?_
            · intro b hf
              cases b with
              | inl e4 =>
                refine z_iload_n (pc := 45) 0 (zdg D_X11_enough 24 (45, .iload_n 3, 1) rfl) rfl rfl ?_
                exact z_iret (pc := 46) rfl rfl (zdg D_X11_enough 25 (46, .ireturn, 1) rfl) (hP _ _ hf)
              | inr b =>
                revert hf
                revert b
                intro e5 hf
                refine z_iconst (pc := 53) (v := -1) (zdg D_X11_enough 28 (53, .iconst (-1), 1) rfl) rfl ?_
                exact z_iret (pc := 54) rfl rfl (zdg D_X11_enough 29 (54, .ireturn, 1) rfl) (hP _ _ hf)
            · rintro ⟨v3_1, s2⟩ hn hi hx
              have hf := b_X11_enough_26.eq_1 p1 p2 v3_1 s2
              refine z_iload_n (pc := 26) 3 (zdg D_X11_enough 14 (26, .iload_n 3, 1) rfl) rfl rfl ?_
              refine z_bipush (pc := 27) (v := 15) (zdg D_X11_enough 15 (27, .bipush 15, 2) rfl) rfl ?_
              refine z_icmp_gt (pc := 29) 53 (zdg D_X11_enough 16 (29, .if_icmp .gt 24, 3) rfl) rfl hf (fun hf => ?_) (fun hf => ?_)
              · refine z_sub (al' := []) [] rfl ?_
                exact hx (Sum.inr s2) hf
              · refine z_aload_n (pc := 32) 0 (zdg D_X11_enough 17 (32, .aload_n 0, 1) rfl) rfl rfl ?_
                refine z_getR (pc := 33) (g := 5) (j := 0) lf_X11_44 rfl rfl rfl (zdg D_X11_enough 18 (33, .getfield 44, 3) rfl) ?_
                refine z_iload_n (pc := 36) 3 (zdg D_X11_enough 19 (36, .iload_n 3, 1) rfl) rfl rfl ?_
                refine z_iload_n (pc := 37) 1 (zdg D_X11_enough 20 (37, .iload_n 1, 1) rfl) rfl rfl ?_
                refine z_bind hn hf (fun q3 hq hf => ?_)
                refine z_callV (pc := 38) (rest := []) (st2 := [zI q3.1]) (fun l => c_X9_mostRight l v3_1 p1 s2 q3 hq) zv_X9_mostRight lm_X11_323 rfl rfl rfl rfl rfl rfl (Nat.le_of_ble_eq_true rfl) ⟨Nat.le_of_ble_eq_true rfl, Nat.le_of_ble_eq_true rfl⟩ (zdg D_X11_enough 21 (38, .invokevirtual 323, 3) rfl) ?_
                refine z_iload_n (pc := 41) 2 (zdg D_X11_enough 22 (41, .iload_n 2, 1) rfl) rfl rfl ?_
                refine z_icmp_lt (pc := 42) 47 (zdg D_X11_enough 23 (42, .if_icmp .lt 5, 3) rfl) rfl hf (fun hf => ?_) (fun hf => ?_)
                · refine z_iinc (pc := 47) (v0 := (v3_1 + 2)) (al' := [(3, zI (v3_1 + 2)), (0, zR 0 0), (1, zI p1), (2, zI p2)]) 3 (zdg D_X11_enough 26 (47, .iinc 3 2, 3) rfl) rfl rfl (by decide) rfl ?_
                  refine z_goto (pc := 50) 26 (zdg D_X11_enough 27 (50, .goto (-24), 3) rfl) rfl ?_
                  refine z_sub (al' := [(0, zR 0 0), (1, zI p1), (2, zI p2), (3, zI (v3_1 + 2))]) [1, 2, 3, 0] rfl ?_
                  exact hi ((v3_1 + 2), q3.2) hf
                · refine z_sub (al' := [(3, zI v3_1)]) [3] rfl ?_
                  exact hx (Sum.inl (v3_1, q3.2)) hf
          · refine z_iconst (pc := 22) (v := -1) (zdg D_X11_enough 10 (22, .iconst (-1), 1) rfl) rfl ?_
            exact z_iret (pc := 23) rfl rfl (zdg D_X11_enough 11 (23, .ireturn, 1) rfl) (hP _ _ hf)

def L_X11_hours : List (Nat × Instr × Nat) := [(0, .aload_n 0, 1), (1, .getfield 12, 3), (4, .iload_n 1, 1), (5, .invokevirtual 218, 3), (8, .ifCond .eq 13, 3), (11, .iload_n 2, 1), (12, .ifCond .lt 9, 3), (15, .iload_n 2, 1), (16, .bipush 99, 2), (18, .if_icmp .le 5, 3), (21, .iconst (-1), 1), (22, .ireturn, 1), (23, .aload_n 0, 1), (24, .getfield 44, 3), (27, .iload_n 1, 1), (28, .iload_n 2, 1), (29, .invokevirtual 326, 3), (32, .aload_n 0, 1), (33, .getfield 44, 3), (36, .iload_n 3, 1), (37, .iconst (-1), 1), (38, .invokevirtual 329, 3), (41, .ireturn, 1)]
set_option maxRecDepth 100000 in
theorem D_X11_hours : zdecs cX11_hours L_X11_hours = true := by decide +kernel
noncomputable def f_X11_hours (p1 : Int32) (p2 : Int32) (p3 : Int32) (σ : zG) : Option (Int32 × zG) :=
  if (f_X1_isSpot 0 p1 σ) = 0 then some ((-1 : Int32), σ) else if 0 ≤ p2 then if (99 : Int32) < p2 then some ((-1 : Int32), σ) else (f_X9_findHours p1 p2 σ).bind (fun q1 => some ((f_X9_found p3 (-1 : Int32) q1), q1)) else some ((-1 : Int32), σ)
set_option maxRecDepth 100000 in
set_option maxHeartbeats 4000000 in
theorem c_X11_hours (l : Launch) (p1 : Int32) (p2 : Int32) (p3 : Int32) (σ : zG) (q : Int32 × zG) (hq : f_X11_hours p1 p2 p3 σ = some q) : zMet l zsyC m_X11_hours yX11_hours [zR 0 0, zI p1, zI p2, zI p3] σ (some (zI q.1)) q.2 := by
  refine zEnter [(0, zR 0 0), (1, zI p1), (2, zI p2), (3, zI p3)] (by decide) rfl (fun _ => Nat.le_of_ble_eq_true rfl) (fun _ => rfl) (fun w h => ?_) (fun K hv hs => ?_)
  · exact zokm rfl h
  · have hP : ∀ x s, f_X11_hours p1 p2 p3 σ = some (x, s) → zKv K = some (zI x) ∧ zKs K = s := fun x s h => by rw [hq] at h; cases h; exact ⟨hv, hs⟩
    have hn : f_X11_hours p1 p2 p3 σ ≠ none := fun z => by rw [hq] at z; cases z
    have hf := f_X11_hours.eq_1 p1 p2 p3 σ
    refine z_aload_n (pc := 0) 0 (zdg D_X11_hours 0 (0, .aload_n 0, 1) rfl) rfl rfl ?_
    refine z_getR (pc := 1) (g := 1) (j := 0) lf_X11_12 rfl rfl rfl (zdg D_X11_hours 1 (1, .getfield 12, 3) rfl) ?_
    refine z_iload_n (pc := 4) 1 (zdg D_X11_hours 2 (4, .iload_n 1, 1) rfl) rfl rfl ?_
    refine z_callV (pc := 5) (rest := []) (st2 := [zI (f_X1_isSpot 0 p1 σ)]) (fun l => c_X1_isSpot l 0 p1 σ) zv_X1_isSpot lm_X11_218 rfl rfl rfl rfl rfl rfl (Nat.le_of_ble_eq_true rfl) ⟨Nat.le_of_ble_eq_true rfl, Nat.le_of_ble_eq_true rfl⟩ (zdg D_X11_hours 3 (5, .invokevirtual 218, 3) rfl) ?_
    refine z_if_eq (pc := 8) 21 (zdg D_X11_hours 4 (8, .ifCond .eq 13, 3) rfl) rfl hf (fun hf => ?_) (fun hf => ?_)
    · refine z_iconst (pc := 21) (v := -1) (zdg D_X11_hours 10 (21, .iconst (-1), 1) rfl) rfl ?_
      exact z_iret (pc := 22) rfl rfl (zdg D_X11_hours 11 (22, .ireturn, 1) rfl) (hP _ _ hf)
    · refine z_iload_n (pc := 11) 2 (zdg D_X11_hours 5 (11, .iload_n 2, 1) rfl) rfl rfl ?_
      refine z_if_lt (pc := 12) 21 (zdg D_X11_hours 6 (12, .ifCond .lt 9, 3) rfl) rfl hf (fun hf => ?_) (fun hf => ?_)
      · refine z_iconst (pc := 21) (v := -1) (zdg D_X11_hours 10 (21, .iconst (-1), 1) rfl) rfl ?_
        exact z_iret (pc := 22) rfl rfl (zdg D_X11_hours 11 (22, .ireturn, 1) rfl) (hP _ _ hf)
      · refine z_iload_n (pc := 15) 2 (zdg D_X11_hours 7 (15, .iload_n 2, 1) rfl) rfl rfl ?_
        refine z_bipush (pc := 16) (v := 99) (zdg D_X11_hours 8 (16, .bipush 99, 2) rfl) rfl ?_
        refine z_icmp_le (pc := 18) 23 (zdg D_X11_hours 9 (18, .if_icmp .le 5, 3) rfl) rfl hf (fun hf => ?_) (fun hf => ?_)
        · refine z_aload_n (pc := 23) 0 (zdg D_X11_hours 12 (23, .aload_n 0, 1) rfl) rfl rfl ?_
          refine z_getR (pc := 24) (g := 5) (j := 0) lf_X11_44 rfl rfl rfl (zdg D_X11_hours 13 (24, .getfield 44, 3) rfl) ?_
          refine z_iload_n (pc := 27) 1 (zdg D_X11_hours 14 (27, .iload_n 1, 1) rfl) rfl rfl ?_
          refine z_iload_n (pc := 28) 2 (zdg D_X11_hours 15 (28, .iload_n 2, 1) rfl) rfl rfl ?_
          refine z_bind hn hf (fun q1 hq hf => ?_)
          refine z_callV (pc := 29) (rest := []) (st2 := []) (fun l => c_X9_findHours l p1 p2 σ q1 hq) zv_X9_findHours lm_X11_326 rfl rfl rfl rfl rfl rfl (Nat.le_of_ble_eq_true rfl) ⟨Nat.le_of_ble_eq_true rfl, Nat.le_of_ble_eq_true rfl⟩ (zdg D_X11_hours 16 (29, .invokevirtual 326, 3) rfl) ?_
          refine z_aload_n (pc := 32) 0 (zdg D_X11_hours 17 (32, .aload_n 0, 1) rfl) rfl rfl ?_
          refine z_getR (pc := 33) (g := 5) (j := 0) lf_X11_44 rfl rfl rfl (zdg D_X11_hours 18 (33, .getfield 44, 3) rfl) ?_
          refine z_iload_n (pc := 36) 3 (zdg D_X11_hours 19 (36, .iload_n 3, 1) rfl) rfl rfl ?_
          refine z_iconst (pc := 37) (v := -1) (zdg D_X11_hours 20 (37, .iconst (-1), 1) rfl) rfl ?_
          refine z_callV (pc := 38) (rest := []) (st2 := [zI (f_X9_found p3 (-1 : Int32) q1)]) (fun l => c_X9_found l p3 (-1 : Int32) q1) zv_X9_found lm_X11_329 rfl rfl rfl rfl rfl rfl (Nat.le_of_ble_eq_true rfl) ⟨Nat.le_of_ble_eq_true rfl, Nat.le_of_ble_eq_true rfl⟩ (zdg D_X11_hours 21 (38, .invokevirtual 329, 3) rfl) ?_
          exact z_iret (pc := 41) rfl rfl (zdg D_X11_hours 22 (41, .ireturn, 1) rfl) (hP _ _ hf)
        · refine z_iconst (pc := 21) (v := -1) (zdg D_X11_hours 10 (21, .iconst (-1), 1) rfl) rfl ?_
          exact z_iret (pc := 22) rfl rfl (zdg D_X11_hours 11 (22, .ireturn, 1) rfl) (hP _ _ hf)

def L_X11_judged : List (Nat × Instr × Nat) := [(0, .aload_n 0, 1), (1, .getfield 12, 3), (4, .iload_n 1, 1), (5, .invokevirtual 234, 3), (8, .astore_n 3, 1), (9, .aload_n 3, 1), (10, .ifnull 10, 3), (13, .iload_n 2, 1), (14, .invokestatic 195, 3), (17, .ifCond .ne 7, 3), (20, .iconst (-1), 1), (21, .goto 12, 3), (24, .aload_n 0, 1), (25, .getfield 44, 3), (28, .aload_n 3, 1), (29, .iload_n 2, 1), (30, .invokevirtual 332, 3), (33, .ireturn, 1)]
set_option maxRecDepth 100000 in
theorem D_X11_judged : zdecs cX11_judged L_X11_judged = true := by decide +kernel
noncomputable def f_X11_judged (p1 : Int32) (p2 : Int32) (σ : zG) : Option (Int32 × zG) :=
  (f_X1_shotOf 0 p1 σ).bind (fun q1 => zoc q1 (some ((-1 : Int32), σ)) (fun k2 => if (f_X11_isMinute p2) = 0 then some ((-1 : Int32), σ) else (f_X9_firstUnlike k2 p2 σ).bind (fun q3 => some (q3.1, q3.2))))
set_option maxRecDepth 100000 in
set_option maxHeartbeats 4000000 in
theorem c_X11_judged (l : Launch) (p1 : Int32) (p2 : Int32) (σ : zG) (q : Int32 × zG) (hq : f_X11_judged p1 p2 σ = some q) : zMet l zsyC m_X11_judged yX11_judged [zR 0 0, zI p1, zI p2] σ (some (zI q.1)) q.2 := by
  refine zEnter [(0, zR 0 0), (1, zI p1), (2, zI p2)] (by decide) rfl (fun _ => Nat.le_of_ble_eq_true rfl) (fun _ => rfl) (fun w h => ?_) (fun K hv hs => ?_)
  · exact zokm rfl h
  · have hP : ∀ x s, f_X11_judged p1 p2 σ = some (x, s) → zKv K = some (zI x) ∧ zKs K = s := fun x s h => by rw [hq] at h; cases h; exact ⟨hv, hs⟩
    have hn : f_X11_judged p1 p2 σ ≠ none := fun z => by rw [hq] at z; cases z
    have hf := f_X11_judged.eq_1 p1 p2 σ
    refine z_aload_n (pc := 0) 0 (zdg D_X11_judged 0 (0, .aload_n 0, 1) rfl) rfl rfl ?_
    refine z_getR (pc := 1) (g := 1) (j := 0) lf_X11_12 rfl rfl rfl (zdg D_X11_judged 1 (1, .getfield 12, 3) rfl) ?_
    refine z_iload_n (pc := 4) 1 (zdg D_X11_judged 2 (4, .iload_n 1, 1) rfl) rfl rfl ?_
    refine z_bind hn hf (fun q1 hq hf => ?_)
    refine z_callV (pc := 5) (rest := []) (st2 := [zQ 11 q1]) (fun l => c_X1_shotOf l 0 p1 σ q1 hq) zv_X1_shotOf lm_X11_234 rfl rfl rfl rfl rfl rfl (Nat.le_of_ble_eq_true rfl) ⟨Nat.le_of_ble_eq_true rfl, Nat.le_of_ble_eq_true rfl⟩ (zdg D_X11_judged 3 (5, .invokevirtual 234, 3) rfl) ?_
    refine z_astore_n (pc := 8) (al' := [(3, zQ 11 q1), (0, zR 0 0), (1, zI p1), (2, zI p2)]) (zdg D_X11_judged 4 (8, .astore_n 3, 1) rfl) rfl (by decide) rfl ?_
    refine z_aload_n (pc := 9) 0 (zdg D_X11_judged 5 (9, .aload_n 3, 1) rfl) rfl rfl ?_
    refine z_ifnull (pc := 10) (al := fun o => [(3, zQ 11 o), (0, zR 0 0), (1, zI p1), (2, zI p2)]) (as := fun o => []) 20 q1 (zdg D_X11_judged 6 (10, .ifnull 10, 3) rfl) rfl hf (fun hf => ?_) (fun k2 hf => ?_)
    · refine z_iconst (pc := 20) (v := -1) (zdg D_X11_judged 10 (20, .iconst (-1), 1) rfl) rfl ?_
      refine z_goto (pc := 21) 33 (zdg D_X11_judged 11 (21, .goto 12, 3) rfl) rfl ?_
      exact z_iret (pc := 33) rfl rfl (zdg D_X11_judged 17 (33, .ireturn, 1) rfl) (hP _ _ hf)
    · refine z_iload_n (pc := 13) 3 (zdg D_X11_judged 7 (13, .iload_n 2, 1) rfl) rfl rfl ?_
      refine z_callS (pc := 14) (rest := []) (st2 := [zI (f_X11_isMinute p2)]) (fun l => c_X11_isMinute l p2 σ) zs_X11_isMinute lm_X11_195 rfl rfl rfl (Nat.le_of_ble_eq_true rfl) ⟨Nat.le_of_ble_eq_true rfl, Nat.le_of_ble_eq_true rfl⟩ (zdg D_X11_judged 8 (14, .invokestatic 195, 3) rfl) ?_
      refine z_if_ne (pc := 17) 24 (zdg D_X11_judged 9 (17, .ifCond .ne 7, 3) rfl) rfl hf (fun hf => ?_) (fun hf => ?_)
      · refine z_aload_n (pc := 24) 1 (zdg D_X11_judged 12 (24, .aload_n 0, 1) rfl) rfl rfl ?_
        refine z_getR (pc := 25) (g := 5) (j := 0) lf_X11_44 rfl rfl rfl (zdg D_X11_judged 13 (25, .getfield 44, 3) rfl) ?_
        refine z_aload_n (pc := 28) 0 (zdg D_X11_judged 14 (28, .aload_n 3, 1) rfl) rfl rfl ?_
        refine z_iload_n (pc := 29) 3 (zdg D_X11_judged 15 (29, .iload_n 2, 1) rfl) rfl rfl ?_
        refine z_bind hn hf (fun q3 hq hf => ?_)
        refine z_callV (pc := 30) (rest := []) (st2 := [zI q3.1]) (fun l => c_X9_firstUnlike l k2 p2 σ q3 hq) zv_X9_firstUnlike lm_X11_332 rfl rfl rfl rfl rfl rfl (Nat.le_of_ble_eq_true rfl) ⟨Nat.le_of_ble_eq_true rfl, Nat.le_of_ble_eq_true rfl⟩ (zdg D_X11_judged 16 (30, .invokevirtual 332, 3) rfl) ?_
        exact z_iret (pc := 33) rfl rfl (zdg D_X11_judged 17 (33, .ireturn, 1) rfl) (hP _ _ hf)
      · refine z_iconst (pc := 20) (v := -1) (zdg D_X11_judged 10 (20, .iconst (-1), 1) rfl) rfl ?_
        refine z_goto (pc := 21) 33 (zdg D_X11_judged 11 (21, .goto 12, 3) rfl) rfl ?_
        exact z_iret (pc := 33) rfl rfl (zdg D_X11_judged 17 (33, .ireturn, 1) rfl) (hP _ _ hf)

def L_X11_whenShot : List (Nat × Instr × Nat) := [(0, .aload_n 0, 1), (1, .getfield 12, 3), (4, .iload_n 1, 1), (5, .invokevirtual 234, 3), (8, .astore_n 3, 1), (9, .aload_n 3, 1), (10, .ifnonnull 6, 3), (13, .bipush (-2), 2), (15, .ireturn, 1), (16, .aload_n 0, 1), (17, .getfield 44, 3), (20, .aload_n 3, 1), (21, .invokevirtual 336, 3), (24, .aload_n 0, 1), (25, .getfield 44, 3), (28, .iload_n 2, 1), (29, .bipush (-2), 2), (31, .invokevirtual 329, 3), (34, .ireturn, 1)]
set_option maxRecDepth 100000 in
theorem D_X11_whenShot : zdecs cX11_whenShot L_X11_whenShot = true := by decide +kernel
noncomputable def f_X11_whenShot (p1 : Int32) (p2 : Int32) (σ : zG) : Option (Int32 × zG) :=
  (f_X1_shotOf 0 p1 σ).bind (fun q1 => zoc q1 (some ((-2 : Int32), σ)) (fun k2 => (f_X9_findAlike k2 σ).bind (fun q3 => some ((f_X9_found p2 (-2 : Int32) q3), q3))))
set_option maxRecDepth 100000 in
set_option maxHeartbeats 4000000 in
theorem c_X11_whenShot (l : Launch) (p1 : Int32) (p2 : Int32) (σ : zG) (q : Int32 × zG) (hq : f_X11_whenShot p1 p2 σ = some q) : zMet l zsyC m_X11_whenShot yX11_whenShot [zR 0 0, zI p1, zI p2] σ (some (zI q.1)) q.2 := by
  refine zEnter [(0, zR 0 0), (1, zI p1), (2, zI p2)] (by decide) rfl (fun _ => Nat.le_of_ble_eq_true rfl) (fun _ => rfl) (fun w h => ?_) (fun K hv hs => ?_)
  · exact zokm rfl h
  · have hP : ∀ x s, f_X11_whenShot p1 p2 σ = some (x, s) → zKv K = some (zI x) ∧ zKs K = s := fun x s h => by rw [hq] at h; cases h; exact ⟨hv, hs⟩
    have hn : f_X11_whenShot p1 p2 σ ≠ none := fun z => by rw [hq] at z; cases z
    have hf := f_X11_whenShot.eq_1 p1 p2 σ
    refine z_aload_n (pc := 0) 0 (zdg D_X11_whenShot 0 (0, .aload_n 0, 1) rfl) rfl rfl ?_
    refine z_getR (pc := 1) (g := 1) (j := 0) lf_X11_12 rfl rfl rfl (zdg D_X11_whenShot 1 (1, .getfield 12, 3) rfl) ?_
    refine z_iload_n (pc := 4) 1 (zdg D_X11_whenShot 2 (4, .iload_n 1, 1) rfl) rfl rfl ?_
    refine z_bind hn hf (fun q1 hq hf => ?_)
    refine z_callV (pc := 5) (rest := []) (st2 := [zQ 11 q1]) (fun l => c_X1_shotOf l 0 p1 σ q1 hq) zv_X1_shotOf lm_X11_234 rfl rfl rfl rfl rfl rfl (Nat.le_of_ble_eq_true rfl) ⟨Nat.le_of_ble_eq_true rfl, Nat.le_of_ble_eq_true rfl⟩ (zdg D_X11_whenShot 3 (5, .invokevirtual 234, 3) rfl) ?_
    refine z_astore_n (pc := 8) (al' := [(3, zQ 11 q1), (0, zR 0 0), (1, zI p1), (2, zI p2)]) (zdg D_X11_whenShot 4 (8, .astore_n 3, 1) rfl) rfl (by decide) rfl ?_
    refine z_aload_n (pc := 9) 0 (zdg D_X11_whenShot 5 (9, .aload_n 3, 1) rfl) rfl rfl ?_
    refine z_ifnonnull (pc := 10) (al := fun o => [(3, zQ 11 o), (0, zR 0 0), (1, zI p1), (2, zI p2)]) (as := fun o => []) 16 q1 (zdg D_X11_whenShot 6 (10, .ifnonnull 6, 3) rfl) rfl hf (fun hf => ?_) (fun k2 hf => ?_)
    · refine z_bipush (pc := 13) (v := -2) (zdg D_X11_whenShot 7 (13, .bipush (-2), 2) rfl) rfl ?_
      exact z_iret (pc := 15) rfl rfl (zdg D_X11_whenShot 8 (15, .ireturn, 1) rfl) (hP _ _ hf)
    · refine z_aload_n (pc := 16) 1 (zdg D_X11_whenShot 9 (16, .aload_n 0, 1) rfl) rfl rfl ?_
      refine z_getR (pc := 17) (g := 5) (j := 0) lf_X11_44 rfl rfl rfl (zdg D_X11_whenShot 10 (17, .getfield 44, 3) rfl) ?_
      refine z_aload_n (pc := 20) 0 (zdg D_X11_whenShot 11 (20, .aload_n 3, 1) rfl) rfl rfl ?_
      refine z_bind hn hf (fun q3 hq hf => ?_)
      refine z_callV (pc := 21) (rest := []) (st2 := []) (fun l => c_X9_findAlike l k2 σ q3 hq) zv_X9_findAlike lm_X11_336 rfl rfl rfl rfl rfl rfl (Nat.le_of_ble_eq_true rfl) ⟨Nat.le_of_ble_eq_true rfl, Nat.le_of_ble_eq_true rfl⟩ (zdg D_X11_whenShot 12 (21, .invokevirtual 336, 3) rfl) ?_
      refine z_aload_n (pc := 24) 1 (zdg D_X11_whenShot 13 (24, .aload_n 0, 1) rfl) rfl rfl ?_
      refine z_getR (pc := 25) (g := 5) (j := 0) lf_X11_44 rfl rfl rfl (zdg D_X11_whenShot 14 (25, .getfield 44, 3) rfl) ?_
      refine z_iload_n (pc := 28) 3 (zdg D_X11_whenShot 15 (28, .iload_n 2, 1) rfl) rfl rfl ?_
      refine z_bipush (pc := 29) (v := -2) (zdg D_X11_whenShot 16 (29, .bipush (-2), 2) rfl) rfl ?_
      refine z_callV (pc := 31) (rest := []) (st2 := [zI (f_X9_found p2 (-2 : Int32) q3)]) (fun l => c_X9_found l p2 (-2 : Int32) q3) zv_X9_found lm_X11_329 rfl rfl rfl rfl rfl rfl (Nat.le_of_ble_eq_true rfl) ⟨Nat.le_of_ble_eq_true rfl, Nat.le_of_ble_eq_true rfl⟩ (zdg D_X11_whenShot 17 (31, .invokevirtual 329, 3) rfl) ?_
      exact z_iret (pc := 34) rfl rfl (zdg D_X11_whenShot 18 (34, .ireturn, 1) rfl) (hP _ _ hf)

def L_X11_stander : List (Nat × Instr × Nat) := [(0, .aload_n 0, 1), (1, .getfield 44, 3), (4, .iload_n 1, 1), (5, .invokevirtual 340, 3), (8, .ireturn, 1)]
set_option maxRecDepth 100000 in
theorem D_X11_stander : zdecs cX11_stander L_X11_stander = true := by decide +kernel
noncomputable def f_X11_stander (p1 : Int32) (σ : zG) : Option (Int32) :=
  (f_X9_longestStander p1 σ).bind (fun q1 => some q1)
set_option maxRecDepth 100000 in
set_option maxHeartbeats 4000000 in
theorem c_X11_stander (l : Launch) (p1 : Int32) (σ : zG) (q : Int32) (hq : f_X11_stander p1 σ = some q) : zMet l zsyC m_X11_stander yX11_stander [zR 0 0, zI p1] σ (some (zI q)) σ := by
  refine zEnter [(0, zR 0 0), (1, zI p1)] (by decide) rfl (fun _ => Nat.le_of_ble_eq_true rfl) (fun _ => rfl) (fun w h => ?_) (fun K hv hs => ?_)
  · exact zokm rfl h
  · have hP : ∀ x, f_X11_stander p1 σ = some x → zKv K = some (zI x) ∧ zKs K = σ := fun x h => by rw [hq] at h; cases h; exact ⟨hv, hs⟩
    have hn : f_X11_stander p1 σ ≠ none := fun z => by rw [hq] at z; cases z
    have hf := f_X11_stander.eq_1 p1 σ
    refine z_aload_n (pc := 0) 0 (zdg D_X11_stander 0 (0, .aload_n 0, 1) rfl) rfl rfl ?_
    refine z_getR (pc := 1) (g := 5) (j := 0) lf_X11_44 rfl rfl rfl (zdg D_X11_stander 1 (1, .getfield 44, 3) rfl) ?_
    refine z_iload_n (pc := 4) 1 (zdg D_X11_stander 2 (4, .iload_n 1, 1) rfl) rfl rfl ?_
    refine z_bind hn hf (fun q1 hq hf => ?_)
    refine z_callV (pc := 5) (rest := []) (st2 := [zI q1]) (fun l => c_X9_longestStander l p1 σ q1 hq) zv_X9_longestStander lm_X11_340 rfl rfl rfl rfl rfl rfl (Nat.le_of_ble_eq_true rfl) ⟨Nat.le_of_ble_eq_true rfl, Nat.le_of_ble_eq_true rfl⟩ (zdg D_X11_stander 3 (5, .invokevirtual 340, 3) rfl) ?_
    exact z_iret (pc := 8) rfl rfl (zdg D_X11_stander 4 (8, .ireturn, 1) rfl) (hP _ hf)

def L_X11_with : List (Nat × Instr × Nat) := [(0, .iload_n 1, 1), (1, .iload_n 2, 1), (2, .invokestatic 271, 3), (5, .ifCond .eq 15, 3), (8, .aload_n 0, 1), (9, .getfield 44, 3), (12, .iload_n 1, 1), (13, .iload_n 2, 1), (14, .invokevirtual 343, 3), (17, .goto 4, 3), (20, .iconst (-1), 1), (21, .ireturn, 1)]
set_option maxRecDepth 100000 in
theorem D_X11_with : zdecs cX11_with L_X11_with = true := by decide +kernel
noncomputable def f_X11_with (p1 : Int32) (p2 : Int32) (σ : zG) : Option (Int32) :=
  if (f_X11_isSpan p1 p2) = 0 then some (-1 : Int32) else (f_X9_alwaysInView p1 p2 σ).bind (fun q1 => some q1)
set_option maxRecDepth 100000 in
set_option maxHeartbeats 4000000 in
theorem c_X11_with (l : Launch) (p1 : Int32) (p2 : Int32) (σ : zG) (q : Int32) (hq : f_X11_with p1 p2 σ = some q) : zMet l zsyC m_X11_with yX11_with [zR 0 0, zI p1, zI p2] σ (some (zI q)) σ := by
  refine zEnter [(0, zR 0 0), (1, zI p1), (2, zI p2)] (by decide) rfl (fun _ => Nat.le_of_ble_eq_true rfl) (fun _ => rfl) (fun w h => ?_) (fun K hv hs => ?_)
  · exact zokm rfl h
  · have hP : ∀ x, f_X11_with p1 p2 σ = some x → zKv K = some (zI x) ∧ zKs K = σ := fun x h => by rw [hq] at h; cases h; exact ⟨hv, hs⟩
    have hn : f_X11_with p1 p2 σ ≠ none := fun z => by rw [hq] at z; cases z
    have hf := f_X11_with.eq_1 p1 p2 σ
    refine z_iload_n (pc := 0) 1 (zdg D_X11_with 0 (0, .iload_n 1, 1) rfl) rfl rfl ?_
    refine z_iload_n (pc := 1) 2 (zdg D_X11_with 1 (1, .iload_n 2, 1) rfl) rfl rfl ?_
    refine z_callS (pc := 2) (rest := []) (st2 := [zI (f_X11_isSpan p1 p2)]) (fun l => c_X11_isSpan l p1 p2 σ) zs_X11_isSpan lm_X11_271 rfl rfl rfl (Nat.le_of_ble_eq_true rfl) ⟨Nat.le_of_ble_eq_true rfl, Nat.le_of_ble_eq_true rfl⟩ (zdg D_X11_with 2 (2, .invokestatic 271, 3) rfl) ?_
    refine z_if_eq (pc := 5) 20 (zdg D_X11_with 3 (5, .ifCond .eq 15, 3) rfl) rfl hf (fun hf => ?_) (fun hf => ?_)
    · refine z_iconst (pc := 20) (v := -1) (zdg D_X11_with 10 (20, .iconst (-1), 1) rfl) rfl ?_
      exact z_iret (pc := 21) rfl rfl (zdg D_X11_with 11 (21, .ireturn, 1) rfl) (hP _ hf)
    · refine z_aload_n (pc := 8) 0 (zdg D_X11_with 4 (8, .aload_n 0, 1) rfl) rfl rfl ?_
      refine z_getR (pc := 9) (g := 5) (j := 0) lf_X11_44 rfl rfl rfl (zdg D_X11_with 5 (9, .getfield 44, 3) rfl) ?_
      refine z_iload_n (pc := 12) 1 (zdg D_X11_with 6 (12, .iload_n 1, 1) rfl) rfl rfl ?_
      refine z_iload_n (pc := 13) 2 (zdg D_X11_with 7 (13, .iload_n 2, 1) rfl) rfl rfl ?_
      refine z_bind hn hf (fun q1 hq hf => ?_)
      refine z_callV (pc := 14) (rest := []) (st2 := [zI q1]) (fun l => c_X9_alwaysInView l p1 p2 σ q1 hq) zv_X9_alwaysInView lm_X11_343 rfl rfl rfl rfl rfl rfl (Nat.le_of_ble_eq_true rfl) ⟨Nat.le_of_ble_eq_true rfl, Nat.le_of_ble_eq_true rfl⟩ (zdg D_X11_with 8 (14, .invokevirtual 343, 3) rfl) ?_
      refine z_goto (pc := 17) 21 (zdg D_X11_with 9 (17, .goto 4, 3) rfl) rfl ?_
      exact z_iret (pc := 21) rfl rfl (zdg D_X11_with 11 (21, .ireturn, 1) rfl) (hP _ hf)

def L_X11_twos : List (Nat × Instr × Nat) := [(0, .iload_n 1, 1), (1, .invokestatic 195, 3), (4, .ifCond .eq 14, 3), (7, .aload_n 0, 1), (8, .getfield 44, 3), (11, .iload_n 1, 1), (12, .invokevirtual 346, 3), (15, .goto 4, 3), (18, .iconst (-1), 1), (19, .ireturn, 1)]
set_option maxRecDepth 100000 in
theorem D_X11_twos : zdecs cX11_twos L_X11_twos = true := by decide +kernel
noncomputable def f_X11_twos (p1 : Int32) (σ : zG) : Option (Int32) :=
  if (f_X11_isMinute p1) = 0 then some (-1 : Int32) else (f_X9_pairsIn p1 σ).bind (fun q1 => some q1)
set_option maxRecDepth 100000 in
set_option maxHeartbeats 4000000 in
theorem c_X11_twos (l : Launch) (p1 : Int32) (σ : zG) (q : Int32) (hq : f_X11_twos p1 σ = some q) : zMet l zsyC m_X11_twos yX11_twos [zR 0 0, zI p1] σ (some (zI q)) σ := by
  refine zEnter [(0, zR 0 0), (1, zI p1)] (by decide) rfl (fun _ => Nat.le_of_ble_eq_true rfl) (fun _ => rfl) (fun w h => ?_) (fun K hv hs => ?_)
  · exact zokm rfl h
  · have hP : ∀ x, f_X11_twos p1 σ = some x → zKv K = some (zI x) ∧ zKs K = σ := fun x h => by rw [hq] at h; cases h; exact ⟨hv, hs⟩
    have hn : f_X11_twos p1 σ ≠ none := fun z => by rw [hq] at z; cases z
    have hf := f_X11_twos.eq_1 p1 σ
    refine z_iload_n (pc := 0) 1 (zdg D_X11_twos 0 (0, .iload_n 1, 1) rfl) rfl rfl ?_
    refine z_callS (pc := 1) (rest := []) (st2 := [zI (f_X11_isMinute p1)]) (fun l => c_X11_isMinute l p1 σ) zs_X11_isMinute lm_X11_195 rfl rfl rfl (Nat.le_of_ble_eq_true rfl) ⟨Nat.le_of_ble_eq_true rfl, Nat.le_of_ble_eq_true rfl⟩ (zdg D_X11_twos 1 (1, .invokestatic 195, 3) rfl) ?_
    refine z_if_eq (pc := 4) 18 (zdg D_X11_twos 2 (4, .ifCond .eq 14, 3) rfl) rfl hf (fun hf => ?_) (fun hf => ?_)
    · refine z_iconst (pc := 18) (v := -1) (zdg D_X11_twos 8 (18, .iconst (-1), 1) rfl) rfl ?_
      exact z_iret (pc := 19) rfl rfl (zdg D_X11_twos 9 (19, .ireturn, 1) rfl) (hP _ hf)
    · refine z_aload_n (pc := 7) 0 (zdg D_X11_twos 3 (7, .aload_n 0, 1) rfl) rfl rfl ?_
      refine z_getR (pc := 8) (g := 5) (j := 0) lf_X11_44 rfl rfl rfl (zdg D_X11_twos 4 (8, .getfield 44, 3) rfl) ?_
      refine z_iload_n (pc := 11) 1 (zdg D_X11_twos 5 (11, .iload_n 1, 1) rfl) rfl rfl ?_
      refine z_bind hn hf (fun q1 hq hf => ?_)
      refine z_callV (pc := 12) (rest := []) (st2 := [zI q1]) (fun l => c_X9_pairsIn l p1 σ q1 hq) zv_X9_pairsIn lm_X11_346 rfl rfl rfl rfl rfl rfl (Nat.le_of_ble_eq_true rfl) ⟨Nat.le_of_ble_eq_true rfl, Nat.le_of_ble_eq_true rfl⟩ (zdg D_X11_twos 6 (12, .invokevirtual 346, 3) rfl) ?_
      refine z_goto (pc := 15) 19 (zdg D_X11_twos 7 (15, .goto 4, 3) rfl) rfl ?_
      exact z_iret (pc := 19) rfl rfl (zdg D_X11_twos 9 (19, .ireturn, 1) rfl) (hP _ hf)

def L_X11_two : List (Nat × Instr × Nat) := [(0, .iload_n 1, 1), (1, .ifCond .eq 8, 3), (4, .iload_n 1, 1), (5, .iconst 1, 1), (6, .if_icmp .ne 14, 3), (9, .aload_n 0, 1), (10, .getfield 44, 3), (13, .iload_n 1, 1), (14, .invokevirtual 349, 3), (17, .goto 4, 3), (20, .iconst (-1), 1), (21, .ireturn, 1)]
set_option maxRecDepth 100000 in
theorem D_X11_two : zdecs cX11_two L_X11_two = true := by decide +kernel
noncomputable def f_X11_two (p1 : Int32) (σ : zG) : Option (Int32 × zG) :=
  if p1 = 0 then (f_X9_clearTogether p1 σ).bind (fun q1 => some (q1.1, q1.2)) else if p1 = (1 : Int32) then (f_X9_clearTogether p1 σ).bind (fun q2 => some (q2.1, q2.2)) else some ((-1 : Int32), σ)
set_option maxRecDepth 100000 in
set_option maxHeartbeats 4000000 in
theorem c_X11_two (l : Launch) (p1 : Int32) (σ : zG) (q : Int32 × zG) (hq : f_X11_two p1 σ = some q) : zMet l zsyC m_X11_two yX11_two [zR 0 0, zI p1] σ (some (zI q.1)) q.2 := by
  refine zEnter [(0, zR 0 0), (1, zI p1)] (by decide) rfl (fun _ => Nat.le_of_ble_eq_true rfl) (fun _ => rfl) (fun w h => ?_) (fun K hv hs => ?_)
  · exact zokm rfl h
  · have hP : ∀ x s, f_X11_two p1 σ = some (x, s) → zKv K = some (zI x) ∧ zKs K = s := fun x s h => by rw [hq] at h; cases h; exact ⟨hv, hs⟩
    have hn : f_X11_two p1 σ ≠ none := fun z => by rw [hq] at z; cases z
    have hf := f_X11_two.eq_1 p1 σ
    refine z_iload_n (pc := 0) 1 (zdg D_X11_two 0 (0, .iload_n 1, 1) rfl) rfl rfl ?_
    refine z_if_eq (pc := 1) 9 (zdg D_X11_two 1 (1, .ifCond .eq 8, 3) rfl) rfl hf (fun hf => ?_) (fun hf => ?_)
    · refine z_aload_n (pc := 9) 0 (zdg D_X11_two 5 (9, .aload_n 0, 1) rfl) rfl rfl ?_
      refine z_getR (pc := 10) (g := 5) (j := 0) lf_X11_44 rfl rfl rfl (zdg D_X11_two 6 (10, .getfield 44, 3) rfl) ?_
      refine z_iload_n (pc := 13) 1 (zdg D_X11_two 7 (13, .iload_n 1, 1) rfl) rfl rfl ?_
      refine z_bind hn hf (fun q1 hq hf => ?_)
      refine z_callV (pc := 14) (rest := []) (st2 := [zI q1.1]) (fun l => c_X9_clearTogether l p1 σ q1 hq) zv_X9_clearTogether lm_X11_349 rfl rfl rfl rfl rfl rfl (Nat.le_of_ble_eq_true rfl) ⟨Nat.le_of_ble_eq_true rfl, Nat.le_of_ble_eq_true rfl⟩ (zdg D_X11_two 8 (14, .invokevirtual 349, 3) rfl) ?_
      refine z_goto (pc := 17) 21 (zdg D_X11_two 9 (17, .goto 4, 3) rfl) rfl ?_
      exact z_iret (pc := 21) rfl rfl (zdg D_X11_two 11 (21, .ireturn, 1) rfl) (hP _ _ hf)
    · refine z_iload_n (pc := 4) 1 (zdg D_X11_two 2 (4, .iload_n 1, 1) rfl) rfl rfl ?_
      refine z_iconst (pc := 5) (v := 1) (zdg D_X11_two 3 (5, .iconst 1, 1) rfl) rfl ?_
      refine z_icmp_ne (pc := 6) 20 (zdg D_X11_two 4 (6, .if_icmp .ne 14, 3) rfl) rfl hf (fun hf => ?_) (fun hf => ?_)
      · refine z_iconst (pc := 20) (v := -1) (zdg D_X11_two 10 (20, .iconst (-1), 1) rfl) rfl ?_
        exact z_iret (pc := 21) rfl rfl (zdg D_X11_two 11 (21, .ireturn, 1) rfl) (hP _ _ hf)
      · refine z_aload_n (pc := 9) 0 (zdg D_X11_two 5 (9, .aload_n 0, 1) rfl) rfl rfl ?_
        refine z_getR (pc := 10) (g := 5) (j := 0) lf_X11_44 rfl rfl rfl (zdg D_X11_two 6 (10, .getfield 44, 3) rfl) ?_
        refine z_iload_n (pc := 13) 1 (zdg D_X11_two 7 (13, .iload_n 1, 1) rfl) rfl rfl ?_
        refine z_bind hn hf (fun q2 hq hf => ?_)
        refine z_callV (pc := 14) (rest := []) (st2 := [zI q2.1]) (fun l => c_X9_clearTogether l p1 σ q2 hq) zv_X9_clearTogether lm_X11_349 rfl rfl rfl rfl rfl rfl (Nat.le_of_ble_eq_true rfl) ⟨Nat.le_of_ble_eq_true rfl, Nat.le_of_ble_eq_true rfl⟩ (zdg D_X11_two 8 (14, .invokevirtual 349, 3) rfl) ?_
        refine z_goto (pc := 17) 21 (zdg D_X11_two 9 (17, .goto 4, 3) rfl) rfl ?_
        exact z_iret (pc := 21) rfl rfl (zdg D_X11_two 11 (21, .ireturn, 1) rfl) (hP _ _ hf)

def L_X11_paste : List (Nat × Instr × Nat) := [(0, .aload_n 0, 1), (1, .getfield 12, 3), (4, .iload_n 1, 1), (5, .invokevirtual 218, 3), (8, .ifCond .eq 19, 3), (11, .iload_n 2, 1), (12, .iconst (-1), 1), (13, .if_icmp .lt 14, 3), (16, .iload_n 2, 1), (17, .aload_n 0, 1), (18, .getfield 12, 3), (21, .getfield 352, 3), (24, .if_icmp .lt 5, 3), (27, .iconst 0, 1), (28, .ireturn, 1), (29, .aload_n 0, 1), (30, .getfield 12, 3), (33, .getfield 355, 3), (36, .iload_n 1, 1), (37, .iload_n 2, 1), (38, .iastore, 1), (39, .aload_n 0, 1), (40, .getfield 19, 3), (43, .invokevirtual 59, 3), (46, .iconst 1, 1), (47, .ireturn, 1)]
set_option maxRecDepth 100000 in
theorem D_X11_paste : zdecs cX11_paste L_X11_paste = true := by decide +kernel
noncomputable def f_X11_paste (p1 : Int32) (p2 : Int32) (σ : zG) : Option (Int32 × zG) :=
  if (f_X1_isSpot 0 p1 σ) = 0 then some ((0 : Int32), σ) else if (-1 : Int32) ≤ p2 then if (σ.1 1 0 9) ≤ p2 then some ((0 : Int32), σ) else zg (zin p1 56) (zb (zwI σ 32 0 p1.toNatClampNeg p2) (fun s1 => zb (f_X2_forget s1) (fun s2 => some ((1 : Int32), s2)))) else some ((0 : Int32), σ)
set_option maxRecDepth 100000 in
set_option maxHeartbeats 4000000 in
theorem c_X11_paste (l : Launch) (p1 : Int32) (p2 : Int32) (σ : zG) (q : Int32 × zG) (hq : f_X11_paste p1 p2 σ = some q) : zMet l zsyC m_X11_paste yX11_paste [zR 0 0, zI p1, zI p2] σ (some (zI q.1)) q.2 := by
  refine zEnter [(0, zR 0 0), (1, zI p1), (2, zI p2)] (by decide) rfl (fun _ => Nat.le_of_ble_eq_true rfl) (fun _ => rfl) (fun w h => ?_) (fun K hv hs => ?_)
  · exact zokm rfl h
  · have hP : ∀ x s, f_X11_paste p1 p2 σ = some (x, s) → zKv K = some (zI x) ∧ zKs K = s := fun x s h => by rw [hq] at h; cases h; exact ⟨hv, hs⟩
    have hn : f_X11_paste p1 p2 σ ≠ none := fun z => by rw [hq] at z; cases z
    have hf := f_X11_paste.eq_1 p1 p2 σ
    refine z_aload_n (pc := 0) 0 (zdg D_X11_paste 0 (0, .aload_n 0, 1) rfl) rfl rfl ?_
    refine z_getR (pc := 1) (g := 1) (j := 0) lf_X11_12 rfl rfl rfl (zdg D_X11_paste 1 (1, .getfield 12, 3) rfl) ?_
    refine z_iload_n (pc := 4) 1 (zdg D_X11_paste 2 (4, .iload_n 1, 1) rfl) rfl rfl ?_
    refine z_callV (pc := 5) (rest := []) (st2 := [zI (f_X1_isSpot 0 p1 σ)]) (fun l => c_X1_isSpot l 0 p1 σ) zv_X1_isSpot lm_X11_218 rfl rfl rfl rfl rfl rfl (Nat.le_of_ble_eq_true rfl) ⟨Nat.le_of_ble_eq_true rfl, Nat.le_of_ble_eq_true rfl⟩ (zdg D_X11_paste 3 (5, .invokevirtual 218, 3) rfl) ?_
    refine z_if_eq (pc := 8) 27 (zdg D_X11_paste 4 (8, .ifCond .eq 19, 3) rfl) rfl hf (fun hf => ?_) (fun hf => ?_)
    · refine z_iconst (pc := 27) (v := 0) (zdg D_X11_paste 13 (27, .iconst 0, 1) rfl) rfl ?_
      exact z_iret (pc := 28) rfl rfl (zdg D_X11_paste 14 (28, .ireturn, 1) rfl) (hP _ _ hf)
    · refine z_iload_n (pc := 11) 2 (zdg D_X11_paste 5 (11, .iload_n 2, 1) rfl) rfl rfl ?_
      refine z_iconst (pc := 12) (v := -1) (zdg D_X11_paste 6 (12, .iconst (-1), 1) rfl) rfl ?_
      refine z_icmp_lt (pc := 13) 27 (zdg D_X11_paste 7 (13, .if_icmp .lt 14, 3) rfl) rfl hf (fun hf => ?_) (fun hf => ?_)
      · refine z_iconst (pc := 27) (v := 0) (zdg D_X11_paste 13 (27, .iconst 0, 1) rfl) rfl ?_
        exact z_iret (pc := 28) rfl rfl (zdg D_X11_paste 14 (28, .ireturn, 1) rfl) (hP _ _ hf)
      · refine z_iload_n (pc := 16) 2 (zdg D_X11_paste 8 (16, .iload_n 2, 1) rfl) rfl rfl ?_
        refine z_aload_n (pc := 17) 0 (zdg D_X11_paste 9 (17, .aload_n 0, 1) rfl) rfl rfl ?_
        refine z_getR (pc := 18) (g := 1) (j := 0) lf_X11_12 rfl rfl rfl (zdg D_X11_paste 10 (18, .getfield 12, 3) rfl) ?_
        refine z_getI (pc := 21) lf_X11_352 rfl rfl (zdg D_X11_paste 11 (21, .getfield 352, 3) rfl) ?_
        refine z_icmp_lt (pc := 24) 29 (zdg D_X11_paste 12 (24, .if_icmp .lt 5, 3) rfl) rfl hf (fun hf => ?_) (fun hf => ?_)
        · refine z_aload_n (pc := 29) 0 (zdg D_X11_paste 15 (29, .aload_n 0, 1) rfl) rfl rfl ?_
          refine z_getR (pc := 30) (g := 1) (j := 0) lf_X11_12 rfl rfl rfl (zdg D_X11_paste 16 (30, .getfield 12, 3) rfl) ?_
          refine z_getR (pc := 33) (g := 32) (j := 0) lf_X11_355 rfl rfl rfl (zdg D_X11_paste 17 (33, .getfield 355, 3) rfl) ?_
          refine z_iload_n (pc := 36) 1 (zdg D_X11_paste 18 (36, .iload_n 1, 1) rfl) rfl rfl ?_
          refine z_iload_n (pc := 37) 2 (zdg D_X11_paste 19 (37, .iload_n 2, 1) rfl) rfl rfl ?_
          refine z_iast (pc := 38) rfl (fun _ => rfl) (zdg D_X11_paste 20 (38, .iastore, 1) rfl) hn hf (fun hf => ?_)
          refine z_nmS hf (fun s1 hf => ?_)
          refine z_aload_n (pc := 39) 0 (zdg D_X11_paste 21 (39, .aload_n 0, 1) rfl) rfl rfl ?_
          refine z_getR (pc := 40) (g := 2) (j := 0) lf_X11_19 rfl rfl rfl (zdg D_X11_paste 22 (40, .getfield 19, 3) rfl) ?_
          refine z_callV (pc := 43) (rest := []) (st2 := []) (fun l => c_X2_forget l s1) zv_X2_forget lm_X11_59 rfl rfl rfl rfl rfl rfl (Nat.le_of_ble_eq_true rfl) ⟨Nat.le_of_ble_eq_true rfl, Nat.le_of_ble_eq_true rfl⟩ (zdg D_X11_paste 23 (43, .invokevirtual 59, 3) rfl) ?_
          refine z_nmS hf (fun s2 hf => ?_)
          refine z_iconst (pc := 46) (v := 1) (zdg D_X11_paste 24 (46, .iconst 1, 1) rfl) rfl ?_
          exact z_iret (pc := 47) rfl rfl (zdg D_X11_paste 25 (47, .ireturn, 1) rfl) (hP _ _ hf)
        · refine z_iconst (pc := 27) (v := 0) (zdg D_X11_paste 13 (27, .iconst 0, 1) rfl) rfl ?_
          exact z_iret (pc := 28) rfl rfl (zdg D_X11_paste 14 (28, .ireturn, 1) rfl) (hP _ _ hf)

def L_X11_picture : List (Nat × Instr × Nat) := [(0, .iload_n 1, 1), (1, .ifCond .ne 11, 3), (4, .aload_n 0, 1), (5, .getfield 51, 3), (8, .invokevirtual 358, 3), (11, .ireturn, 1), (12, .iload_n 1, 1), (13, .iconst 1, 1), (14, .if_icmp .ne 11, 3), (17, .aload_n 0, 1), (18, .getfield 51, 3), (21, .invokevirtual 361, 3), (24, .ireturn, 1), (25, .iload_n 1, 1), (26, .iconst 2, 1), (27, .if_icmp .ne 11, 3), (30, .aload_n 0, 1), (31, .getfield 51, 3), (34, .invokevirtual 364, 3), (37, .ireturn, 1), (38, .iload_n 1, 1), (39, .bipush 10, 2), (41, .if_icmp .lt 32, 3), (44, .aload_n 0, 1), (45, .getfield 12, 3), (48, .iload_n 1, 1), (49, .bipush 10, 2), (51, .isub, 1), (52, .invokevirtual 218, 3), (55, .ifCond .eq 18, 3), (58, .aload_n 0, 1), (59, .getfield 12, 3), (62, .getfield 355, 3), (65, .iload_n 1, 1), (66, .bipush 10, 2), (68, .isub, 1), (69, .iaload, 1), (70, .goto 5, 3), (73, .bipush (-2), 2), (75, .ireturn, 1)]
set_option maxRecDepth 100000 in
theorem D_X11_picture : zdecs cX11_picture L_X11_picture = true := by decide +kernel
noncomputable def f_X11_picture (p1 : Int32) (σ : zG) : Option (Int32) :=
  if p1 = 0 then (f_X0_feet σ).bind (fun q3 => some q3) else if p1 = (1 : Int32) then (f_X0_holes σ).bind (fun q2 => some q2) else if p1 = (2 : Int32) then (f_X0_seams σ).bind (fun q1 => some q1) else if (10 : Int32) ≤ p1 then if (f_X1_isSpot 0 (p1 - (10 : Int32)) σ) = 0 then some (-2 : Int32) else zg (zin (p1 - (10 : Int32)) 56) (some (σ.1 32 0 (p1 - (10 : Int32)).toNatClampNeg)) else some (-2 : Int32)
set_option maxRecDepth 100000 in
set_option maxHeartbeats 4000000 in
theorem c_X11_picture (l : Launch) (p1 : Int32) (σ : zG) (q : Int32) (hq : f_X11_picture p1 σ = some q) : zMet l zsyC m_X11_picture yX11_picture [zR 0 0, zI p1] σ (some (zI q)) σ := by
  refine zEnter [(0, zR 0 0), (1, zI p1)] (by decide) rfl (fun _ => Nat.le_of_ble_eq_true rfl) (fun _ => rfl) (fun w h => ?_) (fun K hv hs => ?_)
  · exact zokm rfl h
  · have hP : ∀ x, f_X11_picture p1 σ = some x → zKv K = some (zI x) ∧ zKs K = σ := fun x h => by rw [hq] at h; cases h; exact ⟨hv, hs⟩
    have hn : f_X11_picture p1 σ ≠ none := fun z => by rw [hq] at z; cases z
    have hf := f_X11_picture.eq_1 p1 σ
    refine z_iload_n (pc := 0) 1 (zdg D_X11_picture 0 (0, .iload_n 1, 1) rfl) rfl rfl ?_
    refine z_if_ne (pc := 1) 12 (zdg D_X11_picture 1 (1, .ifCond .ne 11, 3) rfl) rfl hf (fun hf => ?_) (fun hf => ?_)
    · refine z_iload_n (pc := 12) 1 (zdg D_X11_picture 6 (12, .iload_n 1, 1) rfl) rfl rfl ?_
      refine z_iconst (pc := 13) (v := 1) (zdg D_X11_picture 7 (13, .iconst 1, 1) rfl) rfl ?_
      refine z_icmp_ne (pc := 14) 25 (zdg D_X11_picture 8 (14, .if_icmp .ne 11, 3) rfl) rfl hf (fun hf => ?_) (fun hf => ?_)
      · refine z_iload_n (pc := 25) 1 (zdg D_X11_picture 13 (25, .iload_n 1, 1) rfl) rfl rfl ?_
        refine z_iconst (pc := 26) (v := 2) (zdg D_X11_picture 14 (26, .iconst 2, 1) rfl) rfl ?_
        refine z_icmp_ne (pc := 27) 38 (zdg D_X11_picture 15 (27, .if_icmp .ne 11, 3) rfl) rfl hf (fun hf => ?_) (fun hf => ?_)
        · refine z_iload_n (pc := 38) 1 (zdg D_X11_picture 20 (38, .iload_n 1, 1) rfl) rfl rfl ?_
          refine z_bipush (pc := 39) (v := 10) (zdg D_X11_picture 21 (39, .bipush 10, 2) rfl) rfl ?_
          refine z_icmp_lt (pc := 41) 73 (zdg D_X11_picture 22 (41, .if_icmp .lt 32, 3) rfl) rfl hf (fun hf => ?_) (fun hf => ?_)
          · refine z_bipush (pc := 73) (v := -2) (zdg D_X11_picture 38 (73, .bipush (-2), 2) rfl) rfl ?_
            exact z_iret (pc := 75) rfl rfl (zdg D_X11_picture 39 (75, .ireturn, 1) rfl) (hP _ hf)
          · refine z_aload_n (pc := 44) 0 (zdg D_X11_picture 23 (44, .aload_n 0, 1) rfl) rfl rfl ?_
            refine z_getR (pc := 45) (g := 1) (j := 0) lf_X11_12 rfl rfl rfl (zdg D_X11_picture 24 (45, .getfield 12, 3) rfl) ?_
            refine z_iload_n (pc := 48) 1 (zdg D_X11_picture 25 (48, .iload_n 1, 1) rfl) rfl rfl ?_
            refine z_bipush (pc := 49) (v := 10) (zdg D_X11_picture 26 (49, .bipush 10, 2) rfl) rfl ?_
            refine z_isub (pc := 51) (zdg D_X11_picture 27 (51, .isub, 1) rfl) ?_
            refine z_callV (pc := 52) (rest := []) (st2 := [zI (f_X1_isSpot 0 (p1 - (10 : Int32)) σ)]) (fun l => c_X1_isSpot l 0 (p1 - (10 : Int32)) σ) zv_X1_isSpot lm_X11_218 rfl rfl rfl rfl rfl rfl (Nat.le_of_ble_eq_true rfl) ⟨Nat.le_of_ble_eq_true rfl, Nat.le_of_ble_eq_true rfl⟩ (zdg D_X11_picture 28 (52, .invokevirtual 218, 3) rfl) ?_
            refine z_if_eq (pc := 55) 73 (zdg D_X11_picture 29 (55, .ifCond .eq 18, 3) rfl) rfl hf (fun hf => ?_) (fun hf => ?_)
            · refine z_bipush (pc := 73) (v := -2) (zdg D_X11_picture 38 (73, .bipush (-2), 2) rfl) rfl ?_
              exact z_iret (pc := 75) rfl rfl (zdg D_X11_picture 39 (75, .ireturn, 1) rfl) (hP _ hf)
            · refine z_aload_n (pc := 58) 0 (zdg D_X11_picture 30 (58, .aload_n 0, 1) rfl) rfl rfl ?_
              refine z_getR (pc := 59) (g := 1) (j := 0) lf_X11_12 rfl rfl rfl (zdg D_X11_picture 31 (59, .getfield 12, 3) rfl) ?_
              refine z_getR (pc := 62) (g := 32) (j := 0) lf_X11_355 rfl rfl rfl (zdg D_X11_picture 32 (62, .getfield 355, 3) rfl) ?_
              refine z_iload_n (pc := 65) 1 (zdg D_X11_picture 33 (65, .iload_n 1, 1) rfl) rfl rfl ?_
              refine z_bipush (pc := 66) (v := 10) (zdg D_X11_picture 34 (66, .bipush 10, 2) rfl) rfl ?_
              refine z_isub (pc := 68) (zdg D_X11_picture 35 (68, .isub, 1) rfl) ?_
              refine z_iald (pc := 69) rfl (fun _ => rfl) (zdg D_X11_picture 36 (69, .iaload, 1) rfl) hn hf (fun hf => ?_)
              refine z_goto (pc := 70) 75 (zdg D_X11_picture 37 (70, .goto 5, 3) rfl) rfl ?_
              exact z_iret (pc := 75) rfl rfl (zdg D_X11_picture 39 (75, .ireturn, 1) rfl) (hP _ hf)
        · refine z_aload_n (pc := 30) 0 (zdg D_X11_picture 16 (30, .aload_n 0, 1) rfl) rfl rfl ?_
          refine z_getR (pc := 31) (g := 6) (j := 0) lf_X11_51 rfl rfl rfl (zdg D_X11_picture 17 (31, .getfield 51, 3) rfl) ?_
          refine z_bind hn hf (fun q1 hq hf => ?_)
          refine z_callV (pc := 34) (rest := []) (st2 := [zI q1]) (fun l => c_X0_seams l σ q1 hq) zv_X0_seams lm_X11_364 rfl rfl rfl rfl rfl rfl (Nat.le_of_ble_eq_true rfl) ⟨Nat.le_of_ble_eq_true rfl, Nat.le_of_ble_eq_true rfl⟩ (zdg D_X11_picture 18 (34, .invokevirtual 364, 3) rfl) ?_
          exact z_iret (pc := 37) rfl rfl (zdg D_X11_picture 19 (37, .ireturn, 1) rfl) (hP _ hf)
      · refine z_aload_n (pc := 17) 0 (zdg D_X11_picture 9 (17, .aload_n 0, 1) rfl) rfl rfl ?_
        refine z_getR (pc := 18) (g := 6) (j := 0) lf_X11_51 rfl rfl rfl (zdg D_X11_picture 10 (18, .getfield 51, 3) rfl) ?_
        refine z_bind hn hf (fun q2 hq hf => ?_)
        refine z_callV (pc := 21) (rest := []) (st2 := [zI q2]) (fun l => c_X0_holes l σ q2 hq) zv_X0_holes lm_X11_361 rfl rfl rfl rfl rfl rfl (Nat.le_of_ble_eq_true rfl) ⟨Nat.le_of_ble_eq_true rfl, Nat.le_of_ble_eq_true rfl⟩ (zdg D_X11_picture 11 (21, .invokevirtual 361, 3) rfl) ?_
        exact z_iret (pc := 24) rfl rfl (zdg D_X11_picture 12 (24, .ireturn, 1) rfl) (hP _ hf)
    · refine z_aload_n (pc := 4) 0 (zdg D_X11_picture 2 (4, .aload_n 0, 1) rfl) rfl rfl ?_
      refine z_getR (pc := 5) (g := 6) (j := 0) lf_X11_51 rfl rfl rfl (zdg D_X11_picture 3 (5, .getfield 51, 3) rfl) ?_
      refine z_bind hn hf (fun q3 hq hf => ?_)
      refine z_callV (pc := 8) (rest := []) (st2 := [zI q3]) (fun l => c_X0_feet l σ q3 hq) zv_X0_feet lm_X11_358 rfl rfl rfl rfl rfl rfl (Nat.le_of_ble_eq_true rfl) ⟨Nat.le_of_ble_eq_true rfl, Nat.le_of_ble_eq_true rfl⟩ (zdg D_X11_picture 4 (8, .invokevirtual 358, 3) rfl) ?_
      exact z_iret (pc := 11) rfl rfl (zdg D_X11_picture 5 (11, .ireturn, 1) rfl) (hP _ hf)

def L_X11_undo : List (Nat × Instr × Nat) := [(0, .aload_n 0, 1), (1, .getfield 19, 3), (4, .aload_n 0, 1), (5, .getfield 12, 3), (8, .invokevirtual 367, 3), (11, .ireturn, 1)]
set_option maxRecDepth 100000 in
theorem D_X11_undo : zdecs cX11_undo L_X11_undo = true := by decide +kernel
noncomputable def f_X11_undo (σ : zG) : Option (Int32 × zG) :=
  (f_X2_goBack 0 σ).bind (fun q1 => zg (zbl q1.1) (some (q1.1, q1.2)))
set_option maxRecDepth 100000 in
set_option maxHeartbeats 4000000 in
theorem c_X11_undo (l : Launch)  (σ : zG) (q : Int32 × zG) (hq : f_X11_undo σ = some q) : zMet l zsyC m_X11_undo yX11_undo [zR 0 0] σ (some (zI q.1)) q.2 := by
  refine zEnter [(0, zR 0 0)] (by decide) rfl (fun _ => Nat.le_of_ble_eq_true rfl) (fun _ => rfl) (fun w h => ?_) (fun K hv hs => ?_)
  · exact zokm rfl h
  · have hP : ∀ x s, f_X11_undo σ = some (x, s) → zKv K = some (zI x) ∧ zKs K = s := fun x s h => by rw [hq] at h; cases h; exact ⟨hv, hs⟩
    have hn : f_X11_undo σ ≠ none := fun z => by rw [hq] at z; cases z
    have hf := f_X11_undo.eq_1 σ
    refine z_aload_n (pc := 0) 0 (zdg D_X11_undo 0 (0, .aload_n 0, 1) rfl) rfl rfl ?_
    refine z_getR (pc := 1) (g := 2) (j := 0) lf_X11_19 rfl rfl rfl (zdg D_X11_undo 1 (1, .getfield 19, 3) rfl) ?_
    refine z_aload_n (pc := 4) 0 (zdg D_X11_undo 2 (4, .aload_n 0, 1) rfl) rfl rfl ?_
    refine z_getR (pc := 5) (g := 1) (j := 0) lf_X11_12 rfl rfl rfl (zdg D_X11_undo 3 (5, .getfield 12, 3) rfl) ?_
    refine z_bind hn hf (fun q1 hq hf => ?_)
    refine z_callV (pc := 8) (rest := []) (st2 := [zI q1.1]) (fun l => c_X2_goBack l 0 σ q1 hq) zv_X2_goBack lm_X11_367 rfl rfl rfl rfl rfl rfl (Nat.le_of_ble_eq_true rfl) ⟨Nat.le_of_ble_eq_true rfl, Nat.le_of_ble_eq_true rfl⟩ (zdg D_X11_undo 4 (8, .invokevirtual 367, 3) rfl) ?_
    exact z_zret (pc := 11) rfl (zdg D_X11_undo 5 (11, .ireturn, 1) rfl) hn hf (fun hf => (hP _ _ hf))

def L_X11_look : List (Nat × Instr × Nat) := [(0, .iload_n 1, 1), (1, .tableswitch 103 5 11 #[43, 54, 65, 103, 73, 84, 95], 43), (44, .aload_n 0, 1), (45, .getfield 12, 3), (48, .getfield 117, 3), (51, .getfield 138, 3), (54, .ireturn, 1), (55, .aload_n 0, 1), (56, .getfield 12, 3), (59, .getfield 198, 3), (62, .getfield 202, 3), (65, .ireturn, 1), (66, .aload_n 0, 1), (67, .getfield 12, 3), (70, .getfield 352, 3), (73, .ireturn, 1), (74, .aload_n 0, 1), (75, .getfield 12, 3), (78, .getfield 96, 3), (81, .getfield 149, 3), (84, .ireturn, 1), (85, .aload_n 0, 1), (86, .getfield 12, 3), (89, .getfield 108, 3), (92, .getfield 149, 3), (95, .ireturn, 1), (96, .aload_n 0, 1), (97, .getfield 19, 3), (100, .getfield 376, 3), (103, .ireturn, 1), (104, .aload_n 0, 1), (105, .getfield 12, 3), (108, .iload_n 1, 1), (109, .invokevirtual 377, 3), (112, .ireturn, 1)]
set_option maxRecDepth 100000 in
theorem D_X11_look : zdecs cX11_look L_X11_look = true := by decide +kernel
noncomputable def f_X11_look (p1 : Int32) (σ : zG) : Int32 :=
  if p1 = 5 then (σ.1 8 0 0) else if p1 = 6 then (σ.1 7 0 0) else if p1 = 7 then (σ.1 1 0 9) else if p1 = 8 then (f_X1_numberOf 0 p1 σ) else if p1 = 9 then (σ.1 10 0 0) else if p1 = 10 then (σ.1 10 1 0) else if p1 = 11 then (σ.1 2 0 1) else (f_X1_numberOf 0 p1 σ)
set_option maxRecDepth 100000 in
set_option maxHeartbeats 4000000 in
theorem c_X11_look (l : Launch) (p1 : Int32) (σ : zG) : zMet l zsyC m_X11_look yX11_look [zR 0 0, zI p1] σ (some (zI (f_X11_look p1 σ))) σ := by
  refine zEnter [(0, zR 0 0), (1, zI p1)] (by decide) rfl (fun _ => Nat.le_of_ble_eq_true rfl) (fun _ => rfl) (fun w h => ?_) (fun K hv hs => ?_)
  · exact zokm rfl h
  · have hP : ∀ x, f_X11_look p1 σ = x → zKv K = some (zI x) ∧ zKs K = σ := fun x h => by rw [h] at hv; exact ⟨hv, hs⟩
    have hf := f_X11_look.eq_1 p1 σ
    refine z_iload_n (pc := 0) 1 (zdg D_X11_look 0 (0, .iload_n 1, 1) rfl) rfl rfl ?_
    refine zif hf (fun hc0 hf => ?_) (fun hc0 hf => ?_)
    · refine z_tsIn (pc := 1) (c := 5) (j := 0) 44 (zdg D_X11_look 1 (1, .tableswitch 103 5 11 #[43, 54, 65, 103, 73, 84, 95], 43) rfl) hc0 (by decide) (by decide) rfl rfl rfl ?_
      refine z_aload_n (pc := 44) 0 (zdg D_X11_look 2 (44, .aload_n 0, 1) rfl) rfl rfl ?_
      refine z_getR (pc := 45) (g := 1) (j := 0) lf_X11_12 rfl rfl rfl (zdg D_X11_look 3 (45, .getfield 12, 3) rfl) ?_
      refine z_getR (pc := 48) (g := 8) (j := 0) lf_X11_117 rfl rfl rfl (zdg D_X11_look 4 (48, .getfield 117, 3) rfl) ?_
      refine z_getI (pc := 51) lf_X11_138 rfl rfl (zdg D_X11_look 5 (51, .getfield 138, 3) rfl) ?_
      exact z_iret (pc := 54) rfl rfl (zdg D_X11_look 6 (54, .ireturn, 1) rfl) (hP _ hf)
    · skip
      refine zif hf (fun hc1 hf => ?_) (fun hc1 hf => ?_)
      · refine z_tsIn (pc := 1) (c := 6) (j := 1) 55 (zdg D_X11_look 1 (1, .tableswitch 103 5 11 #[43, 54, 65, 103, 73, 84, 95], 43) rfl) hc1 (by decide) (by decide) rfl rfl rfl ?_
        refine z_aload_n (pc := 55) 0 (zdg D_X11_look 7 (55, .aload_n 0, 1) rfl) rfl rfl ?_
        refine z_getR (pc := 56) (g := 1) (j := 0) lf_X11_12 rfl rfl rfl (zdg D_X11_look 8 (56, .getfield 12, 3) rfl) ?_
        refine z_getR (pc := 59) (g := 7) (j := 0) lf_X11_198 rfl rfl rfl (zdg D_X11_look 9 (59, .getfield 198, 3) rfl) ?_
        refine z_getI (pc := 62) lf_X11_202 rfl rfl (zdg D_X11_look 10 (62, .getfield 202, 3) rfl) ?_
        exact z_iret (pc := 65) rfl rfl (zdg D_X11_look 11 (65, .ireturn, 1) rfl) (hP _ hf)
      · skip
        refine zif hf (fun hc2 hf => ?_) (fun hc2 hf => ?_)
        · refine z_tsIn (pc := 1) (c := 7) (j := 2) 66 (zdg D_X11_look 1 (1, .tableswitch 103 5 11 #[43, 54, 65, 103, 73, 84, 95], 43) rfl) hc2 (by decide) (by decide) rfl rfl rfl ?_
          refine z_aload_n (pc := 66) 0 (zdg D_X11_look 12 (66, .aload_n 0, 1) rfl) rfl rfl ?_
          refine z_getR (pc := 67) (g := 1) (j := 0) lf_X11_12 rfl rfl rfl (zdg D_X11_look 13 (67, .getfield 12, 3) rfl) ?_
          refine z_getI (pc := 70) lf_X11_352 rfl rfl (zdg D_X11_look 14 (70, .getfield 352, 3) rfl) ?_
          exact z_iret (pc := 73) rfl rfl (zdg D_X11_look 15 (73, .ireturn, 1) rfl) (hP _ hf)
        · skip
          refine zif hf (fun hc3 hf => ?_) (fun hc3 hf => ?_)
          · refine z_tsIn (pc := 1) (c := 8) (j := 3) 104 (zdg D_X11_look 1 (1, .tableswitch 103 5 11 #[43, 54, 65, 103, 73, 84, 95], 43) rfl) hc3 (by decide) (by decide) rfl rfl rfl ?_
            refine z_aload_n (pc := 104) 0 (zdg D_X11_look 30 (104, .aload_n 0, 1) rfl) rfl rfl ?_
            refine z_getR (pc := 105) (g := 1) (j := 0) lf_X11_12 rfl rfl rfl (zdg D_X11_look 31 (105, .getfield 12, 3) rfl) ?_
            refine z_iload_n (pc := 108) 1 (zdg D_X11_look 32 (108, .iload_n 1, 1) rfl) rfl rfl ?_
            refine z_callV (pc := 109) (rest := []) (st2 := [zI (f_X1_numberOf 0 p1 σ)]) (fun l => c_X1_numberOf l 0 p1 σ) zv_X1_numberOf lm_X11_377 rfl rfl rfl rfl rfl rfl (Nat.le_of_ble_eq_true rfl) ⟨Nat.le_of_ble_eq_true rfl, Nat.le_of_ble_eq_true rfl⟩ (zdg D_X11_look 33 (109, .invokevirtual 377, 3) rfl) ?_
            exact z_iret (pc := 112) rfl rfl (zdg D_X11_look 34 (112, .ireturn, 1) rfl) (hP _ hf)
          · skip
            refine zif hf (fun hc4 hf => ?_) (fun hc4 hf => ?_)
            · refine z_tsIn (pc := 1) (c := 9) (j := 4) 74 (zdg D_X11_look 1 (1, .tableswitch 103 5 11 #[43, 54, 65, 103, 73, 84, 95], 43) rfl) hc4 (by decide) (by decide) rfl rfl rfl ?_
              refine z_aload_n (pc := 74) 0 (zdg D_X11_look 16 (74, .aload_n 0, 1) rfl) rfl rfl ?_
              refine z_getR (pc := 75) (g := 1) (j := 0) lf_X11_12 rfl rfl rfl (zdg D_X11_look 17 (75, .getfield 12, 3) rfl) ?_
              refine z_getR (pc := 78) (g := 10) (j := 0) lf_X11_96 rfl rfl rfl (zdg D_X11_look 18 (78, .getfield 96, 3) rfl) ?_
              refine z_getI (pc := 81) lf_X11_149 rfl rfl (zdg D_X11_look 19 (81, .getfield 149, 3) rfl) ?_
              exact z_iret (pc := 84) rfl rfl (zdg D_X11_look 20 (84, .ireturn, 1) rfl) (hP _ hf)
            · skip
              refine zif hf (fun hc5 hf => ?_) (fun hc5 hf => ?_)
              · refine z_tsIn (pc := 1) (c := 10) (j := 5) 85 (zdg D_X11_look 1 (1, .tableswitch 103 5 11 #[43, 54, 65, 103, 73, 84, 95], 43) rfl) hc5 (by decide) (by decide) rfl rfl rfl ?_
                refine z_aload_n (pc := 85) 0 (zdg D_X11_look 21 (85, .aload_n 0, 1) rfl) rfl rfl ?_
                refine z_getR (pc := 86) (g := 1) (j := 0) lf_X11_12 rfl rfl rfl (zdg D_X11_look 22 (86, .getfield 12, 3) rfl) ?_
                refine z_getR (pc := 89) (g := 10) (j := 1) lf_X11_108 rfl rfl rfl (zdg D_X11_look 23 (89, .getfield 108, 3) rfl) ?_
                refine z_getI (pc := 92) lf_X11_149 rfl rfl (zdg D_X11_look 24 (92, .getfield 149, 3) rfl) ?_
                exact z_iret (pc := 95) rfl rfl (zdg D_X11_look 25 (95, .ireturn, 1) rfl) (hP _ hf)
              · skip
                refine zif hf (fun hc6 hf => ?_) (fun hc6 hf => ?_)
                · refine z_tsIn (pc := 1) (c := 11) (j := 6) 96 (zdg D_X11_look 1 (1, .tableswitch 103 5 11 #[43, 54, 65, 103, 73, 84, 95], 43) rfl) hc6 (by decide) (by decide) rfl rfl rfl ?_
                  refine z_aload_n (pc := 96) 0 (zdg D_X11_look 26 (96, .aload_n 0, 1) rfl) rfl rfl ?_
                  refine z_getR (pc := 97) (g := 2) (j := 0) lf_X11_19 rfl rfl rfl (zdg D_X11_look 27 (97, .getfield 19, 3) rfl) ?_
                  refine z_getI (pc := 100) lf_X11_376 rfl rfl (zdg D_X11_look 28 (100, .getfield 376, 3) rfl) ?_
                  exact z_iret (pc := 103) rfl rfl (zdg D_X11_look 29 (103, .ireturn, 1) rfl) (hP _ hf)
                · skip
                  refine z_tsOut (pc := 1) 104 (zdg D_X11_look 1 (1, .tableswitch 103 5 11 #[43, 54, 65, 103, 73, 84, 95], 43) rfl) (by have e0 := lv_neT hc0 (k := 5) (a := 5) rfl; have e1 := lv_neT hc1 (k := 6) (a := 6) rfl; have e2 := lv_neT hc2 (k := 7) (a := 7) rfl; have e3 := lv_neT hc3 (k := 8) (a := 8) rfl; have e4 := lv_neT hc4 (k := 9) (a := 9) rfl; have e5 := lv_neT hc5 (k := 10) (a := 10) rfl; have e6 := lv_neT hc6 (k := 11) (a := 11) rfl; omega) rfl ?_
                  refine z_aload_n (pc := 104) 0 (zdg D_X11_look 30 (104, .aload_n 0, 1) rfl) rfl rfl ?_
                  refine z_getR (pc := 105) (g := 1) (j := 0) lf_X11_12 rfl rfl rfl (zdg D_X11_look 31 (105, .getfield 12, 3) rfl) ?_
                  refine z_iload_n (pc := 108) 1 (zdg D_X11_look 32 (108, .iload_n 1, 1) rfl) rfl rfl ?_
                  refine z_callV (pc := 109) (rest := []) (st2 := [zI (f_X1_numberOf 0 p1 σ)]) (fun l => c_X1_numberOf l 0 p1 σ) zv_X1_numberOf lm_X11_377 rfl rfl rfl rfl rfl rfl (Nat.le_of_ble_eq_true rfl) ⟨Nat.le_of_ble_eq_true rfl, Nat.le_of_ble_eq_true rfl⟩ (zdg D_X11_look 33 (109, .invokevirtual 377, 3) rfl) ?_
                  exact z_iret (pc := 112) rfl rfl (zdg D_X11_look 34 (112, .ireturn, 1) rfl) (hP _ hf)

def L_X12_begins : List (Nat × Instr × Nat) := [(0, .aload_n 0, 1), (1, .getfield 7, 3), (4, .iconst 2, 1), (5, .iaload, 1), (6, .istore_n 3, 1), (7, .iconst 0, 1), (8, .istore 4, 2), (10, .iload 4, 2), (12, .sipush 9248, 3), (15, .if_icmp .ge 17, 3), (18, .aload_n 0, 1), (19, .getfield 7, 3), (22, .iload 4, 2), (24, .iconst 0, 1), (25, .iastore, 1), (26, .iinc 4 1, 3), (29, .goto (-19), 3), (32, .aload_n 0, 1), (33, .getfield 7, 3), (36, .iconst 2, 1), (37, .iload_n 3, 1), (38, .iastore, 1), (39, .aload_n 0, 1), (40, .getfield 7, 3), (43, .bipush 30, 2), (45, .iload_n 1, 1), (46, .iastore, 1), (47, .aload_n 0, 1), (48, .getfield 7, 3), (51, .bipush 31, 2), (53, .iload_n 2, 1), (54, .iastore, 1), (55, .aload_n 0, 1), (56, .getfield 7, 3), (59, .bipush 32, 2), (61, .iload_n 1, 1), (62, .iastore, 1), (63, .aload_n 0, 1), (64, .getfield 7, 3), (67, .bipush 34, 2), (69, .iconst 5, 1), (70, .iastore, 1), (71, .aload_n 0, 1), (72, .getfield 7, 3), (75, .bipush 35, 2), (77, .bipush 20, 2), (79, .iastore, 1), (80, .iconst 0, 1), (81, .istore 4, 2), (83, .iload 4, 2), (85, .bipush 64, 2), (87, .if_icmp .ge 20, 3), (90, .aload_n 0, 1), (91, .getfield 7, 3), (94, .bipush 40, 2), (96, .iload 4, 2), (98, .iadd, 1), (99, .iconst (-1), 1), (100, .iastore, 1), (101, .iinc 4 1, 3), (104, .goto (-21), 3), (107, .aload_n 0, 1), (108, .iconst 0, 1), (109, .putfield 61, 3), (112, .return_, 1)]
set_option maxRecDepth 100000 in
theorem D_X12_begins : zdecs cX12_begins L_X12_begins = true := by decide +kernel
noncomputable def b_X12_begins_10  (v4_1 : Int32) (s2 : zG) : Option ((Int32 × zG) ⊕ (zG)) :=
  if v4_1 < (9248 : Int32) then zg (zin v4_1 9248) (zb (zwI s2 1 0 v4_1.toNatClampNeg (0 : Int32)) (fun s3 => some (Sum.inl ((v4_1 + 1), s3)))) else some (Sum.inr s2)
noncomputable def b_X12_begins_83  (v4_11 : Int32) (s12 : zG) : Option ((Int32 × zG) ⊕ (zG)) :=
  if v4_11 < (64 : Int32) then zg (zin ((40 : Int32) + v4_11) 9248) (zb (zwI s12 1 0 ((40 : Int32) + v4_11).toNatClampNeg (-1 : Int32)) (fun s13 => some (Sum.inl ((v4_11 + 1), s13)))) else some (Sum.inr s12)
noncomputable def f_X12_begins (p1 : Int32) (p2 : Int32) (σ : zG) : Option (zG) :=
  (zlp (fun q : Int32 × zG => b_X12_begins_10 q.1 q.2) ((0 : Int32), σ)).bind (fun e4 : zG => zb (zwI e4 1 0 2 (σ.1 1 0 2)) (fun s5 => zb (zwI s5 1 0 30 p1) (fun s6 => zb (zwI s6 1 0 31 p2) (fun s7 => zb (zwI s7 1 0 32 p1) (fun s8 => zb (zwI s8 1 0 34 (5 : Int32)) (fun s9 => zb (zwI s9 1 0 35 (20 : Int32)) (fun s10 => (zlp (fun q : Int32 × zG => b_X12_begins_83 q.1 q.2) ((0 : Int32), s10)).bind (fun e14 : zG => zb (zwI e14 0 0 3 (0 : Int32)) (fun s15 => some s15)))))))))
set_option maxRecDepth 100000 in
set_option maxHeartbeats 4000000 in
theorem c_X12_begins (l : Launch) (p1 : Int32) (p2 : Int32) (σ : zG) (q : zG) (hq : f_X12_begins p1 p2 σ = some q) : zMet l zsyM m_X12_begins yX12_begins [zR 0 0, zI p1, zI p2] σ none q := by
  refine zEnter [(0, zR 0 0), (1, zI p1), (2, zI p2)] (by decide) rfl (fun _ => Nat.le_of_ble_eq_true rfl) (fun _ => rfl) (fun w h => ?_) (fun K hv hs => ?_)
  · exact zokm rfl h
  · have hP : ∀ s, f_X12_begins p1 p2 σ = some s → zKv K = none ∧ zKs K = s := fun s h => by rw [hq] at h; cases h; exact ⟨hv, hs⟩
    have hn : f_X12_begins p1 p2 σ ≠ none := fun z => by rw [hq] at z; cases z
    have hf := f_X12_begins.eq_1 p1 p2 σ
    refine z_aload_n (pc := 0) 0 (zdg D_X12_begins 0 (0, .aload_n 0, 1) rfl) rfl rfl ?_
    refine z_getR (pc := 1) (g := 1) (j := 0) lf_X12_7 rfl rfl rfl (zdg D_X12_begins 1 (1, .getfield 7, 3) rfl) ?_
    refine z_iconst (pc := 4) (v := 2) (zdg D_X12_begins 2 (4, .iconst 2, 1) rfl) rfl ?_
    refine z_ialdC (pc := 5) (j := 2) rfl (fun _ => rfl) (zdg D_X12_begins 3 (5, .iaload, 1) rfl) rfl rfl ?_
    refine z_istore_n (pc := 6) (al' := [(3, zI (σ.1 1 0 2)), (0, zR 0 0), (1, zI p1), (2, zI p2)]) (zdg D_X12_begins 4 (6, .istore_n 3, 1) rfl) rfl (by decide) rfl ?_
    refine z_iconst (pc := 7) (v := 0) (zdg D_X12_begins 5 (7, .iconst 0, 1) rfl) rfl ?_
    refine z_istore (pc := 8) (al' := [(4, zI (0 : Int32)), (3, zI (σ.1 1 0 2)), (0, zR 0 0), (1, zI p1), (2, zI p2)]) (zdg D_X12_begins 6 (8, .istore 4, 2) rfl) (by decide) rfl ?_
    refine z_sub (al' := [(0, zR 0 0), (1, zI p1), (2, zI p2), (3, zI (σ.1 1 0 2)), (4, zI (0 : Int32))]) [2, 3, 4, 1, 0] rfl ?_
    refine z_loop (f := (fun q : Int32 × zG => b_X12_begins_10 q.1 q.2)) (a := ((0 : Int32), σ)) (fun q : Int32 × zG => zX zsyM m_X12_begins K 10 [(0, zR 0 0), (1, zI p1), (2, zI p2), (3, zI (σ.1 1 0 2)), (4, zI q.1)] [] q.2) (fun e4 : zG => zX zsyM m_X12_begins K 32 [(0, zR 0 0), (1, zI p1), (2, zI p2), (3, zI (σ.1 1 0 2))] [] e4) hn hf ?_ ?_
    · intro e4 hf
      refine z_aload_n (pc := 32) 0 (zdg D_X12_begins 17 (32, .aload_n 0, 1) rfl) rfl rfl ?_
      refine z_getR (pc := 33) (g := 1) (j := 0) lf_X12_7 rfl rfl rfl (zdg D_X12_begins 18 (33, .getfield 7, 3) rfl) ?_
      refine z_iconst (pc := 36) (v := 2) (zdg D_X12_begins 19 (36, .iconst 2, 1) rfl) rfl ?_
      refine z_iload_n (pc := 37) 3 (zdg D_X12_begins 20 (37, .iload_n 3, 1) rfl) rfl rfl ?_
      refine z_iastC (pc := 38) (j := 2) rfl (fun _ => rfl) (zdg D_X12_begins 21 (38, .iastore, 1) rfl) rfl rfl ?_
      refine z_nmS hf (fun s5 hf => ?_)
      refine z_aload_n (pc := 39) 0 (zdg D_X12_begins 22 (39, .aload_n 0, 1) rfl) rfl rfl ?_
      refine z_getR (pc := 40) (g := 1) (j := 0) lf_X12_7 rfl rfl rfl (zdg D_X12_begins 23 (40, .getfield 7, 3) rfl) ?_
      refine z_bipush (pc := 43) (v := 30) (zdg D_X12_begins 24 (43, .bipush 30, 2) rfl) rfl ?_
      refine z_iload_n (pc := 45) 1 (zdg D_X12_begins 25 (45, .iload_n 1, 1) rfl) rfl rfl ?_
      refine z_iastC (pc := 46) (j := 30) rfl (fun _ => rfl) (zdg D_X12_begins 26 (46, .iastore, 1) rfl) rfl rfl ?_
      refine z_nmS hf (fun s6 hf => ?_)
      refine z_aload_n (pc := 47) 0 (zdg D_X12_begins 27 (47, .aload_n 0, 1) rfl) rfl rfl ?_
      refine z_getR (pc := 48) (g := 1) (j := 0) lf_X12_7 rfl rfl rfl (zdg D_X12_begins 28 (48, .getfield 7, 3) rfl) ?_
      refine z_bipush (pc := 51) (v := 31) (zdg D_X12_begins 29 (51, .bipush 31, 2) rfl) rfl ?_
      refine z_iload_n (pc := 53) 2 (zdg D_X12_begins 30 (53, .iload_n 2, 1) rfl) rfl rfl ?_
      refine z_iastC (pc := 54) (j := 31) rfl (fun _ => rfl) (zdg D_X12_begins 31 (54, .iastore, 1) rfl) rfl rfl ?_
      refine z_nmS hf (fun s7 hf => ?_)
      refine z_aload_n (pc := 55) 0 (zdg D_X12_begins 32 (55, .aload_n 0, 1) rfl) rfl rfl ?_
      refine z_getR (pc := 56) (g := 1) (j := 0) lf_X12_7 rfl rfl rfl (zdg D_X12_begins 33 (56, .getfield 7, 3) rfl) ?_
      refine z_bipush (pc := 59) (v := 32) (zdg D_X12_begins 34 (59, .bipush 32, 2) rfl) rfl ?_
      refine z_iload_n (pc := 61) 1 (zdg D_X12_begins 35 (61, .iload_n 1, 1) rfl) rfl rfl ?_
      refine z_iastC (pc := 62) (j := 32) rfl (fun _ => rfl) (zdg D_X12_begins 36 (62, .iastore, 1) rfl) rfl rfl ?_
      refine z_nmS hf (fun s8 hf => ?_)
      refine z_aload_n (pc := 63) 0 (zdg D_X12_begins 37 (63, .aload_n 0, 1) rfl) rfl rfl ?_
      refine z_getR (pc := 64) (g := 1) (j := 0) lf_X12_7 rfl rfl rfl (zdg D_X12_begins 38 (64, .getfield 7, 3) rfl) ?_
      refine z_bipush (pc := 67) (v := 34) (zdg D_X12_begins 39 (67, .bipush 34, 2) rfl) rfl ?_
      refine z_iconst (pc := 69) (v := 5) (zdg D_X12_begins 40 (69, .iconst 5, 1) rfl) rfl ?_
      refine z_iastC (pc := 70) (j := 34) rfl (fun _ => rfl) (zdg D_X12_begins 41 (70, .iastore, 1) rfl) rfl rfl ?_
      refine z_nmS hf (fun s9 hf => ?_)
      refine z_aload_n (pc := 71) 0 (zdg D_X12_begins 42 (71, .aload_n 0, 1) rfl) rfl rfl ?_
      refine z_getR (pc := 72) (g := 1) (j := 0) lf_X12_7 rfl rfl rfl (zdg D_X12_begins 43 (72, .getfield 7, 3) rfl) ?_
      refine z_bipush (pc := 75) (v := 35) (zdg D_X12_begins 44 (75, .bipush 35, 2) rfl) rfl ?_
      refine z_bipush (pc := 77) (v := 20) (zdg D_X12_begins 45 (77, .bipush 20, 2) rfl) rfl ?_
      refine z_iastC (pc := 79) (j := 35) rfl (fun _ => rfl) (zdg D_X12_begins 46 (79, .iastore, 1) rfl) rfl rfl ?_
      refine z_nmS hf (fun s10 hf => ?_)
      refine z_iconst (pc := 80) (v := 0) (zdg D_X12_begins 47 (80, .iconst 0, 1) rfl) rfl ?_
      refine z_istore (pc := 81) (al' := [(4, zI (0 : Int32)), (0, zR 0 0), (1, zI p1), (2, zI p2), (3, zI (σ.1 1 0 2))]) (zdg D_X12_begins 48 (81, .istore 4, 2) rfl) (by decide) rfl ?_
      refine z_sub (al' := [(0, zR 0 0), (4, zI (0 : Int32))]) [1, 0] rfl ?_
      refine z_loop (f := (fun q : Int32 × zG => b_X12_begins_83 q.1 q.2)) (a := ((0 : Int32), s10)) (fun q : Int32 × zG => zX zsyM m_X12_begins K 83 [(0, zR 0 0), (4, zI q.1)] [] q.2) (fun e14 : zG => zX zsyM m_X12_begins K 107 [(0, zR 0 0)] [] e14) hn hf ?_ ?_
      · intro e14 hf
        refine z_aload_n (pc := 107) 0 (zdg D_X12_begins 61 (107, .aload_n 0, 1) rfl) rfl rfl ?_
        refine z_iconst (pc := 108) (v := 0) (zdg D_X12_begins 62 (108, .iconst 0, 1) rfl) rfl ?_
        refine z_putI (pc := 109) lw_X12_61 rfl rfl rfl rfl (zdg D_X12_begins 63 (109, .putfield 61, 3) rfl) ?_
        refine z_nmS hf (fun s15 hf => ?_)
        exact z_vret (pc := 112) rfl (zdg D_X12_begins 64 (112, .return_, 1) rfl) (hP _ hf)
      · rintro ⟨v4_11, s12⟩ hn hi hx
        have hf := b_X12_begins_83.eq_1  v4_11 s12
        refine z_iload (pc := 83) 1 (zdg D_X12_begins 49 (83, .iload 4, 2) rfl) rfl ?_
        refine z_bipush (pc := 85) (v := 64) (zdg D_X12_begins 50 (85, .bipush 64, 2) rfl) rfl ?_
        refine z_icmp_ge (pc := 87) 107 (zdg D_X12_begins 51 (87, .if_icmp .ge 20, 3) rfl) rfl hf (fun hf => ?_) (fun hf => ?_)
        · refine z_sub (al' := [(0, zR 0 0)]) [0] rfl ?_
          exact hx s12 hf
        · refine z_aload_n (pc := 90) 0 (zdg D_X12_begins 52 (90, .aload_n 0, 1) rfl) rfl rfl ?_
          refine z_getR (pc := 91) (g := 1) (j := 0) lf_X12_7 rfl rfl rfl (zdg D_X12_begins 53 (91, .getfield 7, 3) rfl) ?_
          refine z_bipush (pc := 94) (v := 40) (zdg D_X12_begins 54 (94, .bipush 40, 2) rfl) rfl ?_
          refine z_iload (pc := 96) 1 (zdg D_X12_begins 55 (96, .iload 4, 2) rfl) rfl ?_
          refine z_iadd (pc := 98) (zdg D_X12_begins 56 (98, .iadd, 1) rfl) ?_
          refine z_iconst (pc := 99) (v := -1) (zdg D_X12_begins 57 (99, .iconst (-1), 1) rfl) rfl ?_
          refine z_iast (pc := 100) rfl (fun _ => rfl) (zdg D_X12_begins 58 (100, .iastore, 1) rfl) hn hf (fun hf => ?_)
          refine z_nmS hf (fun s13 hf => ?_)
          refine z_iinc (pc := 101) (v0 := (v4_11 + 1)) (al' := [(4, zI (v4_11 + 1)), (0, zR 0 0)]) 1 (zdg D_X12_begins 59 (101, .iinc 4 1, 3) rfl) rfl rfl (by decide) rfl ?_
          refine z_goto (pc := 104) 83 (zdg D_X12_begins 60 (104, .goto (-21), 3) rfl) rfl ?_
          refine z_sub (al' := [(0, zR 0 0), (4, zI (v4_11 + 1))]) [1, 0] rfl ?_
          exact hi ((v4_11 + 1), s13) hf
    · rintro ⟨v4_1, s2⟩ hn hi hx
      have hf := b_X12_begins_10.eq_1  v4_1 s2
      refine z_iload (pc := 10) 4 (zdg D_X12_begins 7 (10, .iload 4, 2) rfl) rfl ?_
      refine z_sipush (pc := 12) (v := 9248) (zdg D_X12_begins 8 (12, .sipush 9248, 3) rfl) rfl ?_
      refine z_icmp_ge (pc := 15) 32 (zdg D_X12_begins 9 (15, .if_icmp .ge 17, 3) rfl) rfl hf (fun hf => ?_) (fun hf => ?_)
      · refine z_sub (al' := [(0, zR 0 0), (1, zI p1), (2, zI p2), (3, zI (σ.1 1 0 2))]) [0, 1, 2, 3] rfl ?_
        exact hx s2 hf
      · refine z_aload_n (pc := 18) 0 (zdg D_X12_begins 10 (18, .aload_n 0, 1) rfl) rfl rfl ?_
        refine z_getR (pc := 19) (g := 1) (j := 0) lf_X12_7 rfl rfl rfl (zdg D_X12_begins 11 (19, .getfield 7, 3) rfl) ?_
        refine z_iload (pc := 22) 4 (zdg D_X12_begins 12 (22, .iload 4, 2) rfl) rfl ?_
        refine z_iconst (pc := 24) (v := 0) (zdg D_X12_begins 13 (24, .iconst 0, 1) rfl) rfl ?_
        refine z_iast (pc := 25) rfl (fun _ => rfl) (zdg D_X12_begins 14 (25, .iastore, 1) rfl) hn hf (fun hf => ?_)
        refine z_nmS hf (fun s3 hf => ?_)
        refine z_iinc (pc := 26) (v0 := (v4_1 + 1)) (al' := [(4, zI (v4_1 + 1)), (0, zR 0 0), (1, zI p1), (2, zI p2), (3, zI (σ.1 1 0 2))]) 4 (zdg D_X12_begins 15 (26, .iinc 4 1, 3) rfl) rfl rfl (by decide) rfl ?_
        refine z_goto (pc := 29) 10 (zdg D_X12_begins 16 (29, .goto (-19), 3) rfl) rfl ?_
        refine z_sub (al' := [(0, zR 0 0), (1, zI p1), (2, zI p2), (3, zI (σ.1 1 0 2)), (4, zI (v4_1 + 1))]) [1, 2, 3, 4, 0] rfl ?_
        exact hi ((v4_1 + 1), s3) hf

def L_X12_isIn : List (Nat × Instr × Nat) := [(0, .iload_n 0, 1), (1, .iload_n 1, 1), (2, .if_icmp .lt 12, 3), (5, .iload_n 0, 1), (6, .iload_n 2, 1), (7, .if_icmp .gt 7, 3), (10, .iconst 1, 1), (11, .goto 4, 3), (14, .iconst 0, 1), (15, .ireturn, 1)]
set_option maxRecDepth 100000 in
theorem D_X12_isIn : zdecs cX12_isIn L_X12_isIn = true := by decide +kernel
noncomputable def f_X12_isIn (p1 : Int32) (p2 : Int32) (p3 : Int32) : Int32 :=
  if p2 ≤ p1 then if p1 ≤ p3 then (1 : Int32) else (0 : Int32) else (0 : Int32)
set_option maxRecDepth 100000 in
set_option maxHeartbeats 4000000 in
theorem c_X12_isIn (l : Launch) (p1 : Int32) (p2 : Int32) (p3 : Int32) (σ : zG) : zMet l zsyM m_X12_isIn yX12_isIn [zI p1, zI p2, zI p3] σ (some (zI (f_X12_isIn p1 p2 p3))) σ := by
  refine zEnter [(0, zI p1), (1, zI p2), (2, zI p3)] (by decide) rfl (fun _ => Nat.le_of_ble_eq_true rfl) (fun _ => rfl) (fun w h => ?_) (fun K hv hs => ?_)
  · exact zokm rfl h
  · have hP : ∀ x, f_X12_isIn p1 p2 p3 = x → zKv K = some (zI x) ∧ zKs K = σ := fun x h => by rw [h] at hv; exact ⟨hv, hs⟩
    have hf := f_X12_isIn.eq_1 p1 p2 p3
    refine z_iload_n (pc := 0) 0 (zdg D_X12_isIn 0 (0, .iload_n 0, 1) rfl) rfl rfl ?_
    refine z_iload_n (pc := 1) 1 (zdg D_X12_isIn 1 (1, .iload_n 1, 1) rfl) rfl rfl ?_
    refine z_icmp_lt (pc := 2) 14 (zdg D_X12_isIn 2 (2, .if_icmp .lt 12, 3) rfl) rfl hf (fun hf => ?_) (fun hf => ?_)
    · refine z_iconst (pc := 14) (v := 0) (zdg D_X12_isIn 8 (14, .iconst 0, 1) rfl) rfl ?_
      exact z_iret (pc := 15) rfl rfl (zdg D_X12_isIn 9 (15, .ireturn, 1) rfl) (hP _ hf)
    · refine z_iload_n (pc := 5) 0 (zdg D_X12_isIn 3 (5, .iload_n 0, 1) rfl) rfl rfl ?_
      refine z_iload_n (pc := 6) 2 (zdg D_X12_isIn 4 (6, .iload_n 2, 1) rfl) rfl rfl ?_
      refine z_icmp_gt (pc := 7) 14 (zdg D_X12_isIn 5 (7, .if_icmp .gt 7, 3) rfl) rfl hf (fun hf => ?_) (fun hf => ?_)
      · refine z_iconst (pc := 14) (v := 0) (zdg D_X12_isIn 8 (14, .iconst 0, 1) rfl) rfl ?_
        exact z_iret (pc := 15) rfl rfl (zdg D_X12_isIn 9 (15, .ireturn, 1) rfl) (hP _ hf)
      · refine z_iconst (pc := 10) (v := 1) (zdg D_X12_isIn 6 (10, .iconst 1, 1) rfl) rfl ?_
        refine z_goto (pc := 11) 15 (zdg D_X12_isIn 7 (11, .goto 4, 3) rfl) rfl ?_
        exact z_iret (pc := 15) rfl rfl (zdg D_X12_isIn 9 (15, .ireturn, 1) rfl) (hP _ hf)

def L_X12_lesser : List (Nat × Instr × Nat) := [(0, .iload_n 0, 1), (1, .iload_n 1, 1), (2, .if_icmp .ge 7, 3), (5, .iload_n 0, 1), (6, .goto 4, 3), (9, .iload_n 1, 1), (10, .ireturn, 1)]
set_option maxRecDepth 100000 in
theorem D_X12_lesser : zdecs cX12_lesser L_X12_lesser = true := by decide +kernel
noncomputable def f_X12_lesser (p1 : Int32) (p2 : Int32) : Int32 :=
  if p1 < p2 then p1 else p2
set_option maxRecDepth 100000 in
set_option maxHeartbeats 4000000 in
theorem c_X12_lesser (l : Launch) (p1 : Int32) (p2 : Int32) (σ : zG) : zMet l zsyM m_X12_lesser yX12_lesser [zI p1, zI p2] σ (some (zI (f_X12_lesser p1 p2))) σ := by
  refine zEnter [(0, zI p1), (1, zI p2)] (by decide) rfl (fun _ => Nat.le_of_ble_eq_true rfl) (fun _ => rfl) (fun w h => ?_) (fun K hv hs => ?_)
  · exact zokm rfl h
  · have hP : ∀ x, f_X12_lesser p1 p2 = x → zKv K = some (zI x) ∧ zKs K = σ := fun x h => by rw [h] at hv; exact ⟨hv, hs⟩
    have hf := f_X12_lesser.eq_1 p1 p2
    refine z_iload_n (pc := 0) 0 (zdg D_X12_lesser 0 (0, .iload_n 0, 1) rfl) rfl rfl ?_
    refine z_iload_n (pc := 1) 1 (zdg D_X12_lesser 1 (1, .iload_n 1, 1) rfl) rfl rfl ?_
    refine z_icmp_ge (pc := 2) 9 (zdg D_X12_lesser 2 (2, .if_icmp .ge 7, 3) rfl) rfl hf (fun hf => ?_) (fun hf => ?_)
    · refine z_iload_n (pc := 9) 1 (zdg D_X12_lesser 5 (9, .iload_n 1, 1) rfl) rfl rfl ?_
      exact z_iret (pc := 10) rfl rfl (zdg D_X12_lesser 6 (10, .ireturn, 1) rfl) (hP _ hf)
    · refine z_iload_n (pc := 5) 0 (zdg D_X12_lesser 3 (5, .iload_n 0, 1) rfl) rfl rfl ?_
      refine z_goto (pc := 6) 10 (zdg D_X12_lesser 4 (6, .goto 4, 3) rfl) rfl ?_
      exact z_iret (pc := 10) rfl rfl (zdg D_X12_lesser 6 (10, .ireturn, 1) rfl) (hP _ hf)

def L_X12_greater : List (Nat × Instr × Nat) := [(0, .iload_n 0, 1), (1, .iload_n 1, 1), (2, .if_icmp .le 7, 3), (5, .iload_n 0, 1), (6, .goto 4, 3), (9, .iload_n 1, 1), (10, .ireturn, 1)]
set_option maxRecDepth 100000 in
theorem D_X12_greater : zdecs cX12_greater L_X12_greater = true := by decide +kernel
noncomputable def f_X12_greater (p1 : Int32) (p2 : Int32) : Int32 :=
  if p2 < p1 then p1 else p2
set_option maxRecDepth 100000 in
set_option maxHeartbeats 4000000 in
theorem c_X12_greater (l : Launch) (p1 : Int32) (p2 : Int32) (σ : zG) : zMet l zsyM m_X12_greater yX12_greater [zI p1, zI p2] σ (some (zI (f_X12_greater p1 p2))) σ := by
  refine zEnter [(0, zI p1), (1, zI p2)] (by decide) rfl (fun _ => Nat.le_of_ble_eq_true rfl) (fun _ => rfl) (fun w h => ?_) (fun K hv hs => ?_)
  · exact zokm rfl h
  · have hP : ∀ x, f_X12_greater p1 p2 = x → zKv K = some (zI x) ∧ zKs K = σ := fun x h => by rw [h] at hv; exact ⟨hv, hs⟩
    have hf := f_X12_greater.eq_1 p1 p2
    refine z_iload_n (pc := 0) 0 (zdg D_X12_greater 0 (0, .iload_n 0, 1) rfl) rfl rfl ?_
    refine z_iload_n (pc := 1) 1 (zdg D_X12_greater 1 (1, .iload_n 1, 1) rfl) rfl rfl ?_
    refine z_icmp_le (pc := 2) 9 (zdg D_X12_greater 2 (2, .if_icmp .le 7, 3) rfl) rfl hf (fun hf => ?_) (fun hf => ?_)
    · refine z_iload_n (pc := 9) 1 (zdg D_X12_greater 5 (9, .iload_n 1, 1) rfl) rfl rfl ?_
      exact z_iret (pc := 10) rfl rfl (zdg D_X12_greater 6 (10, .ireturn, 1) rfl) (hP _ hf)
    · refine z_iload_n (pc := 5) 0 (zdg D_X12_greater 3 (5, .iload_n 0, 1) rfl) rfl rfl ?_
      refine z_goto (pc := 6) 10 (zdg D_X12_greater 4 (6, .goto 4, 3) rfl) rfl ?_
      exact z_iret (pc := 10) rfl rfl (zdg D_X12_greater 6 (10, .ireturn, 1) rfl) (hP _ hf)

def L_X12_isAt : List (Nat × Instr × Nat) := [(0, .iload_n 1, 1), (1, .iconst 0, 1), (2, .aload_n 0, 1), (3, .getfield 7, 3), (6, .bipush 30, 2), (8, .iaload, 1), (9, .iconst 1, 1), (10, .isub, 1), (11, .invokestatic 64, 3), (14, .ifCond .eq 24, 3), (17, .iload_n 2, 1), (18, .iconst 0, 1), (19, .aload_n 0, 1), (20, .getfield 7, 3), (23, .bipush 31, 2), (25, .iaload, 1), (26, .iconst 1, 1), (27, .isub, 1), (28, .invokestatic 64, 3), (31, .ifCond .eq 7, 3), (34, .iconst 1, 1), (35, .goto 4, 3), (38, .iconst 0, 1), (39, .ireturn, 1)]
set_option maxRecDepth 100000 in
theorem D_X12_isAt : zdecs cX12_isAt L_X12_isAt = true := by decide +kernel
noncomputable def f_X12_isAt (p1 : Int32) (p2 : Int32) (σ : zG) : Option (Int32) :=
  if (f_X12_isIn p1 (0 : Int32) ((σ.1 1 0 30) - (1 : Int32))) = 0 then some (0 : Int32) else if (f_X12_isIn p2 (0 : Int32) ((σ.1 1 0 31) - (1 : Int32))) = 0 then some (0 : Int32) else some (1 : Int32)
set_option maxRecDepth 100000 in
set_option maxHeartbeats 4000000 in
theorem c_X12_isAt (l : Launch) (p1 : Int32) (p2 : Int32) (σ : zG) (q : Int32) (hq : f_X12_isAt p1 p2 σ = some q) : zMet l zsyM m_X12_isAt yX12_isAt [zR 0 0, zI p1, zI p2] σ (some (zI q)) σ := by
  refine zEnter [(0, zR 0 0), (1, zI p1), (2, zI p2)] (by decide) rfl (fun _ => Nat.le_of_ble_eq_true rfl) (fun _ => rfl) (fun w h => ?_) (fun K hv hs => ?_)
  · exact zokm rfl h
  · have hP : ∀ x, f_X12_isAt p1 p2 σ = some x → zKv K = some (zI x) ∧ zKs K = σ := fun x h => by rw [hq] at h; cases h; exact ⟨hv, hs⟩
    have hn : f_X12_isAt p1 p2 σ ≠ none := fun z => by rw [hq] at z; cases z
    have hf := f_X12_isAt.eq_1 p1 p2 σ
    refine z_iload_n (pc := 0) 1 (zdg D_X12_isAt 0 (0, .iload_n 1, 1) rfl) rfl rfl ?_
    refine z_iconst (pc := 1) (v := 0) (zdg D_X12_isAt 1 (1, .iconst 0, 1) rfl) rfl ?_
    refine z_aload_n (pc := 2) 0 (zdg D_X12_isAt 2 (2, .aload_n 0, 1) rfl) rfl rfl ?_
    refine z_getR (pc := 3) (g := 1) (j := 0) lf_X12_7 rfl rfl rfl (zdg D_X12_isAt 3 (3, .getfield 7, 3) rfl) ?_
    refine z_bipush (pc := 6) (v := 30) (zdg D_X12_isAt 4 (6, .bipush 30, 2) rfl) rfl ?_
    refine z_ialdC (pc := 8) (j := 30) rfl (fun _ => rfl) (zdg D_X12_isAt 5 (8, .iaload, 1) rfl) rfl rfl ?_
    refine z_iconst (pc := 9) (v := 1) (zdg D_X12_isAt 6 (9, .iconst 1, 1) rfl) rfl ?_
    refine z_isub (pc := 10) (zdg D_X12_isAt 7 (10, .isub, 1) rfl) ?_
    refine z_callS (pc := 11) (rest := []) (st2 := [zI (f_X12_isIn p1 (0 : Int32) ((σ.1 1 0 30) - (1 : Int32)))]) (fun l => c_X12_isIn l p1 (0 : Int32) ((σ.1 1 0 30) - (1 : Int32)) σ) zs_X12_isIn lm_X12_64 rfl rfl rfl (Nat.le_of_ble_eq_true rfl) ⟨Nat.le_of_ble_eq_true rfl, Nat.le_of_ble_eq_true rfl⟩ (zdg D_X12_isAt 8 (11, .invokestatic 64, 3) rfl) ?_
    refine z_if_eq (pc := 14) 38 (zdg D_X12_isAt 9 (14, .ifCond .eq 24, 3) rfl) rfl hf (fun hf => ?_) (fun hf => ?_)
    · refine z_iconst (pc := 38) (v := 0) (zdg D_X12_isAt 22 (38, .iconst 0, 1) rfl) rfl ?_
      exact z_iret (pc := 39) rfl rfl (zdg D_X12_isAt 23 (39, .ireturn, 1) rfl) (hP _ hf)
    · refine z_iload_n (pc := 17) 2 (zdg D_X12_isAt 10 (17, .iload_n 2, 1) rfl) rfl rfl ?_
      refine z_iconst (pc := 18) (v := 0) (zdg D_X12_isAt 11 (18, .iconst 0, 1) rfl) rfl ?_
      refine z_aload_n (pc := 19) 0 (zdg D_X12_isAt 12 (19, .aload_n 0, 1) rfl) rfl rfl ?_
      refine z_getR (pc := 20) (g := 1) (j := 0) lf_X12_7 rfl rfl rfl (zdg D_X12_isAt 13 (20, .getfield 7, 3) rfl) ?_
      refine z_bipush (pc := 23) (v := 31) (zdg D_X12_isAt 14 (23, .bipush 31, 2) rfl) rfl ?_
      refine z_ialdC (pc := 25) (j := 31) rfl (fun _ => rfl) (zdg D_X12_isAt 15 (25, .iaload, 1) rfl) rfl rfl ?_
      refine z_iconst (pc := 26) (v := 1) (zdg D_X12_isAt 16 (26, .iconst 1, 1) rfl) rfl ?_
      refine z_isub (pc := 27) (zdg D_X12_isAt 17 (27, .isub, 1) rfl) ?_
      refine z_callS (pc := 28) (rest := []) (st2 := [zI (f_X12_isIn p2 (0 : Int32) ((σ.1 1 0 31) - (1 : Int32)))]) (fun l => c_X12_isIn l p2 (0 : Int32) ((σ.1 1 0 31) - (1 : Int32)) σ) zs_X12_isIn lm_X12_64 rfl rfl rfl (Nat.le_of_ble_eq_true rfl) ⟨Nat.le_of_ble_eq_true rfl, Nat.le_of_ble_eq_true rfl⟩ (zdg D_X12_isAt 18 (28, .invokestatic 64, 3) rfl) ?_
      refine z_if_eq (pc := 31) 38 (zdg D_X12_isAt 19 (31, .ifCond .eq 7, 3) rfl) rfl hf (fun hf => ?_) (fun hf => ?_)
      · refine z_iconst (pc := 38) (v := 0) (zdg D_X12_isAt 22 (38, .iconst 0, 1) rfl) rfl ?_
        exact z_iret (pc := 39) rfl rfl (zdg D_X12_isAt 23 (39, .ireturn, 1) rfl) (hP _ hf)
      · refine z_iconst (pc := 34) (v := 1) (zdg D_X12_isAt 20 (34, .iconst 1, 1) rfl) rfl ?_
        refine z_goto (pc := 35) 39 (zdg D_X12_isAt 21 (35, .goto 4, 3) rfl) rfl ?_
        exact z_iret (pc := 39) rfl rfl (zdg D_X12_isAt 23 (39, .ireturn, 1) rfl) (hP _ hf)

def L_X12_isSpot : List (Nat × Instr × Nat) := [(0, .iload_n 1, 1), (1, .iconst 0, 1), (2, .bipush 63, 2), (4, .invokestatic 64, 3), (7, .ifCond .eq 22, 3), (10, .aload_n 0, 1), (11, .iload_n 1, 1), (12, .bipush 8, 2), (14, .irem, 1), (15, .iload_n 1, 1), (16, .bipush 8, 2), (18, .idiv, 1), (19, .invokevirtual 68, 3), (22, .ifCond .eq 7, 3), (25, .iconst 1, 1), (26, .goto 4, 3), (29, .iconst 0, 1), (30, .ireturn, 1)]
set_option maxRecDepth 100000 in
theorem D_X12_isSpot : zdecs cX12_isSpot L_X12_isSpot = true := by decide +kernel
noncomputable def f_X12_isSpot (p1 : Int32) (σ : zG) : Option (Int32) :=
  if (f_X12_isIn p1 (0 : Int32) (63 : Int32)) = 0 then some (0 : Int32) else (f_X12_isAt (zrem p1 (8 : Int32)) (p1 / (8 : Int32)) σ).bind (fun q1 => if q1 = 0 then some (0 : Int32) else some (1 : Int32))
set_option maxRecDepth 100000 in
set_option maxHeartbeats 4000000 in
theorem c_X12_isSpot (l : Launch) (p1 : Int32) (σ : zG) (q : Int32) (hq : f_X12_isSpot p1 σ = some q) : zMet l zsyM m_X12_isSpot yX12_isSpot [zR 0 0, zI p1] σ (some (zI q)) σ := by
  refine zEnter [(0, zR 0 0), (1, zI p1)] (by decide) rfl (fun _ => Nat.le_of_ble_eq_true rfl) (fun _ => rfl) (fun w h => ?_) (fun K hv hs => ?_)
  · exact zokm rfl h
  · have hP : ∀ x, f_X12_isSpot p1 σ = some x → zKv K = some (zI x) ∧ zKs K = σ := fun x h => by rw [hq] at h; cases h; exact ⟨hv, hs⟩
    have hn : f_X12_isSpot p1 σ ≠ none := fun z => by rw [hq] at z; cases z
    have hf := f_X12_isSpot.eq_1 p1 σ
    refine z_iload_n (pc := 0) 1 (zdg D_X12_isSpot 0 (0, .iload_n 1, 1) rfl) rfl rfl ?_
    refine z_iconst (pc := 1) (v := 0) (zdg D_X12_isSpot 1 (1, .iconst 0, 1) rfl) rfl ?_
    refine z_bipush (pc := 2) (v := 63) (zdg D_X12_isSpot 2 (2, .bipush 63, 2) rfl) rfl ?_
    refine z_callS (pc := 4) (rest := []) (st2 := [zI (f_X12_isIn p1 (0 : Int32) (63 : Int32))]) (fun l => c_X12_isIn l p1 (0 : Int32) (63 : Int32) σ) zs_X12_isIn lm_X12_64 rfl rfl rfl (Nat.le_of_ble_eq_true rfl) ⟨Nat.le_of_ble_eq_true rfl, Nat.le_of_ble_eq_true rfl⟩ (zdg D_X12_isSpot 3 (4, .invokestatic 64, 3) rfl) ?_
    refine z_if_eq (pc := 7) 29 (zdg D_X12_isSpot 4 (7, .ifCond .eq 22, 3) rfl) rfl hf (fun hf => ?_) (fun hf => ?_)
    · refine z_iconst (pc := 29) (v := 0) (zdg D_X12_isSpot 16 (29, .iconst 0, 1) rfl) rfl ?_
      exact z_iret (pc := 30) rfl rfl (zdg D_X12_isSpot 17 (30, .ireturn, 1) rfl) (hP _ hf)
    · refine z_aload_n (pc := 10) 0 (zdg D_X12_isSpot 5 (10, .aload_n 0, 1) rfl) rfl rfl ?_
      refine z_iload_n (pc := 11) 1 (zdg D_X12_isSpot 6 (11, .iload_n 1, 1) rfl) rfl rfl ?_
      refine z_bipush (pc := 12) (v := 8) (zdg D_X12_isSpot 7 (12, .bipush 8, 2) rfl) rfl ?_
      refine z_iremK (pc := 14) (zdg D_X12_isSpot 8 (14, .irem, 1) rfl) rfl ?_
      refine z_iload_n (pc := 15) 1 (zdg D_X12_isSpot 9 (15, .iload_n 1, 1) rfl) rfl rfl ?_
      refine z_bipush (pc := 16) (v := 8) (zdg D_X12_isSpot 10 (16, .bipush 8, 2) rfl) rfl ?_
      refine z_idivK (pc := 18) (zdg D_X12_isSpot 11 (18, .idiv, 1) rfl) rfl ?_
      refine z_bind hn hf (fun q1 hq hf => ?_)
      refine z_callV (pc := 19) (rest := []) (st2 := [zI q1]) (fun l => c_X12_isAt l (zrem p1 (8 : Int32)) (p1 / (8 : Int32)) σ q1 hq) zv_X12_isAt lm_X12_68 rfl rfl rfl rfl rfl rfl (Nat.le_of_ble_eq_true rfl) ⟨Nat.le_of_ble_eq_true rfl, Nat.le_of_ble_eq_true rfl⟩ (zdg D_X12_isSpot 12 (19, .invokevirtual 68, 3) rfl) ?_
      refine z_if_eq (pc := 22) 29 (zdg D_X12_isSpot 13 (22, .ifCond .eq 7, 3) rfl) rfl hf (fun hf => ?_) (fun hf => ?_)
      · refine z_iconst (pc := 29) (v := 0) (zdg D_X12_isSpot 16 (29, .iconst 0, 1) rfl) rfl ?_
        exact z_iret (pc := 30) rfl rfl (zdg D_X12_isSpot 17 (30, .ireturn, 1) rfl) (hP _ hf)
      · refine z_iconst (pc := 25) (v := 1) (zdg D_X12_isSpot 14 (25, .iconst 1, 1) rfl) rfl ?_
        refine z_goto (pc := 26) 30 (zdg D_X12_isSpot 15 (26, .goto 4, 3) rfl) rfl ?_
        exact z_iret (pc := 30) rfl rfl (zdg D_X12_isSpot 17 (30, .ireturn, 1) rfl) (hP _ hf)

def L_X12_isWalker : List (Nat × Instr × Nat) := [(0, .iload_n 1, 1), (1, .iconst 0, 1), (2, .aload_n 0, 1), (3, .getfield 7, 3), (6, .bipush 36, 2), (8, .iaload, 1), (9, .iconst 1, 1), (10, .isub, 1), (11, .invokestatic 64, 3), (14, .ireturn, 1)]
set_option maxRecDepth 100000 in
theorem D_X12_isWalker : zdecs cX12_isWalker L_X12_isWalker = true := by decide +kernel
noncomputable def f_X12_isWalker (p1 : Int32) (σ : zG) : Option (Int32) :=
  zg (zbl (f_X12_isIn p1 (0 : Int32) ((σ.1 1 0 36) - (1 : Int32)))) (some (f_X12_isIn p1 (0 : Int32) ((σ.1 1 0 36) - (1 : Int32))))
set_option maxRecDepth 100000 in
set_option maxHeartbeats 4000000 in
theorem c_X12_isWalker (l : Launch) (p1 : Int32) (σ : zG) (q : Int32) (hq : f_X12_isWalker p1 σ = some q) : zMet l zsyM m_X12_isWalker yX12_isWalker [zR 0 0, zI p1] σ (some (zI q)) σ := by
  refine zEnter [(0, zR 0 0), (1, zI p1)] (by decide) rfl (fun _ => Nat.le_of_ble_eq_true rfl) (fun _ => rfl) (fun w h => ?_) (fun K hv hs => ?_)
  · exact zokm rfl h
  · have hP : ∀ x, f_X12_isWalker p1 σ = some x → zKv K = some (zI x) ∧ zKs K = σ := fun x h => by rw [hq] at h; cases h; exact ⟨hv, hs⟩
    have hn : f_X12_isWalker p1 σ ≠ none := fun z => by rw [hq] at z; cases z
    have hf := f_X12_isWalker.eq_1 p1 σ
    refine z_iload_n (pc := 0) 1 (zdg D_X12_isWalker 0 (0, .iload_n 1, 1) rfl) rfl rfl ?_
    refine z_iconst (pc := 1) (v := 0) (zdg D_X12_isWalker 1 (1, .iconst 0, 1) rfl) rfl ?_
    refine z_aload_n (pc := 2) 0 (zdg D_X12_isWalker 2 (2, .aload_n 0, 1) rfl) rfl rfl ?_
    refine z_getR (pc := 3) (g := 1) (j := 0) lf_X12_7 rfl rfl rfl (zdg D_X12_isWalker 3 (3, .getfield 7, 3) rfl) ?_
    refine z_bipush (pc := 6) (v := 36) (zdg D_X12_isWalker 4 (6, .bipush 36, 2) rfl) rfl ?_
    refine z_ialdC (pc := 8) (j := 36) rfl (fun _ => rfl) (zdg D_X12_isWalker 5 (8, .iaload, 1) rfl) rfl rfl ?_
    refine z_iconst (pc := 9) (v := 1) (zdg D_X12_isWalker 6 (9, .iconst 1, 1) rfl) rfl ?_
    refine z_isub (pc := 10) (zdg D_X12_isWalker 7 (10, .isub, 1) rfl) ?_
    refine z_callS (pc := 11) (rest := []) (st2 := [zI (f_X12_isIn p1 (0 : Int32) ((σ.1 1 0 36) - (1 : Int32)))]) (fun l => c_X12_isIn l p1 (0 : Int32) ((σ.1 1 0 36) - (1 : Int32)) σ) zs_X12_isIn lm_X12_64 rfl rfl rfl (Nat.le_of_ble_eq_true rfl) ⟨Nat.le_of_ble_eq_true rfl, Nat.le_of_ble_eq_true rfl⟩ (zdg D_X12_isWalker 8 (11, .invokestatic 64, 3) rfl) ?_
    exact z_zret (pc := 14) rfl (zdg D_X12_isWalker 9 (14, .ireturn, 1) rfl) hn hf (fun hf => (hP _ hf))

def L_X12_isShot : List (Nat × Instr × Nat) := [(0, .iload_n 1, 1), (1, .iconst 0, 1), (2, .aload_n 0, 1), (3, .getfield 7, 3), (6, .iconst 4, 1), (7, .iaload, 1), (8, .iconst 1, 1), (9, .isub, 1), (10, .invokestatic 64, 3), (13, .ireturn, 1)]
set_option maxRecDepth 100000 in
theorem D_X12_isShot : zdecs cX12_isShot L_X12_isShot = true := by decide +kernel
noncomputable def f_X12_isShot (p1 : Int32) (σ : zG) : Option (Int32) :=
  zg (zbl (f_X12_isIn p1 (0 : Int32) ((σ.1 1 0 4) - (1 : Int32)))) (some (f_X12_isIn p1 (0 : Int32) ((σ.1 1 0 4) - (1 : Int32))))
set_option maxRecDepth 100000 in
set_option maxHeartbeats 4000000 in
theorem c_X12_isShot (l : Launch) (p1 : Int32) (σ : zG) (q : Int32) (hq : f_X12_isShot p1 σ = some q) : zMet l zsyM m_X12_isShot yX12_isShot [zR 0 0, zI p1] σ (some (zI q)) σ := by
  refine zEnter [(0, zR 0 0), (1, zI p1)] (by decide) rfl (fun _ => Nat.le_of_ble_eq_true rfl) (fun _ => rfl) (fun w h => ?_) (fun K hv hs => ?_)
  · exact zokm rfl h
  · have hP : ∀ x, f_X12_isShot p1 σ = some x → zKv K = some (zI x) ∧ zKs K = σ := fun x h => by rw [hq] at h; cases h; exact ⟨hv, hs⟩
    have hn : f_X12_isShot p1 σ ≠ none := fun z => by rw [hq] at z; cases z
    have hf := f_X12_isShot.eq_1 p1 σ
    refine z_iload_n (pc := 0) 1 (zdg D_X12_isShot 0 (0, .iload_n 1, 1) rfl) rfl rfl ?_
    refine z_iconst (pc := 1) (v := 0) (zdg D_X12_isShot 1 (1, .iconst 0, 1) rfl) rfl ?_
    refine z_aload_n (pc := 2) 0 (zdg D_X12_isShot 2 (2, .aload_n 0, 1) rfl) rfl rfl ?_
    refine z_getR (pc := 3) (g := 1) (j := 0) lf_X12_7 rfl rfl rfl (zdg D_X12_isShot 3 (3, .getfield 7, 3) rfl) ?_
    refine z_iconst (pc := 6) (v := 4) (zdg D_X12_isShot 4 (6, .iconst 4, 1) rfl) rfl ?_
    refine z_ialdC (pc := 7) (j := 4) rfl (fun _ => rfl) (zdg D_X12_isShot 5 (7, .iaload, 1) rfl) rfl rfl ?_
    refine z_iconst (pc := 8) (v := 1) (zdg D_X12_isShot 6 (8, .iconst 1, 1) rfl) rfl ?_
    refine z_isub (pc := 9) (zdg D_X12_isShot 7 (9, .isub, 1) rfl) ?_
    refine z_callS (pc := 10) (rest := []) (st2 := [zI (f_X12_isIn p1 (0 : Int32) ((σ.1 1 0 4) - (1 : Int32)))]) (fun l => c_X12_isIn l p1 (0 : Int32) ((σ.1 1 0 4) - (1 : Int32)) σ) zs_X12_isIn lm_X12_64 rfl rfl rfl (Nat.le_of_ble_eq_true rfl) ⟨Nat.le_of_ble_eq_true rfl, Nat.le_of_ble_eq_true rfl⟩ (zdg D_X12_isShot 8 (10, .invokestatic 64, 3) rfl) ?_
    exact z_zret (pc := 13) rfl (zdg D_X12_isShot 9 (13, .ireturn, 1) rfl) hn hf (fun hf => (hP _ hf))

def L_X12_isMinute : List (Nat × Instr × Nat) := [(0, .iload_n 0, 1), (1, .iconst 0, 1), (2, .sipush 500, 3), (5, .invokestatic 64, 3), (8, .ireturn, 1)]
set_option maxRecDepth 100000 in
theorem D_X12_isMinute : zdecs cX12_isMinute L_X12_isMinute = true := by decide +kernel
noncomputable def f_X12_isMinute (p1 : Int32) : Option (Int32) :=
  zg (zbl (f_X12_isIn p1 (0 : Int32) (500 : Int32))) (some (f_X12_isIn p1 (0 : Int32) (500 : Int32)))
set_option maxRecDepth 100000 in
set_option maxHeartbeats 4000000 in
theorem c_X12_isMinute (l : Launch) (p1 : Int32) (σ : zG) (q : Int32) (hq : f_X12_isMinute p1 = some q) : zMet l zsyM m_X12_isMinute yX12_isMinute [zI p1] σ (some (zI q)) σ := by
  refine zEnter [(0, zI p1)] (by decide) rfl (fun _ => Nat.le_of_ble_eq_true rfl) (fun _ => rfl) (fun w h => ?_) (fun K hv hs => ?_)
  · exact zokm rfl h
  · have hP : ∀ x, f_X12_isMinute p1 = some x → zKv K = some (zI x) ∧ zKs K = σ := fun x h => by rw [hq] at h; cases h; exact ⟨hv, hs⟩
    have hn : f_X12_isMinute p1 ≠ none := fun z => by rw [hq] at z; cases z
    have hf := f_X12_isMinute.eq_1 p1
    refine z_iload_n (pc := 0) 0 (zdg D_X12_isMinute 0 (0, .iload_n 0, 1) rfl) rfl rfl ?_
    refine z_iconst (pc := 1) (v := 0) (zdg D_X12_isMinute 1 (1, .iconst 0, 1) rfl) rfl ?_
    refine z_sipush (pc := 2) (v := 500) (zdg D_X12_isMinute 2 (2, .sipush 500, 3) rfl) rfl ?_
    refine z_callS (pc := 5) (rest := []) (st2 := [zI (f_X12_isIn p1 (0 : Int32) (500 : Int32))]) (fun l => c_X12_isIn l p1 (0 : Int32) (500 : Int32) σ) zs_X12_isIn lm_X12_64 rfl rfl rfl (Nat.le_of_ble_eq_true rfl) ⟨Nat.le_of_ble_eq_true rfl, Nat.le_of_ble_eq_true rfl⟩ (zdg D_X12_isMinute 3 (5, .invokestatic 64, 3) rfl) ?_
    exact z_zret (pc := 8) rfl (zdg D_X12_isMinute 4 (8, .ireturn, 1) rfl) hn hf (fun hf => (hP _ hf))

def L_X12_ofWalker : List (Nat × Instr × Nat) := [(0, .aload_n 0, 1), (1, .getfield 7, 3), (4, .bipush 104, 2), (6, .iconst 4, 1), (7, .iload_n 1, 1), (8, .imul, 1), (9, .iadd, 1), (10, .iload_n 2, 1), (11, .iadd, 1), (12, .iaload, 1), (13, .ireturn, 1)]
set_option maxRecDepth 100000 in
theorem D_X12_ofWalker : zdecs cX12_ofWalker L_X12_ofWalker = true := by decide +kernel
noncomputable def f_X12_ofWalker (p1 : Int32) (p2 : Int32) (σ : zG) : Option (Int32) :=
  zg (zin (((104 : Int32) + ((4 : Int32) * p1)) + p2) 9248) (some (σ.1 1 0 (((104 : Int32) + ((4 : Int32) * p1)) + p2).toNatClampNeg))
set_option maxRecDepth 100000 in
set_option maxHeartbeats 4000000 in
theorem c_X12_ofWalker (l : Launch) (p1 : Int32) (p2 : Int32) (σ : zG) (q : Int32) (hq : f_X12_ofWalker p1 p2 σ = some q) : zMet l zsyM m_X12_ofWalker yX12_ofWalker [zR 0 0, zI p1, zI p2] σ (some (zI q)) σ := by
  refine zEnter [(0, zR 0 0), (1, zI p1), (2, zI p2)] (by decide) rfl (fun _ => Nat.le_of_ble_eq_true rfl) (fun _ => rfl) (fun w h => ?_) (fun K hv hs => ?_)
  · exact zokm rfl h
  · have hP : ∀ x, f_X12_ofWalker p1 p2 σ = some x → zKv K = some (zI x) ∧ zKs K = σ := fun x h => by rw [hq] at h; cases h; exact ⟨hv, hs⟩
    have hn : f_X12_ofWalker p1 p2 σ ≠ none := fun z => by rw [hq] at z; cases z
    have hf := f_X12_ofWalker.eq_1 p1 p2 σ
    refine z_aload_n (pc := 0) 0 (zdg D_X12_ofWalker 0 (0, .aload_n 0, 1) rfl) rfl rfl ?_
    refine z_getR (pc := 1) (g := 1) (j := 0) lf_X12_7 rfl rfl rfl (zdg D_X12_ofWalker 1 (1, .getfield 7, 3) rfl) ?_
    refine z_bipush (pc := 4) (v := 104) (zdg D_X12_ofWalker 2 (4, .bipush 104, 2) rfl) rfl ?_
    refine z_iconst (pc := 6) (v := 4) (zdg D_X12_ofWalker 3 (6, .iconst 4, 1) rfl) rfl ?_
    refine z_iload_n (pc := 7) 1 (zdg D_X12_ofWalker 4 (7, .iload_n 1, 1) rfl) rfl rfl ?_
    refine z_imul (pc := 8) (zdg D_X12_ofWalker 5 (8, .imul, 1) rfl) ?_
    refine z_iadd (pc := 9) (zdg D_X12_ofWalker 6 (9, .iadd, 1) rfl) ?_
    refine z_iload_n (pc := 10) 2 (zdg D_X12_ofWalker 7 (10, .iload_n 2, 1) rfl) rfl rfl ?_
    refine z_iadd (pc := 11) (zdg D_X12_ofWalker 8 (11, .iadd, 1) rfl) ?_
    refine z_iald (pc := 12) rfl (fun _ => rfl) (zdg D_X12_ofWalker 9 (12, .iaload, 1) rfl) hn hf (fun hf => ?_)
    exact z_iret (pc := 13) rfl rfl (zdg D_X12_ofWalker 10 (13, .ireturn, 1) rfl) (hP _ hf)

def L_X12_ofStranger : List (Nat × Instr × Nat) := [(0, .aload_n 0, 1), (1, .getfield 7, 3), (4, .iconst 5, 1), (5, .iconst 3, 1), (6, .iload_n 1, 1), (7, .imul, 1), (8, .iadd, 1), (9, .iload_n 2, 1), (10, .iadd, 1), (11, .iaload, 1), (12, .ireturn, 1)]
set_option maxRecDepth 100000 in
theorem D_X12_ofStranger : zdecs cX12_ofStranger L_X12_ofStranger = true := by decide +kernel
noncomputable def f_X12_ofStranger (p1 : Int32) (p2 : Int32) (σ : zG) : Option (Int32) :=
  zg (zin (((5 : Int32) + ((3 : Int32) * p1)) + p2) 9248) (some (σ.1 1 0 (((5 : Int32) + ((3 : Int32) * p1)) + p2).toNatClampNeg))
set_option maxRecDepth 100000 in
set_option maxHeartbeats 4000000 in
theorem c_X12_ofStranger (l : Launch) (p1 : Int32) (p2 : Int32) (σ : zG) (q : Int32) (hq : f_X12_ofStranger p1 p2 σ = some q) : zMet l zsyM m_X12_ofStranger yX12_ofStranger [zR 0 0, zI p1, zI p2] σ (some (zI q)) σ := by
  refine zEnter [(0, zR 0 0), (1, zI p1), (2, zI p2)] (by decide) rfl (fun _ => Nat.le_of_ble_eq_true rfl) (fun _ => rfl) (fun w h => ?_) (fun K hv hs => ?_)
  · exact zokm rfl h
  · have hP : ∀ x, f_X12_ofStranger p1 p2 σ = some x → zKv K = some (zI x) ∧ zKs K = σ := fun x h => by rw [hq] at h; cases h; exact ⟨hv, hs⟩
    have hn : f_X12_ofStranger p1 p2 σ ≠ none := fun z => by rw [hq] at z; cases z
    have hf := f_X12_ofStranger.eq_1 p1 p2 σ
    refine z_aload_n (pc := 0) 0 (zdg D_X12_ofStranger 0 (0, .aload_n 0, 1) rfl) rfl rfl ?_
    refine z_getR (pc := 1) (g := 1) (j := 0) lf_X12_7 rfl rfl rfl (zdg D_X12_ofStranger 1 (1, .getfield 7, 3) rfl) ?_
    refine z_iconst (pc := 4) (v := 5) (zdg D_X12_ofStranger 2 (4, .iconst 5, 1) rfl) rfl ?_
    refine z_iconst (pc := 5) (v := 3) (zdg D_X12_ofStranger 3 (5, .iconst 3, 1) rfl) rfl ?_
    refine z_iload_n (pc := 6) 1 (zdg D_X12_ofStranger 4 (6, .iload_n 1, 1) rfl) rfl rfl ?_
    refine z_imul (pc := 7) (zdg D_X12_ofStranger 5 (7, .imul, 1) rfl) ?_
    refine z_iadd (pc := 8) (zdg D_X12_ofStranger 6 (8, .iadd, 1) rfl) ?_
    refine z_iload_n (pc := 9) 2 (zdg D_X12_ofStranger 7 (9, .iload_n 2, 1) rfl) rfl rfl ?_
    refine z_iadd (pc := 10) (zdg D_X12_ofStranger 8 (10, .iadd, 1) rfl) ?_
    refine z_iald (pc := 11) rfl (fun _ => rfl) (zdg D_X12_ofStranger 9 (11, .iaload, 1) rfl) hn hf (fun hf => ?_)
    exact z_iret (pc := 12) rfl rfl (zdg D_X12_ofStranger 10 (12, .ireturn, 1) rfl) (hP _ hf)

def L_X12_ofShot : List (Nat × Instr × Nat) := [(0, .aload_n 0, 1), (1, .getfield 7, 3), (4, .sipush 152, 3), (7, .sipush 134, 3), (10, .iload_n 1, 1), (11, .imul, 1), (12, .iadd, 1), (13, .iload_n 2, 1), (14, .iadd, 1), (15, .iaload, 1), (16, .ireturn, 1)]
set_option maxRecDepth 100000 in
theorem D_X12_ofShot : zdecs cX12_ofShot L_X12_ofShot = true := by decide +kernel
noncomputable def f_X12_ofShot (p1 : Int32) (p2 : Int32) (σ : zG) : Option (Int32) :=
  zg (zin (((152 : Int32) + ((134 : Int32) * p1)) + p2) 9248) (some (σ.1 1 0 (((152 : Int32) + ((134 : Int32) * p1)) + p2).toNatClampNeg))
set_option maxRecDepth 100000 in
set_option maxHeartbeats 4000000 in
theorem c_X12_ofShot (l : Launch) (p1 : Int32) (p2 : Int32) (σ : zG) (q : Int32) (hq : f_X12_ofShot p1 p2 σ = some q) : zMet l zsyM m_X12_ofShot yX12_ofShot [zR 0 0, zI p1, zI p2] σ (some (zI q)) σ := by
  refine zEnter [(0, zR 0 0), (1, zI p1), (2, zI p2)] (by decide) rfl (fun _ => Nat.le_of_ble_eq_true rfl) (fun _ => rfl) (fun w h => ?_) (fun K hv hs => ?_)
  · exact zokm rfl h
  · have hP : ∀ x, f_X12_ofShot p1 p2 σ = some x → zKv K = some (zI x) ∧ zKs K = σ := fun x h => by rw [hq] at h; cases h; exact ⟨hv, hs⟩
    have hn : f_X12_ofShot p1 p2 σ ≠ none := fun z => by rw [hq] at z; cases z
    have hf := f_X12_ofShot.eq_1 p1 p2 σ
    refine z_aload_n (pc := 0) 0 (zdg D_X12_ofShot 0 (0, .aload_n 0, 1) rfl) rfl rfl ?_
    refine z_getR (pc := 1) (g := 1) (j := 0) lf_X12_7 rfl rfl rfl (zdg D_X12_ofShot 1 (1, .getfield 7, 3) rfl) ?_
    refine z_sipush (pc := 4) (v := 152) (zdg D_X12_ofShot 2 (4, .sipush 152, 3) rfl) rfl ?_
    refine z_sipush (pc := 7) (v := 134) (zdg D_X12_ofShot 3 (7, .sipush 134, 3) rfl) rfl ?_
    refine z_iload_n (pc := 10) 1 (zdg D_X12_ofShot 4 (10, .iload_n 1, 1) rfl) rfl rfl ?_
    refine z_imul (pc := 11) (zdg D_X12_ofShot 5 (11, .imul, 1) rfl) ?_
    refine z_iadd (pc := 12) (zdg D_X12_ofShot 6 (12, .iadd, 1) rfl) ?_
    refine z_iload_n (pc := 13) 2 (zdg D_X12_ofShot 7 (13, .iload_n 2, 1) rfl) rfl rfl ?_
    refine z_iadd (pc := 14) (zdg D_X12_ofShot 8 (14, .iadd, 1) rfl) ?_
    refine z_iald (pc := 15) rfl (fun _ => rfl) (zdg D_X12_ofShot 9 (15, .iaload, 1) rfl) hn hf (fun hf => ?_)
    exact z_iret (pc := 16) rfl rfl (zdg D_X12_ofShot 10 (16, .ireturn, 1) rfl) (hP _ hf)

def L_X12_forgets : List (Nat × Instr × Nat) := [(0, .aload_n 0, 1), (1, .iconst 0, 1), (2, .putfield 61, 3), (5, .return_, 1)]
set_option maxRecDepth 100000 in
theorem D_X12_forgets : zdecs cX12_forgets L_X12_forgets = true := by decide +kernel
noncomputable def f_X12_forgets (σ : zG) : zG :=
  zb (zwI σ 0 0 3 (0 : Int32)) (fun s1 => s1)
set_option maxRecDepth 100000 in
set_option maxHeartbeats 4000000 in
theorem c_X12_forgets (l : Launch)  (σ : zG) : zMet l zsyM m_X12_forgets yX12_forgets [zR 0 0] σ none (f_X12_forgets σ) := by
  refine zEnter [(0, zR 0 0)] (by decide) rfl (fun _ => Nat.le_of_ble_eq_true rfl) (fun _ => rfl) (fun w h => ?_) (fun K hv hs => ?_)
  · exact zokm rfl h
  · have hP : ∀ s, f_X12_forgets σ = s → zKv K = none ∧ zKs K = s := fun s h => by rw [h] at hs; exact ⟨hv, hs⟩
    have hf := f_X12_forgets.eq_1 σ
    refine z_aload_n (pc := 0) 0 (zdg D_X12_forgets 0 (0, .aload_n 0, 1) rfl) rfl rfl ?_
    refine z_iconst (pc := 1) (v := 0) (zdg D_X12_forgets 1 (1, .iconst 0, 1) rfl) rfl ?_
    refine z_putI (pc := 2) lw_X12_61 rfl rfl rfl rfl (zdg D_X12_forgets 2 (2, .putfield 61, 3) rfl) ?_
    refine z_nmS hf (fun s1 hf => ?_)
    exact z_vret (pc := 5) rfl (zdg D_X12_forgets 3 (5, .return_, 1) rfl) (hP _ hf)

def L_X12_state : List (Nat × Instr × Nat) := [(0, .aload_n 0, 1), (1, .getfield 7, 3), (4, .iconst 2, 1), (5, .iaload, 1), (6, .istore_n 2, 1), (7, .aload_n 0, 1), (8, .getfield 7, 3), (11, .iconst 2, 1), (12, .iload_n 1, 1), (13, .iastore, 1), (14, .aload_n 0, 1), (15, .invokevirtual 72, 3), (18, .iload_n 2, 1), (19, .ireturn, 1)]
set_option maxRecDepth 100000 in
theorem D_X12_state : zdecs cX12_state L_X12_state = true := by decide +kernel
noncomputable def f_X12_state (p1 : Int32) (σ : zG) : Option (Int32 × zG) :=
  zb (zwI σ 1 0 2 p1) (fun s1 => zb (f_X12_forgets s1) (fun s2 => some ((σ.1 1 0 2), s2)))
set_option maxRecDepth 100000 in
set_option maxHeartbeats 4000000 in
theorem c_X12_state (l : Launch) (p1 : Int32) (σ : zG) (q : Int32 × zG) (hq : f_X12_state p1 σ = some q) : zMet l zsyM m_X12_state yX12_state [zR 0 0, zI p1] σ (some (zI q.1)) q.2 := by
  refine zEnter [(0, zR 0 0), (1, zI p1)] (by decide) rfl (fun _ => Nat.le_of_ble_eq_true rfl) (fun _ => rfl) (fun w h => ?_) (fun K hv hs => ?_)
  · exact zokm rfl h
  · have hP : ∀ x s, f_X12_state p1 σ = some (x, s) → zKv K = some (zI x) ∧ zKs K = s := fun x s h => by rw [hq] at h; cases h; exact ⟨hv, hs⟩
    have hn : f_X12_state p1 σ ≠ none := fun z => by rw [hq] at z; cases z
    have hf := f_X12_state.eq_1 p1 σ
    refine z_aload_n (pc := 0) 0 (zdg D_X12_state 0 (0, .aload_n 0, 1) rfl) rfl rfl ?_
    refine z_getR (pc := 1) (g := 1) (j := 0) lf_X12_7 rfl rfl rfl (zdg D_X12_state 1 (1, .getfield 7, 3) rfl) ?_
    refine z_iconst (pc := 4) (v := 2) (zdg D_X12_state 2 (4, .iconst 2, 1) rfl) rfl ?_
    refine z_ialdC (pc := 5) (j := 2) rfl (fun _ => rfl) (zdg D_X12_state 3 (5, .iaload, 1) rfl) rfl rfl ?_
    refine z_istore_n (pc := 6) (al' := [(2, zI (σ.1 1 0 2)), (0, zR 0 0), (1, zI p1)]) (zdg D_X12_state 4 (6, .istore_n 2, 1) rfl) rfl (by decide) rfl ?_
    refine z_aload_n (pc := 7) 1 (zdg D_X12_state 5 (7, .aload_n 0, 1) rfl) rfl rfl ?_
    refine z_getR (pc := 8) (g := 1) (j := 0) lf_X12_7 rfl rfl rfl (zdg D_X12_state 6 (8, .getfield 7, 3) rfl) ?_
    refine z_iconst (pc := 11) (v := 2) (zdg D_X12_state 7 (11, .iconst 2, 1) rfl) rfl ?_
    refine z_iload_n (pc := 12) 2 (zdg D_X12_state 8 (12, .iload_n 1, 1) rfl) rfl rfl ?_
    refine z_iastC (pc := 13) (j := 2) rfl (fun _ => rfl) (zdg D_X12_state 9 (13, .iastore, 1) rfl) rfl rfl ?_
    refine z_nmS hf (fun s1 hf => ?_)
    refine z_aload_n (pc := 14) 1 (zdg D_X12_state 10 (14, .aload_n 0, 1) rfl) rfl rfl ?_
    refine z_callV (pc := 15) (rest := []) (st2 := []) (fun l => c_X12_forgets l s1) zv_X12_forgets lm_X12_72 rfl rfl rfl rfl rfl rfl (Nat.le_of_ble_eq_true rfl) ⟨Nat.le_of_ble_eq_true rfl, Nat.le_of_ble_eq_true rfl⟩ (zdg D_X12_state 11 (15, .invokevirtual 72, 3) rfl) ?_
    refine z_nmS hf (fun s2 hf => ?_)
    refine z_iload_n (pc := 18) 0 (zdg D_X12_state 12 (18, .iload_n 2, 1) rfl) rfl rfl ?_
    exact z_iret (pc := 19) rfl rfl (zdg D_X12_state 13 (19, .ireturn, 1) rfl) (hP _ _ hf)

def L_X12_draw : List (Nat × Instr × Nat) := [(0, .aload_n 0, 1), (1, .getfield 7, 3), (4, .iconst 2, 1), (5, .ldc 75, 2), (7, .aload_n 0, 1), (8, .getfield 7, 3), (11, .iconst 2, 1), (12, .iaload, 1), (13, .imul, 1), (14, .ldc 76, 2), (16, .iadd, 1), (17, .iastore, 1), (18, .aload_n 0, 1), (19, .getfield 7, 3), (22, .iconst 2, 1), (23, .iaload, 1), (24, .bipush 8, 2), (26, .iushr, 1), (27, .iload_n 1, 1), (28, .irem, 1), (29, .ireturn, 1)]
set_option maxRecDepth 100000 in
theorem D_X12_draw : zdecs cX12_draw L_X12_draw = true := by decide +kernel
noncomputable def f_X12_draw (p1 : Int32) (σ : zG) : Option (Int32 × zG) :=
  zb (zwI σ 1 0 2 (((1664525 : Int32) * (σ.1 1 0 2)) + (1013904223 : Int32))) (fun s1 => zg (p1 != 0) (some ((zrem (zushr (s1.1 1 0 2) (8 : Int32)) p1), s1)))
set_option maxRecDepth 100000 in
set_option maxHeartbeats 4000000 in
theorem c_X12_draw (l : Launch) (p1 : Int32) (σ : zG) (q : Int32 × zG) (hq : f_X12_draw p1 σ = some q) : zMet l zsyM m_X12_draw yX12_draw [zR 0 0, zI p1] σ (some (zI q.1)) q.2 := by
  refine zEnter [(0, zR 0 0), (1, zI p1)] (by decide) rfl (fun _ => Nat.le_of_ble_eq_true rfl) (fun _ => rfl) (fun w h => ?_) (fun K hv hs => ?_)
  · exact zokm rfl h
  · have hP : ∀ x s, f_X12_draw p1 σ = some (x, s) → zKv K = some (zI x) ∧ zKs K = s := fun x s h => by rw [hq] at h; cases h; exact ⟨hv, hs⟩
    have hn : f_X12_draw p1 σ ≠ none := fun z => by rw [hq] at z; cases z
    have hf := f_X12_draw.eq_1 p1 σ
    refine z_aload_n (pc := 0) 0 (zdg D_X12_draw 0 (0, .aload_n 0, 1) rfl) rfl rfl ?_
    refine z_getR (pc := 1) (g := 1) (j := 0) lf_X12_7 rfl rfl rfl (zdg D_X12_draw 1 (1, .getfield 7, 3) rfl) ?_
    refine z_iconst (pc := 4) (v := 2) (zdg D_X12_draw 2 (4, .iconst 2, 1) rfl) rfl ?_
    refine z_ldc (pc := 5) lc_X12_75 (zdg D_X12_draw 3 (5, .ldc 75, 2) rfl) ?_
    refine z_aload_n (pc := 7) 0 (zdg D_X12_draw 4 (7, .aload_n 0, 1) rfl) rfl rfl ?_
    refine z_getR (pc := 8) (g := 1) (j := 0) lf_X12_7 rfl rfl rfl (zdg D_X12_draw 5 (8, .getfield 7, 3) rfl) ?_
    refine z_iconst (pc := 11) (v := 2) (zdg D_X12_draw 6 (11, .iconst 2, 1) rfl) rfl ?_
    refine z_ialdC (pc := 12) (j := 2) rfl (fun _ => rfl) (zdg D_X12_draw 7 (12, .iaload, 1) rfl) rfl rfl ?_
    refine z_imul (pc := 13) (zdg D_X12_draw 8 (13, .imul, 1) rfl) ?_
    refine z_ldc (pc := 14) lc_X12_76 (zdg D_X12_draw 9 (14, .ldc 76, 2) rfl) ?_
    refine z_iadd (pc := 16) (zdg D_X12_draw 10 (16, .iadd, 1) rfl) ?_
    refine z_iastC (pc := 17) (j := 2) rfl (fun _ => rfl) (zdg D_X12_draw 11 (17, .iastore, 1) rfl) rfl rfl ?_
    refine z_nmS hf (fun s1 hf => ?_)
    refine z_aload_n (pc := 18) 0 (zdg D_X12_draw 12 (18, .aload_n 0, 1) rfl) rfl rfl ?_
    refine z_getR (pc := 19) (g := 1) (j := 0) lf_X12_7 rfl rfl rfl (zdg D_X12_draw 13 (19, .getfield 7, 3) rfl) ?_
    refine z_iconst (pc := 22) (v := 2) (zdg D_X12_draw 14 (22, .iconst 2, 1) rfl) rfl ?_
    refine z_ialdC (pc := 23) (j := 2) rfl (fun _ => rfl) (zdg D_X12_draw 15 (23, .iaload, 1) rfl) rfl rfl ?_
    refine z_bipush (pc := 24) (v := 8) (zdg D_X12_draw 16 (24, .bipush 8, 2) rfl) rfl ?_
    refine z_iushr (pc := 26) (zdg D_X12_draw 17 (26, .iushr, 1) rfl) ?_
    refine z_iload_n (pc := 27) 1 (zdg D_X12_draw 18 (27, .iload_n 1, 1) rfl) rfl rfl ?_
    refine z_irem (pc := 28) (zdg D_X12_draw 19 (28, .irem, 1) rfl) hn hf (fun hf => ?_)
    exact z_iret (pc := 29) rfl rfl (zdg D_X12_draw 20 (29, .ireturn, 1) rfl) (hP _ _ hf)

def L_X12_bridge : List (Nat × Instr × Nat) := [(0, .iload_n 1, 1), (1, .iconst 2, 1), (2, .bipush 8, 2), (4, .invokestatic 64, 3), (7, .ifCond .eq 13, 3), (10, .iload_n 2, 1), (11, .iconst 2, 1), (12, .bipush 7, 2), (14, .invokestatic 64, 3), (17, .ifCond .ne 5, 3), (20, .iconst 0, 1), (21, .ireturn, 1), (22, .aload_n 0, 1), (23, .iload_n 1, 1), (24, .iload_n 2, 1), (25, .invokevirtual 57, 3), (28, .iconst 1, 1), (29, .ireturn, 1)]
set_option maxRecDepth 100000 in
theorem D_X12_bridge : zdecs cX12_bridge L_X12_bridge = true := by decide +kernel
noncomputable def f_X12_bridge (p1 : Int32) (p2 : Int32) (σ : zG) : Option (Int32 × zG) :=
  if (f_X12_isIn p1 (2 : Int32) (8 : Int32)) = 0 then some ((0 : Int32), σ) else if (f_X12_isIn p2 (2 : Int32) (7 : Int32)) = 0 then some ((0 : Int32), σ) else (f_X12_begins p1 p2 σ).bind (fun q1 => some ((1 : Int32), q1))
set_option maxRecDepth 100000 in
set_option maxHeartbeats 4000000 in
theorem c_X12_bridge (l : Launch) (p1 : Int32) (p2 : Int32) (σ : zG) (q : Int32 × zG) (hq : f_X12_bridge p1 p2 σ = some q) : zMet l zsyM m_X12_bridge yX12_bridge [zR 0 0, zI p1, zI p2] σ (some (zI q.1)) q.2 := by
  refine zEnter [(0, zR 0 0), (1, zI p1), (2, zI p2)] (by decide) rfl (fun _ => Nat.le_of_ble_eq_true rfl) (fun _ => rfl) (fun w h => ?_) (fun K hv hs => ?_)
  · exact zokm rfl h
  · have hP : ∀ x s, f_X12_bridge p1 p2 σ = some (x, s) → zKv K = some (zI x) ∧ zKs K = s := fun x s h => by rw [hq] at h; cases h; exact ⟨hv, hs⟩
    have hn : f_X12_bridge p1 p2 σ ≠ none := fun z => by rw [hq] at z; cases z
    have hf := f_X12_bridge.eq_1 p1 p2 σ
    refine z_iload_n (pc := 0) 1 (zdg D_X12_bridge 0 (0, .iload_n 1, 1) rfl) rfl rfl ?_
    refine z_iconst (pc := 1) (v := 2) (zdg D_X12_bridge 1 (1, .iconst 2, 1) rfl) rfl ?_
    refine z_bipush (pc := 2) (v := 8) (zdg D_X12_bridge 2 (2, .bipush 8, 2) rfl) rfl ?_
    refine z_callS (pc := 4) (rest := []) (st2 := [zI (f_X12_isIn p1 (2 : Int32) (8 : Int32))]) (fun l => c_X12_isIn l p1 (2 : Int32) (8 : Int32) σ) zs_X12_isIn lm_X12_64 rfl rfl rfl (Nat.le_of_ble_eq_true rfl) ⟨Nat.le_of_ble_eq_true rfl, Nat.le_of_ble_eq_true rfl⟩ (zdg D_X12_bridge 3 (4, .invokestatic 64, 3) rfl) ?_
    refine z_if_eq (pc := 7) 20 (zdg D_X12_bridge 4 (7, .ifCond .eq 13, 3) rfl) rfl hf (fun hf => ?_) (fun hf => ?_)
    · refine z_iconst (pc := 20) (v := 0) (zdg D_X12_bridge 10 (20, .iconst 0, 1) rfl) rfl ?_
      exact z_iret (pc := 21) rfl rfl (zdg D_X12_bridge 11 (21, .ireturn, 1) rfl) (hP _ _ hf)
    · refine z_iload_n (pc := 10) 2 (zdg D_X12_bridge 5 (10, .iload_n 2, 1) rfl) rfl rfl ?_
      refine z_iconst (pc := 11) (v := 2) (zdg D_X12_bridge 6 (11, .iconst 2, 1) rfl) rfl ?_
      refine z_bipush (pc := 12) (v := 7) (zdg D_X12_bridge 7 (12, .bipush 7, 2) rfl) rfl ?_
      refine z_callS (pc := 14) (rest := []) (st2 := [zI (f_X12_isIn p2 (2 : Int32) (7 : Int32))]) (fun l => c_X12_isIn l p2 (2 : Int32) (7 : Int32) σ) zs_X12_isIn lm_X12_64 rfl rfl rfl (Nat.le_of_ble_eq_true rfl) ⟨Nat.le_of_ble_eq_true rfl, Nat.le_of_ble_eq_true rfl⟩ (zdg D_X12_bridge 8 (14, .invokestatic 64, 3) rfl) ?_
      refine z_if_ne (pc := 17) 22 (zdg D_X12_bridge 9 (17, .ifCond .ne 5, 3) rfl) rfl hf (fun hf => ?_) (fun hf => ?_)
      · refine z_aload_n (pc := 22) 0 (zdg D_X12_bridge 12 (22, .aload_n 0, 1) rfl) rfl rfl ?_
        refine z_iload_n (pc := 23) 1 (zdg D_X12_bridge 13 (23, .iload_n 1, 1) rfl) rfl rfl ?_
        refine z_iload_n (pc := 24) 2 (zdg D_X12_bridge 14 (24, .iload_n 2, 1) rfl) rfl rfl ?_
        refine z_bind hn hf (fun q1 hq hf => ?_)
        refine z_callV (pc := 25) (rest := []) (st2 := []) (fun l => c_X12_begins l p1 p2 σ q1 hq) zv_X12_begins lm_X12_57 rfl rfl rfl rfl rfl rfl (Nat.le_of_ble_eq_true rfl) ⟨Nat.le_of_ble_eq_true rfl, Nat.le_of_ble_eq_true rfl⟩ (zdg D_X12_bridge 15 (25, .invokevirtual 57, 3) rfl) ?_
        refine z_iconst (pc := 28) (v := 1) (zdg D_X12_bridge 16 (28, .iconst 1, 1) rfl) rfl ?_
        exact z_iret (pc := 29) rfl rfl (zdg D_X12_bridge 17 (29, .ireturn, 1) rfl) (hP _ _ hf)
      · refine z_iconst (pc := 20) (v := 0) (zdg D_X12_bridge 10 (20, .iconst 0, 1) rfl) rfl ?_
        exact z_iret (pc := 21) rfl rfl (zdg D_X12_bridge 11 (21, .ireturn, 1) rfl) (hP _ _ hf)

def L_X12_set : List (Nat × Instr × Nat) := [(0, .iload_n 1, 1), (1, .tableswitch 95 0 3 #[31, 58, 71, 83], 31), (32, .iload_n 2, 1), (33, .iconst 1, 1), (34, .aload_n 0, 1), (35, .getfield 7, 3), (38, .bipush 30, 2), (40, .iaload, 1), (41, .invokestatic 64, 3), (44, .ifCond .ne 5, 3), (47, .iconst 0, 1), (48, .ireturn, 1), (49, .aload_n 0, 1), (50, .getfield 7, 3), (53, .iconst 1, 1), (54, .iconst 0, 1), (55, .iastore, 1), (56, .goto 42, 3), (59, .iload_n 2, 1), (60, .iconst 0, 1), (61, .sipush 1000, 3), (64, .invokestatic 64, 3), (67, .ifCond .ne 31, 3), (70, .iconst 0, 1), (71, .ireturn, 1), (72, .iload_n 2, 1), (73, .iconst 1, 1), (74, .bipush 60, 2), (76, .invokestatic 64, 3), (79, .ifCond .ne 19, 3), (82, .iconst 0, 1), (83, .ireturn, 1), (84, .iload_n 2, 1), (85, .iconst 0, 1), (86, .bipush 99, 2), (88, .invokestatic 64, 3), (91, .ifCond .ne 7, 3), (94, .iconst 0, 1), (95, .ireturn, 1), (96, .iconst 0, 1), (97, .ireturn, 1), (98, .aload_n 0, 1), (99, .getfield 7, 3), (102, .bipush 32, 2), (104, .iload_n 1, 1), (105, .iadd, 1), (106, .iload_n 2, 1), (107, .iastore, 1), (108, .aload_n 0, 1), (109, .invokevirtual 72, 3), (112, .iconst 1, 1), (113, .ireturn, 1)]
set_option maxRecDepth 100000 in
theorem D_X12_set : zdecs cX12_set L_X12_set = true := by decide +kernel
noncomputable def j_X12_set_98 (p1 : Int32) (p2 : Int32) (s2 : zG) : Option (Int32 × zG) :=
  zg (zin ((32 : Int32) + p1) 9248) (zb (zwI s2 1 0 ((32 : Int32) + p1).toNatClampNeg p2) (fun s3 => zb (f_X12_forgets s3) (fun s4 => some ((1 : Int32), s4))))
noncomputable def f_X12_set (p1 : Int32) (p2 : Int32) (σ : zG) : Option (Int32 × zG) :=
  if p1 = 0 then if (f_X12_isIn p2 (1 : Int32) (σ.1 1 0 30)) = 0 then some ((0 : Int32), σ) else zb (zwI σ 1 0 1 (0 : Int32)) (fun s1 => j_X12_set_98 p1 p2 s1) else if p1 = 1 then if (f_X12_isIn p2 (0 : Int32) (1000 : Int32)) = 0 then some ((0 : Int32), σ) else j_X12_set_98 p1 p2 σ else if p1 = 2 then if (f_X12_isIn p2 (1 : Int32) (60 : Int32)) = 0 then some ((0 : Int32), σ) else j_X12_set_98 p1 p2 σ else if p1 = 3 then if (f_X12_isIn p2 (0 : Int32) (99 : Int32)) = 0 then some ((0 : Int32), σ) else j_X12_set_98 p1 p2 σ else some ((0 : Int32), σ)
set_option maxRecDepth 100000 in
set_option maxHeartbeats 4000000 in
theorem c_X12_set (l : Launch) (p1 : Int32) (p2 : Int32) (σ : zG) (q : Int32 × zG) (hq : f_X12_set p1 p2 σ = some q) : zMet l zsyM m_X12_set yX12_set [zR 0 0, zI p1, zI p2] σ (some (zI q.1)) q.2 := by
  refine zEnter [(0, zR 0 0), (1, zI p1), (2, zI p2)] (by decide) rfl (fun _ => Nat.le_of_ble_eq_true rfl) (fun _ => rfl) (fun w h => ?_) (fun K hv hs => ?_)
  · exact zokm rfl h
  · have hP : ∀ x s, f_X12_set p1 p2 σ = some (x, s) → zKv K = some (zI x) ∧ zKs K = s := fun x s h => by rw [hq] at h; cases h; exact ⟨hv, hs⟩
    have hn : f_X12_set p1 p2 σ ≠ none := fun z => by rw [hq] at z; cases z
    have hf := f_X12_set.eq_1 p1 p2 σ
    have t_98 : ∀ (s2 : zG), f_X12_set p1 p2 σ = j_X12_set_98 p1 p2 s2 → zX zsyM m_X12_set K 98 [(0, zR 0 0), (1, zI p1), (2, zI p2)] [] s2 := by
      intro s2 hf
      replace hf := hf.trans (j_X12_set_98.eq_1 p1 p2 s2)
      refine z_aload_n (pc := 98) 0 (zdg D_X12_set 41 (98, .aload_n 0, 1) rfl) rfl rfl ?_
      refine z_getR (pc := 99) (g := 1) (j := 0) lf_X12_7 rfl rfl rfl (zdg D_X12_set 42 (99, .getfield 7, 3) rfl) ?_
      refine z_bipush (pc := 102) (v := 32) (zdg D_X12_set 43 (102, .bipush 32, 2) rfl) rfl ?_
      refine z_iload_n (pc := 104) 1 (zdg D_X12_set 44 (104, .iload_n 1, 1) rfl) rfl rfl ?_
      refine z_iadd (pc := 105) (zdg D_X12_set 45 (105, .iadd, 1) rfl) ?_
      refine z_iload_n (pc := 106) 2 (zdg D_X12_set 46 (106, .iload_n 2, 1) rfl) rfl rfl ?_
      refine z_iast (pc := 107) rfl (fun _ => rfl) (zdg D_X12_set 47 (107, .iastore, 1) rfl) hn hf (fun hf => ?_)
      refine z_nmS hf (fun s3 hf => ?_)
      refine z_aload_n (pc := 108) 0 (zdg D_X12_set 48 (108, .aload_n 0, 1) rfl) rfl rfl ?_
      refine z_callV (pc := 109) (rest := []) (st2 := []) (fun l => c_X12_forgets l s3) zv_X12_forgets lm_X12_72 rfl rfl rfl rfl rfl rfl (Nat.le_of_ble_eq_true rfl) ⟨Nat.le_of_ble_eq_true rfl, Nat.le_of_ble_eq_true rfl⟩ (zdg D_X12_set 49 (109, .invokevirtual 72, 3) rfl) ?_
      refine z_nmS hf (fun s4 hf => ?_)
      refine z_iconst (pc := 112) (v := 1) (zdg D_X12_set 50 (112, .iconst 1, 1) rfl) rfl ?_
      exact z_iret (pc := 113) rfl rfl (zdg D_X12_set 51 (113, .ireturn, 1) rfl) (hP _ _ hf)
    refine z_iload_n (pc := 0) 1 (zdg D_X12_set 0 (0, .iload_n 1, 1) rfl) rfl rfl ?_
    refine zif hf (fun hc0 hf => ?_) (fun hc0 hf => ?_)
    · refine z_tsIn (pc := 1) (c := 0) (j := 0) 32 (zdg D_X12_set 1 (1, .tableswitch 95 0 3 #[31, 58, 71, 83], 31) rfl) hc0 (by decide) (by decide) rfl rfl rfl ?_
      refine z_iload_n (pc := 32) 2 (zdg D_X12_set 2 (32, .iload_n 2, 1) rfl) rfl rfl ?_
      refine z_iconst (pc := 33) (v := 1) (zdg D_X12_set 3 (33, .iconst 1, 1) rfl) rfl ?_
      refine z_aload_n (pc := 34) 0 (zdg D_X12_set 4 (34, .aload_n 0, 1) rfl) rfl rfl ?_
      refine z_getR (pc := 35) (g := 1) (j := 0) lf_X12_7 rfl rfl rfl (zdg D_X12_set 5 (35, .getfield 7, 3) rfl) ?_
      refine z_bipush (pc := 38) (v := 30) (zdg D_X12_set 6 (38, .bipush 30, 2) rfl) rfl ?_
      refine z_ialdC (pc := 40) (j := 30) rfl (fun _ => rfl) (zdg D_X12_set 7 (40, .iaload, 1) rfl) rfl rfl ?_
      refine z_callS (pc := 41) (rest := []) (st2 := [zI (f_X12_isIn p2 (1 : Int32) (σ.1 1 0 30))]) (fun l => c_X12_isIn l p2 (1 : Int32) (σ.1 1 0 30) σ) zs_X12_isIn lm_X12_64 rfl rfl rfl (Nat.le_of_ble_eq_true rfl) ⟨Nat.le_of_ble_eq_true rfl, Nat.le_of_ble_eq_true rfl⟩ (zdg D_X12_set 8 (41, .invokestatic 64, 3) rfl) ?_
      refine z_if_ne (pc := 44) 49 (zdg D_X12_set 9 (44, .ifCond .ne 5, 3) rfl) rfl hf (fun hf => ?_) (fun hf => ?_)
      · refine z_aload_n (pc := 49) 0 (zdg D_X12_set 12 (49, .aload_n 0, 1) rfl) rfl rfl ?_
        refine z_getR (pc := 50) (g := 1) (j := 0) lf_X12_7 rfl rfl rfl (zdg D_X12_set 13 (50, .getfield 7, 3) rfl) ?_
        refine z_iconst (pc := 53) (v := 1) (zdg D_X12_set 14 (53, .iconst 1, 1) rfl) rfl ?_
        refine z_iconst (pc := 54) (v := 0) (zdg D_X12_set 15 (54, .iconst 0, 1) rfl) rfl ?_
        refine z_iastC (pc := 55) (j := 1) rfl (fun _ => rfl) (zdg D_X12_set 16 (55, .iastore, 1) rfl) rfl rfl ?_
        refine z_nmS hf (fun s1 hf => ?_)
        refine z_goto (pc := 56) 98 (zdg D_X12_set 17 (56, .goto 42, 3) rfl) rfl ?_
        exact t_98 s1 hf
      · refine z_iconst (pc := 47) (v := 0) (zdg D_X12_set 10 (47, .iconst 0, 1) rfl) rfl ?_
        exact z_iret (pc := 48) rfl rfl (zdg D_X12_set 11 (48, .ireturn, 1) rfl) (hP _ _ hf)
    · skip
      refine zif hf (fun hc1 hf => ?_) (fun hc1 hf => ?_)
      · refine z_tsIn (pc := 1) (c := 1) (j := 1) 59 (zdg D_X12_set 1 (1, .tableswitch 95 0 3 #[31, 58, 71, 83], 31) rfl) hc1 (by decide) (by decide) rfl rfl rfl ?_
        refine z_iload_n (pc := 59) 2 (zdg D_X12_set 18 (59, .iload_n 2, 1) rfl) rfl rfl ?_
        refine z_iconst (pc := 60) (v := 0) (zdg D_X12_set 19 (60, .iconst 0, 1) rfl) rfl ?_
        refine z_sipush (pc := 61) (v := 1000) (zdg D_X12_set 20 (61, .sipush 1000, 3) rfl) rfl ?_
        refine z_callS (pc := 64) (rest := []) (st2 := [zI (f_X12_isIn p2 (0 : Int32) (1000 : Int32))]) (fun l => c_X12_isIn l p2 (0 : Int32) (1000 : Int32) σ) zs_X12_isIn lm_X12_64 rfl rfl rfl (Nat.le_of_ble_eq_true rfl) ⟨Nat.le_of_ble_eq_true rfl, Nat.le_of_ble_eq_true rfl⟩ (zdg D_X12_set 21 (64, .invokestatic 64, 3) rfl) ?_
        refine z_if_ne (pc := 67) 98 (zdg D_X12_set 22 (67, .ifCond .ne 31, 3) rfl) rfl hf (fun hf => ?_) (fun hf => ?_)
        · exact t_98 σ hf
        · refine z_iconst (pc := 70) (v := 0) (zdg D_X12_set 23 (70, .iconst 0, 1) rfl) rfl ?_
          exact z_iret (pc := 71) rfl rfl (zdg D_X12_set 24 (71, .ireturn, 1) rfl) (hP _ _ hf)
      · skip
        refine zif hf (fun hc2 hf => ?_) (fun hc2 hf => ?_)
        · refine z_tsIn (pc := 1) (c := 2) (j := 2) 72 (zdg D_X12_set 1 (1, .tableswitch 95 0 3 #[31, 58, 71, 83], 31) rfl) hc2 (by decide) (by decide) rfl rfl rfl ?_
          refine z_iload_n (pc := 72) 2 (zdg D_X12_set 25 (72, .iload_n 2, 1) rfl) rfl rfl ?_
          refine z_iconst (pc := 73) (v := 1) (zdg D_X12_set 26 (73, .iconst 1, 1) rfl) rfl ?_
          refine z_bipush (pc := 74) (v := 60) (zdg D_X12_set 27 (74, .bipush 60, 2) rfl) rfl ?_
          refine z_callS (pc := 76) (rest := []) (st2 := [zI (f_X12_isIn p2 (1 : Int32) (60 : Int32))]) (fun l => c_X12_isIn l p2 (1 : Int32) (60 : Int32) σ) zs_X12_isIn lm_X12_64 rfl rfl rfl (Nat.le_of_ble_eq_true rfl) ⟨Nat.le_of_ble_eq_true rfl, Nat.le_of_ble_eq_true rfl⟩ (zdg D_X12_set 28 (76, .invokestatic 64, 3) rfl) ?_
          refine z_if_ne (pc := 79) 98 (zdg D_X12_set 29 (79, .ifCond .ne 19, 3) rfl) rfl hf (fun hf => ?_) (fun hf => ?_)
          · exact t_98 σ hf
          · refine z_iconst (pc := 82) (v := 0) (zdg D_X12_set 30 (82, .iconst 0, 1) rfl) rfl ?_
            exact z_iret (pc := 83) rfl rfl (zdg D_X12_set 31 (83, .ireturn, 1) rfl) (hP _ _ hf)
        · skip
          refine zif hf (fun hc3 hf => ?_) (fun hc3 hf => ?_)
          · refine z_tsIn (pc := 1) (c := 3) (j := 3) 84 (zdg D_X12_set 1 (1, .tableswitch 95 0 3 #[31, 58, 71, 83], 31) rfl) hc3 (by decide) (by decide) rfl rfl rfl ?_
            refine z_iload_n (pc := 84) 2 (zdg D_X12_set 32 (84, .iload_n 2, 1) rfl) rfl rfl ?_
            refine z_iconst (pc := 85) (v := 0) (zdg D_X12_set 33 (85, .iconst 0, 1) rfl) rfl ?_
            refine z_bipush (pc := 86) (v := 99) (zdg D_X12_set 34 (86, .bipush 99, 2) rfl) rfl ?_
            refine z_callS (pc := 88) (rest := []) (st2 := [zI (f_X12_isIn p2 (0 : Int32) (99 : Int32))]) (fun l => c_X12_isIn l p2 (0 : Int32) (99 : Int32) σ) zs_X12_isIn lm_X12_64 rfl rfl rfl (Nat.le_of_ble_eq_true rfl) ⟨Nat.le_of_ble_eq_true rfl, Nat.le_of_ble_eq_true rfl⟩ (zdg D_X12_set 35 (88, .invokestatic 64, 3) rfl) ?_
            refine z_if_ne (pc := 91) 98 (zdg D_X12_set 36 (91, .ifCond .ne 7, 3) rfl) rfl hf (fun hf => ?_) (fun hf => ?_)
            · exact t_98 σ hf
            · refine z_iconst (pc := 94) (v := 0) (zdg D_X12_set 37 (94, .iconst 0, 1) rfl) rfl ?_
              exact z_iret (pc := 95) rfl rfl (zdg D_X12_set 38 (95, .ireturn, 1) rfl) (hP _ _ hf)
          · skip
            refine z_tsOut (pc := 1) 96 (zdg D_X12_set 1 (1, .tableswitch 95 0 3 #[31, 58, 71, 83], 31) rfl) (by have e0 := lv_neT hc0 (k := 0) (a := 0) rfl; have e1 := lv_neT hc1 (k := 1) (a := 1) rfl; have e2 := lv_neT hc2 (k := 2) (a := 2) rfl; have e3 := lv_neT hc3 (k := 3) (a := 3) rfl; omega) rfl ?_
            refine z_iconst (pc := 96) (v := 0) (zdg D_X12_set 39 (96, .iconst 0, 1) rfl) rfl ?_
            exact z_iret (pc := 97) rfl rfl (zdg D_X12_set 40 (97, .ireturn, 1) rfl) (hP _ _ hf)

def L_X12_feed : List (Nat × Instr × Nat) := [(0, .aload_n 0, 1), (1, .getfield 77, 3), (4, .bipush 20, 2), (6, .iadd, 1), (7, .sipush 400, 3), (10, .if_icmp .le 5, 3), (13, .iconst (-1), 1), (14, .ireturn, 1), (15, .iconst 0, 1), (16, .istore 6, 2), (18, .iload 6, 2), (20, .bipush 20, 2), (22, .if_icmp .ge 93, 3), (25, .iload 6, 2), (27, .iconst 4, 1), (28, .if_icmp .ge 7, 3), (31, .iload_n 1, 1), (32, .goto 39, 3), (35, .iload 6, 2), (37, .bipush 8, 2), (39, .if_icmp .ge 7, 3), (42, .iload_n 2, 1), (43, .goto 28, 3), (46, .iload 6, 2), (48, .bipush 12, 2), (50, .if_icmp .ge 7, 3), (53, .iload_n 3, 1), (54, .goto 17, 3), (57, .iload 6, 2), (59, .bipush 16, 2), (61, .if_icmp .ge 8, 3), (64, .iload 4, 2), (66, .goto 5, 3), (69, .iload 5, 2), (71, .istore 7, 2), (73, .aload_n 0, 1), (74, .getfield 31, 3), (77, .aload_n 0, 1), (78, .getfield 77, 3), (81, .iload 7, 2), (83, .bipush 24, 2), (85, .bipush 8, 2), (87, .iload 6, 2), (89, .iconst 4, 1), (90, .irem, 1), (91, .imul, 1), (92, .isub, 1), (93, .ishr, 1), (94, .sipush 255, 3), (97, .iand, 1), (98, .iastore, 1), (99, .aload_n 0, 1), (100, .dup, 1), (101, .getfield 77, 3), (104, .iconst 1, 1), (105, .iadd, 1), (106, .putfield 77, 3), (109, .iinc 6 1, 3), (112, .goto (-94), 3), (115, .aload_n 0, 1), (116, .getfield 77, 3), (119, .ireturn, 1)]
set_option maxRecDepth 100000 in
theorem D_X12_feed : zdecs cX12_feed L_X12_feed = true := by decide +kernel
noncomputable def j_X12_feed_71_18 (w6_3 : Int32) (t4 : Int32) (s5 : zG) : Option ((Int32 × zG) ⊕ (zG)) :=
  zg (zin (s5.1 0 0 16) 400) (zb (zwI s5 8 0 (s5.1 0 0 16).toNatClampNeg ((zshr t4 ((24 : Int32) - ((8 : Int32) * (zrem w6_3 (4 : Int32))))) &&& (255 : Int32))) (fun s6 => zb (zwI s6 0 0 16 ((s6.1 0 0 16) + (1 : Int32))) (fun s7 => some (Sum.inl ((w6_3 + 1), s7)))))
noncomputable def b_X12_feed_18 (p1 : Int32) (p2 : Int32) (p3 : Int32) (p4 : Int32) (p5 : Int32) (v6_1 : Int32) (s2 : zG) : Option ((Int32 × zG) ⊕ (zG)) :=
  if v6_1 < (20 : Int32) then if v6_1 < (4 : Int32) then j_X12_feed_71_18 v6_1 p1 s2 else if v6_1 < (8 : Int32) then j_X12_feed_71_18 v6_1 p2 s2 else if v6_1 < (12 : Int32) then j_X12_feed_71_18 v6_1 p3 s2 else if v6_1 < (16 : Int32) then j_X12_feed_71_18 v6_1 p4 s2 else j_X12_feed_71_18 v6_1 p5 s2 else some (Sum.inr s2)
noncomputable def f_X12_feed (p1 : Int32) (p2 : Int32) (p3 : Int32) (p4 : Int32) (p5 : Int32) (σ : zG) : Option (Int32 × zG) :=
  if (400 : Int32) < ((σ.1 0 0 16) + (20 : Int32)) then some ((-1 : Int32), σ) else (zlp (fun q : Int32 × zG => b_X12_feed_18 p1 p2 p3 p4 p5 q.1 q.2) ((0 : Int32), σ)).bind (fun e8 : zG => some ((e8.1 0 0 16), e8))
set_option maxRecDepth 100000 in
set_option maxHeartbeats 4000000 in
theorem c_X12_feed (l : Launch) (p1 : Int32) (p2 : Int32) (p3 : Int32) (p4 : Int32) (p5 : Int32) (σ : zG) (q : Int32 × zG) (hq : f_X12_feed p1 p2 p3 p4 p5 σ = some q) : zMet l zsyM m_X12_feed yX12_feed [zR 0 0, zI p1, zI p2, zI p3, zI p4, zI p5] σ (some (zI q.1)) q.2 := by
  refine zEnter [(0, zR 0 0), (1, zI p1), (2, zI p2), (3, zI p3), (4, zI p4), (5, zI p5)] (by decide) rfl (fun _ => Nat.le_of_ble_eq_true rfl) (fun _ => rfl) (fun w h => ?_) (fun K hv hs => ?_)
  · exact zokm rfl h
  · have hP : ∀ x s, f_X12_feed p1 p2 p3 p4 p5 σ = some (x, s) → zKv K = some (zI x) ∧ zKs K = s := fun x s h => by rw [hq] at h; cases h; exact ⟨hv, hs⟩
    have hn : f_X12_feed p1 p2 p3 p4 p5 σ ≠ none := fun z => by rw [hq] at z; cases z
    have hf := f_X12_feed.eq_1 p1 p2 p3 p4 p5 σ
    refine z_aload_n (pc := 0) 0 (zdg D_X12_feed 0 (0, .aload_n 0, 1) rfl) rfl rfl ?_
    refine z_getI (pc := 1) lf_X12_77 rfl rfl (zdg D_X12_feed 1 (1, .getfield 77, 3) rfl) ?_
    refine z_bipush (pc := 4) (v := 20) (zdg D_X12_feed 2 (4, .bipush 20, 2) rfl) rfl ?_
    refine z_iadd (pc := 6) (zdg D_X12_feed 3 (6, .iadd, 1) rfl) ?_
    refine z_sipush (pc := 7) (v := 400) (zdg D_X12_feed 4 (7, .sipush 400, 3) rfl) rfl ?_
    refine z_icmp_le (pc := 10) 15 (zdg D_X12_feed 5 (10, .if_icmp .le 5, 3) rfl) rfl hf (fun hf => ?_) (fun hf => ?_)
    · refine z_iconst (pc := 15) (v := 0) (zdg D_X12_feed 8 (15, .iconst 0, 1) rfl) rfl ?_
      refine z_istore (pc := 16) (al' := [(6, zI (0 : Int32)), (0, zR 0 0), (1, zI p1), (2, zI p2), (3, zI p3), (4, zI p4), (5, zI p5)]) (zdg D_X12_feed 9 (16, .istore 6, 2) rfl) (by decide) rfl ?_
      refine z_sub (al' := [(0, zR 0 0), (1, zI p1), (2, zI p2), (3, zI p3), (4, zI p4), (5, zI p5), (6, zI (0 : Int32))]) [1, 2, 3, 4, 5, 6, 0] rfl ?_
      refine z_loop (f := (fun q : Int32 × zG => b_X12_feed_18 p1 p2 p3 p4 p5 q.1 q.2)) (a := ((0 : Int32), σ)) (fun q : Int32 × zG => zX zsyM m_X12_feed K 18 [(0, zR 0 0), (1, zI p1), (2, zI p2), (3, zI p3), (4, zI p4), (5, zI p5), (6, zI q.1)] [] q.2) (fun e8 : zG => zX zsyM m_X12_feed K 115 [(0, zR 0 0)] [] e8) hn hf ?_ ?_
      · intro e8 hf
        refine z_aload_n (pc := 115) 0 (zdg D_X12_feed 59 (115, .aload_n 0, 1) rfl) rfl rfl ?_
        refine z_getI (pc := 116) lf_X12_77 rfl rfl (zdg D_X12_feed 60 (116, .getfield 77, 3) rfl) ?_
        exact z_iret (pc := 119) rfl rfl (zdg D_X12_feed 61 (119, .ireturn, 1) rfl) (hP _ _ hf)
      · rintro ⟨v6_1, s2⟩ hn hi hx
        have hf := b_X12_feed_18.eq_1 p1 p2 p3 p4 p5 v6_1 s2
        have t_71 : ∀ (w6_3 : Int32) (t4 : Int32) (s5 : zG), b_X12_feed_18 p1 p2 p3 p4 p5 v6_1 s2 = j_X12_feed_71_18 w6_3 t4 s5 → zX zsyM m_X12_feed K 71 [(0, zR 0 0), (1, zI p1), (2, zI p2), (3, zI p3), (4, zI p4), (5, zI p5), (6, zI w6_3)] [zI t4] s5 := by
          intro w6_3 t4 s5 hf
          replace hf := hf.trans (j_X12_feed_71_18.eq_1 w6_3 t4 s5)
          refine z_istore (pc := 71) (al' := [(7, zI t4), (0, zR 0 0), (1, zI p1), (2, zI p2), (3, zI p3), (4, zI p4), (5, zI p5), (6, zI w6_3)]) (zdg D_X12_feed 34 (71, .istore 7, 2) rfl) (by decide) rfl ?_
          refine z_aload_n (pc := 73) 1 (zdg D_X12_feed 35 (73, .aload_n 0, 1) rfl) rfl rfl ?_
          refine z_getR (pc := 74) (g := 8) (j := 0) lf_X12_31 rfl rfl rfl (zdg D_X12_feed 36 (74, .getfield 31, 3) rfl) ?_
          refine z_aload_n (pc := 77) 1 (zdg D_X12_feed 37 (77, .aload_n 0, 1) rfl) rfl rfl ?_
          refine z_getI (pc := 78) lf_X12_77 rfl rfl (zdg D_X12_feed 38 (78, .getfield 77, 3) rfl) ?_
          refine z_iload (pc := 81) 0 (zdg D_X12_feed 39 (81, .iload 7, 2) rfl) rfl ?_
          refine z_bipush (pc := 83) (v := 24) (zdg D_X12_feed 40 (83, .bipush 24, 2) rfl) rfl ?_
          refine z_bipush (pc := 85) (v := 8) (zdg D_X12_feed 41 (85, .bipush 8, 2) rfl) rfl ?_
          refine z_iload (pc := 87) 7 (zdg D_X12_feed 42 (87, .iload 6, 2) rfl) rfl ?_
          refine z_iconst (pc := 89) (v := 4) (zdg D_X12_feed 43 (89, .iconst 4, 1) rfl) rfl ?_
          refine z_iremK (pc := 90) (zdg D_X12_feed 44 (90, .irem, 1) rfl) rfl ?_
          refine z_imul (pc := 91) (zdg D_X12_feed 45 (91, .imul, 1) rfl) ?_
          refine z_isub (pc := 92) (zdg D_X12_feed 46 (92, .isub, 1) rfl) ?_
          refine z_ishr (pc := 93) (zdg D_X12_feed 47 (93, .ishr, 1) rfl) ?_
          refine z_sipush (pc := 94) (v := 255) (zdg D_X12_feed 48 (94, .sipush 255, 3) rfl) rfl ?_
          refine z_iand (pc := 97) (zdg D_X12_feed 49 (97, .iand, 1) rfl) ?_
          refine z_iast (pc := 98) rfl (fun _ => rfl) (zdg D_X12_feed 50 (98, .iastore, 1) rfl) hn hf (fun hf => ?_)
          refine z_nmS hf (fun s6 hf => ?_)
          refine z_aload_n (pc := 99) 1 (zdg D_X12_feed 51 (99, .aload_n 0, 1) rfl) rfl rfl ?_
          refine z_dup (pc := 100) rfl (zdg D_X12_feed 52 (100, .dup, 1) rfl) ?_
          refine z_getI (pc := 101) lf_X12_77 rfl rfl (zdg D_X12_feed 53 (101, .getfield 77, 3) rfl) ?_
          refine z_iconst (pc := 104) (v := 1) (zdg D_X12_feed 54 (104, .iconst 1, 1) rfl) rfl ?_
          refine z_iadd (pc := 105) (zdg D_X12_feed 55 (105, .iadd, 1) rfl) ?_
          refine z_putI (pc := 106) lw_X12_77 rfl rfl rfl rfl (zdg D_X12_feed 56 (106, .putfield 77, 3) rfl) ?_
          refine z_nmS hf (fun s7 hf => ?_)
          refine z_iinc (pc := 109) (v0 := (w6_3 + 1)) (al' := [(6, zI (w6_3 + 1)), (7, zI t4), (0, zR 0 0), (1, zI p1), (2, zI p2), (3, zI p3), (4, zI p4), (5, zI p5)]) 7 (zdg D_X12_feed 57 (109, .iinc 6 1, 3) rfl) rfl rfl (by decide) rfl ?_
          refine z_goto (pc := 112) 18 (zdg D_X12_feed 58 (112, .goto (-94), 3) rfl) rfl ?_
          refine z_sub (al' := [(0, zR 0 0), (1, zI p1), (2, zI p2), (3, zI p3), (4, zI p4), (5, zI p5), (6, zI (w6_3 + 1))]) [2, 3, 4, 5, 6, 7, 0] rfl ?_
          exact hi ((w6_3 + 1), s7) hf
        refine z_iload (pc := 18) 6 (zdg D_X12_feed 10 (18, .iload 6, 2) rfl) rfl ?_
        refine z_bipush (pc := 20) (v := 20) (zdg D_X12_feed 11 (20, .bipush 20, 2) rfl) rfl ?_
        refine z_icmp_ge (pc := 22) 115 (zdg D_X12_feed 12 (22, .if_icmp .ge 93, 3) rfl) rfl hf (fun hf => ?_) (fun hf => ?_)
        · refine z_sub (al' := [(0, zR 0 0)]) [0] rfl ?_
          exact hx s2 hf
        · refine z_iload (pc := 25) 6 (zdg D_X12_feed 13 (25, .iload 6, 2) rfl) rfl ?_
          refine z_iconst (pc := 27) (v := 4) (zdg D_X12_feed 14 (27, .iconst 4, 1) rfl) rfl ?_
          refine z_icmp_ge (pc := 28) 35 (zdg D_X12_feed 15 (28, .if_icmp .ge 7, 3) rfl) rfl hf (fun hf => ?_) (fun hf => ?_)
          · refine z_iload (pc := 35) 6 (zdg D_X12_feed 18 (35, .iload 6, 2) rfl) rfl ?_
            refine z_bipush (pc := 37) (v := 8) (zdg D_X12_feed 19 (37, .bipush 8, 2) rfl) rfl ?_
            refine z_icmp_ge (pc := 39) 46 (zdg D_X12_feed 20 (39, .if_icmp .ge 7, 3) rfl) rfl hf (fun hf => ?_) (fun hf => ?_)
            · refine z_iload (pc := 46) 6 (zdg D_X12_feed 23 (46, .iload 6, 2) rfl) rfl ?_
              refine z_bipush (pc := 48) (v := 12) (zdg D_X12_feed 24 (48, .bipush 12, 2) rfl) rfl ?_
              refine z_icmp_ge (pc := 50) 57 (zdg D_X12_feed 25 (50, .if_icmp .ge 7, 3) rfl) rfl hf (fun hf => ?_) (fun hf => ?_)
              · refine z_iload (pc := 57) 6 (zdg D_X12_feed 28 (57, .iload 6, 2) rfl) rfl ?_
                refine z_bipush (pc := 59) (v := 16) (zdg D_X12_feed 29 (59, .bipush 16, 2) rfl) rfl ?_
                refine z_icmp_ge (pc := 61) 69 (zdg D_X12_feed 30 (61, .if_icmp .ge 8, 3) rfl) rfl hf (fun hf => ?_) (fun hf => ?_)
                · refine z_iload (pc := 69) 5 (zdg D_X12_feed 33 (69, .iload 5, 2) rfl) rfl ?_
                  exact t_71 v6_1 p5 s2 hf
                · refine z_iload (pc := 64) 4 (zdg D_X12_feed 31 (64, .iload 4, 2) rfl) rfl ?_
                  refine z_goto (pc := 66) 71 (zdg D_X12_feed 32 (66, .goto 5, 3) rfl) rfl ?_
                  exact t_71 v6_1 p4 s2 hf
              · refine z_iload_n (pc := 53) 3 (zdg D_X12_feed 26 (53, .iload_n 3, 1) rfl) rfl rfl ?_
                refine z_goto (pc := 54) 71 (zdg D_X12_feed 27 (54, .goto 17, 3) rfl) rfl ?_
                exact t_71 v6_1 p3 s2 hf
            · refine z_iload_n (pc := 42) 2 (zdg D_X12_feed 21 (42, .iload_n 2, 1) rfl) rfl rfl ?_
              refine z_goto (pc := 43) 71 (zdg D_X12_feed 22 (43, .goto 28, 3) rfl) rfl ?_
              exact t_71 v6_1 p2 s2 hf
          · refine z_iload_n (pc := 31) 1 (zdg D_X12_feed 16 (31, .iload_n 1, 1) rfl) rfl rfl ?_
            refine z_goto (pc := 32) 71 (zdg D_X12_feed 17 (32, .goto 39, 3) rfl) rfl ?_
            exact t_71 v6_1 p1 s2 hf
    · refine z_iconst (pc := 13) (v := -1) (zdg D_X12_feed 6 (13, .iconst (-1), 1) rfl) rfl ?_
      exact z_iret (pc := 14) rfl rfl (zdg D_X12_feed 7 (14, .ireturn, 1) rfl) (hP _ _ hf)

def L_X12_end : List (Nat × Instr × Nat) := [(0, .iload_n 1, 1), (1, .iconst 0, 1), (2, .aload_n 0, 1), (3, .getfield 77, 3), (6, .invokestatic 64, 3), (9, .ifCond .ne 5, 3), (12, .iconst 0, 1), (13, .ireturn, 1), (14, .aload_n 0, 1), (15, .iload_n 1, 1), (16, .putfield 77, 3), (19, .iconst 1, 1), (20, .ireturn, 1)]
set_option maxRecDepth 100000 in
theorem D_X12_end : zdecs cX12_end L_X12_end = true := by decide +kernel
noncomputable def f_X12_end (p1 : Int32) (σ : zG) : Int32 × zG :=
  if (f_X12_isIn p1 (0 : Int32) (σ.1 0 0 16)) = 0 then ((0 : Int32), σ) else zb (zwI σ 0 0 16 p1) (fun s1 => ((1 : Int32), s1))
set_option maxRecDepth 100000 in
set_option maxHeartbeats 4000000 in
theorem c_X12_end (l : Launch) (p1 : Int32) (σ : zG) : zMet l zsyM m_X12_end yX12_end [zR 0 0, zI p1] σ (some (zI (f_X12_end p1 σ).1)) (f_X12_end p1 σ).2 := by
  refine zEnter [(0, zR 0 0), (1, zI p1)] (by decide) rfl (fun _ => Nat.le_of_ble_eq_true rfl) (fun _ => rfl) (fun w h => ?_) (fun K hv hs => ?_)
  · exact zokm rfl h
  · have hP : ∀ x s, f_X12_end p1 σ = (x, s) → zKv K = some (zI x) ∧ zKs K = s := fun x s h => by rw [h] at hv hs; exact ⟨hv, hs⟩
    have hf := f_X12_end.eq_1 p1 σ
    refine z_iload_n (pc := 0) 1 (zdg D_X12_end 0 (0, .iload_n 1, 1) rfl) rfl rfl ?_
    refine z_iconst (pc := 1) (v := 0) (zdg D_X12_end 1 (1, .iconst 0, 1) rfl) rfl ?_
    refine z_aload_n (pc := 2) 0 (zdg D_X12_end 2 (2, .aload_n 0, 1) rfl) rfl rfl ?_
    refine z_getI (pc := 3) lf_X12_77 rfl rfl (zdg D_X12_end 3 (3, .getfield 77, 3) rfl) ?_
    refine z_callS (pc := 6) (rest := []) (st2 := [zI (f_X12_isIn p1 (0 : Int32) (σ.1 0 0 16))]) (fun l => c_X12_isIn l p1 (0 : Int32) (σ.1 0 0 16) σ) zs_X12_isIn lm_X12_64 rfl rfl rfl (Nat.le_of_ble_eq_true rfl) ⟨Nat.le_of_ble_eq_true rfl, Nat.le_of_ble_eq_true rfl⟩ (zdg D_X12_end 4 (6, .invokestatic 64, 3) rfl) ?_
    refine z_if_ne (pc := 9) 14 (zdg D_X12_end 5 (9, .ifCond .ne 5, 3) rfl) rfl hf (fun hf => ?_) (fun hf => ?_)
    · refine z_aload_n (pc := 14) 0 (zdg D_X12_end 8 (14, .aload_n 0, 1) rfl) rfl rfl ?_
      refine z_iload_n (pc := 15) 1 (zdg D_X12_end 9 (15, .iload_n 1, 1) rfl) rfl rfl ?_
      refine z_putI (pc := 16) lw_X12_77 rfl rfl rfl rfl (zdg D_X12_end 10 (16, .putfield 77, 3) rfl) ?_
      refine z_nmS hf (fun s1 hf => ?_)
      refine z_iconst (pc := 19) (v := 1) (zdg D_X12_end 11 (19, .iconst 1, 1) rfl) rfl ?_
      exact z_iret (pc := 20) rfl rfl (zdg D_X12_end 12 (20, .ireturn, 1) rfl) (hP _ _ hf)
    · refine z_iconst (pc := 12) (v := 0) (zdg D_X12_end 6 (12, .iconst 0, 1) rfl) rfl ?_
      exact z_iret (pc := 13) rfl rfl (zdg D_X12_end 7 (13, .ireturn, 1) rfl) (hP _ _ hf)

def L_X12_see : List (Nat × Instr × Nat) := [(0, .iload_n 1, 1), (1, .aload_n 0, 1), (2, .getfield 77, 3), (5, .if_icmp .ge 12, 3), (8, .aload_n 0, 1), (9, .getfield 31, 3), (12, .iload_n 1, 1), (13, .iaload, 1), (14, .goto 4, 3), (17, .iconst (-1), 1), (18, .ireturn, 1)]
set_option maxRecDepth 100000 in
theorem D_X12_see : zdecs cX12_see L_X12_see = true := by decide +kernel
noncomputable def f_X12_see (p1 : Int32) (σ : zG) : Option (Int32) :=
  if p1 < (σ.1 0 0 16) then zg (zin p1 400) (some (σ.1 8 0 p1.toNatClampNeg)) else some (-1 : Int32)
set_option maxRecDepth 100000 in
set_option maxHeartbeats 4000000 in
theorem c_X12_see (l : Launch) (p1 : Int32) (σ : zG) (q : Int32) (hq : f_X12_see p1 σ = some q) : zMet l zsyM m_X12_see yX12_see [zR 0 0, zI p1] σ (some (zI q)) σ := by
  refine zEnter [(0, zR 0 0), (1, zI p1)] (by decide) rfl (fun _ => Nat.le_of_ble_eq_true rfl) (fun _ => rfl) (fun w h => ?_) (fun K hv hs => ?_)
  · exact zokm rfl h
  · have hP : ∀ x, f_X12_see p1 σ = some x → zKv K = some (zI x) ∧ zKs K = σ := fun x h => by rw [hq] at h; cases h; exact ⟨hv, hs⟩
    have hn : f_X12_see p1 σ ≠ none := fun z => by rw [hq] at z; cases z
    have hf := f_X12_see.eq_1 p1 σ
    refine z_iload_n (pc := 0) 1 (zdg D_X12_see 0 (0, .iload_n 1, 1) rfl) rfl rfl ?_
    refine z_aload_n (pc := 1) 0 (zdg D_X12_see 1 (1, .aload_n 0, 1) rfl) rfl rfl ?_
    refine z_getI (pc := 2) lf_X12_77 rfl rfl (zdg D_X12_see 2 (2, .getfield 77, 3) rfl) ?_
    refine z_icmp_ge (pc := 5) 17 (zdg D_X12_see 3 (5, .if_icmp .ge 12, 3) rfl) rfl hf (fun hf => ?_) (fun hf => ?_)
    · refine z_iconst (pc := 17) (v := -1) (zdg D_X12_see 9 (17, .iconst (-1), 1) rfl) rfl ?_
      exact z_iret (pc := 18) rfl rfl (zdg D_X12_see 10 (18, .ireturn, 1) rfl) (hP _ hf)
    · refine z_aload_n (pc := 8) 0 (zdg D_X12_see 4 (8, .aload_n 0, 1) rfl) rfl rfl ?_
      refine z_getR (pc := 9) (g := 8) (j := 0) lf_X12_31 rfl rfl rfl (zdg D_X12_see 5 (9, .getfield 31, 3) rfl) ?_
      refine z_iload_n (pc := 12) 1 (zdg D_X12_see 6 (12, .iload_n 1, 1) rfl) rfl rfl ?_
      refine z_iald (pc := 13) rfl (fun _ => rfl) (zdg D_X12_see 7 (13, .iaload, 1) rfl) hn hf (fun hf => ?_)
      refine z_goto (pc := 14) 18 (zdg D_X12_see 8 (14, .goto 4, 3) rfl) rfl ?_
      exact z_iret (pc := 18) rfl rfl (zdg D_X12_see 10 (18, .ireturn, 1) rfl) (hP _ hf)

def L_X12_isLetter : List (Nat × Instr × Nat) := [(0, .iload_n 0, 1), (1, .bipush 97, 2), (3, .bipush 122, 2), (5, .invokestatic 64, 3), (8, .ifCond .ne 14, 3), (11, .iload_n 0, 1), (12, .bipush 65, 2), (14, .bipush 90, 2), (16, .invokestatic 64, 3), (19, .ifCond .eq 7, 3), (22, .iconst 1, 1), (23, .goto 4, 3), (26, .iconst 0, 1), (27, .ireturn, 1)]
set_option maxRecDepth 100000 in
theorem D_X12_isLetter : zdecs cX12_isLetter L_X12_isLetter = true := by decide +kernel
noncomputable def f_X12_isLetter (p1 : Int32) : Int32 :=
  if (f_X12_isIn p1 (97 : Int32) (122 : Int32)) = 0 then if (f_X12_isIn p1 (65 : Int32) (90 : Int32)) = 0 then (0 : Int32) else (1 : Int32) else (1 : Int32)
set_option maxRecDepth 100000 in
set_option maxHeartbeats 4000000 in
theorem c_X12_isLetter (l : Launch) (p1 : Int32) (σ : zG) : zMet l zsyM m_X12_isLetter yX12_isLetter [zI p1] σ (some (zI (f_X12_isLetter p1))) σ := by
  refine zEnter [(0, zI p1)] (by decide) rfl (fun _ => Nat.le_of_ble_eq_true rfl) (fun _ => rfl) (fun w h => ?_) (fun K hv hs => ?_)
  · exact zokm rfl h
  · have hP : ∀ x, f_X12_isLetter p1 = x → zKv K = some (zI x) ∧ zKs K = σ := fun x h => by rw [h] at hv; exact ⟨hv, hs⟩
    have hf := f_X12_isLetter.eq_1 p1
    refine z_iload_n (pc := 0) 0 (zdg D_X12_isLetter 0 (0, .iload_n 0, 1) rfl) rfl rfl ?_
    refine z_bipush (pc := 1) (v := 97) (zdg D_X12_isLetter 1 (1, .bipush 97, 2) rfl) rfl ?_
    refine z_bipush (pc := 3) (v := 122) (zdg D_X12_isLetter 2 (3, .bipush 122, 2) rfl) rfl ?_
    refine z_callS (pc := 5) (rest := []) (st2 := [zI (f_X12_isIn p1 (97 : Int32) (122 : Int32))]) (fun l => c_X12_isIn l p1 (97 : Int32) (122 : Int32) σ) zs_X12_isIn lm_X12_64 rfl rfl rfl (Nat.le_of_ble_eq_true rfl) ⟨Nat.le_of_ble_eq_true rfl, Nat.le_of_ble_eq_true rfl⟩ (zdg D_X12_isLetter 3 (5, .invokestatic 64, 3) rfl) ?_
    refine z_if_ne (pc := 8) 22 (zdg D_X12_isLetter 4 (8, .ifCond .ne 14, 3) rfl) rfl hf (fun hf => ?_) (fun hf => ?_)
    · refine z_iconst (pc := 22) (v := 1) (zdg D_X12_isLetter 10 (22, .iconst 1, 1) rfl) rfl ?_
      refine z_goto (pc := 23) 27 (zdg D_X12_isLetter 11 (23, .goto 4, 3) rfl) rfl ?_
      exact z_iret (pc := 27) rfl rfl (zdg D_X12_isLetter 13 (27, .ireturn, 1) rfl) (hP _ hf)
    · refine z_iload_n (pc := 11) 0 (zdg D_X12_isLetter 5 (11, .iload_n 0, 1) rfl) rfl rfl ?_
      refine z_bipush (pc := 12) (v := 65) (zdg D_X12_isLetter 6 (12, .bipush 65, 2) rfl) rfl ?_
      refine z_bipush (pc := 14) (v := 90) (zdg D_X12_isLetter 7 (14, .bipush 90, 2) rfl) rfl ?_
      refine z_callS (pc := 16) (rest := []) (st2 := [zI (f_X12_isIn p1 (65 : Int32) (90 : Int32))]) (fun l => c_X12_isIn l p1 (65 : Int32) (90 : Int32) σ) zs_X12_isIn lm_X12_64 rfl rfl rfl (Nat.le_of_ble_eq_true rfl) ⟨Nat.le_of_ble_eq_true rfl, Nat.le_of_ble_eq_true rfl⟩ (zdg D_X12_isLetter 8 (16, .invokestatic 64, 3) rfl) ?_
      refine z_if_eq (pc := 19) 26 (zdg D_X12_isLetter 9 (19, .ifCond .eq 7, 3) rfl) rfl hf (fun hf => ?_) (fun hf => ?_)
      · refine z_iconst (pc := 26) (v := 0) (zdg D_X12_isLetter 12 (26, .iconst 0, 1) rfl) rfl ?_
        exact z_iret (pc := 27) rfl rfl (zdg D_X12_isLetter 13 (27, .ireturn, 1) rfl) (hP _ hf)
      · refine z_iconst (pc := 22) (v := 1) (zdg D_X12_isLetter 10 (22, .iconst 1, 1) rfl) rfl ?_
        refine z_goto (pc := 23) 27 (zdg D_X12_isLetter 11 (23, .goto 4, 3) rfl) rfl ?_
        exact z_iret (pc := 27) rfl rfl (zdg D_X12_isLetter 13 (27, .ireturn, 1) rfl) (hP _ hf)

def L_X12_isDigit : List (Nat × Instr × Nat) := [(0, .iload_n 0, 1), (1, .bipush 48, 2), (3, .bipush 57, 2), (5, .invokestatic 64, 3), (8, .ireturn, 1)]
set_option maxRecDepth 100000 in
theorem D_X12_isDigit : zdecs cX12_isDigit L_X12_isDigit = true := by decide +kernel
noncomputable def f_X12_isDigit (p1 : Int32) : Option (Int32) :=
  zg (zbl (f_X12_isIn p1 (48 : Int32) (57 : Int32))) (some (f_X12_isIn p1 (48 : Int32) (57 : Int32)))
set_option maxRecDepth 100000 in
set_option maxHeartbeats 4000000 in
theorem c_X12_isDigit (l : Launch) (p1 : Int32) (σ : zG) (q : Int32) (hq : f_X12_isDigit p1 = some q) : zMet l zsyM m_X12_isDigit yX12_isDigit [zI p1] σ (some (zI q)) σ := by
  refine zEnter [(0, zI p1)] (by decide) rfl (fun _ => Nat.le_of_ble_eq_true rfl) (fun _ => rfl) (fun w h => ?_) (fun K hv hs => ?_)
  · exact zokm rfl h
  · have hP : ∀ x, f_X12_isDigit p1 = some x → zKv K = some (zI x) ∧ zKs K = σ := fun x h => by rw [hq] at h; cases h; exact ⟨hv, hs⟩
    have hn : f_X12_isDigit p1 ≠ none := fun z => by rw [hq] at z; cases z
    have hf := f_X12_isDigit.eq_1 p1
    refine z_iload_n (pc := 0) 0 (zdg D_X12_isDigit 0 (0, .iload_n 0, 1) rfl) rfl rfl ?_
    refine z_bipush (pc := 1) (v := 48) (zdg D_X12_isDigit 1 (1, .bipush 48, 2) rfl) rfl ?_
    refine z_bipush (pc := 3) (v := 57) (zdg D_X12_isDigit 2 (3, .bipush 57, 2) rfl) rfl ?_
    refine z_callS (pc := 5) (rest := []) (st2 := [zI (f_X12_isIn p1 (48 : Int32) (57 : Int32))]) (fun l => c_X12_isIn l p1 (48 : Int32) (57 : Int32) σ) zs_X12_isIn lm_X12_64 rfl rfl rfl (Nat.le_of_ble_eq_true rfl) ⟨Nat.le_of_ble_eq_true rfl, Nat.le_of_ble_eq_true rfl⟩ (zdg D_X12_isDigit 3 (5, .invokestatic 64, 3) rfl) ?_
    exact z_zret (pc := 8) rfl (zdg D_X12_isDigit 4 (8, .ireturn, 1) rfl) hn hf (fun hf => (hP _ hf))

def L_X12_is : List (Nat × Instr × Nat) := [(0, .aload_n 0, 1), (1, .getfield 80, 3), (4, .aload_n 0, 1), (5, .getfield 83, 3), (8, .isub, 1), (9, .aload_n 1, 1), (10, .invokevirtual 86, 3), (13, .if_icmp .ne 7, 3), (16, .iconst 1, 1), (17, .goto 4, 3), (20, .iconst 0, 1), (21, .istore_n 2, 1), (22, .iconst 0, 1), (23, .istore_n 3, 1), (24, .iload_n 3, 1), (25, .aload_n 1, 1), (26, .invokevirtual 86, 3), (29, .if_icmp .ge 38, 3), (32, .iload_n 2, 1), (33, .ifCond .eq 34, 3), (36, .aload_n 0, 1), (37, .getfield 31, 3), (40, .aload_n 0, 1), (41, .getfield 83, 3), (44, .iload_n 3, 1), (45, .iadd, 1), (46, .iaload, 1), (47, .aload_n 1, 1), (48, .iload_n 3, 1), (49, .invokevirtual 92, 3), (52, .if_icmp .ne 7, 3), (55, .iconst 1, 1), (56, .goto 4, 3), (59, .iconst 0, 1), (60, .istore_n 2, 1), (61, .iinc 3 1, 3), (64, .goto (-40), 3), (67, .iload_n 2, 1), (68, .ireturn, 1)]
set_option maxRecDepth 100000 in
theorem D_X12_is : zdecs cX12_is L_X12_is = true := by decide +kernel
noncomputable def b_X12_is_24 (p1 : Nat) (σ : zG) (v2_2 : Int32) (v3_3 : Int32) : Option ((Int32 × Int32) ⊕ (Int32)) :=
  zg (decide (p1 < zstrM.length)) (if v3_3 < (zsl zstrM p1) then if v2_2 = 0 then some (Sum.inr v2_2) else zg (zin ((σ.1 0 0 19) + v3_3) 400) (zg (zin v3_3 (zsn zstrM p1)) (if (σ.1 8 0 ((σ.1 0 0 19) + v3_3).toNatClampNeg) = (zsc zstrM p1 v3_3.toNatClampNeg) then some (Sum.inl ((1 : Int32), (v3_3 + 1))) else some (Sum.inl ((0 : Int32), (v3_3 + 1))))) else some (Sum.inr v2_2))
noncomputable def j_X12_is_21 (p1 : Nat) (σ : zG) (t1 : Int32) : Option (Int32) :=
  (zlp (fun q : Int32 × Int32 => b_X12_is_24 p1 σ q.1 q.2) (t1, (0 : Int32))).bind (fun e4 : Int32 => zg (zbl e4) (some e4))
noncomputable def f_X12_is (p1 : Nat) (σ : zG) : Option (Int32) :=
  zg (decide (p1 < zstrM.length)) (if ((σ.1 0 0 17) - (σ.1 0 0 19)) = (zsl zstrM p1) then j_X12_is_21 p1 σ (1 : Int32) else j_X12_is_21 p1 σ (0 : Int32))
set_option maxRecDepth 100000 in
set_option maxHeartbeats 4000000 in
theorem c_X12_is (l : Launch) (p1 : Nat) (σ : zG) (q : Int32) (hq : f_X12_is p1 σ = some q) : zMet l zsyM m_X12_is yX12_is [zR 0 0, zS p1] σ (some (zI q)) σ := by
  refine zEnter [(0, zR 0 0), (1, zS p1)] (by decide) rfl (fun _ => Nat.le_of_ble_eq_true rfl) (fun _ => rfl) (fun w h => ?_) (fun K hv hs => ?_)
  · exact zokm rfl h
  · have hP : ∀ x, f_X12_is p1 σ = some x → zKv K = some (zI x) ∧ zKs K = σ := fun x h => by rw [hq] at h; cases h; exact ⟨hv, hs⟩
    have hn : f_X12_is p1 σ ≠ none := fun z => by rw [hq] at z; cases z
    have hf := f_X12_is.eq_1 p1 σ
    have t_21 : ∀ (t1 : Int32), f_X12_is p1 σ = j_X12_is_21 p1 σ t1 → zX zsyM m_X12_is K 21 [(0, zR 0 0), (1, zS p1)] [zI t1] σ := by
      intro t1 hf
      replace hf := hf.trans (j_X12_is_21.eq_1 p1 σ t1)
      refine z_istore_n (pc := 21) (al' := [(2, zI t1), (0, zR 0 0), (1, zS p1)]) (zdg D_X12_is 11 (21, .istore_n 2, 1) rfl) rfl (by decide) rfl ?_
      refine z_iconst (pc := 22) (v := 0) (zdg D_X12_is 12 (22, .iconst 0, 1) rfl) rfl ?_
      refine z_istore_n (pc := 23) (al' := [(3, zI (0 : Int32)), (2, zI t1), (0, zR 0 0), (1, zS p1)]) (zdg D_X12_is 13 (23, .istore_n 3, 1) rfl) rfl (by decide) rfl ?_
      refine z_sub (al' := [(0, zR 0 0), (1, zS p1), (2, zI t1), (3, zI (0 : Int32))]) [2, 3, 1, 0] rfl ?_
      refine z_loop (f := (fun q : Int32 × Int32 => b_X12_is_24 p1 σ q.1 q.2)) (a := (t1, (0 : Int32))) (fun q : Int32 × Int32 => zX zsyM m_X12_is K 24 [(0, zR 0 0), (1, zS p1), (2, zI q.1), (3, zI q.2)] [] σ) (fun e4 : Int32 => zX zsyM m_X12_is K 67 [(2, zI e4)] [] σ) hn hf ?_ ?_
      · intro e4 hf
        refine z_iload_n (pc := 67) 0 (zdg D_X12_is 37 (67, .iload_n 2, 1) rfl) rfl rfl ?_
        exact z_zret (pc := 68) rfl (zdg D_X12_is 38 (68, .ireturn, 1) rfl) hn hf (fun hf => (hP _ hf))
      · rintro ⟨v2_2, v3_3⟩ hn hi hx
        have hf := b_X12_is_24.eq_1 p1 σ v2_2 v3_3
        refine z_iload_n (pc := 24) 3 (zdg D_X12_is 14 (24, .iload_n 3, 1) rfl) rfl rfl ?_
        refine z_sload_n (pc := 25) 1 (zdg D_X12_is 15 (25, .aload_n 1, 1) rfl) rfl rfl ?_
        refine z_slen (pc := 26) lm_X12_86 (Nat.le_of_ble_eq_true rfl) (Nat.le_of_ble_eq_true rfl) (zdg D_X12_is 16 (26, .invokevirtual 86, 3) rfl) hn hf (fun hf => ?_)
        refine z_icmp_ge (pc := 29) 67 (zdg D_X12_is 17 (29, .if_icmp .ge 38, 3) rfl) rfl hf (fun hf => ?_) (fun hf => ?_)
        · refine z_sub (al' := [(2, zI v2_2)]) [2] rfl ?_
          exact hx v2_2 hf
        · refine z_iload_n (pc := 32) 2 (zdg D_X12_is 18 (32, .iload_n 2, 1) rfl) rfl rfl ?_
          refine z_if_eq (pc := 33) 67 (zdg D_X12_is 19 (33, .ifCond .eq 34, 3) rfl) rfl hf (fun hf => ?_) (fun hf => ?_)
          · refine z_sub (al' := [(2, zI v2_2)]) [2] rfl ?_
            exact hx v2_2 hf
          · refine z_aload_n (pc := 36) 0 (zdg D_X12_is 20 (36, .aload_n 0, 1) rfl) rfl rfl ?_
            refine z_getR (pc := 37) (g := 8) (j := 0) lf_X12_31 rfl rfl rfl (zdg D_X12_is 21 (37, .getfield 31, 3) rfl) ?_
            refine z_aload_n (pc := 40) 0 (zdg D_X12_is 22 (40, .aload_n 0, 1) rfl) rfl rfl ?_
            refine z_getI (pc := 41) lf_X12_83 rfl rfl (zdg D_X12_is 23 (41, .getfield 83, 3) rfl) ?_
            refine z_iload_n (pc := 44) 3 (zdg D_X12_is 24 (44, .iload_n 3, 1) rfl) rfl rfl ?_
            refine z_iadd (pc := 45) (zdg D_X12_is 25 (45, .iadd, 1) rfl) ?_
            refine z_iald (pc := 46) rfl (fun _ => rfl) (zdg D_X12_is 26 (46, .iaload, 1) rfl) hn hf (fun hf => ?_)
            refine z_sload_n (pc := 47) 1 (zdg D_X12_is 27 (47, .aload_n 1, 1) rfl) rfl rfl ?_
            refine z_iload_n (pc := 48) 3 (zdg D_X12_is 28 (48, .iload_n 3, 1) rfl) rfl rfl ?_
            refine z_schar (pc := 49) (by decide) lm_X12_92 (Nat.le_of_ble_eq_true rfl) (Nat.le_of_ble_eq_true rfl) (zdg D_X12_is 29 (49, .invokevirtual 92, 3) rfl) hn hf (fun hf => ?_)
            refine z_icmp_ne (pc := 52) 59 (zdg D_X12_is 30 (52, .if_icmp .ne 7, 3) rfl) rfl hf (fun hf => ?_) (fun hf => ?_)
            · refine z_iconst (pc := 59) (v := 0) (zdg D_X12_is 33 (59, .iconst 0, 1) rfl) rfl ?_
              refine z_istore_n (pc := 60) (al' := [(2, zI (0 : Int32)), (0, zR 0 0), (1, zS p1), (3, zI v3_3)]) (zdg D_X12_is 34 (60, .istore_n 2, 1) rfl) rfl (by decide) rfl ?_
              refine z_iinc (pc := 61) (v0 := (v3_3 + 1)) (al' := [(3, zI (v3_3 + 1)), (2, zI (0 : Int32)), (0, zR 0 0), (1, zS p1)]) 3 (zdg D_X12_is 35 (61, .iinc 3 1, 3) rfl) rfl rfl (by decide) rfl ?_
              refine z_goto (pc := 64) 24 (zdg D_X12_is 36 (64, .goto (-40), 3) rfl) rfl ?_
              refine z_sub (al' := [(0, zR 0 0), (1, zS p1), (2, zI (0 : Int32)), (3, zI (v3_3 + 1))]) [2, 3, 1, 0] rfl ?_
              exact hi ((0 : Int32), (v3_3 + 1)) hf
            · refine z_iconst (pc := 55) (v := 1) (zdg D_X12_is 31 (55, .iconst 1, 1) rfl) rfl ?_
              refine z_goto (pc := 56) 60 (zdg D_X12_is 32 (56, .goto 4, 3) rfl) rfl ?_
              refine z_istore_n (pc := 60) (al' := [(2, zI (1 : Int32)), (0, zR 0 0), (1, zS p1), (3, zI v3_3)]) (zdg D_X12_is 34 (60, .istore_n 2, 1) rfl) rfl (by decide) rfl ?_
              refine z_iinc (pc := 61) (v0 := (v3_3 + 1)) (al' := [(3, zI (v3_3 + 1)), (2, zI (1 : Int32)), (0, zR 0 0), (1, zS p1)]) 3 (zdg D_X12_is 35 (61, .iinc 3 1, 3) rfl) rfl rfl (by decide) rfl ?_
              refine z_goto (pc := 64) 24 (zdg D_X12_is 36 (64, .goto (-40), 3) rfl) rfl ?_
              refine z_sub (al' := [(0, zR 0 0), (1, zS p1), (2, zI (1 : Int32)), (3, zI (v3_3 + 1))]) [2, 3, 1, 0] rfl ?_
              exact hi ((1 : Int32), (v3_3 + 1)) hf
    refine z_aload_n (pc := 0) 0 (zdg D_X12_is 0 (0, .aload_n 0, 1) rfl) rfl rfl ?_
    refine z_getI (pc := 1) lf_X12_80 rfl rfl (zdg D_X12_is 1 (1, .getfield 80, 3) rfl) ?_
    refine z_aload_n (pc := 4) 0 (zdg D_X12_is 2 (4, .aload_n 0, 1) rfl) rfl rfl ?_
    refine z_getI (pc := 5) lf_X12_83 rfl rfl (zdg D_X12_is 3 (5, .getfield 83, 3) rfl) ?_
    refine z_isub (pc := 8) (zdg D_X12_is 4 (8, .isub, 1) rfl) ?_
    refine z_sload_n (pc := 9) 1 (zdg D_X12_is 5 (9, .aload_n 1, 1) rfl) rfl rfl ?_
    refine z_slen (pc := 10) lm_X12_86 (Nat.le_of_ble_eq_true rfl) (Nat.le_of_ble_eq_true rfl) (zdg D_X12_is 6 (10, .invokevirtual 86, 3) rfl) hn hf (fun hf => ?_)
    refine z_icmp_ne (pc := 13) 20 (zdg D_X12_is 7 (13, .if_icmp .ne 7, 3) rfl) rfl hf (fun hf => ?_) (fun hf => ?_)
    · refine z_iconst (pc := 20) (v := 0) (zdg D_X12_is 10 (20, .iconst 0, 1) rfl) rfl ?_
      exact t_21 (0 : Int32) hf
    · refine z_iconst (pc := 16) (v := 1) (zdg D_X12_is 8 (16, .iconst 1, 1) rfl) rfl ?_
      refine z_goto (pc := 17) 21 (zdg D_X12_is 9 (17, .goto 4, 3) rfl) rfl ?_
      exact t_21 (1 : Int32) hf
