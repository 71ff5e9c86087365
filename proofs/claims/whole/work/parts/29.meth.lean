/-! METHODS, by program: functions and contracts -/
def L_X12_greedyMany : List (Nat × Instr × Nat) := [(0, .lconst 0, 1), (1, .lstore_n 1, 1), (2, .iconst 0, 1), (3, .istore_n 3, 1), (4, .iconst 1, 1), (5, .istore 4, 2), (7, .iload 4, 2), (9, .ifCond .eq 112, 3), (12, .iconst (-1), 1), (13, .istore 5, 2), (15, .iconst 0, 1), (16, .istore 6, 2), (18, .iload 6, 2), (20, .aload_n 0, 1), (21, .getfield 7, 3), (24, .iconst 4, 1), (25, .iaload, 1), (26, .if_icmp .ge 58, 3), (29, .aload_n 0, 1), (30, .getfield 44, 3), (33, .iload 6, 2), (35, .laload, 1), (36, .lload_n 1, 1), (37, .ldc2_w 353, 3), (40, .lxor, 1), (41, .land, 1), (42, .invokestatic 389, 3), (45, .iload 5, 2), (47, .iconst (-1), 1), (48, .if_icmp .ne 7, 3), (51, .iconst 0, 1), (52, .goto 19, 3), (55, .aload_n 0, 1), (56, .getfield 44, 3), (59, .iload 5, 2), (61, .laload, 1), (62, .lload_n 1, 1), (63, .ldc2_w 353, 3), (66, .lxor, 1), (67, .land, 1), (68, .invokestatic 389, 3), (71, .if_icmp .le 7, 3), (74, .iload 6, 2), (76, .istore 5, 2), (78, .iinc 6 1, 3), (81, .goto (-63), 3), (84, .iload 5, 2), (86, .iconst (-1), 1), (87, .if_icmp .eq 7, 3), (90, .iconst 1, 1), (91, .goto 4, 3), (94, .iconst 0, 1), (95, .istore 4, 2), (97, .iload 4, 2), (99, .ifCond .ne 6, 3), (102, .goto (-95), 3), (105, .lload_n 1, 1), (106, .aload_n 0, 1), (107, .getfield 44, 3), (110, .iload 5, 2), (112, .laload, 1), (113, .lor, 1), (114, .lstore_n 1, 1), (115, .iinc 3 1, 3), (118, .goto (-111), 3), (121, .iload_n 3, 1), (122, .ireturn, 1)]
set_option maxRecDepth 100000 in
theorem D_X12_greedyMany : zdecs cX12_greedyMany L_X12_greedyMany = true := by decide +kernel
noncomputable def b_X12_greedyMany_18 (σ : zG) (v1_1 : Int64) (v5_4 : Int32) (v6_5 : Int32) : Option ((Int32 × Int32) ⊕ (Int32)) :=
  if v6_5 < (σ.1 1 0 4) then zg (zin v6_5 10) ((f_X12_count ((σ.2 11 0 v6_5.toNatClampNeg) &&& (v1_1 ^^^ (-1 : Int64)))).bind (fun q6 => if v5_4 = (-1 : Int32) then if (0 : Int32) < q6 then some (Sum.inl (v6_5, (v6_5 + 1))) else some (Sum.inl (v5_4, (v6_5 + 1))) else zg (zin v5_4 10) ((f_X12_count ((σ.2 11 0 v5_4.toNatClampNeg) &&& (v1_1 ^^^ (-1 : Int64)))).bind (fun q7 => if q7 < q6 then some (Sum.inl (v6_5, (v6_5 + 1))) else some (Sum.inl (v5_4, (v6_5 + 1))))))) else some (Sum.inr v5_4)
noncomputable def j_X12_greedyMany_95_7 (σ : zG) (w1_9 : Int64) (w3_10 : Int32) (w5_11 : Int32) (t12 : Int32) : Option ((Int64 × Int32 × Int32) ⊕ (Int32)) :=
  if t12 = 0 then some (Sum.inl (w1_9, w3_10, t12)) else zg (zin w5_11 10) (some (Sum.inl ((w1_9 ||| (σ.2 11 0 w5_11.toNatClampNeg)), (w3_10 + 1), t12)))
noncomputable def b_X12_greedyMany_7 (σ : zG) (v1_1 : Int64) (v3_2 : Int32) (v4_3 : Int32) : Option ((Int64 × Int32 × Int32) ⊕ (Int32)) :=
  if v4_3 = 0 then some (Sum.inr v3_2) else (zlp (fun q : Int32 × Int32 => b_X12_greedyMany_18 σ v1_1 q.1 q.2) ((-1 : Int32), (0 : Int32))).bind (fun e8 : Int32 => if e8 = (-1 : Int32) then j_X12_greedyMany_95_7 σ v1_1 v3_2 e8 (0 : Int32) else j_X12_greedyMany_95_7 σ v1_1 v3_2 e8 (1 : Int32))
noncomputable def f_X12_greedyMany (σ : zG) : Option (Int32) :=
  (zlp (fun q : Int64 × Int32 × Int32 => b_X12_greedyMany_7 σ q.1 q.2.1 q.2.2) ((0 : Int64), (0 : Int32), (1 : Int32))).bind (fun e13 : Int32 => some e13)
set_option maxRecDepth 100000 in
set_option maxHeartbeats 4000000 in
theorem c_X12_greedyMany (l : Launch)  (σ : zG) (q : Int32) (hq : f_X12_greedyMany σ = some q) : zMet l zsyM m_X12_greedyMany yX12_greedyMany [zR 0 0] σ (some (zI q)) σ := by
  refine zEnter [(0, zR 0 0)] (by decide) rfl (fun _ => Nat.le_of_ble_eq_true rfl) (fun _ => rfl) (fun w h => ?_) (fun K hv hs => ?_)
  · exact zokm rfl h
  · have hP : ∀ x, f_X12_greedyMany σ = some x → zKv K = some (zI x) ∧ zKs K = σ := fun x h => by rw [hq] at h; cases h; exact ⟨hv, hs⟩
    have hn : f_X12_greedyMany σ ≠ none := fun z => by rw [hq] at z; cases z
    have hf := f_X12_greedyMany.eq_1 σ
    refine z_lconst (pc := 0) (v := 0) (zdg D_X12_greedyMany 0 (0, .lconst 0, 1) rfl) rfl ?_
    refine z_lstore_n (pc := 1) (al' := [(1, zL (0 : Int64)), (0, zR 0 0)]) (zdg D_X12_greedyMany 1 (1, .lstore_n 1, 1) rfl) rfl (by decide) rfl ?_
    refine z_iconst (pc := 2) (v := 0) (zdg D_X12_greedyMany 2 (2, .iconst 0, 1) rfl) rfl ?_
    refine z_istore_n (pc := 3) (al' := [(3, zI (0 : Int32)), (1, zL (0 : Int64)), (0, zR 0 0)]) (zdg D_X12_greedyMany 3 (3, .istore_n 3, 1) rfl) rfl (by decide) rfl ?_
    refine z_iconst (pc := 4) (v := 1) (zdg D_X12_greedyMany 4 (4, .iconst 1, 1) rfl) rfl ?_
    refine z_istore (pc := 5) (al' := [(4, zI (1 : Int32)), (3, zI (0 : Int32)), (1, zL (0 : Int64)), (0, zR 0 0)]) (zdg D_X12_greedyMany 5 (5, .istore 4, 2) rfl) (by decide) rfl ?_
    refine z_sub (al' := [(0, zR 0 0), (1, zL (0 : Int64)), (3, zI (0 : Int32)), (4, zI (1 : Int32))]) [3, 2, 1, 0] rfl ?_
    refine z_loop (f := (fun q : Int64 × Int32 × Int32 => b_X12_greedyMany_7 σ q.1 q.2.1 q.2.2)) (a := ((0 : Int64), (0 : Int32), (1 : Int32))) (fun q : Int64 × Int32 × Int32 => zX zsyM m_X12_greedyMany K 7 [(0, zR 0 0), (1, zL q.1), (3, zI q.2.1), (4, zI q.2.2)] [] σ) (fun e13 : Int32 => zX zsyM m_X12_greedyMany K 121 [(3, zI e13)] [] σ) hn hf ?_ ?_
    · intro e13 hf
      refine z_iload_n (pc := 121) 0 (zdg D_X12_greedyMany 65 (121, .iload_n 3, 1) rfl) rfl rfl ?_
      exact z_iret (pc := 122) rfl rfl (zdg D_X12_greedyMany 66 (122, .ireturn, 1) rfl) (hP _ hf)
    · rintro ⟨v1_1, v3_2, v4_3⟩ hn hi hx
      have hf := b_X12_greedyMany_7.eq_1 σ v1_1 v3_2 v4_3
      have t_95 : ∀ (w1_9 : Int64) (w3_10 : Int32) (w5_11 : Int32) (t12 : Int32), b_X12_greedyMany_7 σ v1_1 v3_2 v4_3 = j_X12_greedyMany_95_7 σ w1_9 w3_10 w5_11 t12 → zX zsyM m_X12_greedyMany K 95 [(0, zR 0 0), (1, zL w1_9), (3, zI w3_10), (5, zI w5_11)] [zI t12] σ := by
        intro w1_9 w3_10 w5_11 t12 hf
        replace hf := hf.trans (j_X12_greedyMany_95_7.eq_1 σ w1_9 w3_10 w5_11 t12)
        refine z_istore (pc := 95) (al' := [(4, zI t12), (0, zR 0 0), (1, zL w1_9), (3, zI w3_10), (5, zI w5_11)]) (zdg D_X12_greedyMany 52 (95, .istore 4, 2) rfl) (by decide) rfl ?_
        refine z_iload (pc := 97) 0 (zdg D_X12_greedyMany 53 (97, .iload 4, 2) rfl) rfl ?_
        refine z_if_ne (pc := 99) 105 (zdg D_X12_greedyMany 54 (99, .ifCond .ne 6, 3) rfl) rfl hf (fun hf => ?_) (fun hf => ?_)
        · refine z_lload_n (pc := 105) 2 (zdg D_X12_greedyMany 56 (105, .lload_n 1, 1) rfl) rfl rfl ?_
          refine z_aload_n (pc := 106) 1 (zdg D_X12_greedyMany 57 (106, .aload_n 0, 1) rfl) rfl rfl ?_
          refine z_getR (pc := 107) (g := 11) (j := 0) lf_X12_44 rfl rfl rfl (zdg D_X12_greedyMany 58 (107, .getfield 44, 3) rfl) ?_
          refine z_iload (pc := 110) 4 (zdg D_X12_greedyMany 59 (110, .iload 5, 2) rfl) rfl ?_
          refine z_lald (pc := 112) rfl (fun _ => rfl) (zdg D_X12_greedyMany 60 (112, .laload, 1) rfl) hn hf (fun hf => ?_)
          refine z_lor (pc := 113) (zdg D_X12_greedyMany 61 (113, .lor, 1) rfl) ?_
          refine z_lstore_n (pc := 114) (al' := [(1, zL (w1_9 ||| (σ.2 11 0 w5_11.toNatClampNeg))), (4, zI t12), (0, zR 0 0), (3, zI w3_10), (5, zI w5_11)]) (zdg D_X12_greedyMany 62 (114, .lstore_n 1, 1) rfl) rfl (by decide) rfl ?_
          refine z_iinc (pc := 115) (v0 := (w3_10 + 1)) (al' := [(3, zI (w3_10 + 1)), (1, zL (w1_9 ||| (σ.2 11 0 w5_11.toNatClampNeg))), (4, zI t12), (0, zR 0 0), (5, zI w5_11)]) 3 (zdg D_X12_greedyMany 63 (115, .iinc 3 1, 3) rfl) rfl rfl (by decide) rfl ?_
          refine z_goto (pc := 118) 7 (zdg D_X12_greedyMany 64 (118, .goto (-111), 3) rfl) rfl ?_
          refine z_sub (al' := [(0, zR 0 0), (1, zL (w1_9 ||| (σ.2 11 0 w5_11.toNatClampNeg))), (3, zI (w3_10 + 1)), (4, zI t12)]) [3, 1, 0, 2] rfl ?_
          exact hi ((w1_9 ||| (σ.2 11 0 w5_11.toNatClampNeg)), (w3_10 + 1), t12) hf
        · refine z_goto (pc := 102) 7 (zdg D_X12_greedyMany 55 (102, .goto (-95), 3) rfl) rfl ?_
          refine z_sub (al' := [(0, zR 0 0), (1, zL w1_9), (3, zI w3_10), (4, zI t12)]) [1, 2, 3, 0] rfl ?_
          exact hi (w1_9, w3_10, t12) hf
      refine z_iload (pc := 7) 3 (zdg D_X12_greedyMany 6 (7, .iload 4, 2) rfl) rfl ?_
      refine z_if_eq (pc := 9) 121 (zdg D_X12_greedyMany 7 (9, .ifCond .eq 112, 3) rfl) rfl hf (fun hf => ?_) (fun hf => ?_)
      · refine z_sub (al' := [(3, zI v3_2)]) [2] rfl ?_
        exact hx v3_2 hf
      · refine z_iconst (pc := 12) (v := -1) (zdg D_X12_greedyMany 8 (12, .iconst (-1), 1) rfl) rfl ?_
        refine z_istore (pc := 13) (al' := [(5, zI (-1 : Int32)), (0, zR 0 0), (1, zL v1_1), (3, zI v3_2), (4, zI v4_3)]) (zdg D_X12_greedyMany 9 (13, .istore 5, 2) rfl) (by decide) rfl ?_
        refine z_iconst (pc := 15) (v := 0) (zdg D_X12_greedyMany 10 (15, .iconst 0, 1) rfl) rfl ?_
        refine z_istore (pc := 16) (al' := [(6, zI (0 : Int32)), (5, zI (-1 : Int32)), (0, zR 0 0), (1, zL v1_1), (3, zI v3_2), (4, zI v4_3)]) (zdg D_X12_greedyMany 11 (16, .istore 6, 2) rfl) (by decide) rfl ?_
        refine z_sub (al' := [(0, zR 0 0), (1, zL v1_1), (3, zI v3_2), (5, zI (-1 : Int32)), (6, zI (0 : Int32))]) [2, 3, 4, 1, 0] rfl ?_
        refine z_loop (f := (fun q : Int32 × Int32 => b_X12_greedyMany_18 σ v1_1 q.1 q.2)) (a := ((-1 : Int32), (0 : Int32))) (fun q : Int32 × Int32 => zX zsyM m_X12_greedyMany K 18 [(0, zR 0 0), (1, zL v1_1), (3, zI v3_2), (5, zI q.1), (6, zI q.2)] [] σ) (fun e8 : Int32 => zX zsyM m_X12_greedyMany K 84 [(0, zR 0 0), (1, zL v1_1), (3, zI v3_2), (5, zI e8)] [] σ) hn hf ?_ ?_
        · intro e8 hf
          refine z_iload (pc := 84) 3 (zdg D_X12_greedyMany 46 (84, .iload 5, 2) rfl) rfl ?_
          refine z_iconst (pc := 86) (v := -1) (zdg D_X12_greedyMany 47 (86, .iconst (-1), 1) rfl) rfl ?_
          refine z_icmp_eq (pc := 87) 94 (zdg D_X12_greedyMany 48 (87, .if_icmp .eq 7, 3) rfl) rfl hf (fun hf => ?_) (fun hf => ?_)
          · refine z_iconst (pc := 94) (v := 0) (zdg D_X12_greedyMany 51 (94, .iconst 0, 1) rfl) rfl ?_
            exact t_95 v1_1 v3_2 e8 (0 : Int32) hf
          · refine z_iconst (pc := 90) (v := 1) (zdg D_X12_greedyMany 49 (90, .iconst 1, 1) rfl) rfl ?_
            refine z_goto (pc := 91) 95 (zdg D_X12_greedyMany 50 (91, .goto 4, 3) rfl) rfl ?_
            exact t_95 v1_1 v3_2 e8 (1 : Int32) hf
        · rintro ⟨v5_4, v6_5⟩ hn hi hx
          have hf := b_X12_greedyMany_18.eq_1 σ v1_1 v5_4 v6_5
          refine z_iload (pc := 18) 4 (zdg D_X12_greedyMany 12 (18, .iload 6, 2) rfl) rfl ?_
          refine z_aload_n (pc := 20) 0 (zdg D_X12_greedyMany 13 (20, .aload_n 0, 1) rfl) rfl rfl ?_
          refine z_getR (pc := 21) (g := 1) (j := 0) lf_X12_7 rfl rfl rfl (zdg D_X12_greedyMany 14 (21, .getfield 7, 3) rfl) ?_
          refine z_iconst (pc := 24) (v := 4) (zdg D_X12_greedyMany 15 (24, .iconst 4, 1) rfl) rfl ?_
          refine z_ialdC (pc := 25) (j := 4) rfl (fun _ => rfl) (zdg D_X12_greedyMany 16 (25, .iaload, 1) rfl) rfl rfl ?_
          refine z_icmp_ge (pc := 26) 84 (zdg D_X12_greedyMany 17 (26, .if_icmp .ge 58, 3) rfl) rfl hf (fun hf => ?_) (fun hf => ?_)
          · refine z_sub (al' := [(0, zR 0 0), (1, zL v1_1), (3, zI v3_2), (5, zI v5_4)]) [0, 1, 2, 3] rfl ?_
            exact hx v5_4 hf
          · refine z_aload_n (pc := 29) 0 (zdg D_X12_greedyMany 18 (29, .aload_n 0, 1) rfl) rfl rfl ?_
            refine z_getR (pc := 30) (g := 11) (j := 0) lf_X12_44 rfl rfl rfl (zdg D_X12_greedyMany 19 (30, .getfield 44, 3) rfl) ?_
            refine z_iload (pc := 33) 4 (zdg D_X12_greedyMany 20 (33, .iload 6, 2) rfl) rfl ?_
            refine z_lald (pc := 35) rfl (fun _ => rfl) (zdg D_X12_greedyMany 21 (35, .laload, 1) rfl) hn hf (fun hf => ?_)
            refine z_lload_n (pc := 36) 1 (zdg D_X12_greedyMany 22 (36, .lload_n 1, 1) rfl) rfl rfl ?_
            refine z_ldc2 (pc := 37) lc_X12_353 (zdg D_X12_greedyMany 23 (37, .ldc2_w 353, 3) rfl) ?_
            refine z_lxor (pc := 40) (zdg D_X12_greedyMany 24 (40, .lxor, 1) rfl) ?_
            refine z_land (pc := 41) (zdg D_X12_greedyMany 25 (41, .land, 1) rfl) ?_
            refine z_bind hn hf (fun q6 hq hf => ?_)
            refine z_callS (pc := 42) (rest := []) (st2 := [zI q6]) (fun l => c_X12_count l ((σ.2 11 0 v6_5.toNatClampNeg) &&& (v1_1 ^^^ (-1 : Int64))) σ q6 hq) zs_X12_count lm_X12_389 rfl rfl rfl (Nat.le_of_ble_eq_true rfl) ⟨Nat.le_of_ble_eq_true rfl, Nat.le_of_ble_eq_true rfl⟩ (zdg D_X12_greedyMany 26 (42, .invokestatic 389, 3) rfl) ?_
            refine z_iload (pc := 45) 3 (zdg D_X12_greedyMany 27 (45, .iload 5, 2) rfl) rfl ?_
            refine z_iconst (pc := 47) (v := -1) (zdg D_X12_greedyMany 28 (47, .iconst (-1), 1) rfl) rfl ?_
            refine z_icmp_ne (pc := 48) 55 (zdg D_X12_greedyMany 29 (48, .if_icmp .ne 7, 3) rfl) rfl hf (fun hf => ?_) (fun hf => ?_)
            · refine z_aload_n (pc := 55) 0 (zdg D_X12_greedyMany 32 (55, .aload_n 0, 1) rfl) rfl rfl ?_
              refine z_getR (pc := 56) (g := 11) (j := 0) lf_X12_44 rfl rfl rfl (zdg D_X12_greedyMany 33 (56, .getfield 44, 3) rfl) ?_
              refine z_iload (pc := 59) 3 (zdg D_X12_greedyMany 34 (59, .iload 5, 2) rfl) rfl ?_
              refine z_lald (pc := 61) rfl (fun _ => rfl) (zdg D_X12_greedyMany 35 (61, .laload, 1) rfl) hn hf (fun hf => ?_)
              refine z_lload_n (pc := 62) 1 (zdg D_X12_greedyMany 36 (62, .lload_n 1, 1) rfl) rfl rfl ?_
              refine z_ldc2 (pc := 63) lc_X12_353 (zdg D_X12_greedyMany 37 (63, .ldc2_w 353, 3) rfl) ?_
              refine z_lxor (pc := 66) (zdg D_X12_greedyMany 38 (66, .lxor, 1) rfl) ?_
              refine z_land (pc := 67) (zdg D_X12_greedyMany 39 (67, .land, 1) rfl) ?_
              refine z_bind hn hf (fun q7 hq hf => ?_)
              refine z_callS (pc := 68) (rest := [zI q6]) (st2 := [zI q7, zI q6]) (fun l => c_X12_count l ((σ.2 11 0 v5_4.toNatClampNeg) &&& (v1_1 ^^^ (-1 : Int64))) σ q7 hq) zs_X12_count lm_X12_389 rfl rfl rfl (Nat.le_of_ble_eq_true rfl) ⟨Nat.le_of_ble_eq_true rfl, Nat.le_of_ble_eq_true rfl⟩ (zdg D_X12_greedyMany 40 (68, .invokestatic 389, 3) rfl) ?_
              refine z_icmp_le (pc := 71) 78 (zdg D_X12_greedyMany 41 (71, .if_icmp .le 7, 3) rfl) rfl hf (fun hf => ?_) (fun hf => ?_)
              · refine z_iinc (pc := 78) (v0 := (v6_5 + 1)) (al' := [(6, zI (v6_5 + 1)), (0, zR 0 0), (1, zL v1_1), (3, zI v3_2), (5, zI v5_4)]) 4 (zdg D_X12_greedyMany 44 (78, .iinc 6 1, 3) rfl) rfl rfl (by decide) rfl ?_
                refine z_goto (pc := 81) 18 (zdg D_X12_greedyMany 45 (81, .goto (-63), 3) rfl) rfl ?_
                refine z_sub (al' := [(0, zR 0 0), (1, zL v1_1), (3, zI v3_2), (5, zI v5_4), (6, zI (v6_5 + 1))]) [1, 2, 3, 4, 0] rfl ?_
                exact hi (v5_4, (v6_5 + 1)) hf
              · refine z_iload (pc := 74) 4 (zdg D_X12_greedyMany 42 (74, .iload 6, 2) rfl) rfl ?_
                refine z_istore (pc := 76) (al' := [(5, zI v6_5), (0, zR 0 0), (1, zL v1_1), (3, zI v3_2), (6, zI v6_5)]) (zdg D_X12_greedyMany 43 (76, .istore 5, 2) rfl) (by decide) rfl ?_
                refine z_iinc (pc := 78) (v0 := (v6_5 + 1)) (al' := [(6, zI (v6_5 + 1)), (5, zI v6_5), (0, zR 0 0), (1, zL v1_1), (3, zI v3_2)]) 4 (zdg D_X12_greedyMany 44 (78, .iinc 6 1, 3) rfl) rfl rfl (by decide) rfl ?_
                refine z_goto (pc := 81) 18 (zdg D_X12_greedyMany 45 (81, .goto (-63), 3) rfl) rfl ?_
                refine z_sub (al' := [(0, zR 0 0), (1, zL v1_1), (3, zI v3_2), (5, zI v6_5), (6, zI (v6_5 + 1))]) [2, 3, 4, 1, 0] rfl ?_
                exact hi (v6_5, (v6_5 + 1)) hf
            · refine z_iconst (pc := 51) (v := 0) (zdg D_X12_greedyMany 30 (51, .iconst 0, 1) rfl) rfl ?_
              refine z_goto (pc := 52) 71 (zdg D_X12_greedyMany 31 (52, .goto 19, 3) rfl) rfl ?_
              refine z_icmp_le (pc := 71) 78 (zdg D_X12_greedyMany 41 (71, .if_icmp .le 7, 3) rfl) rfl hf (fun hf => ?_) (fun hf => ?_)
              · refine z_iinc (pc := 78) (v0 := (v6_5 + 1)) (al' := [(6, zI (v6_5 + 1)), (0, zR 0 0), (1, zL v1_1), (3, zI v3_2), (5, zI v5_4)]) 4 (zdg D_X12_greedyMany 44 (78, .iinc 6 1, 3) rfl) rfl rfl (by decide) rfl ?_
                refine z_goto (pc := 81) 18 (zdg D_X12_greedyMany 45 (81, .goto (-63), 3) rfl) rfl ?_
                refine z_sub (al' := [(0, zR 0 0), (1, zL v1_1), (3, zI v3_2), (5, zI v5_4), (6, zI (v6_5 + 1))]) [1, 2, 3, 4, 0] rfl ?_
                exact hi (v5_4, (v6_5 + 1)) hf
              · refine z_iload (pc := 74) 4 (zdg D_X12_greedyMany 42 (74, .iload 6, 2) rfl) rfl ?_
                refine z_istore (pc := 76) (al' := [(5, zI v6_5), (0, zR 0 0), (1, zL v1_1), (3, zI v3_2), (6, zI v6_5)]) (zdg D_X12_greedyMany 43 (76, .istore 5, 2) rfl) (by decide) rfl ?_
                refine z_iinc (pc := 78) (v0 := (v6_5 + 1)) (al' := [(6, zI (v6_5 + 1)), (5, zI v6_5), (0, zR 0 0), (1, zL v1_1), (3, zI v3_2)]) 4 (zdg D_X12_greedyMany 44 (78, .iinc 6 1, 3) rfl) rfl rfl (by decide) rfl ?_
                refine z_goto (pc := 81) 18 (zdg D_X12_greedyMany 45 (81, .goto (-63), 3) rfl) rfl ?_
                refine z_sub (al' := [(0, zR 0 0), (1, zL v1_1), (3, zI v3_2), (5, zI v6_5), (6, zI (v6_5 + 1))]) [2, 3, 4, 1, 0] rfl ?_
                exact hi (v6_5, (v6_5 + 1)) hf

def L_X12_fewest : List (Nat × Instr × Nat) := [(0, .iload_n 1, 1), (1, .iconst 0, 1), (2, .iconst 2, 1), (3, .invokestatic 64, 3), (6, .ifCond .ne 5, 3), (9, .iconst (-1), 1), (10, .ireturn, 1), (11, .iconst 0, 1), (12, .istore_n 2, 1), (13, .iload_n 2, 1), (14, .aload_n 0, 1), (15, .getfield 7, 3), (18, .iconst 4, 1), (19, .iaload, 1), (20, .if_icmp .ge 22, 3), (23, .aload_n 0, 1), (24, .getfield 44, 3), (27, .iload_n 2, 1), (28, .aload_n 0, 1), (29, .iconst 1, 1), (30, .iload_n 2, 1), (31, .ishl, 1), (32, .invokevirtual 382, 3), (35, .lastore, 1), (36, .iinc 2 1, 3), (39, .goto (-26), 3), (42, .iload_n 1, 1), (43, .iconst 2, 1), (44, .if_icmp .ne 8, 3), (47, .aload_n 0, 1), (48, .invokevirtual 393, 3), (51, .ireturn, 1), (52, .aload_n 0, 1), (53, .invokevirtual 396, 3), (56, .istore_n 2, 1), (57, .iload_n 1, 1), (58, .ifCond .ne 11, 3), (61, .iload_n 2, 1), (62, .i2l, 1), (63, .invokestatic 389, 3), (66, .goto 4, 3), (69, .iload_n 2, 1), (70, .ireturn, 1)]
set_option maxRecDepth 100000 in
theorem D_X12_fewest : zdecs cX12_fewest L_X12_fewest = true := by decide +kernel
noncomputable def b_X12_fewest_13  (v2_1 : Int32) (s2 : zG) : Option ((Int32 × zG) ⊕ (zG)) :=
  if v2_1 < (s2.1 1 0 4) then (f_X12_laidBy (zshl (1 : Int32) v2_1) s2).bind (fun q3 => zg (zin v2_1 10) (zb (zwL s2 11 0 v2_1.toNatClampNeg q3) (fun s4 => some (Sum.inl ((v2_1 + 1), s4))))) else some (Sum.inr s2)
noncomputable def f_X12_fewest (p1 : Int32) (σ : zG) : Option (Int32 × zG) :=
  if (f_X12_isIn p1 (0 : Int32) (2 : Int32)) = 0 then some ((-1 : Int32), σ) else (zlp (fun q : Int32 × zG => b_X12_fewest_13 q.1 q.2) ((0 : Int32), σ)).bind (fun e5 : zG => if p1 = (2 : Int32) then (f_X12_greedyMany e5).bind (fun q8 => some (q8, e5)) else (f_X12_fewestSet e5).bind (fun q6 => if p1 = 0 then (f_X12_count q6.toInt64).bind (fun q7 => some (q7, e5)) else some (q6, e5)))
set_option maxRecDepth 100000 in
set_option maxHeartbeats 4000000 in
theorem c_X12_fewest (l : Launch) (p1 : Int32) (σ : zG) (q : Int32 × zG) (hq : f_X12_fewest p1 σ = some q) : zMet l zsyM m_X12_fewest yX12_fewest [zR 0 0, zI p1] σ (some (zI q.1)) q.2 := by
  refine zEnter [(0, zR 0 0), (1, zI p1)] (by decide) rfl (fun _ => Nat.le_of_ble_eq_true rfl) (fun _ => rfl) (fun w h => ?_) (fun K hv hs => ?_)
  · exact zokm rfl h
  · have hP : ∀ x s, f_X12_fewest p1 σ = some (x, s) → zKv K = some (zI x) ∧ zKs K = s := fun x s h => by rw [hq] at h; cases h; exact ⟨hv, hs⟩
    have hn : f_X12_fewest p1 σ ≠ none := fun z => by rw [hq] at z; cases z
    have hf := f_X12_fewest.eq_1 p1 σ
    refine z_iload_n (pc := 0) 1 (zdg D_X12_fewest 0 (0, .iload_n 1, 1) rfl) rfl rfl ?_
    refine z_iconst (pc := 1) (v := 0) (zdg D_X12_fewest 1 (1, .iconst 0, 1) rfl) rfl ?_
    refine z_iconst (pc := 2) (v := 2) (zdg D_X12_fewest 2 (2, .iconst 2, 1) rfl) rfl ?_
    refine z_callS (pc := 3) (rest := []) (st2 := [zI (f_X12_isIn p1 (0 : Int32) (2 : Int32))]) (fun l => c_X12_isIn l p1 (0 : Int32) (2 : Int32) σ) zs_X12_isIn lm_X12_64 rfl rfl rfl (Nat.le_of_ble_eq_true rfl) ⟨Nat.le_of_ble_eq_true rfl, Nat.le_of_ble_eq_true rfl⟩ (zdg D_X12_fewest 3 (3, .invokestatic 64, 3) rfl) ?_
    refine z_if_ne (pc := 6) 11 (zdg D_X12_fewest 4 (6, .ifCond .ne 5, 3) rfl) rfl hf (fun hf => ?_) (fun hf => ?_)
    · refine z_iconst (pc := 11) (v := 0) (zdg D_X12_fewest 7 (11, .iconst 0, 1) rfl) rfl ?_
      refine z_istore_n (pc := 12) (al' := [(2, zI (0 : Int32)), (0, zR 0 0), (1, zI p1)]) (zdg D_X12_fewest 8 (12, .istore_n 2, 1) rfl) rfl (by decide) rfl ?_
      refine z_sub (al' := [(0, zR 0 0), (1, zI p1), (2, zI (0 : Int32))]) [1, 2, 0] rfl ?_
      refine z_loop (f := (fun q : Int32 × zG => b_X12_fewest_13 q.1 q.2)) (a := ((0 : Int32), σ)) (fun q : Int32 × zG => zX zsyM m_X12_fewest K 13 [(0, zR 0 0), (1, zI p1), (2, zI q.1)] [] q.2) (fun e5 : zG => zX zsyM m_X12_fewest K 42 [(0, zR 0 0), (1, zI p1)] [] e5) hn hf ?_ ?_
      · intro e5 hf
        refine z_iload_n (pc := 42) 1 (zdg D_X12_fewest 26 (42, .iload_n 1, 1) rfl) rfl rfl ?_
        refine z_iconst (pc := 43) (v := 2) (zdg D_X12_fewest 27 (43, .iconst 2, 1) rfl) rfl ?_
        refine z_icmp_ne (pc := 44) 52 (zdg D_X12_fewest 28 (44, .if_icmp .ne 8, 3) rfl) rfl hf (fun hf => ?_) (fun hf => ?_)
        · refine z_aload_n (pc := 52) 0 (zdg D_X12_fewest 32 (52, .aload_n 0, 1) rfl) rfl rfl ?_
          refine z_bind hn hf (fun q6 hq hf => ?_)
          refine z_callV (pc := 53) (rest := []) (st2 := [zI q6]) (fun l => c_X12_fewestSet l e5 q6 hq) zv_X12_fewestSet lm_X12_396 rfl rfl rfl rfl rfl rfl (Nat.le_of_ble_eq_true rfl) ⟨Nat.le_of_ble_eq_true rfl, Nat.le_of_ble_eq_true rfl⟩ (zdg D_X12_fewest 33 (53, .invokevirtual 396, 3) rfl) ?_
          refine z_istore_n (pc := 56) (al' := [(2, zI q6), (0, zR 0 0), (1, zI p1)]) (zdg D_X12_fewest 34 (56, .istore_n 2, 1) rfl) rfl (by decide) rfl ?_
          refine z_iload_n (pc := 57) 2 (zdg D_X12_fewest 35 (57, .iload_n 1, 1) rfl) rfl rfl ?_
          refine z_if_ne (pc := 58) 69 (zdg D_X12_fewest 36 (58, .ifCond .ne 11, 3) rfl) rfl hf (fun hf => ?_) (fun hf => ?_)
          · refine z_iload_n (pc := 69) 0 (zdg D_X12_fewest 41 (69, .iload_n 2, 1) rfl) rfl rfl ?_
            exact z_iret (pc := 70) rfl rfl (zdg D_X12_fewest 42 (70, .ireturn, 1) rfl) (hP _ _ hf)
          · refine z_iload_n (pc := 61) 0 (zdg D_X12_fewest 37 (61, .iload_n 2, 1) rfl) rfl rfl ?_
            refine z_i2l (pc := 62) (zdg D_X12_fewest 38 (62, .i2l, 1) rfl) ?_
            refine z_bind hn hf (fun q7 hq hf => ?_)
            refine z_callS (pc := 63) (rest := []) (st2 := [zI q7]) (fun l => c_X12_count l q6.toInt64 e5 q7 hq) zs_X12_count lm_X12_389 rfl rfl rfl (Nat.le_of_ble_eq_true rfl) ⟨Nat.le_of_ble_eq_true rfl, Nat.le_of_ble_eq_true rfl⟩ (zdg D_X12_fewest 39 (63, .invokestatic 389, 3) rfl) ?_
            refine z_goto (pc := 66) 70 (zdg D_X12_fewest 40 (66, .goto 4, 3) rfl) rfl ?_
            exact z_iret (pc := 70) rfl rfl (zdg D_X12_fewest 42 (70, .ireturn, 1) rfl) (hP _ _ hf)
        · refine z_aload_n (pc := 47) 0 (zdg D_X12_fewest 29 (47, .aload_n 0, 1) rfl) rfl rfl ?_
          refine z_bind hn hf (fun q8 hq hf => ?_)
          refine z_callV (pc := 48) (rest := []) (st2 := [zI q8]) (fun l => c_X12_greedyMany l e5 q8 hq) zv_X12_greedyMany lm_X12_393 rfl rfl rfl rfl rfl rfl (Nat.le_of_ble_eq_true rfl) ⟨Nat.le_of_ble_eq_true rfl, Nat.le_of_ble_eq_true rfl⟩ (zdg D_X12_fewest 30 (48, .invokevirtual 393, 3) rfl) ?_
          exact z_iret (pc := 51) rfl rfl (zdg D_X12_fewest 31 (51, .ireturn, 1) rfl) (hP _ _ hf)
      · rintro ⟨v2_1, s2⟩ hn hi hx
        have hf := b_X12_fewest_13.eq_1  v2_1 s2
        refine z_iload_n (pc := 13) 2 (zdg D_X12_fewest 9 (13, .iload_n 2, 1) rfl) rfl rfl ?_
        refine z_aload_n (pc := 14) 0 (zdg D_X12_fewest 10 (14, .aload_n 0, 1) rfl) rfl rfl ?_
        refine z_getR (pc := 15) (g := 1) (j := 0) lf_X12_7 rfl rfl rfl (zdg D_X12_fewest 11 (15, .getfield 7, 3) rfl) ?_
        refine z_iconst (pc := 18) (v := 4) (zdg D_X12_fewest 12 (18, .iconst 4, 1) rfl) rfl ?_
        refine z_ialdC (pc := 19) (j := 4) rfl (fun _ => rfl) (zdg D_X12_fewest 13 (19, .iaload, 1) rfl) rfl rfl ?_
        refine z_icmp_ge (pc := 20) 42 (zdg D_X12_fewest 14 (20, .if_icmp .ge 22, 3) rfl) rfl hf (fun hf => ?_) (fun hf => ?_)
        · refine z_sub (al' := [(0, zR 0 0), (1, zI p1)]) [0, 1] rfl ?_
          exact hx s2 hf
        · refine z_aload_n (pc := 23) 0 (zdg D_X12_fewest 15 (23, .aload_n 0, 1) rfl) rfl rfl ?_
          refine z_getR (pc := 24) (g := 11) (j := 0) lf_X12_44 rfl rfl rfl (zdg D_X12_fewest 16 (24, .getfield 44, 3) rfl) ?_
          refine z_iload_n (pc := 27) 2 (zdg D_X12_fewest 17 (27, .iload_n 2, 1) rfl) rfl rfl ?_
          refine z_aload_n (pc := 28) 0 (zdg D_X12_fewest 18 (28, .aload_n 0, 1) rfl) rfl rfl ?_
          refine z_iconst (pc := 29) (v := 1) (zdg D_X12_fewest 19 (29, .iconst 1, 1) rfl) rfl ?_
          refine z_iload_n (pc := 30) 2 (zdg D_X12_fewest 20 (30, .iload_n 2, 1) rfl) rfl rfl ?_
          refine z_ishl (pc := 31) (zdg D_X12_fewest 21 (31, .ishl, 1) rfl) ?_
          refine z_bind hn hf (fun q3 hq hf => ?_)
          refine z_callV (pc := 32) (rest := [zI v2_1, zR 11 0]) (st2 := [zL q3, zI v2_1, zR 11 0]) (fun l => c_X12_laidBy l (zshl (1 : Int32) v2_1) s2 q3 hq) zv_X12_laidBy lm_X12_382 rfl rfl rfl rfl rfl rfl (Nat.le_of_ble_eq_true rfl) ⟨Nat.le_of_ble_eq_true rfl, Nat.le_of_ble_eq_true rfl⟩ (zdg D_X12_fewest 22 (32, .invokevirtual 382, 3) rfl) ?_
          refine z_last (pc := 35) rfl (fun _ => rfl) (zdg D_X12_fewest 23 (35, .lastore, 1) rfl) hn hf (fun hf => ?_)
          refine z_nmS hf (fun s4 hf => ?_)
          refine z_iinc (pc := 36) (v0 := (v2_1 + 1)) (al' := [(2, zI (v2_1 + 1)), (0, zR 0 0), (1, zI p1)]) 2 (zdg D_X12_fewest 24 (36, .iinc 2 1, 3) rfl) rfl rfl (by decide) rfl ?_
          refine z_goto (pc := 39) 13 (zdg D_X12_fewest 25 (39, .goto (-26), 3) rfl) rfl ?_
          refine z_sub (al' := [(0, zR 0 0), (1, zI p1), (2, zI (v2_1 + 1))]) [1, 2, 0] rfl ?_
          exact hi ((v2_1 + 1), s4) hf
    · refine z_iconst (pc := 9) (v := -1) (zdg D_X12_fewest 5 (9, .iconst (-1), 1) rfl) rfl ?_
      exact z_iret (pc := 10) rfl rfl (zdg D_X12_fewest 6 (10, .ireturn, 1) rfl) (hP _ _ hf)

def L_X12_never : List (Nat × Instr × Nat) := [(0, .iload_n 1, 1), (1, .iload_n 2, 1), (2, .invokestatic 373, 3), (5, .ifCond .ne 7, 3), (8, .ldc2_w 353, 3), (11, .lreturn, 1), (12, .lconst 0, 1), (13, .lstore_n 3, 1), (14, .iconst 0, 1), (15, .istore 5, 2), (17, .iload 5, 2), (19, .bipush 64, 2), (21, .if_icmp .ge 63, 3), (24, .aload_n 0, 1), (25, .iload 5, 2), (27, .invokevirtual 320, 3), (30, .istore 6, 2), (32, .iload_n 1, 1), (33, .istore 7, 2), (35, .iload 7, 2), (37, .iload_n 2, 1), (38, .if_icmp .gt 24, 3), (41, .iload 6, 2), (43, .ifCond .eq 19, 3), (46, .aload_n 0, 1), (47, .iload 5, 2), (49, .iload 7, 2), (51, .invokevirtual 323, 3), (54, .istore 6, 2), (56, .iinc 7 1, 3), (59, .goto (-24), 3), (62, .lload_n 3, 1), (63, .iload 6, 2), (65, .ifCond .eq 10, 3), (68, .lconst 1, 1), (69, .iload 5, 2), (71, .lshl, 1), (72, .goto 4, 3), (75, .lconst 0, 1), (76, .lor, 1), (77, .lstore_n 3, 1), (78, .iinc 5 1, 3), (81, .goto (-64), 3), (84, .lload_n 3, 1), (85, .lreturn, 1)]
set_option maxRecDepth 100000 in
theorem D_X12_never : zdecs cX12_never L_X12_never = true := by decide +kernel
noncomputable def b_X12_never_35 (p2 : Int32) (v5_2 : Int32) (σ : zG) (v6_4 : Int32) (v7_5 : Int32) : Option ((Int32 × Int32) ⊕ (Int32)) :=
  if v7_5 ≤ p2 then if v6_4 = 0 then some (Sum.inr v6_4) else (f_X12_isCovered v5_2 v7_5 σ).bind (fun q6 => some (Sum.inl (q6, (v7_5 + 1)))) else some (Sum.inr v6_4)
noncomputable def j_X12_never_62_17 (w3_8 : Int64) (w5_9 : Int32) (w6_10 : Int32) : Option ((Int64 × Int32) ⊕ (Int64)) :=
  if w6_10 = 0 then some (Sum.inl ((w3_8 ||| (0 : Int64)), (w5_9 + 1))) else some (Sum.inl ((w3_8 ||| (zlshl (1 : Int64) w5_9)), (w5_9 + 1)))
noncomputable def b_X12_never_17 (σ : zG) (p2 : Int32) (p1 : Int32) (v3_1 : Int64) (v5_2 : Int32) : Option ((Int64 × Int32) ⊕ (Int64)) :=
  if v5_2 < (64 : Int32) then (f_X12_isInView v5_2 σ).bind (fun q3 => (zlp (fun q : Int32 × Int32 => b_X12_never_35 p2 v5_2 σ q.1 q.2) (q3, p1)).bind (fun e7 : Int32 => j_X12_never_62_17 v3_1 v5_2 e7)) else some (Sum.inr v3_1)
noncomputable def f_X12_never (p1 : Int32) (p2 : Int32) (σ : zG) : Option (Int64) :=
  if (f_X12_areMinutes p1 p2) = 0 then some (-1 : Int64) else (zlp (fun q : Int64 × Int32 => b_X12_never_17 σ p2 p1 q.1 q.2) ((0 : Int64), (0 : Int32))).bind (fun e11 : Int64 => some e11)
set_option maxRecDepth 100000 in
set_option maxHeartbeats 4000000 in
theorem c_X12_never (l : Launch) (p1 : Int32) (p2 : Int32) (σ : zG) (q : Int64) (hq : f_X12_never p1 p2 σ = some q) : zMet l zsyM m_X12_never yX12_never [zR 0 0, zI p1, zI p2] σ (some (zL q)) σ := by
  refine zEnter [(0, zR 0 0), (1, zI p1), (2, zI p2)] (by decide) rfl (fun _ => Nat.le_of_ble_eq_true rfl) (fun _ => rfl) (fun w h => ?_) (fun K hv hs => ?_)
  · exact zokm rfl h
  · have hP : ∀ x, f_X12_never p1 p2 σ = some x → zKv K = some (zL x) ∧ zKs K = σ := fun x h => by rw [hq] at h; cases h; exact ⟨hv, hs⟩
    have hn : f_X12_never p1 p2 σ ≠ none := fun z => by rw [hq] at z; cases z
    have hf := f_X12_never.eq_1 p1 p2 σ
    refine z_iload_n (pc := 0) 1 (zdg D_X12_never 0 (0, .iload_n 1, 1) rfl) rfl rfl ?_
    refine z_iload_n (pc := 1) 2 (zdg D_X12_never 1 (1, .iload_n 2, 1) rfl) rfl rfl ?_
    refine z_callS (pc := 2) (rest := []) (st2 := [zI (f_X12_areMinutes p1 p2)]) (fun l => c_X12_areMinutes l p1 p2 σ) zs_X12_areMinutes lm_X12_373 rfl rfl rfl (Nat.le_of_ble_eq_true rfl) ⟨Nat.le_of_ble_eq_true rfl, Nat.le_of_ble_eq_true rfl⟩ (zdg D_X12_never 2 (2, .invokestatic 373, 3) rfl) ?_
    refine z_if_ne (pc := 5) 12 (zdg D_X12_never 3 (5, .ifCond .ne 7, 3) rfl) rfl hf (fun hf => ?_) (fun hf => ?_)
    · refine z_lconst (pc := 12) (v := 0) (zdg D_X12_never 6 (12, .lconst 0, 1) rfl) rfl ?_
      refine z_lstore_n (pc := 13) (al' := [(3, zL (0 : Int64)), (0, zR 0 0), (1, zI p1), (2, zI p2)]) (zdg D_X12_never 7 (13, .lstore_n 3, 1) rfl) rfl (by decide) rfl ?_
      refine z_iconst (pc := 14) (v := 0) (zdg D_X12_never 8 (14, .iconst 0, 1) rfl) rfl ?_
      refine z_istore (pc := 15) (al' := [(5, zI (0 : Int32)), (3, zL (0 : Int64)), (0, zR 0 0), (1, zI p1), (2, zI p2)]) (zdg D_X12_never 9 (15, .istore 5, 2) rfl) (by decide) rfl ?_
      refine z_sub (al' := [(0, zR 0 0), (1, zI p1), (2, zI p2), (3, zL (0 : Int64)), (5, zI (0 : Int32))]) [2, 3, 4, 1, 0] rfl ?_
      refine z_loop (f := (fun q : Int64 × Int32 => b_X12_never_17 σ p2 p1 q.1 q.2)) (a := ((0 : Int64), (0 : Int32))) (fun q : Int64 × Int32 => zX zsyM m_X12_never K 17 [(0, zR 0 0), (1, zI p1), (2, zI p2), (3, zL q.1), (5, zI q.2)] [] σ) (fun e11 : Int64 => zX zsyM m_X12_never K 84 [(3, zL e11)] [] σ) hn hf ?_ ?_
      · intro e11 hf
        refine z_lload_n (pc := 84) 0 (zdg D_X12_never 43 (84, .lload_n 3, 1) rfl) rfl rfl ?_
        exact z_lret (pc := 85) rfl (zdg D_X12_never 44 (85, .lreturn, 1) rfl) (hP _ hf)
      · rintro ⟨v3_1, v5_2⟩ hn hi hx
        have hf := b_X12_never_17.eq_1 σ p2 p1 v3_1 v5_2
        have t_62 : ∀ (w3_8 : Int64) (w5_9 : Int32) (w6_10 : Int32), b_X12_never_17 σ p2 p1 v3_1 v5_2 = j_X12_never_62_17 w3_8 w5_9 w6_10 → zX zsyM m_X12_never K 62 [(0, zR 0 0), (1, zI p1), (2, zI p2), (3, zL w3_8), (5, zI w5_9), (6, zI w6_10)] [] σ := by
          intro w3_8 w5_9 w6_10 hf
          replace hf := hf.trans (j_X12_never_62_17.eq_1 w3_8 w5_9 w6_10)
          refine z_lload_n (pc := 62) 3 (zdg D_X12_never 31 (62, .lload_n 3, 1) rfl) rfl rfl ?_
          refine z_iload (pc := 63) 5 (zdg D_X12_never 32 (63, .iload 6, 2) rfl) rfl ?_
          refine z_if_eq (pc := 65) 75 (zdg D_X12_never 33 (65, .ifCond .eq 10, 3) rfl) rfl hf (fun hf => ?_) (fun hf => ?_)
          · refine z_lconst (pc := 75) (v := 0) (zdg D_X12_never 38 (75, .lconst 0, 1) rfl) rfl ?_
            refine z_lor (pc := 76) (zdg D_X12_never 39 (76, .lor, 1) rfl) ?_
            refine z_lstore_n (pc := 77) (al' := [(3, zL (w3_8 ||| (0 : Int64))), (0, zR 0 0), (1, zI p1), (2, zI p2), (5, zI w5_9), (6, zI w6_10)]) (zdg D_X12_never 40 (77, .lstore_n 3, 1) rfl) rfl (by decide) rfl ?_
            refine z_iinc (pc := 78) (v0 := (w5_9 + 1)) (al' := [(5, zI (w5_9 + 1)), (3, zL (w3_8 ||| (0 : Int64))), (0, zR 0 0), (1, zI p1), (2, zI p2), (6, zI w6_10)]) 4 (zdg D_X12_never 41 (78, .iinc 5 1, 3) rfl) rfl rfl (by decide) rfl ?_
            refine z_goto (pc := 81) 17 (zdg D_X12_never 42 (81, .goto (-64), 3) rfl) rfl ?_
            refine z_sub (al' := [(0, zR 0 0), (1, zI p1), (2, zI p2), (3, zL (w3_8 ||| (0 : Int64))), (5, zI (w5_9 + 1))]) [2, 3, 4, 1, 0] rfl ?_
            exact hi ((w3_8 ||| (0 : Int64)), (w5_9 + 1)) hf
          · refine z_lconst (pc := 68) (v := 1) (zdg D_X12_never 34 (68, .lconst 1, 1) rfl) rfl ?_
            refine z_iload (pc := 69) 4 (zdg D_X12_never 35 (69, .iload 5, 2) rfl) rfl ?_
            refine z_lshl (pc := 71) (zdg D_X12_never 36 (71, .lshl, 1) rfl) ?_
            refine z_goto (pc := 72) 76 (zdg D_X12_never 37 (72, .goto 4, 3) rfl) rfl ?_
            refine z_lor (pc := 76) (zdg D_X12_never 39 (76, .lor, 1) rfl) ?_
            refine z_lstore_n (pc := 77) (al' := [(3, zL (w3_8 ||| (zlshl (1 : Int64) w5_9))), (0, zR 0 0), (1, zI p1), (2, zI p2), (5, zI w5_9), (6, zI w6_10)]) (zdg D_X12_never 40 (77, .lstore_n 3, 1) rfl) rfl (by decide) rfl ?_
            refine z_iinc (pc := 78) (v0 := (w5_9 + 1)) (al' := [(5, zI (w5_9 + 1)), (3, zL (w3_8 ||| (zlshl (1 : Int64) w5_9))), (0, zR 0 0), (1, zI p1), (2, zI p2), (6, zI w6_10)]) 4 (zdg D_X12_never 41 (78, .iinc 5 1, 3) rfl) rfl rfl (by decide) rfl ?_
            refine z_goto (pc := 81) 17 (zdg D_X12_never 42 (81, .goto (-64), 3) rfl) rfl ?_
            refine z_sub (al' := [(0, zR 0 0), (1, zI p1), (2, zI p2), (3, zL (w3_8 ||| (zlshl (1 : Int64) w5_9))), (5, zI (w5_9 + 1))]) [2, 3, 4, 1, 0] rfl ?_
            exact hi ((w3_8 ||| (zlshl (1 : Int64) w5_9)), (w5_9 + 1)) hf
        refine z_iload (pc := 17) 4 (zdg D_X12_never 10 (17, .iload 5, 2) rfl) rfl ?_
        refine z_bipush (pc := 19) (v := 64) (zdg D_X12_never 11 (19, .bipush 64, 2) rfl) rfl ?_
        refine z_icmp_ge (pc := 21) 84 (zdg D_X12_never 12 (21, .if_icmp .ge 63, 3) rfl) rfl hf (fun hf => ?_) (fun hf => ?_)
        · refine z_sub (al' := [(3, zL v3_1)]) [3] rfl ?_
          exact hx v3_1 hf
        · refine z_aload_n (pc := 24) 0 (zdg D_X12_never 13 (24, .aload_n 0, 1) rfl) rfl rfl ?_
          refine z_iload (pc := 25) 4 (zdg D_X12_never 14 (25, .iload 5, 2) rfl) rfl ?_
          refine z_bind hn hf (fun q3 hq hf => ?_)
          refine z_callV (pc := 27) (rest := []) (st2 := [zI q3]) (fun l => c_X12_isInView l v5_2 σ q3 hq) zv_X12_isInView lm_X12_320 rfl rfl rfl rfl rfl rfl (Nat.le_of_ble_eq_true rfl) ⟨Nat.le_of_ble_eq_true rfl, Nat.le_of_ble_eq_true rfl⟩ (zdg D_X12_never 15 (27, .invokevirtual 320, 3) rfl) ?_
          refine z_istore (pc := 30) (al' := [(6, zI q3), (0, zR 0 0), (1, zI p1), (2, zI p2), (3, zL v3_1), (5, zI v5_2)]) (zdg D_X12_never 16 (30, .istore 6, 2) rfl) (by decide) rfl ?_
          refine z_iload_n (pc := 32) 2 (zdg D_X12_never 17 (32, .iload_n 1, 1) rfl) rfl rfl ?_
          refine z_istore (pc := 33) (al' := [(7, zI p1), (6, zI q3), (0, zR 0 0), (1, zI p1), (2, zI p2), (3, zL v3_1), (5, zI v5_2)]) (zdg D_X12_never 18 (33, .istore 7, 2) rfl) (by decide) rfl ?_
          refine z_sub (al' := [(0, zR 0 0), (1, zI p1), (2, zI p2), (3, zL v3_1), (5, zI v5_2), (6, zI q3), (7, zI p1)]) [2, 3, 4, 5, 6, 1, 0] rfl ?_
          refine z_loop (f := (fun q : Int32 × Int32 => b_X12_never_35 p2 v5_2 σ q.1 q.2)) (a := (q3, p1)) (fun q : Int32 × Int32 => zX zsyM m_X12_never K 35 [(0, zR 0 0), (1, zI p1), (2, zI p2), (3, zL v3_1), (5, zI v5_2), (6, zI q.1), (7, zI q.2)] [] σ) (fun e7 : Int32 => zX zsyM m_X12_never K 62 [(0, zR 0 0), (1, zI p1), (2, zI p2), (3, zL v3_1), (5, zI v5_2), (6, zI e7)] [] σ) hn hf ?_ ?_
          · intro e7 hf
            exact t_62 v3_1 v5_2 e7 hf
          · rintro ⟨v6_4, v7_5⟩ hn hi hx
            have hf := b_X12_never_35.eq_1 p2 v5_2 σ v6_4 v7_5
            refine z_iload (pc := 35) 6 (zdg D_X12_never 19 (35, .iload 7, 2) rfl) rfl ?_
            refine z_iload_n (pc := 37) 2 (zdg D_X12_never 20 (37, .iload_n 2, 1) rfl) rfl rfl ?_
            refine z_icmp_gt (pc := 38) 62 (zdg D_X12_never 21 (38, .if_icmp .gt 24, 3) rfl) rfl hf (fun hf => ?_) (fun hf => ?_)
            · refine z_sub (al' := [(0, zR 0 0), (1, zI p1), (2, zI p2), (3, zL v3_1), (5, zI v5_2), (6, zI v6_4)]) [0, 1, 2, 3, 4, 5] rfl ?_
              exact hx v6_4 hf
            · refine z_iload (pc := 41) 5 (zdg D_X12_never 22 (41, .iload 6, 2) rfl) rfl ?_
              refine z_if_eq (pc := 43) 62 (zdg D_X12_never 23 (43, .ifCond .eq 19, 3) rfl) rfl hf (fun hf => ?_) (fun hf => ?_)
              · refine z_sub (al' := [(0, zR 0 0), (1, zI p1), (2, zI p2), (3, zL v3_1), (5, zI v5_2), (6, zI v6_4)]) [0, 1, 2, 3, 4, 5] rfl ?_
                exact hx v6_4 hf
              · refine z_aload_n (pc := 46) 0 (zdg D_X12_never 24 (46, .aload_n 0, 1) rfl) rfl rfl ?_
                refine z_iload (pc := 47) 4 (zdg D_X12_never 25 (47, .iload 5, 2) rfl) rfl ?_
                refine z_iload (pc := 49) 6 (zdg D_X12_never 26 (49, .iload 7, 2) rfl) rfl ?_
                refine z_bind hn hf (fun q6 hq hf => ?_)
                refine z_callV (pc := 51) (rest := []) (st2 := [zI q6]) (fun l => c_X12_isCovered l v5_2 v7_5 σ q6 hq) zv_X12_isCovered lm_X12_323 rfl rfl rfl rfl rfl rfl (Nat.le_of_ble_eq_true rfl) ⟨Nat.le_of_ble_eq_true rfl, Nat.le_of_ble_eq_true rfl⟩ (zdg D_X12_never 27 (51, .invokevirtual 323, 3) rfl) ?_
                refine z_istore (pc := 54) (al' := [(6, zI q6), (0, zR 0 0), (1, zI p1), (2, zI p2), (3, zL v3_1), (5, zI v5_2), (7, zI v7_5)]) (zdg D_X12_never 28 (54, .istore 6, 2) rfl) (by decide) rfl ?_
                refine z_iinc (pc := 56) (v0 := (v7_5 + 1)) (al' := [(7, zI (v7_5 + 1)), (6, zI q6), (0, zR 0 0), (1, zI p1), (2, zI p2), (3, zL v3_1), (5, zI v5_2)]) 6 (zdg D_X12_never 29 (56, .iinc 7 1, 3) rfl) rfl rfl (by decide) rfl ?_
                refine z_goto (pc := 59) 35 (zdg D_X12_never 30 (59, .goto (-24), 3) rfl) rfl ?_
                refine z_sub (al' := [(0, zR 0 0), (1, zI p1), (2, zI p2), (3, zL v3_1), (5, zI v5_2), (6, zI q6), (7, zI (v7_5 + 1))]) [2, 3, 4, 5, 6, 1, 0] rfl ?_
                exact hi (q6, (v7_5 + 1)) hf
    · refine z_ldc2 (pc := 8) lc_X12_353 (zdg D_X12_never 4 (8, .ldc2_w 353, 3) rfl) ?_
      exact z_lret (pc := 11) rfl (zdg D_X12_never 5 (11, .lreturn, 1) rfl) (hP _ hf)

def L_X12_most : List (Nat × Instr × Nat) := [(0, .aload_n 0, 1), (1, .iload_n 1, 1), (2, .invokevirtual 379, 3), (5, .ifCond .ne 7, 3), (8, .ldc2_w 353, 3), (11, .lreturn, 1), (12, .lconst 0, 1), (13, .lstore_n 2, 1), (14, .iconst 0, 1), (15, .istore 4, 2), (17, .iload 4, 2), (19, .bipush 64, 2), (21, .if_icmp .ge 98, 3), (24, .iconst 0, 1), (25, .istore 5, 2), (27, .iconst 0, 1), (28, .istore 6, 2), (30, .iconst 0, 1), (31, .istore 7, 2), (33, .iload 7, 2), (35, .aload_n 0, 1), (36, .getfield 7, 3), (39, .iconst 4, 1), (40, .iaload, 1), (41, .if_icmp .ge 56, 3), (44, .iload_n 1, 1), (45, .iload 7, 2), (47, .ishr, 1), (48, .iconst 1, 1), (49, .iand, 1), (50, .ifCond .eq 41, 3), (53, .aload_n 0, 1), (54, .iload 7, 2), (56, .iload 4, 2), (58, .invokevirtual 367, 3), (61, .ifCond .ne 6, 3), (64, .goto 27, 3), (67, .iinc 5 1, 3), (70, .iload 6, 2), (72, .aload_n 0, 1), (73, .iload 7, 2), (75, .iload 4, 2), (77, .invokevirtual 376, 3), (80, .ifCond .eq 7, 3), (83, .iconst 1, 1), (84, .goto 4, 3), (87, .iconst 0, 1), (88, .iadd, 1), (89, .istore 6, 2), (91, .iinc 7 1, 3), (94, .goto (-61), 3), (97, .iconst 2, 1), (98, .iload 6, 2), (100, .imul, 1), (101, .iload 5, 2), (103, .if_icmp .le 10, 3), (106, .lload_n 2, 1), (107, .lconst 1, 1), (108, .iload 4, 2), (110, .lshl, 1), (111, .lor, 1), (112, .lstore_n 2, 1), (113, .iinc 4 1, 3), (116, .goto (-99), 3), (119, .lload_n 2, 1), (120, .lreturn, 1)]
set_option maxRecDepth 100000 in
theorem D_X12_most : zdecs cX12_most L_X12_most = true := by decide +kernel
noncomputable def b_X12_most_33 (σ : zG) (p1 : Int32) (v4_3 : Int32) (v5_4 : Int32) (v6_5 : Int32) (v7_6 : Int32) : Option ((Int32 × Int32 × Int32) ⊕ (Int32 × Int32)) :=
  if v7_6 < (σ.1 1 0 4) then if ((zshr p1 v7_6) &&& (1 : Int32)) = 0 then some (Sum.inl (v5_4, v6_5, (v7_6 + 1))) else (f_X12_hasInView v7_6 v4_3 σ).bind (fun q7 => if q7 = 0 then some (Sum.inl (v5_4, v6_5, (v7_6 + 1))) else (f_X12_isClearIn v7_6 v4_3 σ).bind (fun q8 => if q8 = 0 then some (Sum.inl ((v5_4 + 1), (v6_5 + (0 : Int32)), (v7_6 + 1))) else some (Sum.inl ((v5_4 + 1), (v6_5 + (1 : Int32)), (v7_6 + 1))))) else some (Sum.inr (v5_4, v6_5))
noncomputable def b_X12_most_17 (σ : zG) (p1 : Int32) (v2_2 : Int64) (v4_3 : Int32) : Option ((Int64 × Int32) ⊕ (Int64)) :=
  if v4_3 < (64 : Int32) then (zlp (fun q : Int32 × Int32 × Int32 => b_X12_most_33 σ p1 v4_3 q.1 q.2.1 q.2.2) ((0 : Int32), (0 : Int32), (0 : Int32))).bind (fun e9 : Int32 × Int32 => if e9.1 < ((2 : Int32) * e9.2) then some (Sum.inl ((v2_2 ||| (zlshl (1 : Int64) v4_3)), (v4_3 + 1))) else some (Sum.inl (v2_2, (v4_3 + 1)))) else some (Sum.inr v2_2)
noncomputable def f_X12_most (p1 : Int32) (σ : zG) : Option (Int64) :=
  (f_X12_areShots p1 σ).bind (fun q1 => if q1 = 0 then some (-1 : Int64) else (zlp (fun q : Int64 × Int32 => b_X12_most_17 σ p1 q.1 q.2) ((0 : Int64), (0 : Int32))).bind (fun e10 : Int64 => some e10))
set_option maxRecDepth 100000 in
set_option maxHeartbeats 4000000 in
theorem c_X12_most (l : Launch) (p1 : Int32) (σ : zG) (q : Int64) (hq : f_X12_most p1 σ = some q) : zMet l zsyM m_X12_most yX12_most [zR 0 0, zI p1] σ (some (zL q)) σ := by
  refine zEnter [(0, zR 0 0), (1, zI p1)] (by decide) rfl (fun _ => Nat.le_of_ble_eq_true rfl) (fun _ => rfl) (fun w h => ?_) (fun K hv hs => ?_)
  · exact zokm rfl h
  · have hP : ∀ x, f_X12_most p1 σ = some x → zKv K = some (zL x) ∧ zKs K = σ := fun x h => by rw [hq] at h; cases h; exact ⟨hv, hs⟩
    have hn : f_X12_most p1 σ ≠ none := fun z => by rw [hq] at z; cases z
    have hf := f_X12_most.eq_1 p1 σ
    refine z_aload_n (pc := 0) 0 (zdg D_X12_most 0 (0, .aload_n 0, 1) rfl) rfl rfl ?_
    refine z_iload_n (pc := 1) 1 (zdg D_X12_most 1 (1, .iload_n 1, 1) rfl) rfl rfl ?_
    refine z_bind hn hf (fun q1 hq hf => ?_)
    refine z_callV (pc := 2) (rest := []) (st2 := [zI q1]) (fun l => c_X12_areShots l p1 σ q1 hq) zv_X12_areShots lm_X12_379 rfl rfl rfl rfl rfl rfl (Nat.le_of_ble_eq_true rfl) ⟨Nat.le_of_ble_eq_true rfl, Nat.le_of_ble_eq_true rfl⟩ (zdg D_X12_most 2 (2, .invokevirtual 379, 3) rfl) ?_
    refine z_if_ne (pc := 5) 12 (zdg D_X12_most 3 (5, .ifCond .ne 7, 3) rfl) rfl hf (fun hf => ?_) (fun hf => ?_)
    · refine z_lconst (pc := 12) (v := 0) (zdg D_X12_most 6 (12, .lconst 0, 1) rfl) rfl ?_
      refine z_lstore_n (pc := 13) (al' := [(2, zL (0 : Int64)), (0, zR 0 0), (1, zI p1)]) (zdg D_X12_most 7 (13, .lstore_n 2, 1) rfl) rfl (by decide) rfl ?_
      refine z_iconst (pc := 14) (v := 0) (zdg D_X12_most 8 (14, .iconst 0, 1) rfl) rfl ?_
      refine z_istore (pc := 15) (al' := [(4, zI (0 : Int32)), (2, zL (0 : Int64)), (0, zR 0 0), (1, zI p1)]) (zdg D_X12_most 9 (15, .istore 4, 2) rfl) (by decide) rfl ?_
      refine z_sub (al' := [(0, zR 0 0), (1, zI p1), (2, zL (0 : Int64)), (4, zI (0 : Int32))]) [2, 3, 1, 0] rfl ?_
      refine z_loop (f := (fun q : Int64 × Int32 => b_X12_most_17 σ p1 q.1 q.2)) (a := ((0 : Int64), (0 : Int32))) (fun q : Int64 × Int32 => zX zsyM m_X12_most K 17 [(0, zR 0 0), (1, zI p1), (2, zL q.1), (4, zI q.2)] [] σ) (fun e10 : Int64 => zX zsyM m_X12_most K 119 [(2, zL e10)] [] σ) hn hf ?_ ?_
      · intro e10 hf
        refine z_lload_n (pc := 119) 0 (zdg D_X12_most 64 (119, .lload_n 2, 1) rfl) rfl rfl ?_
        exact z_lret (pc := 120) rfl (zdg D_X12_most 65 (120, .lreturn, 1) rfl) (hP _ hf)
      · rintro ⟨v2_2, v4_3⟩ hn hi hx
        have hf := b_X12_most_17.eq_1 σ p1 v2_2 v4_3
        refine z_iload (pc := 17) 3 (zdg D_X12_most 10 (17, .iload 4, 2) rfl) rfl ?_
        refine z_bipush (pc := 19) (v := 64) (zdg D_X12_most 11 (19, .bipush 64, 2) rfl) rfl ?_
        refine z_icmp_ge (pc := 21) 119 (zdg D_X12_most 12 (21, .if_icmp .ge 98, 3) rfl) rfl hf (fun hf => ?_) (fun hf => ?_)
        · refine z_sub (al' := [(2, zL v2_2)]) [2] rfl ?_
          exact hx v2_2 hf
        · refine z_iconst (pc := 24) (v := 0) (zdg D_X12_most 13 (24, .iconst 0, 1) rfl) rfl ?_
          refine z_istore (pc := 25) (al' := [(5, zI (0 : Int32)), (0, zR 0 0), (1, zI p1), (2, zL v2_2), (4, zI v4_3)]) (zdg D_X12_most 14 (25, .istore 5, 2) rfl) (by decide) rfl ?_
          refine z_iconst (pc := 27) (v := 0) (zdg D_X12_most 15 (27, .iconst 0, 1) rfl) rfl ?_
          refine z_istore (pc := 28) (al' := [(6, zI (0 : Int32)), (5, zI (0 : Int32)), (0, zR 0 0), (1, zI p1), (2, zL v2_2), (4, zI v4_3)]) (zdg D_X12_most 16 (28, .istore 6, 2) rfl) (by decide) rfl ?_
          refine z_iconst (pc := 30) (v := 0) (zdg D_X12_most 17 (30, .iconst 0, 1) rfl) rfl ?_
          refine z_istore (pc := 31) (al' := [(7, zI (0 : Int32)), (6, zI (0 : Int32)), (5, zI (0 : Int32)), (0, zR 0 0), (1, zI p1), (2, zL v2_2), (4, zI v4_3)]) (zdg D_X12_most 18 (31, .istore 7, 2) rfl) (by decide) rfl ?_
          refine z_sub (al' := [(0, zR 0 0), (1, zI p1), (2, zL v2_2), (4, zI v4_3), (5, zI (0 : Int32)), (6, zI (0 : Int32)), (7, zI (0 : Int32))]) [3, 4, 5, 6, 2, 1, 0] rfl ?_
          refine z_loop (f := (fun q : Int32 × Int32 × Int32 => b_X12_most_33 σ p1 v4_3 q.1 q.2.1 q.2.2)) (a := ((0 : Int32), (0 : Int32), (0 : Int32))) (fun q : Int32 × Int32 × Int32 => zX zsyM m_X12_most K 33 [(0, zR 0 0), (1, zI p1), (2, zL v2_2), (4, zI v4_3), (5, zI q.1), (6, zI q.2.1), (7, zI q.2.2)] [] σ) (fun e9 : Int32 × Int32 => zX zsyM m_X12_most K 97 [(0, zR 0 0), (1, zI p1), (2, zL v2_2), (4, zI v4_3), (5, zI e9.1), (6, zI e9.2)] [] σ) hn hf ?_ ?_
          · intro e9 hf
            refine z_iconst (pc := 97) (v := 2) (zdg D_X12_most 51 (97, .iconst 2, 1) rfl) rfl ?_
            refine z_iload (pc := 98) 5 (zdg D_X12_most 52 (98, .iload 6, 2) rfl) rfl ?_
            refine z_imul (pc := 100) (zdg D_X12_most 53 (100, .imul, 1) rfl) ?_
            refine z_iload (pc := 101) 4 (zdg D_X12_most 54 (101, .iload 5, 2) rfl) rfl ?_
            refine z_icmp_le (pc := 103) 113 (zdg D_X12_most 55 (103, .if_icmp .le 10, 3) rfl) rfl hf (fun hf => ?_) (fun hf => ?_)
            · refine z_iinc (pc := 113) (v0 := (v4_3 + 1)) (al' := [(4, zI (v4_3 + 1)), (0, zR 0 0), (1, zI p1), (2, zL v2_2), (5, zI e9.1), (6, zI e9.2)]) 3 (zdg D_X12_most 62 (113, .iinc 4 1, 3) rfl) rfl rfl (by decide) rfl ?_
              refine z_goto (pc := 116) 17 (zdg D_X12_most 63 (116, .goto (-99), 3) rfl) rfl ?_
              refine z_sub (al' := [(0, zR 0 0), (1, zI p1), (2, zL v2_2), (4, zI (v4_3 + 1))]) [1, 2, 3, 0] rfl ?_
              exact hi (v2_2, (v4_3 + 1)) hf
            · refine z_lload_n (pc := 106) 2 (zdg D_X12_most 56 (106, .lload_n 2, 1) rfl) rfl rfl ?_
              refine z_lconst (pc := 107) (v := 1) (zdg D_X12_most 57 (107, .lconst 1, 1) rfl) rfl ?_
              refine z_iload (pc := 108) 3 (zdg D_X12_most 58 (108, .iload 4, 2) rfl) rfl ?_
              refine z_lshl (pc := 110) (zdg D_X12_most 59 (110, .lshl, 1) rfl) ?_
              refine z_lor (pc := 111) (zdg D_X12_most 60 (111, .lor, 1) rfl) ?_
              refine z_lstore_n (pc := 112) (al' := [(2, zL (v2_2 ||| (zlshl (1 : Int64) v4_3))), (0, zR 0 0), (1, zI p1), (4, zI v4_3), (5, zI e9.1), (6, zI e9.2)]) (zdg D_X12_most 61 (112, .lstore_n 2, 1) rfl) rfl (by decide) rfl ?_
              refine z_iinc (pc := 113) (v0 := (v4_3 + 1)) (al' := [(4, zI (v4_3 + 1)), (2, zL (v2_2 ||| (zlshl (1 : Int64) v4_3))), (0, zR 0 0), (1, zI p1), (5, zI e9.1), (6, zI e9.2)]) 3 (zdg D_X12_most 62 (113, .iinc 4 1, 3) rfl) rfl rfl (by decide) rfl ?_
              refine z_goto (pc := 116) 17 (zdg D_X12_most 63 (116, .goto (-99), 3) rfl) rfl ?_
              refine z_sub (al' := [(0, zR 0 0), (1, zI p1), (2, zL (v2_2 ||| (zlshl (1 : Int64) v4_3))), (4, zI (v4_3 + 1))]) [2, 3, 1, 0] rfl ?_
              exact hi ((v2_2 ||| (zlshl (1 : Int64) v4_3)), (v4_3 + 1)) hf
          · rintro ⟨v5_4, v6_5, v7_6⟩ hn hi hx
            have hf := b_X12_most_33.eq_1 σ p1 v4_3 v5_4 v6_5 v7_6
            refine z_iload (pc := 33) 6 (zdg D_X12_most 19 (33, .iload 7, 2) rfl) rfl ?_
            refine z_aload_n (pc := 35) 0 (zdg D_X12_most 20 (35, .aload_n 0, 1) rfl) rfl rfl ?_
            refine z_getR (pc := 36) (g := 1) (j := 0) lf_X12_7 rfl rfl rfl (zdg D_X12_most 21 (36, .getfield 7, 3) rfl) ?_
            refine z_iconst (pc := 39) (v := 4) (zdg D_X12_most 22 (39, .iconst 4, 1) rfl) rfl ?_
            refine z_ialdC (pc := 40) (j := 4) rfl (fun _ => rfl) (zdg D_X12_most 23 (40, .iaload, 1) rfl) rfl rfl ?_
            refine z_icmp_ge (pc := 41) 97 (zdg D_X12_most 24 (41, .if_icmp .ge 56, 3) rfl) rfl hf (fun hf => ?_) (fun hf => ?_)
            · refine z_sub (al' := [(0, zR 0 0), (1, zI p1), (2, zL v2_2), (4, zI v4_3), (5, zI v5_4), (6, zI v6_5)]) [0, 1, 2, 3, 4, 5] rfl ?_
              exact hx (v5_4, v6_5) hf
            · refine z_iload_n (pc := 44) 1 (zdg D_X12_most 25 (44, .iload_n 1, 1) rfl) rfl rfl ?_
              refine z_iload (pc := 45) 6 (zdg D_X12_most 26 (45, .iload 7, 2) rfl) rfl ?_
              refine z_ishr (pc := 47) (zdg D_X12_most 27 (47, .ishr, 1) rfl) ?_
              refine z_iconst (pc := 48) (v := 1) (zdg D_X12_most 28 (48, .iconst 1, 1) rfl) rfl ?_
              refine z_iand (pc := 49) (zdg D_X12_most 29 (49, .iand, 1) rfl) ?_
              refine z_if_eq (pc := 50) 91 (zdg D_X12_most 30 (50, .ifCond .eq 41, 3) rfl) rfl hf (fun hf => ?_) (fun hf => ?_)
              · refine z_iinc (pc := 91) (v0 := (v7_6 + 1)) (al' := [(7, zI (v7_6 + 1)), (0, zR 0 0), (1, zI p1), (2, zL v2_2), (4, zI v4_3), (5, zI v5_4), (6, zI v6_5)]) 6 (zdg D_X12_most 49 (91, .iinc 7 1, 3) rfl) rfl rfl (by decide) rfl ?_
                refine z_goto (pc := 94) 33 (zdg D_X12_most 50 (94, .goto (-61), 3) rfl) rfl ?_
                refine z_sub (al' := [(0, zR 0 0), (1, zI p1), (2, zL v2_2), (4, zI v4_3), (5, zI v5_4), (6, zI v6_5), (7, zI (v7_6 + 1))]) [1, 2, 3, 4, 5, 6, 0] rfl ?_
                exact hi (v5_4, v6_5, (v7_6 + 1)) hf
              · refine z_aload_n (pc := 53) 0 (zdg D_X12_most 31 (53, .aload_n 0, 1) rfl) rfl rfl ?_
                refine z_iload (pc := 54) 6 (zdg D_X12_most 32 (54, .iload 7, 2) rfl) rfl ?_
                refine z_iload (pc := 56) 3 (zdg D_X12_most 33 (56, .iload 4, 2) rfl) rfl ?_
                refine z_bind hn hf (fun q7 hq hf => ?_)
                refine z_callV (pc := 58) (rest := []) (st2 := [zI q7]) (fun l => c_X12_hasInView l v7_6 v4_3 σ q7 hq) zv_X12_hasInView lm_X12_367 rfl rfl rfl rfl rfl rfl (Nat.le_of_ble_eq_true rfl) ⟨Nat.le_of_ble_eq_true rfl, Nat.le_of_ble_eq_true rfl⟩ (zdg D_X12_most 34 (58, .invokevirtual 367, 3) rfl) ?_
                refine z_if_ne (pc := 61) 67 (zdg D_X12_most 35 (61, .ifCond .ne 6, 3) rfl) rfl hf (fun hf => ?_) (fun hf => ?_)
                · refine z_iinc (pc := 67) (v0 := (v5_4 + 1)) (al' := [(5, zI (v5_4 + 1)), (0, zR 0 0), (1, zI p1), (2, zL v2_2), (4, zI v4_3), (6, zI v6_5), (7, zI v7_6)]) 4 (zdg D_X12_most 37 (67, .iinc 5 1, 3) rfl) rfl rfl (by decide) rfl ?_
                  refine z_iload (pc := 70) 5 (zdg D_X12_most 38 (70, .iload 6, 2) rfl) rfl ?_
                  refine z_aload_n (pc := 72) 1 (zdg D_X12_most 39 (72, .aload_n 0, 1) rfl) rfl rfl ?_
                  refine z_iload (pc := 73) 6 (zdg D_X12_most 40 (73, .iload 7, 2) rfl) rfl ?_
                  refine z_iload (pc := 75) 4 (zdg D_X12_most 41 (75, .iload 4, 2) rfl) rfl ?_
                  refine z_bind hn hf (fun q8 hq hf => ?_)
                  refine z_callV (pc := 77) (rest := [zI v6_5]) (st2 := [zI q8, zI v6_5]) (fun l => c_X12_isClearIn l v7_6 v4_3 σ q8 hq) zv_X12_isClearIn lm_X12_376 rfl rfl rfl rfl rfl rfl (Nat.le_of_ble_eq_true rfl) ⟨Nat.le_of_ble_eq_true rfl, Nat.le_of_ble_eq_true rfl⟩ (zdg D_X12_most 42 (77, .invokevirtual 376, 3) rfl) ?_
                  refine z_if_eq (pc := 80) 87 (zdg D_X12_most 43 (80, .ifCond .eq 7, 3) rfl) rfl hf (fun hf => ?_) (fun hf => ?_)
                  · refine z_iconst (pc := 87) (v := 0) (zdg D_X12_most 46 (87, .iconst 0, 1) rfl) rfl ?_
                    refine z_iadd (pc := 88) (zdg D_X12_most 47 (88, .iadd, 1) rfl) ?_
                    refine z_istore (pc := 89) (al' := [(6, zI (v6_5 + (0 : Int32))), (5, zI (v5_4 + 1)), (0, zR 0 0), (1, zI p1), (2, zL v2_2), (4, zI v4_3), (7, zI v7_6)]) (zdg D_X12_most 48 (89, .istore 6, 2) rfl) (by decide) rfl ?_
                    refine z_iinc (pc := 91) (v0 := (v7_6 + 1)) (al' := [(7, zI (v7_6 + 1)), (6, zI (v6_5 + (0 : Int32))), (5, zI (v5_4 + 1)), (0, zR 0 0), (1, zI p1), (2, zL v2_2), (4, zI v4_3)]) 6 (zdg D_X12_most 49 (91, .iinc 7 1, 3) rfl) rfl rfl (by decide) rfl ?_
                    refine z_goto (pc := 94) 33 (zdg D_X12_most 50 (94, .goto (-61), 3) rfl) rfl ?_
                    refine z_sub (al' := [(0, zR 0 0), (1, zI p1), (2, zL v2_2), (4, zI v4_3), (5, zI (v5_4 + 1)), (6, zI (v6_5 + (0 : Int32))), (7, zI (v7_6 + 1))]) [3, 4, 5, 6, 2, 1, 0] rfl ?_
                    exact hi ((v5_4 + 1), (v6_5 + (0 : Int32)), (v7_6 + 1)) hf
                  · refine z_iconst (pc := 83) (v := 1) (zdg D_X12_most 44 (83, .iconst 1, 1) rfl) rfl ?_
                    refine z_goto (pc := 84) 88 (zdg D_X12_most 45 (84, .goto 4, 3) rfl) rfl ?_
                    refine z_iadd (pc := 88) (zdg D_X12_most 47 (88, .iadd, 1) rfl) ?_
                    refine z_istore (pc := 89) (al' := [(6, zI (v6_5 + (1 : Int32))), (5, zI (v5_4 + 1)), (0, zR 0 0), (1, zI p1), (2, zL v2_2), (4, zI v4_3), (7, zI v7_6)]) (zdg D_X12_most 48 (89, .istore 6, 2) rfl) (by decide) rfl ?_
                    refine z_iinc (pc := 91) (v0 := (v7_6 + 1)) (al' := [(7, zI (v7_6 + 1)), (6, zI (v6_5 + (1 : Int32))), (5, zI (v5_4 + 1)), (0, zR 0 0), (1, zI p1), (2, zL v2_2), (4, zI v4_3)]) 6 (zdg D_X12_most 49 (91, .iinc 7 1, 3) rfl) rfl rfl (by decide) rfl ?_
                    refine z_goto (pc := 94) 33 (zdg D_X12_most 50 (94, .goto (-61), 3) rfl) rfl ?_
                    refine z_sub (al' := [(0, zR 0 0), (1, zI p1), (2, zL v2_2), (4, zI v4_3), (5, zI (v5_4 + 1)), (6, zI (v6_5 + (1 : Int32))), (7, zI (v7_6 + 1))]) [3, 4, 5, 6, 2, 1, 0] rfl ?_
                    exact hi ((v5_4 + 1), (v6_5 + (1 : Int32)), (v7_6 + 1)) hf
                · refine z_goto (pc := 64) 91 (zdg D_X12_most 36 (64, .goto 27, 3) rfl) rfl ?_
                  refine z_iinc (pc := 91) (v0 := (v7_6 + 1)) (al' := [(7, zI (v7_6 + 1)), (0, zR 0 0), (1, zI p1), (2, zL v2_2), (4, zI v4_3), (5, zI v5_4), (6, zI v6_5)]) 6 (zdg D_X12_most 49 (91, .iinc 7 1, 3) rfl) rfl rfl (by decide) rfl ?_
                  refine z_goto (pc := 94) 33 (zdg D_X12_most 50 (94, .goto (-61), 3) rfl) rfl ?_
                  refine z_sub (al' := [(0, zR 0 0), (1, zI p1), (2, zL v2_2), (4, zI v4_3), (5, zI v5_4), (6, zI v6_5), (7, zI (v7_6 + 1))]) [1, 2, 3, 4, 5, 6, 0] rfl ?_
                  exact hi (v5_4, v6_5, (v7_6 + 1)) hf
    · refine z_ldc2 (pc := 8) lc_X12_353 (zdg D_X12_most 4 (8, .ldc2_w 353, 3) rfl) ?_
      exact z_lret (pc := 11) rfl (zdg D_X12_most 5 (11, .lreturn, 1) rfl) (hP _ hf)

def L_X12_laysTones : List (Nat × Instr × Nat) := [(0, .aload_n 0, 1), (1, .iconst 0, 1), (2, .putfield 399, 3), (5, .iconst 0, 1), (6, .istore_n 3, 1), (7, .iload_n 3, 1), (8, .aload_n 0, 1), (9, .getfield 7, 3), (12, .iconst 4, 1), (13, .iaload, 1), (14, .if_icmp .ge 109, 3), (17, .iload_n 1, 1), (18, .iload_n 3, 1), (19, .ishr, 1), (20, .iconst 1, 1), (21, .iand, 1), (22, .ifCond .eq 95, 3), (25, .aload_n 0, 1), (26, .iload_n 3, 1), (27, .iload_n 2, 1), (28, .invokevirtual 367, 3), (31, .ifCond .ne 6, 3), (34, .goto 83, 3), (37, .aload_n 0, 1), (38, .getfield 399, 3), (41, .istore 4, 2), (43, .iload 4, 2), (45, .ifCond .le 46, 3), (48, .aload_n 0, 1), (49, .getfield 48, 3), (52, .iload 4, 2), (54, .iconst 1, 1), (55, .isub, 1), (56, .iaload, 1), (57, .aload_n 0, 1), (58, .iload_n 3, 1), (59, .bipush 68, 2), (61, .iload_n 2, 1), (62, .iadd, 1), (63, .invokevirtual 358, 3), (66, .if_icmp .le 25, 3), (69, .aload_n 0, 1), (70, .getfield 48, 3), (73, .iload 4, 2), (75, .aload_n 0, 1), (76, .getfield 48, 3), (79, .iload 4, 2), (81, .iconst 1, 1), (82, .isub, 1), (83, .iaload, 1), (84, .iastore, 1), (85, .iinc 4 (-1), 3), (88, .goto (-45), 3), (91, .aload_n 0, 1), (92, .getfield 48, 3), (95, .iload 4, 2), (97, .aload_n 0, 1), (98, .iload_n 3, 1), (99, .bipush 68, 2), (101, .iload_n 2, 1), (102, .iadd, 1), (103, .invokevirtual 358, 3), (106, .iastore, 1), (107, .aload_n 0, 1), (108, .dup, 1), (109, .getfield 399, 3), (112, .iconst 1, 1), (113, .iadd, 1), (114, .putfield 399, 3), (117, .iinc 3 1, 3), (120, .goto (-113), 3), (123, .return_, 1)]
set_option maxRecDepth 100000 in
theorem D_X12_laysTones : zdecs cX12_laysTones L_X12_laysTones = true := by decide +kernel
noncomputable def b_X12_laysTones_43 (v3_2 : Int32) (p2 : Int32) (v4_5 : Int32) (s6 : zG) : Option ((Int32 × zG) ⊕ (Int32 × zG)) :=
  if 0 < v4_5 then zg (zin (v4_5 - (1 : Int32)) 10) ((f_X12_ofShot v3_2 ((68 : Int32) + p2) s6).bind (fun q7 => if q7 < (s6.1 12 0 (v4_5 - (1 : Int32)).toNatClampNeg) then zg (zin (v4_5 - (1 : Int32)) 10) (zg (zin v4_5 10) (zb (zwI s6 12 0 v4_5.toNatClampNeg (s6.1 12 0 (v4_5 - (1 : Int32)).toNatClampNeg)) (fun s8 => some (Sum.inl ((v4_5 + (-1)), s8))))) else some (Sum.inr (v4_5, s6)))) else some (Sum.inr (v4_5, s6))
noncomputable def j_X12_laysTones_91_7 (p2 : Int32) (w3_10 : Int32) (w4_11 : Int32) (s12 : zG) : Option ((Int32 × zG) ⊕ (zG)) :=
  (f_X12_ofShot w3_10 ((68 : Int32) + p2) s12).bind (fun q13 => zg (zin w4_11 10) (zb (zwI s12 12 0 w4_11.toNatClampNeg q13) (fun s14 => zb (zwI s14 0 0 31 ((s14.1 0 0 31) + (1 : Int32))) (fun s15 => some (Sum.inl ((w3_10 + 1), s15))))))
noncomputable def b_X12_laysTones_7 (p1 : Int32) (p2 : Int32) (v3_2 : Int32) (s3 : zG) : Option ((Int32 × zG) ⊕ (zG)) :=
  if v3_2 < (s3.1 1 0 4) then if ((zshr p1 v3_2) &&& (1 : Int32)) = 0 then some (Sum.inl ((v3_2 + 1), s3)) else (f_X12_hasInView v3_2 p2 s3).bind (fun q4 => if q4 = 0 then some (Sum.inl ((v3_2 + 1), s3)) else (zlp (fun q : Int32 × zG => b_X12_laysTones_43 v3_2 p2 q.1 q.2) ((s3.1 0 0 31), s3)).bind (fun e9 : Int32 × zG => j_X12_laysTones_91_7 p2 v3_2 e9.1 e9.2)) else some (Sum.inr s3)
noncomputable def f_X12_laysTones (p1 : Int32) (p2 : Int32) (σ : zG) : Option (zG) :=
  zb (zwI σ 0 0 31 (0 : Int32)) (fun s1 => (zlp (fun q : Int32 × zG => b_X12_laysTones_7 p1 p2 q.1 q.2) ((0 : Int32), s1)).bind (fun e16 : zG => some e16))
set_option maxRecDepth 100000 in
set_option maxHeartbeats 4000000 in
theorem c_X12_laysTones (l : Launch) (p1 : Int32) (p2 : Int32) (σ : zG) (q : zG) (hq : f_X12_laysTones p1 p2 σ = some q) : zMet l zsyM m_X12_laysTones yX12_laysTones [zR 0 0, zI p1, zI p2] σ none q := by
  refine zEnter [(0, zR 0 0), (1, zI p1), (2, zI p2)] (by decide) rfl (fun _ => Nat.le_of_ble_eq_true rfl) (fun _ => rfl) (fun w h => ?_) (fun K hv hs => ?_)
  · exact zokm rfl h
  · have hP : ∀ s, f_X12_laysTones p1 p2 σ = some s → zKv K = none ∧ zKs K = s := fun s h => by rw [hq] at h; cases h; exact ⟨hv, hs⟩
    have hn : f_X12_laysTones p1 p2 σ ≠ none := fun z => by rw [hq] at z; cases z
    have hf := f_X12_laysTones.eq_1 p1 p2 σ
    refine z_aload_n (pc := 0) 0 (zdg D_X12_laysTones 0 (0, .aload_n 0, 1) rfl) rfl rfl ?_
    refine z_iconst (pc := 1) (v := 0) (zdg D_X12_laysTones 1 (1, .iconst 0, 1) rfl) rfl ?_
    refine z_putI (pc := 2) lw_X12_399 rfl rfl rfl rfl (zdg D_X12_laysTones 2 (2, .putfield 399, 3) rfl) ?_
    refine z_nmS hf (fun s1 hf => ?_)
    refine z_iconst (pc := 5) (v := 0) (zdg D_X12_laysTones 3 (5, .iconst 0, 1) rfl) rfl ?_
    refine z_istore_n (pc := 6) (al' := [(3, zI (0 : Int32)), (0, zR 0 0), (1, zI p1), (2, zI p2)]) (zdg D_X12_laysTones 4 (6, .istore_n 3, 1) rfl) rfl (by decide) rfl ?_
    refine z_sub (al' := [(0, zR 0 0), (1, zI p1), (2, zI p2), (3, zI (0 : Int32))]) [1, 2, 3, 0] rfl ?_
    refine z_loop (f := (fun q : Int32 × zG => b_X12_laysTones_7 p1 p2 q.1 q.2)) (a := ((0 : Int32), s1)) (fun q : Int32 × zG => zX zsyM m_X12_laysTones K 7 [(0, zR 0 0), (1, zI p1), (2, zI p2), (3, zI q.1)] [] q.2) (fun e16 : zG => zX zsyM m_X12_laysTones K 123 [] [] e16) hn hf ?_ ?_
    · intro e16 hf
      exact z_vret (pc := 123) rfl (zdg D_X12_laysTones 71 (123, .return_, 1) rfl) (hP _ hf)
    · rintro ⟨v3_2, s3⟩ hn hi hx
      have hf := b_X12_laysTones_7.eq_1 p1 p2 v3_2 s3
      have t_91 : ∀ (w3_10 : Int32) (w4_11 : Int32) (s12 : zG), b_X12_laysTones_7 p1 p2 v3_2 s3 = j_X12_laysTones_91_7 p2 w3_10 w4_11 s12 → zX zsyM m_X12_laysTones K 91 [(0, zR 0 0), (1, zI p1), (2, zI p2), (3, zI w3_10), (4, zI w4_11)] [] s12 := by
        intro w3_10 w4_11 s12 hf
        replace hf := hf.trans (j_X12_laysTones_91_7.eq_1 p2 w3_10 w4_11 s12)
        refine z_aload_n (pc := 91) 0 (zdg D_X12_laysTones 53 (91, .aload_n 0, 1) rfl) rfl rfl ?_
        refine z_getR (pc := 92) (g := 12) (j := 0) lf_X12_48 rfl rfl rfl (zdg D_X12_laysTones 54 (92, .getfield 48, 3) rfl) ?_
        refine z_iload (pc := 95) 4 (zdg D_X12_laysTones 55 (95, .iload 4, 2) rfl) rfl ?_
        refine z_aload_n (pc := 97) 0 (zdg D_X12_laysTones 56 (97, .aload_n 0, 1) rfl) rfl rfl ?_
        refine z_iload_n (pc := 98) 3 (zdg D_X12_laysTones 57 (98, .iload_n 3, 1) rfl) rfl rfl ?_
        refine z_bipush (pc := 99) (v := 68) (zdg D_X12_laysTones 58 (99, .bipush 68, 2) rfl) rfl ?_
        refine z_iload_n (pc := 101) 2 (zdg D_X12_laysTones 59 (101, .iload_n 2, 1) rfl) rfl rfl ?_
        refine z_iadd (pc := 102) (zdg D_X12_laysTones 60 (102, .iadd, 1) rfl) ?_
        refine z_bind hn hf (fun q13 hq hf => ?_)
        refine z_callV (pc := 103) (rest := [zI w4_11, zR 12 0]) (st2 := [zI q13, zI w4_11, zR 12 0]) (fun l => c_X12_ofShot l w3_10 ((68 : Int32) + p2) s12 q13 hq) zv_X12_ofShot lm_X12_358 rfl rfl rfl rfl rfl rfl (Nat.le_of_ble_eq_true rfl) ⟨Nat.le_of_ble_eq_true rfl, Nat.le_of_ble_eq_true rfl⟩ (zdg D_X12_laysTones 61 (103, .invokevirtual 358, 3) rfl) ?_
        refine z_iast (pc := 106) rfl (fun _ => rfl) (zdg D_X12_laysTones 62 (106, .iastore, 1) rfl) hn hf (fun hf => ?_)
        refine z_nmS hf (fun s14 hf => ?_)
        refine z_aload_n (pc := 107) 0 (zdg D_X12_laysTones 63 (107, .aload_n 0, 1) rfl) rfl rfl ?_
        refine z_dup (pc := 108) rfl (zdg D_X12_laysTones 64 (108, .dup, 1) rfl) ?_
        refine z_getI (pc := 109) lf_X12_399 rfl rfl (zdg D_X12_laysTones 65 (109, .getfield 399, 3) rfl) ?_
        refine z_iconst (pc := 112) (v := 1) (zdg D_X12_laysTones 66 (112, .iconst 1, 1) rfl) rfl ?_
        refine z_iadd (pc := 113) (zdg D_X12_laysTones 67 (113, .iadd, 1) rfl) ?_
        refine z_putI (pc := 114) lw_X12_399 rfl rfl rfl rfl (zdg D_X12_laysTones 68 (114, .putfield 399, 3) rfl) ?_
        refine z_nmS hf (fun s15 hf => ?_)
        refine z_iinc (pc := 117) (v0 := (w3_10 + 1)) (al' := [(3, zI (w3_10 + 1)), (0, zR 0 0), (1, zI p1), (2, zI p2), (4, zI w4_11)]) 3 (zdg D_X12_laysTones 69 (117, .iinc 3 1, 3) rfl) rfl rfl (by decide) rfl ?_
        refine z_goto (pc := 120) 7 (zdg D_X12_laysTones 70 (120, .goto (-113), 3) rfl) rfl ?_
        refine z_sub (al' := [(0, zR 0 0), (1, zI p1), (2, zI p2), (3, zI (w3_10 + 1))]) [1, 2, 3, 0] rfl ?_
        exact hi ((w3_10 + 1), s15) hf
      refine z_iload_n (pc := 7) 3 (zdg D_X12_laysTones 5 (7, .iload_n 3, 1) rfl) rfl rfl ?_
      refine z_aload_n (pc := 8) 0 (zdg D_X12_laysTones 6 (8, .aload_n 0, 1) rfl) rfl rfl ?_
      refine z_getR (pc := 9) (g := 1) (j := 0) lf_X12_7 rfl rfl rfl (zdg D_X12_laysTones 7 (9, .getfield 7, 3) rfl) ?_
      refine z_iconst (pc := 12) (v := 4) (zdg D_X12_laysTones 8 (12, .iconst 4, 1) rfl) rfl ?_
      refine z_ialdC (pc := 13) (j := 4) rfl (fun _ => rfl) (zdg D_X12_laysTones 9 (13, .iaload, 1) rfl) rfl rfl ?_
      refine z_icmp_ge (pc := 14) 123 (zdg D_X12_laysTones 10 (14, .if_icmp .ge 109, 3) rfl) rfl hf (fun hf => ?_) (fun hf => ?_)
      · refine z_sub (al' := []) [] rfl ?_
        exact hx s3 hf
      · refine z_iload_n (pc := 17) 1 (zdg D_X12_laysTones 11 (17, .iload_n 1, 1) rfl) rfl rfl ?_
        refine z_iload_n (pc := 18) 3 (zdg D_X12_laysTones 12 (18, .iload_n 3, 1) rfl) rfl rfl ?_
        refine z_ishr (pc := 19) (zdg D_X12_laysTones 13 (19, .ishr, 1) rfl) ?_
        refine z_iconst (pc := 20) (v := 1) (zdg D_X12_laysTones 14 (20, .iconst 1, 1) rfl) rfl ?_
        refine z_iand (pc := 21) (zdg D_X12_laysTones 15 (21, .iand, 1) rfl) ?_
        refine z_if_eq (pc := 22) 117 (zdg D_X12_laysTones 16 (22, .ifCond .eq 95, 3) rfl) rfl hf (fun hf => ?_) (fun hf => ?_)
        · refine z_iinc (pc := 117) (v0 := (v3_2 + 1)) (al' := [(3, zI (v3_2 + 1)), (0, zR 0 0), (1, zI p1), (2, zI p2)]) 3 (zdg D_X12_laysTones 69 (117, .iinc 3 1, 3) rfl) rfl rfl (by decide) rfl ?_
          refine z_goto (pc := 120) 7 (zdg D_X12_laysTones 70 (120, .goto (-113), 3) rfl) rfl ?_
          refine z_sub (al' := [(0, zR 0 0), (1, zI p1), (2, zI p2), (3, zI (v3_2 + 1))]) [1, 2, 3, 0] rfl ?_
          exact hi ((v3_2 + 1), s3) hf
        · refine z_aload_n (pc := 25) 0 (zdg D_X12_laysTones 17 (25, .aload_n 0, 1) rfl) rfl rfl ?_
          refine z_iload_n (pc := 26) 3 (zdg D_X12_laysTones 18 (26, .iload_n 3, 1) rfl) rfl rfl ?_
          refine z_iload_n (pc := 27) 2 (zdg D_X12_laysTones 19 (27, .iload_n 2, 1) rfl) rfl rfl ?_
          refine z_bind hn hf (fun q4 hq hf => ?_)
          refine z_callV (pc := 28) (rest := []) (st2 := [zI q4]) (fun l => c_X12_hasInView l v3_2 p2 s3 q4 hq) zv_X12_hasInView lm_X12_367 rfl rfl rfl rfl rfl rfl (Nat.le_of_ble_eq_true rfl) ⟨Nat.le_of_ble_eq_true rfl, Nat.le_of_ble_eq_true rfl⟩ (zdg D_X12_laysTones 20 (28, .invokevirtual 367, 3) rfl) ?_
          refine z_if_ne (pc := 31) 37 (zdg D_X12_laysTones 21 (31, .ifCond .ne 6, 3) rfl) rfl hf (fun hf => ?_) (fun hf => ?_)
          · refine z_aload_n (pc := 37) 0 (zdg D_X12_laysTones 23 (37, .aload_n 0, 1) rfl) rfl rfl ?_
            refine z_getI (pc := 38) lf_X12_399 rfl rfl (zdg D_X12_laysTones 24 (38, .getfield 399, 3) rfl) ?_
            refine z_istore (pc := 41) (al' := [(4, zI (s3.1 0 0 31)), (0, zR 0 0), (1, zI p1), (2, zI p2), (3, zI v3_2)]) (zdg D_X12_laysTones 25 (41, .istore 4, 2) rfl) (by decide) rfl ?_
            refine z_sub (al' := [(0, zR 0 0), (1, zI p1), (2, zI p2), (3, zI v3_2), (4, zI (s3.1 0 0 31))]) [1, 2, 3, 4, 0] rfl ?_
            refine z_loop (f := (fun q : Int32 × zG => b_X12_laysTones_43 v3_2 p2 q.1 q.2)) (a := ((s3.1 0 0 31), s3)) (fun q : Int32 × zG => zX zsyM m_X12_laysTones K 43 [(0, zR 0 0), (1, zI p1), (2, zI p2), (3, zI v3_2), (4, zI q.1)] [] q.2) (fun e9 : Int32 × zG => zX zsyM m_X12_laysTones K 91 [(0, zR 0 0), (1, zI p1), (2, zI p2), (3, zI v3_2), (4, zI e9.1)] [] e9.2) hn hf ?_ ?_
            · intro e9 hf
              exact t_91 v3_2 e9.1 e9.2 hf
            · rintro ⟨v4_5, s6⟩ hn hi hx
              have hf := b_X12_laysTones_43.eq_1 v3_2 p2 v4_5 s6
              refine z_iload (pc := 43) 4 (zdg D_X12_laysTones 26 (43, .iload 4, 2) rfl) rfl ?_
              refine z_if_le (pc := 45) 91 (zdg D_X12_laysTones 27 (45, .ifCond .le 46, 3) rfl) rfl hf (fun hf => ?_) (fun hf => ?_)
              · exact hx (v4_5, s6) hf
              · refine z_aload_n (pc := 48) 0 (zdg D_X12_laysTones 28 (48, .aload_n 0, 1) rfl) rfl rfl ?_
                refine z_getR (pc := 49) (g := 12) (j := 0) lf_X12_48 rfl rfl rfl (zdg D_X12_laysTones 29 (49, .getfield 48, 3) rfl) ?_
                refine z_iload (pc := 52) 4 (zdg D_X12_laysTones 30 (52, .iload 4, 2) rfl) rfl ?_
                refine z_iconst (pc := 54) (v := 1) (zdg D_X12_laysTones 31 (54, .iconst 1, 1) rfl) rfl ?_
                refine z_isub (pc := 55) (zdg D_X12_laysTones 32 (55, .isub, 1) rfl) ?_
                refine z_iald (pc := 56) rfl (fun _ => rfl) (zdg D_X12_laysTones 33 (56, .iaload, 1) rfl) hn hf (fun hf => ?_)
                refine z_aload_n (pc := 57) 0 (zdg D_X12_laysTones 34 (57, .aload_n 0, 1) rfl) rfl rfl ?_
                refine z_iload_n (pc := 58) 3 (zdg D_X12_laysTones 35 (58, .iload_n 3, 1) rfl) rfl rfl ?_
                refine z_bipush (pc := 59) (v := 68) (zdg D_X12_laysTones 36 (59, .bipush 68, 2) rfl) rfl ?_
                refine z_iload_n (pc := 61) 2 (zdg D_X12_laysTones 37 (61, .iload_n 2, 1) rfl) rfl rfl ?_
                refine z_iadd (pc := 62) (zdg D_X12_laysTones 38 (62, .iadd, 1) rfl) ?_
                refine z_bind hn hf (fun q7 hq hf => ?_)
                refine z_callV (pc := 63) (rest := [zI (s6.1 12 0 (v4_5 - (1 : Int32)).toNatClampNeg)]) (st2 := [zI q7, zI (s6.1 12 0 (v4_5 - (1 : Int32)).toNatClampNeg)]) (fun l => c_X12_ofShot l v3_2 ((68 : Int32) + p2) s6 q7 hq) zv_X12_ofShot lm_X12_358 rfl rfl rfl rfl rfl rfl (Nat.le_of_ble_eq_true rfl) ⟨Nat.le_of_ble_eq_true rfl, Nat.le_of_ble_eq_true rfl⟩ (zdg D_X12_laysTones 39 (63, .invokevirtual 358, 3) rfl) ?_
                refine z_icmp_le (pc := 66) 91 (zdg D_X12_laysTones 40 (66, .if_icmp .le 25, 3) rfl) rfl hf (fun hf => ?_) (fun hf => ?_)
                · exact hx (v4_5, s6) hf
                · refine z_aload_n (pc := 69) 0 (zdg D_X12_laysTones 41 (69, .aload_n 0, 1) rfl) rfl rfl ?_
                  refine z_getR (pc := 70) (g := 12) (j := 0) lf_X12_48 rfl rfl rfl (zdg D_X12_laysTones 42 (70, .getfield 48, 3) rfl) ?_
                  refine z_iload (pc := 73) 4 (zdg D_X12_laysTones 43 (73, .iload 4, 2) rfl) rfl ?_
                  refine z_aload_n (pc := 75) 0 (zdg D_X12_laysTones 44 (75, .aload_n 0, 1) rfl) rfl rfl ?_
                  refine z_getR (pc := 76) (g := 12) (j := 0) lf_X12_48 rfl rfl rfl (zdg D_X12_laysTones 45 (76, .getfield 48, 3) rfl) ?_
                  refine z_iload (pc := 79) 4 (zdg D_X12_laysTones 46 (79, .iload 4, 2) rfl) rfl ?_
                  refine z_iconst (pc := 81) (v := 1) (zdg D_X12_laysTones 47 (81, .iconst 1, 1) rfl) rfl ?_
                  refine z_isub (pc := 82) (zdg D_X12_laysTones 48 (82, .isub, 1) rfl) ?_
                  refine z_iald (pc := 83) rfl (fun _ => rfl) (zdg D_X12_laysTones 49 (83, .iaload, 1) rfl) hn hf (fun hf => ?_)
                  refine z_iast (pc := 84) rfl (fun _ => rfl) (zdg D_X12_laysTones 50 (84, .iastore, 1) rfl) hn hf (fun hf => ?_)
                  refine z_nmS hf (fun s8 hf => ?_)
                  refine z_iinc (pc := 85) (v0 := (v4_5 + (-1))) (al' := [(4, zI (v4_5 + (-1))), (0, zR 0 0), (1, zI p1), (2, zI p2), (3, zI v3_2)]) 4 (zdg D_X12_laysTones 51 (85, .iinc 4 (-1), 3) rfl) rfl rfl (by decide) rfl ?_
                  refine z_goto (pc := 88) 43 (zdg D_X12_laysTones 52 (88, .goto (-45), 3) rfl) rfl ?_
                  refine z_sub (al' := [(0, zR 0 0), (1, zI p1), (2, zI p2), (3, zI v3_2), (4, zI (v4_5 + (-1)))]) [1, 2, 3, 4, 0] rfl ?_
                  exact hi ((v4_5 + (-1)), s8) hf
          · refine z_goto (pc := 34) 117 (zdg D_X12_laysTones 22 (34, .goto 83, 3) rfl) rfl ?_
            refine z_iinc (pc := 117) (v0 := (v3_2 + 1)) (al' := [(3, zI (v3_2 + 1)), (0, zR 0 0), (1, zI p1), (2, zI p2)]) 3 (zdg D_X12_laysTones 69 (117, .iinc 3 1, 3) rfl) rfl rfl (by decide) rfl ?_
            refine z_goto (pc := 120) 7 (zdg D_X12_laysTones 70 (120, .goto (-113), 3) rfl) rfl ?_
            refine z_sub (al' := [(0, zR 0 0), (1, zI p1), (2, zI p2), (3, zI (v3_2 + 1))]) [1, 2, 3, 0] rfl ?_
            exact hi ((v3_2 + 1), s3) hf

def L_X12_middle : List (Nat × Instr × Nat) := [(0, .aload_n 0, 1), (1, .iload_n 1, 1), (2, .invokevirtual 379, 3), (5, .ifCond .eq 11, 3), (8, .aload_n 0, 1), (9, .iload_n 2, 1), (10, .invokevirtual 236, 3), (13, .ifCond .ne 5, 3), (16, .iconst (-1), 1), (17, .ireturn, 1), (18, .aload_n 0, 1), (19, .iload_n 1, 1), (20, .iload_n 2, 1), (21, .invokevirtual 402, 3), (24, .aload_n 0, 1), (25, .getfield 399, 3), (28, .ifCond .ne 7, 3), (31, .iconst (-1), 1), (32, .goto 16, 3), (35, .aload_n 0, 1), (36, .getfield 48, 3), (39, .aload_n 0, 1), (40, .getfield 399, 3), (43, .iconst 1, 1), (44, .isub, 1), (45, .iconst 2, 1), (46, .idiv, 1), (47, .iaload, 1), (48, .ireturn, 1)]
set_option maxRecDepth 100000 in
theorem D_X12_middle : zdecs cX12_middle L_X12_middle = true := by decide +kernel
noncomputable def f_X12_middle (p1 : Int32) (p2 : Int32) (σ : zG) : Option (Int32 × zG) :=
  (f_X12_areShots p1 σ).bind (fun q1 => if q1 = 0 then some ((-1 : Int32), σ) else (f_X12_isSpot p2 σ).bind (fun q2 => if q2 = 0 then some ((-1 : Int32), σ) else (f_X12_laysTones p1 p2 σ).bind (fun q3 => if (q3.1 0 0 31) = 0 then some ((-1 : Int32), q3) else zg (zin (((q3.1 0 0 31) - (1 : Int32)) / (2 : Int32)) 10) (some ((q3.1 12 0 (((q3.1 0 0 31) - (1 : Int32)) / (2 : Int32)).toNatClampNeg), q3)))))
set_option maxRecDepth 100000 in
set_option maxHeartbeats 4000000 in
theorem c_X12_middle (l : Launch) (p1 : Int32) (p2 : Int32) (σ : zG) (q : Int32 × zG) (hq : f_X12_middle p1 p2 σ = some q) : zMet l zsyM m_X12_middle yX12_middle [zR 0 0, zI p1, zI p2] σ (some (zI q.1)) q.2 := by
  refine zEnter [(0, zR 0 0), (1, zI p1), (2, zI p2)] (by decide) rfl (fun _ => Nat.le_of_ble_eq_true rfl) (fun _ => rfl) (fun w h => ?_) (fun K hv hs => ?_)
  · exact zokm rfl h
  · have hP : ∀ x s, f_X12_middle p1 p2 σ = some (x, s) → zKv K = some (zI x) ∧ zKs K = s := fun x s h => by rw [hq] at h; cases h; exact ⟨hv, hs⟩
    have hn : f_X12_middle p1 p2 σ ≠ none := fun z => by rw [hq] at z; cases z
    have hf := f_X12_middle.eq_1 p1 p2 σ
    refine z_aload_n (pc := 0) 0 (zdg D_X12_middle 0 (0, .aload_n 0, 1) rfl) rfl rfl ?_
    refine z_iload_n (pc := 1) 1 (zdg D_X12_middle 1 (1, .iload_n 1, 1) rfl) rfl rfl ?_
    refine z_bind hn hf (fun q1 hq hf => ?_)
    refine z_callV (pc := 2) (rest := []) (st2 := [zI q1]) (fun l => c_X12_areShots l p1 σ q1 hq) zv_X12_areShots lm_X12_379 rfl rfl rfl rfl rfl rfl (Nat.le_of_ble_eq_true rfl) ⟨Nat.le_of_ble_eq_true rfl, Nat.le_of_ble_eq_true rfl⟩ (zdg D_X12_middle 2 (2, .invokevirtual 379, 3) rfl) ?_
    refine z_if_eq (pc := 5) 16 (zdg D_X12_middle 3 (5, .ifCond .eq 11, 3) rfl) rfl hf (fun hf => ?_) (fun hf => ?_)
    · refine z_iconst (pc := 16) (v := -1) (zdg D_X12_middle 8 (16, .iconst (-1), 1) rfl) rfl ?_
      exact z_iret (pc := 17) rfl rfl (zdg D_X12_middle 9 (17, .ireturn, 1) rfl) (hP _ _ hf)
    · refine z_aload_n (pc := 8) 0 (zdg D_X12_middle 4 (8, .aload_n 0, 1) rfl) rfl rfl ?_
      refine z_iload_n (pc := 9) 2 (zdg D_X12_middle 5 (9, .iload_n 2, 1) rfl) rfl rfl ?_
      refine z_bind hn hf (fun q2 hq hf => ?_)
      refine z_callV (pc := 10) (rest := []) (st2 := [zI q2]) (fun l => c_X12_isSpot l p2 σ q2 hq) zv_X12_isSpot lm_X12_236 rfl rfl rfl rfl rfl rfl (Nat.le_of_ble_eq_true rfl) ⟨Nat.le_of_ble_eq_true rfl, Nat.le_of_ble_eq_true rfl⟩ (zdg D_X12_middle 6 (10, .invokevirtual 236, 3) rfl) ?_
      refine z_if_ne (pc := 13) 18 (zdg D_X12_middle 7 (13, .ifCond .ne 5, 3) rfl) rfl hf (fun hf => ?_) (fun hf => ?_)
      · refine z_aload_n (pc := 18) 0 (zdg D_X12_middle 10 (18, .aload_n 0, 1) rfl) rfl rfl ?_
        refine z_iload_n (pc := 19) 1 (zdg D_X12_middle 11 (19, .iload_n 1, 1) rfl) rfl rfl ?_
        refine z_iload_n (pc := 20) 2 (zdg D_X12_middle 12 (20, .iload_n 2, 1) rfl) rfl rfl ?_
        refine z_bind hn hf (fun q3 hq hf => ?_)
        refine z_callV (pc := 21) (rest := []) (st2 := []) (fun l => c_X12_laysTones l p1 p2 σ q3 hq) zv_X12_laysTones lm_X12_402 rfl rfl rfl rfl rfl rfl (Nat.le_of_ble_eq_true rfl) ⟨Nat.le_of_ble_eq_true rfl, Nat.le_of_ble_eq_true rfl⟩ (zdg D_X12_middle 13 (21, .invokevirtual 402, 3) rfl) ?_
        refine z_aload_n (pc := 24) 0 (zdg D_X12_middle 14 (24, .aload_n 0, 1) rfl) rfl rfl ?_
        refine z_getI (pc := 25) lf_X12_399 rfl rfl (zdg D_X12_middle 15 (25, .getfield 399, 3) rfl) ?_
        refine z_if_ne (pc := 28) 35 (zdg D_X12_middle 16 (28, .ifCond .ne 7, 3) rfl) rfl hf (fun hf => ?_) (fun hf => ?_)
        · refine z_aload_n (pc := 35) 0 (zdg D_X12_middle 19 (35, .aload_n 0, 1) rfl) rfl rfl ?_
          refine z_getR (pc := 36) (g := 12) (j := 0) lf_X12_48 rfl rfl rfl (zdg D_X12_middle 20 (36, .getfield 48, 3) rfl) ?_
          refine z_aload_n (pc := 39) 0 (zdg D_X12_middle 21 (39, .aload_n 0, 1) rfl) rfl rfl ?_
          refine z_getI (pc := 40) lf_X12_399 rfl rfl (zdg D_X12_middle 22 (40, .getfield 399, 3) rfl) ?_
          refine z_iconst (pc := 43) (v := 1) (zdg D_X12_middle 23 (43, .iconst 1, 1) rfl) rfl ?_
          refine z_isub (pc := 44) (zdg D_X12_middle 24 (44, .isub, 1) rfl) ?_
          refine z_iconst (pc := 45) (v := 2) (zdg D_X12_middle 25 (45, .iconst 2, 1) rfl) rfl ?_
          refine z_idivK (pc := 46) (zdg D_X12_middle 26 (46, .idiv, 1) rfl) rfl ?_
          refine z_iald (pc := 47) rfl (fun _ => rfl) (zdg D_X12_middle 27 (47, .iaload, 1) rfl) hn hf (fun hf => ?_)
          exact z_iret (pc := 48) rfl rfl (zdg D_X12_middle 28 (48, .ireturn, 1) rfl) (hP _ _ hf)
        · refine z_iconst (pc := 31) (v := -1) (zdg D_X12_middle 17 (31, .iconst (-1), 1) rfl) rfl ?_
          refine z_goto (pc := 32) 48 (zdg D_X12_middle 18 (32, .goto 16, 3) rfl) rfl ?_
          exact z_iret (pc := 48) rfl rfl (zdg D_X12_middle 28 (48, .ireturn, 1) rfl) (hP _ _ hf)
      · refine z_iconst (pc := 16) (v := -1) (zdg D_X12_middle 8 (16, .iconst (-1), 1) rfl) rfl ?_
        exact z_iret (pc := 17) rfl rfl (zdg D_X12_middle 9 (17, .ireturn, 1) rfl) (hP _ _ hf)

def L_X12_alikeMost : List (Nat × Instr × Nat) := [(0, .iconst 0, 1), (1, .istore_n 1, 1), (2, .iconst 0, 1), (3, .istore_n 2, 1), (4, .iconst 0, 1), (5, .istore_n 3, 1), (6, .iload_n 3, 1), (7, .aload_n 0, 1), (8, .getfield 399, 3), (11, .if_icmp .ge 44, 3), (14, .iload_n 3, 1), (15, .ifCond .le 26, 3), (18, .aload_n 0, 1), (19, .getfield 48, 3), (22, .iload_n 3, 1), (23, .iaload, 1), (24, .aload_n 0, 1), (25, .getfield 48, 3), (28, .iload_n 3, 1), (29, .iconst 1, 1), (30, .isub, 1), (31, .iaload, 1), (32, .if_icmp .ne 9, 3), (35, .iload_n 2, 1), (36, .iconst 1, 1), (37, .iadd, 1), (38, .goto 4, 3), (41, .iconst 1, 1), (42, .istore_n 2, 1), (43, .iload_n 1, 1), (44, .iload_n 2, 1), (45, .invokestatic 293, 3), (48, .istore_n 1, 1), (49, .iinc 3 1, 3), (52, .goto (-46), 3), (55, .iload_n 1, 1), (56, .ireturn, 1)]
set_option maxRecDepth 100000 in
theorem D_X12_alikeMost : zdecs cX12_alikeMost L_X12_alikeMost = true := by decide +kernel
noncomputable def j_X12_alikeMost_41_6 (w1_4 : Int32) (w3_5 : Int32) : Option ((Int32 × Int32 × Int32) ⊕ (Int32)) :=
  some (Sum.inl ((f_X12_greater w1_4 (1 : Int32)), (1 : Int32), (w3_5 + 1)))
noncomputable def b_X12_alikeMost_6 (σ : zG) (v1_1 : Int32) (v2_2 : Int32) (v3_3 : Int32) : Option ((Int32 × Int32 × Int32) ⊕ (Int32)) :=
  if v3_3 < (σ.1 0 0 31) then if 0 < v3_3 then zg (zin v3_3 10) (zg (zin (v3_3 - (1 : Int32)) 10) (if (σ.1 12 0 v3_3.toNatClampNeg) = (σ.1 12 0 (v3_3 - (1 : Int32)).toNatClampNeg) then some (Sum.inl ((f_X12_greater v1_1 (v2_2 + (1 : Int32))), (v2_2 + (1 : Int32)), (v3_3 + 1))) else j_X12_alikeMost_41_6 v1_1 v3_3)) else j_X12_alikeMost_41_6 v1_1 v3_3 else some (Sum.inr v1_1)
noncomputable def f_X12_alikeMost (σ : zG) : Option (Int32) :=
  (zlp (fun q : Int32 × Int32 × Int32 => b_X12_alikeMost_6 σ q.1 q.2.1 q.2.2) ((0 : Int32), (0 : Int32), (0 : Int32))).bind (fun e6 : Int32 => some e6)
set_option maxRecDepth 100000 in
set_option maxHeartbeats 4000000 in
theorem c_X12_alikeMost (l : Launch)  (σ : zG) (q : Int32) (hq : f_X12_alikeMost σ = some q) : zMet l zsyM m_X12_alikeMost yX12_alikeMost [zR 0 0] σ (some (zI q)) σ := by
  refine zEnter [(0, zR 0 0)] (by decide) rfl (fun _ => Nat.le_of_ble_eq_true rfl) (fun _ => rfl) (fun w h => ?_) (fun K hv hs => ?_)
  · exact zokm rfl h
  · have hP : ∀ x, f_X12_alikeMost σ = some x → zKv K = some (zI x) ∧ zKs K = σ := fun x h => by rw [hq] at h; cases h; exact ⟨hv, hs⟩
    have hn : f_X12_alikeMost σ ≠ none := fun z => by rw [hq] at z; cases z
    have hf := f_X12_alikeMost.eq_1 σ
    refine z_iconst (pc := 0) (v := 0) (zdg D_X12_alikeMost 0 (0, .iconst 0, 1) rfl) rfl ?_
    refine z_istore_n (pc := 1) (al' := [(1, zI (0 : Int32)), (0, zR 0 0)]) (zdg D_X12_alikeMost 1 (1, .istore_n 1, 1) rfl) rfl (by decide) rfl ?_
    refine z_iconst (pc := 2) (v := 0) (zdg D_X12_alikeMost 2 (2, .iconst 0, 1) rfl) rfl ?_
    refine z_istore_n (pc := 3) (al' := [(2, zI (0 : Int32)), (1, zI (0 : Int32)), (0, zR 0 0)]) (zdg D_X12_alikeMost 3 (3, .istore_n 2, 1) rfl) rfl (by decide) rfl ?_
    refine z_iconst (pc := 4) (v := 0) (zdg D_X12_alikeMost 4 (4, .iconst 0, 1) rfl) rfl ?_
    refine z_istore_n (pc := 5) (al' := [(3, zI (0 : Int32)), (2, zI (0 : Int32)), (1, zI (0 : Int32)), (0, zR 0 0)]) (zdg D_X12_alikeMost 5 (5, .istore_n 3, 1) rfl) rfl (by decide) rfl ?_
    refine z_sub (al' := [(0, zR 0 0), (1, zI (0 : Int32)), (2, zI (0 : Int32)), (3, zI (0 : Int32))]) [3, 2, 1, 0] rfl ?_
    refine z_loop (f := (fun q : Int32 × Int32 × Int32 => b_X12_alikeMost_6 σ q.1 q.2.1 q.2.2)) (a := ((0 : Int32), (0 : Int32), (0 : Int32))) (fun q : Int32 × Int32 × Int32 => zX zsyM m_X12_alikeMost K 6 [(0, zR 0 0), (1, zI q.1), (2, zI q.2.1), (3, zI q.2.2)] [] σ) (fun e6 : Int32 => zX zsyM m_X12_alikeMost K 55 [(1, zI e6)] [] σ) hn hf ?_ ?_
    · intro e6 hf
      refine z_iload_n (pc := 55) 0 (zdg D_X12_alikeMost 35 (55, .iload_n 1, 1) rfl) rfl rfl ?_
      exact z_iret (pc := 56) rfl rfl (zdg D_X12_alikeMost 36 (56, .ireturn, 1) rfl) (hP _ hf)
    · rintro ⟨v1_1, v2_2, v3_3⟩ hn hi hx
      have hf := b_X12_alikeMost_6.eq_1 σ v1_1 v2_2 v3_3
      have t_41 : ∀ (w1_4 : Int32) (w3_5 : Int32), b_X12_alikeMost_6 σ v1_1 v2_2 v3_3 = j_X12_alikeMost_41_6 w1_4 w3_5 → zX zsyM m_X12_alikeMost K 41 [(0, zR 0 0), (1, zI w1_4), (3, zI w3_5)] [] σ := by
        intro w1_4 w3_5 hf
        replace hf := hf.trans (j_X12_alikeMost_41_6.eq_1 w1_4 w3_5)
        refine z_iconst (pc := 41) (v := 1) (zdg D_X12_alikeMost 27 (41, .iconst 1, 1) rfl) rfl ?_
        refine z_istore_n (pc := 42) (al' := [(2, zI (1 : Int32)), (0, zR 0 0), (1, zI w1_4), (3, zI w3_5)]) (zdg D_X12_alikeMost 28 (42, .istore_n 2, 1) rfl) rfl (by decide) rfl ?_
        refine z_iload_n (pc := 43) 2 (zdg D_X12_alikeMost 29 (43, .iload_n 1, 1) rfl) rfl rfl ?_
        refine z_iload_n (pc := 44) 0 (zdg D_X12_alikeMost 30 (44, .iload_n 2, 1) rfl) rfl rfl ?_
        refine z_callS (pc := 45) (rest := []) (st2 := [zI (f_X12_greater w1_4 (1 : Int32))]) (fun l => c_X12_greater l w1_4 (1 : Int32) σ) zs_X12_greater lm_X12_293 rfl rfl rfl (Nat.le_of_ble_eq_true rfl) ⟨Nat.le_of_ble_eq_true rfl, Nat.le_of_ble_eq_true rfl⟩ (zdg D_X12_alikeMost 31 (45, .invokestatic 293, 3) rfl) ?_
        refine z_istore_n (pc := 48) (al' := [(1, zI (f_X12_greater w1_4 (1 : Int32))), (2, zI (1 : Int32)), (0, zR 0 0), (3, zI w3_5)]) (zdg D_X12_alikeMost 32 (48, .istore_n 1, 1) rfl) rfl (by decide) rfl ?_
        refine z_iinc (pc := 49) (v0 := (w3_5 + 1)) (al' := [(3, zI (w3_5 + 1)), (1, zI (f_X12_greater w1_4 (1 : Int32))), (2, zI (1 : Int32)), (0, zR 0 0)]) 3 (zdg D_X12_alikeMost 33 (49, .iinc 3 1, 3) rfl) rfl rfl (by decide) rfl ?_
        refine z_goto (pc := 52) 6 (zdg D_X12_alikeMost 34 (52, .goto (-46), 3) rfl) rfl ?_
        refine z_sub (al' := [(0, zR 0 0), (1, zI (f_X12_greater w1_4 (1 : Int32))), (2, zI (1 : Int32)), (3, zI (w3_5 + 1))]) [3, 1, 2, 0] rfl ?_
        exact hi ((f_X12_greater w1_4 (1 : Int32)), (1 : Int32), (w3_5 + 1)) hf
      refine z_iload_n (pc := 6) 3 (zdg D_X12_alikeMost 6 (6, .iload_n 3, 1) rfl) rfl rfl ?_
      refine z_aload_n (pc := 7) 0 (zdg D_X12_alikeMost 7 (7, .aload_n 0, 1) rfl) rfl rfl ?_
      refine z_getI (pc := 8) lf_X12_399 rfl rfl (zdg D_X12_alikeMost 8 (8, .getfield 399, 3) rfl) ?_
      refine z_icmp_ge (pc := 11) 55 (zdg D_X12_alikeMost 9 (11, .if_icmp .ge 44, 3) rfl) rfl hf (fun hf => ?_) (fun hf => ?_)
      · refine z_sub (al' := [(1, zI v1_1)]) [1] rfl ?_
        exact hx v1_1 hf
      · refine z_iload_n (pc := 14) 3 (zdg D_X12_alikeMost 10 (14, .iload_n 3, 1) rfl) rfl rfl ?_
        refine z_if_le (pc := 15) 41 (zdg D_X12_alikeMost 11 (15, .ifCond .le 26, 3) rfl) rfl hf (fun hf => ?_) (fun hf => ?_)
        · refine z_sub (al' := [(0, zR 0 0), (1, zI v1_1), (3, zI v3_3)]) [0, 1, 3] rfl ?_
          exact t_41 v1_1 v3_3 hf
        · refine z_aload_n (pc := 18) 0 (zdg D_X12_alikeMost 12 (18, .aload_n 0, 1) rfl) rfl rfl ?_
          refine z_getR (pc := 19) (g := 12) (j := 0) lf_X12_48 rfl rfl rfl (zdg D_X12_alikeMost 13 (19, .getfield 48, 3) rfl) ?_
          refine z_iload_n (pc := 22) 3 (zdg D_X12_alikeMost 14 (22, .iload_n 3, 1) rfl) rfl rfl ?_
          refine z_iald (pc := 23) rfl (fun _ => rfl) (zdg D_X12_alikeMost 15 (23, .iaload, 1) rfl) hn hf (fun hf => ?_)
          refine z_aload_n (pc := 24) 0 (zdg D_X12_alikeMost 16 (24, .aload_n 0, 1) rfl) rfl rfl ?_
          refine z_getR (pc := 25) (g := 12) (j := 0) lf_X12_48 rfl rfl rfl (zdg D_X12_alikeMost 17 (25, .getfield 48, 3) rfl) ?_
          refine z_iload_n (pc := 28) 3 (zdg D_X12_alikeMost 18 (28, .iload_n 3, 1) rfl) rfl rfl ?_
          refine z_iconst (pc := 29) (v := 1) (zdg D_X12_alikeMost 19 (29, .iconst 1, 1) rfl) rfl ?_
          refine z_isub (pc := 30) (zdg D_X12_alikeMost 20 (30, .isub, 1) rfl) ?_
          refine z_iald (pc := 31) rfl (fun _ => rfl) (zdg D_X12_alikeMost 21 (31, .iaload, 1) rfl) hn hf (fun hf => ?_)
          refine z_icmp_ne (pc := 32) 41 (zdg D_X12_alikeMost 22 (32, .if_icmp .ne 9, 3) rfl) rfl hf (fun hf => ?_) (fun hf => ?_)
          · refine z_sub (al' := [(0, zR 0 0), (1, zI v1_1), (3, zI v3_3)]) [0, 1, 3] rfl ?_
            exact t_41 v1_1 v3_3 hf
          · refine z_iload_n (pc := 35) 2 (zdg D_X12_alikeMost 23 (35, .iload_n 2, 1) rfl) rfl rfl ?_
            refine z_iconst (pc := 36) (v := 1) (zdg D_X12_alikeMost 24 (36, .iconst 1, 1) rfl) rfl ?_
            refine z_iadd (pc := 37) (zdg D_X12_alikeMost 25 (37, .iadd, 1) rfl) ?_
            refine z_goto (pc := 38) 42 (zdg D_X12_alikeMost 26 (38, .goto 4, 3) rfl) rfl ?_
            refine z_istore_n (pc := 42) (al' := [(2, zI (v2_2 + (1 : Int32))), (0, zR 0 0), (1, zI v1_1), (3, zI v3_3)]) (zdg D_X12_alikeMost 28 (42, .istore_n 2, 1) rfl) rfl (by decide) rfl ?_
            refine z_iload_n (pc := 43) 2 (zdg D_X12_alikeMost 29 (43, .iload_n 1, 1) rfl) rfl rfl ?_
            refine z_iload_n (pc := 44) 0 (zdg D_X12_alikeMost 30 (44, .iload_n 2, 1) rfl) rfl rfl ?_
            refine z_callS (pc := 45) (rest := []) (st2 := [zI (f_X12_greater v1_1 (v2_2 + (1 : Int32)))]) (fun l => c_X12_greater l v1_1 (v2_2 + (1 : Int32)) σ) zs_X12_greater lm_X12_293 rfl rfl rfl (Nat.le_of_ble_eq_true rfl) ⟨Nat.le_of_ble_eq_true rfl, Nat.le_of_ble_eq_true rfl⟩ (zdg D_X12_alikeMost 31 (45, .invokestatic 293, 3) rfl) ?_
            refine z_istore_n (pc := 48) (al' := [(1, zI (f_X12_greater v1_1 (v2_2 + (1 : Int32)))), (2, zI (v2_2 + (1 : Int32))), (0, zR 0 0), (3, zI v3_3)]) (zdg D_X12_alikeMost 32 (48, .istore_n 1, 1) rfl) rfl (by decide) rfl ?_
            refine z_iinc (pc := 49) (v0 := (v3_3 + 1)) (al' := [(3, zI (v3_3 + 1)), (1, zI (f_X12_greater v1_1 (v2_2 + (1 : Int32)))), (2, zI (v2_2 + (1 : Int32))), (0, zR 0 0)]) 3 (zdg D_X12_alikeMost 33 (49, .iinc 3 1, 3) rfl) rfl rfl (by decide) rfl ?_
            refine z_goto (pc := 52) 6 (zdg D_X12_alikeMost 34 (52, .goto (-46), 3) rfl) rfl ?_
            refine z_sub (al' := [(0, zR 0 0), (1, zI (f_X12_greater v1_1 (v2_2 + (1 : Int32)))), (2, zI (v2_2 + (1 : Int32))), (3, zI (v3_3 + 1))]) [3, 1, 2, 0] rfl ?_
            exact hi ((f_X12_greater v1_1 (v2_2 + (1 : Int32))), (v2_2 + (1 : Int32)), (v3_3 + 1)) hf

def L_X12_sure : List (Nat × Instr × Nat) := [(0, .aload_n 0, 1), (1, .iload_n 1, 1), (2, .invokevirtual 379, 3), (5, .ifCond .eq 13, 3), (8, .iload_n 2, 1), (9, .iconst 1, 1), (10, .bipush 10, 2), (12, .invokestatic 64, 3), (15, .ifCond .ne 7, 3), (18, .ldc2_w 353, 3), (21, .lreturn, 1), (22, .lconst 0, 1), (23, .lstore_n 3, 1), (24, .iconst 0, 1), (25, .istore 5, 2), (27, .iload 5, 2), (29, .bipush 64, 2), (31, .if_icmp .ge 43, 3), (34, .aload_n 0, 1), (35, .iload 5, 2), (37, .invokevirtual 236, 3), (40, .ifCond .ne 6, 3), (43, .goto 25, 3), (46, .aload_n 0, 1), (47, .iload_n 1, 1), (48, .iload 5, 2), (50, .invokevirtual 402, 3), (53, .aload_n 0, 1), (54, .invokevirtual 405, 3), (57, .iload_n 2, 1), (58, .if_icmp .lt 10, 3), (61, .lload_n 3, 1), (62, .lconst 1, 1), (63, .iload 5, 2), (65, .lshl, 1), (66, .lor, 1), (67, .lstore_n 3, 1), (68, .iinc 5 1, 3), (71, .goto (-44), 3), (74, .lload_n 3, 1), (75, .lreturn, 1)]
set_option maxRecDepth 100000 in
theorem D_X12_sure : zdecs cX12_sure L_X12_sure = true := by decide +kernel
noncomputable def b_X12_sure_27 (p1 : Int32) (p2 : Int32) (v3_2 : Int64) (v5_3 : Int32) (s4 : zG) : Option ((Int64 × Int32 × zG) ⊕ (Int64 × zG)) :=
  if v5_3 < (64 : Int32) then (f_X12_isSpot v5_3 s4).bind (fun q5 => if q5 = 0 then some (Sum.inl (v3_2, (v5_3 + 1), s4)) else (f_X12_laysTones p1 v5_3 s4).bind (fun q6 => (f_X12_alikeMost q6).bind (fun q7 => if p2 ≤ q7 then some (Sum.inl ((v3_2 ||| (zlshl (1 : Int64) v5_3)), (v5_3 + 1), q6)) else some (Sum.inl (v3_2, (v5_3 + 1), q6))))) else some (Sum.inr (v3_2, s4))
noncomputable def f_X12_sure (p1 : Int32) (p2 : Int32) (σ : zG) : Option (Int64 × zG) :=
  (f_X12_areShots p1 σ).bind (fun q1 => if q1 = 0 then some ((-1 : Int64), σ) else if (f_X12_isIn p2 (1 : Int32) (10 : Int32)) = 0 then some ((-1 : Int64), σ) else (zlp (fun q : Int64 × Int32 × zG => b_X12_sure_27 p1 p2 q.1 q.2.1 q.2.2) ((0 : Int64), (0 : Int32), σ)).bind (fun e8 : Int64 × zG => some (e8.1, e8.2)))
set_option maxRecDepth 100000 in
set_option maxHeartbeats 4000000 in
theorem c_X12_sure (l : Launch) (p1 : Int32) (p2 : Int32) (σ : zG) (q : Int64 × zG) (hq : f_X12_sure p1 p2 σ = some q) : zMet l zsyM m_X12_sure yX12_sure [zR 0 0, zI p1, zI p2] σ (some (zL q.1)) q.2 := by
  refine zEnter [(0, zR 0 0), (1, zI p1), (2, zI p2)] (by decide) rfl (fun _ => Nat.le_of_ble_eq_true rfl) (fun _ => rfl) (fun w h => ?_) (fun K hv hs => ?_)
  · exact zokm rfl h
  · have hP : ∀ x s, f_X12_sure p1 p2 σ = some (x, s) → zKv K = some (zL x) ∧ zKs K = s := fun x s h => by rw [hq] at h; cases h; exact ⟨hv, hs⟩
    have hn : f_X12_sure p1 p2 σ ≠ none := fun z => by rw [hq] at z; cases z
    have hf := f_X12_sure.eq_1 p1 p2 σ
    refine z_aload_n (pc := 0) 0 (zdg D_X12_sure 0 (0, .aload_n 0, 1) rfl) rfl rfl ?_
    refine z_iload_n (pc := 1) 1 (zdg D_X12_sure 1 (1, .iload_n 1, 1) rfl) rfl rfl ?_
    refine z_bind hn hf (fun q1 hq hf => ?_)
    refine z_callV (pc := 2) (rest := []) (st2 := [zI q1]) (fun l => c_X12_areShots l p1 σ q1 hq) zv_X12_areShots lm_X12_379 rfl rfl rfl rfl rfl rfl (Nat.le_of_ble_eq_true rfl) ⟨Nat.le_of_ble_eq_true rfl, Nat.le_of_ble_eq_true rfl⟩ (zdg D_X12_sure 2 (2, .invokevirtual 379, 3) rfl) ?_
    refine z_if_eq (pc := 5) 18 (zdg D_X12_sure 3 (5, .ifCond .eq 13, 3) rfl) rfl hf (fun hf => ?_) (fun hf => ?_)
    · refine z_ldc2 (pc := 18) lc_X12_353 (zdg D_X12_sure 9 (18, .ldc2_w 353, 3) rfl) ?_
      exact z_lret (pc := 21) rfl (zdg D_X12_sure 10 (21, .lreturn, 1) rfl) (hP _ _ hf)
    · refine z_iload_n (pc := 8) 2 (zdg D_X12_sure 4 (8, .iload_n 2, 1) rfl) rfl rfl ?_
      refine z_iconst (pc := 9) (v := 1) (zdg D_X12_sure 5 (9, .iconst 1, 1) rfl) rfl ?_
      refine z_bipush (pc := 10) (v := 10) (zdg D_X12_sure 6 (10, .bipush 10, 2) rfl) rfl ?_
      refine z_callS (pc := 12) (rest := []) (st2 := [zI (f_X12_isIn p2 (1 : Int32) (10 : Int32))]) (fun l => c_X12_isIn l p2 (1 : Int32) (10 : Int32) σ) zs_X12_isIn lm_X12_64 rfl rfl rfl (Nat.le_of_ble_eq_true rfl) ⟨Nat.le_of_ble_eq_true rfl, Nat.le_of_ble_eq_true rfl⟩ (zdg D_X12_sure 7 (12, .invokestatic 64, 3) rfl) ?_
      refine z_if_ne (pc := 15) 22 (zdg D_X12_sure 8 (15, .ifCond .ne 7, 3) rfl) rfl hf (fun hf => ?_) (fun hf => ?_)
      · refine z_lconst (pc := 22) (v := 0) (zdg D_X12_sure 11 (22, .lconst 0, 1) rfl) rfl ?_
        refine z_lstore_n (pc := 23) (al' := [(3, zL (0 : Int64)), (0, zR 0 0), (1, zI p1), (2, zI p2)]) (zdg D_X12_sure 12 (23, .lstore_n 3, 1) rfl) rfl (by decide) rfl ?_
        refine z_iconst (pc := 24) (v := 0) (zdg D_X12_sure 13 (24, .iconst 0, 1) rfl) rfl ?_
        refine z_istore (pc := 25) (al' := [(5, zI (0 : Int32)), (3, zL (0 : Int64)), (0, zR 0 0), (1, zI p1), (2, zI p2)]) (zdg D_X12_sure 14 (25, .istore 5, 2) rfl) (by decide) rfl ?_
        refine z_sub (al' := [(0, zR 0 0), (1, zI p1), (2, zI p2), (3, zL (0 : Int64)), (5, zI (0 : Int32))]) [2, 3, 4, 1, 0] rfl ?_
        refine z_loop (f := (fun q : Int64 × Int32 × zG => b_X12_sure_27 p1 p2 q.1 q.2.1 q.2.2)) (a := ((0 : Int64), (0 : Int32), σ)) (fun q : Int64 × Int32 × zG => zX zsyM m_X12_sure K 27 [(0, zR 0 0), (1, zI p1), (2, zI p2), (3, zL q.1), (5, zI q.2.1)] [] q.2.2) (fun e8 : Int64 × zG => zX zsyM m_X12_sure K 74 [(3, zL e8.1)] [] e8.2) hn hf ?_ ?_
        · intro e8 hf
          refine z_lload_n (pc := 74) 0 (zdg D_X12_sure 39 (74, .lload_n 3, 1) rfl) rfl rfl ?_
          exact z_lret (pc := 75) rfl (zdg D_X12_sure 40 (75, .lreturn, 1) rfl) (hP _ _ hf)
        · rintro ⟨v3_2, v5_3, s4⟩ hn hi hx
          have hf := b_X12_sure_27.eq_1 p1 p2 v3_2 v5_3 s4
          refine z_iload (pc := 27) 4 (zdg D_X12_sure 15 (27, .iload 5, 2) rfl) rfl ?_
          refine z_bipush (pc := 29) (v := 64) (zdg D_X12_sure 16 (29, .bipush 64, 2) rfl) rfl ?_
          refine z_icmp_ge (pc := 31) 74 (zdg D_X12_sure 17 (31, .if_icmp .ge 43, 3) rfl) rfl hf (fun hf => ?_) (fun hf => ?_)
          · refine z_sub (al' := [(3, zL v3_2)]) [3] rfl ?_
            exact hx (v3_2, s4) hf
          · refine z_aload_n (pc := 34) 0 (zdg D_X12_sure 18 (34, .aload_n 0, 1) rfl) rfl rfl ?_
            refine z_iload (pc := 35) 4 (zdg D_X12_sure 19 (35, .iload 5, 2) rfl) rfl ?_
            refine z_bind hn hf (fun q5 hq hf => ?_)
            refine z_callV (pc := 37) (rest := []) (st2 := [zI q5]) (fun l => c_X12_isSpot l v5_3 s4 q5 hq) zv_X12_isSpot lm_X12_236 rfl rfl rfl rfl rfl rfl (Nat.le_of_ble_eq_true rfl) ⟨Nat.le_of_ble_eq_true rfl, Nat.le_of_ble_eq_true rfl⟩ (zdg D_X12_sure 20 (37, .invokevirtual 236, 3) rfl) ?_
            refine z_if_ne (pc := 40) 46 (zdg D_X12_sure 21 (40, .ifCond .ne 6, 3) rfl) rfl hf (fun hf => ?_) (fun hf => ?_)
            · refine z_aload_n (pc := 46) 0 (zdg D_X12_sure 23 (46, .aload_n 0, 1) rfl) rfl rfl ?_
              refine z_iload_n (pc := 47) 1 (zdg D_X12_sure 24 (47, .iload_n 1, 1) rfl) rfl rfl ?_
              refine z_iload (pc := 48) 4 (zdg D_X12_sure 25 (48, .iload 5, 2) rfl) rfl ?_
              refine z_bind hn hf (fun q6 hq hf => ?_)
              refine z_callV (pc := 50) (rest := []) (st2 := []) (fun l => c_X12_laysTones l p1 v5_3 s4 q6 hq) zv_X12_laysTones lm_X12_402 rfl rfl rfl rfl rfl rfl (Nat.le_of_ble_eq_true rfl) ⟨Nat.le_of_ble_eq_true rfl, Nat.le_of_ble_eq_true rfl⟩ (zdg D_X12_sure 26 (50, .invokevirtual 402, 3) rfl) ?_
              refine z_aload_n (pc := 53) 0 (zdg D_X12_sure 27 (53, .aload_n 0, 1) rfl) rfl rfl ?_
              refine z_bind hn hf (fun q7 hq hf => ?_)
              refine z_callV (pc := 54) (rest := []) (st2 := [zI q7]) (fun l => c_X12_alikeMost l q6 q7 hq) zv_X12_alikeMost lm_X12_405 rfl rfl rfl rfl rfl rfl (Nat.le_of_ble_eq_true rfl) ⟨Nat.le_of_ble_eq_true rfl, Nat.le_of_ble_eq_true rfl⟩ (zdg D_X12_sure 28 (54, .invokevirtual 405, 3) rfl) ?_
              refine z_iload_n (pc := 57) 2 (zdg D_X12_sure 29 (57, .iload_n 2, 1) rfl) rfl rfl ?_
              refine z_icmp_lt (pc := 58) 68 (zdg D_X12_sure 30 (58, .if_icmp .lt 10, 3) rfl) rfl hf (fun hf => ?_) (fun hf => ?_)
              · refine z_iinc (pc := 68) (v0 := (v5_3 + 1)) (al' := [(5, zI (v5_3 + 1)), (0, zR 0 0), (1, zI p1), (2, zI p2), (3, zL v3_2)]) 4 (zdg D_X12_sure 37 (68, .iinc 5 1, 3) rfl) rfl rfl (by decide) rfl ?_
                refine z_goto (pc := 71) 27 (zdg D_X12_sure 38 (71, .goto (-44), 3) rfl) rfl ?_
                refine z_sub (al' := [(0, zR 0 0), (1, zI p1), (2, zI p2), (3, zL v3_2), (5, zI (v5_3 + 1))]) [1, 2, 3, 4, 0] rfl ?_
                exact hi (v3_2, (v5_3 + 1), q6) hf
              · refine z_lload_n (pc := 61) 3 (zdg D_X12_sure 31 (61, .lload_n 3, 1) rfl) rfl rfl ?_
                refine z_lconst (pc := 62) (v := 1) (zdg D_X12_sure 32 (62, .lconst 1, 1) rfl) rfl ?_
                refine z_iload (pc := 63) 4 (zdg D_X12_sure 33 (63, .iload 5, 2) rfl) rfl ?_
                refine z_lshl (pc := 65) (zdg D_X12_sure 34 (65, .lshl, 1) rfl) ?_
                refine z_lor (pc := 66) (zdg D_X12_sure 35 (66, .lor, 1) rfl) ?_
                refine z_lstore_n (pc := 67) (al' := [(3, zL (v3_2 ||| (zlshl (1 : Int64) v5_3))), (0, zR 0 0), (1, zI p1), (2, zI p2), (5, zI v5_3)]) (zdg D_X12_sure 36 (67, .lstore_n 3, 1) rfl) rfl (by decide) rfl ?_
                refine z_iinc (pc := 68) (v0 := (v5_3 + 1)) (al' := [(5, zI (v5_3 + 1)), (3, zL (v3_2 ||| (zlshl (1 : Int64) v5_3))), (0, zR 0 0), (1, zI p1), (2, zI p2)]) 4 (zdg D_X12_sure 37 (68, .iinc 5 1, 3) rfl) rfl rfl (by decide) rfl ?_
                refine z_goto (pc := 71) 27 (zdg D_X12_sure 38 (71, .goto (-44), 3) rfl) rfl ?_
                refine z_sub (al' := [(0, zR 0 0), (1, zI p1), (2, zI p2), (3, zL (v3_2 ||| (zlshl (1 : Int64) v5_3))), (5, zI (v5_3 + 1))]) [2, 3, 4, 1, 0] rfl ?_
                exact hi ((v3_2 ||| (zlshl (1 : Int64) v5_3)), (v5_3 + 1), q6) hf
            · refine z_goto (pc := 43) 68 (zdg D_X12_sure 22 (43, .goto 25, 3) rfl) rfl ?_
              refine z_iinc (pc := 68) (v0 := (v5_3 + 1)) (al' := [(5, zI (v5_3 + 1)), (0, zR 0 0), (1, zI p1), (2, zI p2), (3, zL v3_2)]) 4 (zdg D_X12_sure 37 (68, .iinc 5 1, 3) rfl) rfl rfl (by decide) rfl ?_
              refine z_goto (pc := 71) 27 (zdg D_X12_sure 38 (71, .goto (-44), 3) rfl) rfl ?_
              refine z_sub (al' := [(0, zR 0 0), (1, zI p1), (2, zI p2), (3, zL v3_2), (5, zI (v5_3 + 1))]) [1, 2, 3, 4, 0] rfl ?_
              exact hi (v3_2, (v5_3 + 1), s4) hf
      · refine z_ldc2 (pc := 18) lc_X12_353 (zdg D_X12_sure 9 (18, .ldc2_w 353, 3) rfl) ?_
        exact z_lret (pc := 21) rfl (zdg D_X12_sure 10 (21, .lreturn, 1) rfl) (hP _ _ hf)

def L_X12_coveredMany : List (Nat × Instr × Nat) := [(0, .iconst 0, 1), (1, .istore 4, 2), (3, .iload_n 2, 1), (4, .istore 5, 2), (6, .iload 5, 2), (8, .iload_n 3, 1), (9, .if_icmp .gt 29, 3), (12, .iload 4, 2), (14, .aload_n 0, 1), (15, .iload_n 1, 1), (16, .iload 5, 2), (18, .invokevirtual 323, 3), (21, .ifCond .eq 7, 3), (24, .iconst 1, 1), (25, .goto 4, 3), (28, .iconst 0, 1), (29, .iadd, 1), (30, .istore 4, 2), (32, .iinc 5 1, 3), (35, .goto (-29), 3), (38, .iload 4, 2), (40, .ireturn, 1)]
set_option maxRecDepth 100000 in
theorem D_X12_coveredMany : zdecs cX12_coveredMany L_X12_coveredMany = true := by decide +kernel
noncomputable def b_X12_coveredMany_6 (p3 : Int32) (p1 : Int32) (σ : zG) (v4_1 : Int32) (v5_2 : Int32) : Option ((Int32 × Int32) ⊕ (Int32)) :=
  if v5_2 ≤ p3 then (f_X12_isCovered p1 v5_2 σ).bind (fun q3 => if q3 = 0 then some (Sum.inl ((v4_1 + (0 : Int32)), (v5_2 + 1))) else some (Sum.inl ((v4_1 + (1 : Int32)), (v5_2 + 1)))) else some (Sum.inr v4_1)
noncomputable def f_X12_coveredMany (p1 : Int32) (p2 : Int32) (p3 : Int32) (σ : zG) : Option (Int32) :=
  (zlp (fun q : Int32 × Int32 => b_X12_coveredMany_6 p3 p1 σ q.1 q.2) ((0 : Int32), p2)).bind (fun e4 : Int32 => some e4)
set_option maxRecDepth 100000 in
set_option maxHeartbeats 4000000 in
theorem c_X12_coveredMany (l : Launch) (p1 : Int32) (p2 : Int32) (p3 : Int32) (σ : zG) (q : Int32) (hq : f_X12_coveredMany p1 p2 p3 σ = some q) : zMet l zsyM m_X12_coveredMany yX12_coveredMany [zR 0 0, zI p1, zI p2, zI p3] σ (some (zI q)) σ := by
  refine zEnter [(0, zR 0 0), (1, zI p1), (2, zI p2), (3, zI p3)] (by decide) rfl (fun _ => Nat.le_of_ble_eq_true rfl) (fun _ => rfl) (fun w h => ?_) (fun K hv hs => ?_)
  · exact zokm rfl h
  · have hP : ∀ x, f_X12_coveredMany p1 p2 p3 σ = some x → zKv K = some (zI x) ∧ zKs K = σ := fun x h => by rw [hq] at h; cases h; exact ⟨hv, hs⟩
    have hn : f_X12_coveredMany p1 p2 p3 σ ≠ none := fun z => by rw [hq] at z; cases z
    have hf := f_X12_coveredMany.eq_1 p1 p2 p3 σ
    refine z_iconst (pc := 0) (v := 0) (zdg D_X12_coveredMany 0 (0, .iconst 0, 1) rfl) rfl ?_
    refine z_istore (pc := 1) (al' := [(4, zI (0 : Int32)), (0, zR 0 0), (1, zI p1), (2, zI p2), (3, zI p3)]) (zdg D_X12_coveredMany 1 (1, .istore 4, 2) rfl) (by decide) rfl ?_
    refine z_iload_n (pc := 3) 3 (zdg D_X12_coveredMany 2 (3, .iload_n 2, 1) rfl) rfl rfl ?_
    refine z_istore (pc := 4) (al' := [(5, zI p2), (4, zI (0 : Int32)), (0, zR 0 0), (1, zI p1), (2, zI p2), (3, zI p3)]) (zdg D_X12_coveredMany 3 (4, .istore 5, 2) rfl) (by decide) rfl ?_
    refine z_sub (al' := [(0, zR 0 0), (1, zI p1), (3, zI p3), (4, zI (0 : Int32)), (5, zI p2)]) [2, 3, 5, 1, 0] rfl ?_
    refine z_loop (f := (fun q : Int32 × Int32 => b_X12_coveredMany_6 p3 p1 σ q.1 q.2)) (a := ((0 : Int32), p2)) (fun q : Int32 × Int32 => zX zsyM m_X12_coveredMany K 6 [(0, zR 0 0), (1, zI p1), (3, zI p3), (4, zI q.1), (5, zI q.2)] [] σ) (fun e4 : Int32 => zX zsyM m_X12_coveredMany K 38 [(4, zI e4)] [] σ) hn hf ?_ ?_
    · intro e4 hf
      refine z_iload (pc := 38) 0 (zdg D_X12_coveredMany 20 (38, .iload 4, 2) rfl) rfl ?_
      exact z_iret (pc := 40) rfl rfl (zdg D_X12_coveredMany 21 (40, .ireturn, 1) rfl) (hP _ hf)
    · rintro ⟨v4_1, v5_2⟩ hn hi hx
      have hf := b_X12_coveredMany_6.eq_1 p3 p1 σ v4_1 v5_2
      refine z_iload (pc := 6) 4 (zdg D_X12_coveredMany 4 (6, .iload 5, 2) rfl) rfl ?_
      refine z_iload_n (pc := 8) 2 (zdg D_X12_coveredMany 5 (8, .iload_n 3, 1) rfl) rfl rfl ?_
      refine z_icmp_gt (pc := 9) 38 (zdg D_X12_coveredMany 6 (9, .if_icmp .gt 29, 3) rfl) rfl hf (fun hf => ?_) (fun hf => ?_)
      · refine z_sub (al' := [(4, zI v4_1)]) [3] rfl ?_
        exact hx v4_1 hf
      · refine z_iload (pc := 12) 3 (zdg D_X12_coveredMany 7 (12, .iload 4, 2) rfl) rfl ?_
        refine z_aload_n (pc := 14) 0 (zdg D_X12_coveredMany 8 (14, .aload_n 0, 1) rfl) rfl rfl ?_
        refine z_iload_n (pc := 15) 1 (zdg D_X12_coveredMany 9 (15, .iload_n 1, 1) rfl) rfl rfl ?_
        refine z_iload (pc := 16) 4 (zdg D_X12_coveredMany 10 (16, .iload 5, 2) rfl) rfl ?_
        refine z_bind hn hf (fun q3 hq hf => ?_)
        refine z_callV (pc := 18) (rest := [zI v4_1]) (st2 := [zI q3, zI v4_1]) (fun l => c_X12_isCovered l p1 v5_2 σ q3 hq) zv_X12_isCovered lm_X12_323 rfl rfl rfl rfl rfl rfl (Nat.le_of_ble_eq_true rfl) ⟨Nat.le_of_ble_eq_true rfl, Nat.le_of_ble_eq_true rfl⟩ (zdg D_X12_coveredMany 11 (18, .invokevirtual 323, 3) rfl) ?_
        refine z_if_eq (pc := 21) 28 (zdg D_X12_coveredMany 12 (21, .ifCond .eq 7, 3) rfl) rfl hf (fun hf => ?_) (fun hf => ?_)
        · refine z_iconst (pc := 28) (v := 0) (zdg D_X12_coveredMany 15 (28, .iconst 0, 1) rfl) rfl ?_
          refine z_iadd (pc := 29) (zdg D_X12_coveredMany 16 (29, .iadd, 1) rfl) ?_
          refine z_istore (pc := 30) (al' := [(4, zI (v4_1 + (0 : Int32))), (0, zR 0 0), (1, zI p1), (3, zI p3), (5, zI v5_2)]) (zdg D_X12_coveredMany 17 (30, .istore 4, 2) rfl) (by decide) rfl ?_
          refine z_iinc (pc := 32) (v0 := (v5_2 + 1)) (al' := [(5, zI (v5_2 + 1)), (4, zI (v4_1 + (0 : Int32))), (0, zR 0 0), (1, zI p1), (3, zI p3)]) 4 (zdg D_X12_coveredMany 18 (32, .iinc 5 1, 3) rfl) rfl rfl (by decide) rfl ?_
          refine z_goto (pc := 35) 6 (zdg D_X12_coveredMany 19 (35, .goto (-29), 3) rfl) rfl ?_
          refine z_sub (al' := [(0, zR 0 0), (1, zI p1), (3, zI p3), (4, zI (v4_1 + (0 : Int32))), (5, zI (v5_2 + 1))]) [2, 3, 4, 1, 0] rfl ?_
          exact hi ((v4_1 + (0 : Int32)), (v5_2 + 1)) hf
        · refine z_iconst (pc := 24) (v := 1) (zdg D_X12_coveredMany 13 (24, .iconst 1, 1) rfl) rfl ?_
          refine z_goto (pc := 25) 29 (zdg D_X12_coveredMany 14 (25, .goto 4, 3) rfl) rfl ?_
          refine z_iadd (pc := 29) (zdg D_X12_coveredMany 16 (29, .iadd, 1) rfl) ?_
          refine z_istore (pc := 30) (al' := [(4, zI (v4_1 + (1 : Int32))), (0, zR 0 0), (1, zI p1), (3, zI p3), (5, zI v5_2)]) (zdg D_X12_coveredMany 17 (30, .istore 4, 2) rfl) (by decide) rfl ?_
          refine z_iinc (pc := 32) (v0 := (v5_2 + 1)) (al' := [(5, zI (v5_2 + 1)), (4, zI (v4_1 + (1 : Int32))), (0, zR 0 0), (1, zI p1), (3, zI p3)]) 4 (zdg D_X12_coveredMany 18 (32, .iinc 5 1, 3) rfl) rfl rfl (by decide) rfl ?_
          refine z_goto (pc := 35) 6 (zdg D_X12_coveredMany 19 (35, .goto (-29), 3) rfl) rfl ?_
          refine z_sub (al' := [(0, zR 0 0), (1, zI p1), (3, zI p3), (4, zI (v4_1 + (1 : Int32))), (5, zI (v5_2 + 1))]) [2, 3, 4, 1, 0] rfl ?_
          exact hi ((v4_1 + (1 : Int32)), (v5_2 + 1)) hf

def L_X12_exposed : List (Nat × Instr × Nat) := [(0, .iload_n 1, 1), (1, .iload_n 2, 1), (2, .invokestatic 373, 3), (5, .ifCond .eq 21, 3), (8, .aload_n 0, 1), (9, .iload_n 3, 1), (10, .invokevirtual 236, 3), (13, .ifCond .eq 13, 3), (16, .iload 4, 2), (18, .iconst 0, 1), (19, .iconst 1, 1), (20, .invokestatic 64, 3), (23, .ifCond .ne 5, 3), (26, .iconst (-1), 1), (27, .ireturn, 1), (28, .iload 4, 2), (30, .ifCond .ne 11, 3), (33, .aload_n 0, 1), (34, .iload_n 3, 1), (35, .iload_n 1, 1), (36, .iload_n 2, 1), (37, .invokevirtual 408, 3), (40, .ireturn, 1), (41, .iconst 0, 1), (42, .istore 5, 2), (44, .iload_n 1, 1), (45, .istore 6, 2), (47, .iload 6, 2), (49, .iload_n 2, 1), (50, .if_icmp .gt 21, 3), (53, .iload 5, 2), (55, .aload_n 0, 1), (56, .iload_n 3, 1), (57, .iload 6, 2), (59, .invokevirtual 341, 3), (62, .iadd, 1), (63, .istore 5, 2), (65, .iinc 6 1, 3), (68, .goto (-21), 3), (71, .iload 5, 2), (73, .iload_n 2, 1), (74, .iload_n 1, 1), (75, .isub, 1), (76, .iconst 1, 1), (77, .iadd, 1), (78, .idiv, 1), (79, .ireturn, 1)]
set_option maxRecDepth 100000 in
theorem D_X12_exposed : zdecs cX12_exposed L_X12_exposed = true := by decide +kernel
noncomputable def b_X12_exposed_47 (p2 : Int32) (p3 : Int32) (v5_2 : Int32) (v6_3 : Int32) (s4 : zG) : Option ((Int32 × Int32 × zG) ⊕ (Int32 × zG)) :=
  if v6_3 ≤ p2 then (f_X12_toneOf p3 v6_3 s4).bind (fun q5 => some (Sum.inl ((v5_2 + q5.1), (v6_3 + 1), q5.2))) else some (Sum.inr (v5_2, s4))
noncomputable def f_X12_exposed (p1 : Int32) (p2 : Int32) (p3 : Int32) (p4 : Int32) (σ : zG) : Option (Int32 × zG) :=
  if (f_X12_areMinutes p1 p2) = 0 then some ((-1 : Int32), σ) else (f_X12_isSpot p3 σ).bind (fun q1 => if q1 = 0 then some ((-1 : Int32), σ) else if (f_X12_isIn p4 (0 : Int32) (1 : Int32)) = 0 then some ((-1 : Int32), σ) else if p4 = 0 then (f_X12_coveredMany p3 p1 p2 σ).bind (fun q7 => some (q7, σ)) else (zlp (fun q : Int32 × Int32 × zG => b_X12_exposed_47 p2 p3 q.1 q.2.1 q.2.2) ((0 : Int32), p1, σ)).bind (fun e6 : Int32 × zG => zg (((p2 - p1) + (1 : Int32)) != 0) (some ((e6.1 / ((p2 - p1) + (1 : Int32))), e6.2))))
set_option maxRecDepth 100000 in
set_option maxHeartbeats 4000000 in
theorem c_X12_exposed (l : Launch) (p1 : Int32) (p2 : Int32) (p3 : Int32) (p4 : Int32) (σ : zG) (q : Int32 × zG) (hq : f_X12_exposed p1 p2 p3 p4 σ = some q) : zMet l zsyM m_X12_exposed yX12_exposed [zR 0 0, zI p1, zI p2, zI p3, zI p4] σ (some (zI q.1)) q.2 := by
  refine zEnter [(0, zR 0 0), (1, zI p1), (2, zI p2), (3, zI p3), (4, zI p4)] (by decide) rfl (fun _ => Nat.le_of_ble_eq_true rfl) (fun _ => rfl) (fun w h => ?_) (fun K hv hs => ?_)
  · exact zokm rfl h
  · have hP : ∀ x s, f_X12_exposed p1 p2 p3 p4 σ = some (x, s) → zKv K = some (zI x) ∧ zKs K = s := fun x s h => by rw [hq] at h; cases h; exact ⟨hv, hs⟩
    have hn : f_X12_exposed p1 p2 p3 p4 σ ≠ none := fun z => by rw [hq] at z; cases z
    have hf := f_X12_exposed.eq_1 p1 p2 p3 p4 σ
    refine z_iload_n (pc := 0) 1 (zdg D_X12_exposed 0 (0, .iload_n 1, 1) rfl) rfl rfl ?_
    refine z_iload_n (pc := 1) 2 (zdg D_X12_exposed 1 (1, .iload_n 2, 1) rfl) rfl rfl ?_
    refine z_callS (pc := 2) (rest := []) (st2 := [zI (f_X12_areMinutes p1 p2)]) (fun l => c_X12_areMinutes l p1 p2 σ) zs_X12_areMinutes lm_X12_373 rfl rfl rfl (Nat.le_of_ble_eq_true rfl) ⟨Nat.le_of_ble_eq_true rfl, Nat.le_of_ble_eq_true rfl⟩ (zdg D_X12_exposed 2 (2, .invokestatic 373, 3) rfl) ?_
    refine z_if_eq (pc := 5) 26 (zdg D_X12_exposed 3 (5, .ifCond .eq 21, 3) rfl) rfl hf (fun hf => ?_) (fun hf => ?_)
    · refine z_iconst (pc := 26) (v := -1) (zdg D_X12_exposed 13 (26, .iconst (-1), 1) rfl) rfl ?_
      exact z_iret (pc := 27) rfl rfl (zdg D_X12_exposed 14 (27, .ireturn, 1) rfl) (hP _ _ hf)
    · refine z_aload_n (pc := 8) 0 (zdg D_X12_exposed 4 (8, .aload_n 0, 1) rfl) rfl rfl ?_
      refine z_iload_n (pc := 9) 3 (zdg D_X12_exposed 5 (9, .iload_n 3, 1) rfl) rfl rfl ?_
      refine z_bind hn hf (fun q1 hq hf => ?_)
      refine z_callV (pc := 10) (rest := []) (st2 := [zI q1]) (fun l => c_X12_isSpot l p3 σ q1 hq) zv_X12_isSpot lm_X12_236 rfl rfl rfl rfl rfl rfl (Nat.le_of_ble_eq_true rfl) ⟨Nat.le_of_ble_eq_true rfl, Nat.le_of_ble_eq_true rfl⟩ (zdg D_X12_exposed 6 (10, .invokevirtual 236, 3) rfl) ?_
      refine z_if_eq (pc := 13) 26 (zdg D_X12_exposed 7 (13, .ifCond .eq 13, 3) rfl) rfl hf (fun hf => ?_) (fun hf => ?_)
      · refine z_iconst (pc := 26) (v := -1) (zdg D_X12_exposed 13 (26, .iconst (-1), 1) rfl) rfl ?_
        exact z_iret (pc := 27) rfl rfl (zdg D_X12_exposed 14 (27, .ireturn, 1) rfl) (hP _ _ hf)
      · refine z_iload (pc := 16) 4 (zdg D_X12_exposed 8 (16, .iload 4, 2) rfl) rfl ?_
        refine z_iconst (pc := 18) (v := 0) (zdg D_X12_exposed 9 (18, .iconst 0, 1) rfl) rfl ?_
        refine z_iconst (pc := 19) (v := 1) (zdg D_X12_exposed 10 (19, .iconst 1, 1) rfl) rfl ?_
        refine z_callS (pc := 20) (rest := []) (st2 := [zI (f_X12_isIn p4 (0 : Int32) (1 : Int32))]) (fun l => c_X12_isIn l p4 (0 : Int32) (1 : Int32) σ) zs_X12_isIn lm_X12_64 rfl rfl rfl (Nat.le_of_ble_eq_true rfl) ⟨Nat.le_of_ble_eq_true rfl, Nat.le_of_ble_eq_true rfl⟩ (zdg D_X12_exposed 11 (20, .invokestatic 64, 3) rfl) ?_
        refine z_if_ne (pc := 23) 28 (zdg D_X12_exposed 12 (23, .ifCond .ne 5, 3) rfl) rfl hf (fun hf => ?_) (fun hf => ?_)
        · refine z_iload (pc := 28) 4 (zdg D_X12_exposed 15 (28, .iload 4, 2) rfl) rfl ?_
          refine z_if_ne (pc := 30) 41 (zdg D_X12_exposed 16 (30, .ifCond .ne 11, 3) rfl) rfl hf (fun hf => ?_) (fun hf => ?_)
          · refine z_iconst (pc := 41) (v := 0) (zdg D_X12_exposed 23 (41, .iconst 0, 1) rfl) rfl ?_
            refine z_istore (pc := 42) (al' := [(5, zI (0 : Int32)), (0, zR 0 0), (1, zI p1), (2, zI p2), (3, zI p3), (4, zI p4)]) (zdg D_X12_exposed 24 (42, .istore 5, 2) rfl) (by decide) rfl ?_
            refine z_iload_n (pc := 44) 2 (zdg D_X12_exposed 25 (44, .iload_n 1, 1) rfl) rfl rfl ?_
            refine z_istore (pc := 45) (al' := [(6, zI p1), (5, zI (0 : Int32)), (0, zR 0 0), (1, zI p1), (2, zI p2), (3, zI p3), (4, zI p4)]) (zdg D_X12_exposed 26 (45, .istore 6, 2) rfl) (by decide) rfl ?_
            refine z_sub (al' := [(0, zR 0 0), (1, zI p1), (2, zI p2), (3, zI p3), (5, zI (0 : Int32)), (6, zI p1)]) [2, 3, 4, 5, 1, 0] rfl ?_
            refine z_loop (f := (fun q : Int32 × Int32 × zG => b_X12_exposed_47 p2 p3 q.1 q.2.1 q.2.2)) (a := ((0 : Int32), p1, σ)) (fun q : Int32 × Int32 × zG => zX zsyM m_X12_exposed K 47 [(0, zR 0 0), (1, zI p1), (2, zI p2), (3, zI p3), (5, zI q.1), (6, zI q.2.1)] [] q.2.2) (fun e6 : Int32 × zG => zX zsyM m_X12_exposed K 71 [(1, zI p1), (2, zI p2), (5, zI e6.1)] [] e6.2) hn hf ?_ ?_
            · intro e6 hf
              refine z_iload (pc := 71) 2 (zdg D_X12_exposed 39 (71, .iload 5, 2) rfl) rfl ?_
              refine z_iload_n (pc := 73) 1 (zdg D_X12_exposed 40 (73, .iload_n 2, 1) rfl) rfl rfl ?_
              refine z_iload_n (pc := 74) 0 (zdg D_X12_exposed 41 (74, .iload_n 1, 1) rfl) rfl rfl ?_
              refine z_isub (pc := 75) (zdg D_X12_exposed 42 (75, .isub, 1) rfl) ?_
              refine z_iconst (pc := 76) (v := 1) (zdg D_X12_exposed 43 (76, .iconst 1, 1) rfl) rfl ?_
              refine z_iadd (pc := 77) (zdg D_X12_exposed 44 (77, .iadd, 1) rfl) ?_
              refine z_idiv (pc := 78) (zdg D_X12_exposed 45 (78, .idiv, 1) rfl) hn hf (fun hf => ?_)
              exact z_iret (pc := 79) rfl rfl (zdg D_X12_exposed 46 (79, .ireturn, 1) rfl) (hP _ _ hf)
            · rintro ⟨v5_2, v6_3, s4⟩ hn hi hx
              have hf := b_X12_exposed_47.eq_1 p2 p3 v5_2 v6_3 s4
              refine z_iload (pc := 47) 5 (zdg D_X12_exposed 27 (47, .iload 6, 2) rfl) rfl ?_
              refine z_iload_n (pc := 49) 2 (zdg D_X12_exposed 28 (49, .iload_n 2, 1) rfl) rfl rfl ?_
              refine z_icmp_gt (pc := 50) 71 (zdg D_X12_exposed 29 (50, .if_icmp .gt 21, 3) rfl) rfl hf (fun hf => ?_) (fun hf => ?_)
              · refine z_sub (al' := [(1, zI p1), (2, zI p2), (5, zI v5_2)]) [1, 2, 4] rfl ?_
                exact hx (v5_2, s4) hf
              · refine z_iload (pc := 53) 4 (zdg D_X12_exposed 30 (53, .iload 5, 2) rfl) rfl ?_
                refine z_aload_n (pc := 55) 0 (zdg D_X12_exposed 31 (55, .aload_n 0, 1) rfl) rfl rfl ?_
                refine z_iload_n (pc := 56) 3 (zdg D_X12_exposed 32 (56, .iload_n 3, 1) rfl) rfl rfl ?_
                refine z_iload (pc := 57) 5 (zdg D_X12_exposed 33 (57, .iload 6, 2) rfl) rfl ?_
                refine z_bind hn hf (fun q5 hq hf => ?_)
                refine z_callV (pc := 59) (rest := [zI v5_2]) (st2 := [zI q5.1, zI v5_2]) (fun l => c_X12_toneOf l p3 v6_3 s4 q5 hq) zv_X12_toneOf lm_X12_341 rfl rfl rfl rfl rfl rfl (Nat.le_of_ble_eq_true rfl) ⟨Nat.le_of_ble_eq_true rfl, Nat.le_of_ble_eq_true rfl⟩ (zdg D_X12_exposed 34 (59, .invokevirtual 341, 3) rfl) ?_
                refine z_iadd (pc := 62) (zdg D_X12_exposed 35 (62, .iadd, 1) rfl) ?_
                refine z_istore (pc := 63) (al' := [(5, zI (v5_2 + q5.1)), (0, zR 0 0), (1, zI p1), (2, zI p2), (3, zI p3), (6, zI v6_3)]) (zdg D_X12_exposed 36 (63, .istore 5, 2) rfl) (by decide) rfl ?_
                refine z_iinc (pc := 65) (v0 := (v6_3 + 1)) (al' := [(6, zI (v6_3 + 1)), (5, zI (v5_2 + q5.1)), (0, zR 0 0), (1, zI p1), (2, zI p2), (3, zI p3)]) 5 (zdg D_X12_exposed 37 (65, .iinc 6 1, 3) rfl) rfl rfl (by decide) rfl ?_
                refine z_goto (pc := 68) 47 (zdg D_X12_exposed 38 (68, .goto (-21), 3) rfl) rfl ?_
                refine z_sub (al' := [(0, zR 0 0), (1, zI p1), (2, zI p2), (3, zI p3), (5, zI (v5_2 + q5.1)), (6, zI (v6_3 + 1))]) [2, 3, 4, 5, 1, 0] rfl ?_
                exact hi ((v5_2 + q5.1), (v6_3 + 1), q5.2) hf
          · refine z_aload_n (pc := 33) 0 (zdg D_X12_exposed 17 (33, .aload_n 0, 1) rfl) rfl rfl ?_
            refine z_iload_n (pc := 34) 3 (zdg D_X12_exposed 18 (34, .iload_n 3, 1) rfl) rfl rfl ?_
            refine z_iload_n (pc := 35) 1 (zdg D_X12_exposed 19 (35, .iload_n 1, 1) rfl) rfl rfl ?_
            refine z_iload_n (pc := 36) 2 (zdg D_X12_exposed 20 (36, .iload_n 2, 1) rfl) rfl rfl ?_
            refine z_bind hn hf (fun q7 hq hf => ?_)
            refine z_callV (pc := 37) (rest := []) (st2 := [zI q7]) (fun l => c_X12_coveredMany l p3 p1 p2 σ q7 hq) zv_X12_coveredMany lm_X12_408 rfl rfl rfl rfl rfl rfl (Nat.le_of_ble_eq_true rfl) ⟨Nat.le_of_ble_eq_true rfl, Nat.le_of_ble_eq_true rfl⟩ (zdg D_X12_exposed 21 (37, .invokevirtual 408, 3) rfl) ?_
            exact z_iret (pc := 40) rfl rfl (zdg D_X12_exposed 22 (40, .ireturn, 1) rfl) (hP _ _ hf)
        · refine z_iconst (pc := 26) (v := -1) (zdg D_X12_exposed 13 (26, .iconst (-1), 1) rfl) rfl ?_
          exact z_iret (pc := 27) rfl rfl (zdg D_X12_exposed 14 (27, .ireturn, 1) rfl) (hP _ _ hf)

def L_X12_ghosts : List (Nat × Instr × Nat) := [(0, .iload_n 1, 1), (1, .iload_n 2, 1), (2, .invokestatic 373, 3), (5, .ifCond .ne 7, 3), (8, .ldc2_w 353, 3), (11, .lreturn, 1), (12, .lconst 0, 1), (13, .lstore_n 3, 1), (14, .iconst 0, 1), (15, .istore 5, 2), (17, .iload 5, 2), (19, .bipush 64, 2), (21, .if_icmp .ge 54, 3), (24, .aload_n 0, 1), (25, .iload 5, 2), (27, .invokevirtual 236, 3), (30, .ifCond .eq 39, 3), (33, .aload_n 0, 1), (34, .iload 5, 2), (36, .iload_n 1, 1), (37, .iload_n 2, 1), (38, .invokevirtual 408, 3), (41, .ifCond .le 28, 3), (44, .iconst 2, 1), (45, .aload_n 0, 1), (46, .iload 5, 2), (48, .iload_n 1, 1), (49, .iload_n 2, 1), (50, .invokevirtual 408, 3), (53, .imul, 1), (54, .iload_n 2, 1), (55, .iload_n 1, 1), (56, .isub, 1), (57, .iconst 1, 1), (58, .iadd, 1), (59, .if_icmp .gt 10, 3), (62, .lload_n 3, 1), (63, .lconst 1, 1), (64, .iload 5, 2), (66, .lshl, 1), (67, .lor, 1), (68, .lstore_n 3, 1), (69, .iinc 5 1, 3), (72, .goto (-55), 3), (75, .lload_n 3, 1), (76, .lreturn, 1)]
set_option maxRecDepth 100000 in
theorem D_X12_ghosts : zdecs cX12_ghosts L_X12_ghosts = true := by decide +kernel
noncomputable def b_X12_ghosts_17 (σ : zG) (p1 : Int32) (p2 : Int32) (v3_1 : Int64) (v5_2 : Int32) : Option ((Int64 × Int32) ⊕ (Int64)) :=
  if v5_2 < (64 : Int32) then (f_X12_isSpot v5_2 σ).bind (fun q3 => if q3 = 0 then some (Sum.inl (v3_1, (v5_2 + 1))) else (f_X12_coveredMany v5_2 p1 p2 σ).bind (fun q4 => if 0 < q4 then (f_X12_coveredMany v5_2 p1 p2 σ).bind (fun q5 => if ((2 : Int32) * q5) ≤ ((p2 - p1) + (1 : Int32)) then some (Sum.inl ((v3_1 ||| (zlshl (1 : Int64) v5_2)), (v5_2 + 1))) else some (Sum.inl (v3_1, (v5_2 + 1)))) else some (Sum.inl (v3_1, (v5_2 + 1))))) else some (Sum.inr v3_1)
noncomputable def f_X12_ghosts (p1 : Int32) (p2 : Int32) (σ : zG) : Option (Int64) :=
  if (f_X12_areMinutes p1 p2) = 0 then some (-1 : Int64) else (zlp (fun q : Int64 × Int32 => b_X12_ghosts_17 σ p1 p2 q.1 q.2) ((0 : Int64), (0 : Int32))).bind (fun e6 : Int64 => some e6)
set_option maxRecDepth 100000 in
set_option maxHeartbeats 4000000 in
theorem c_X12_ghosts (l : Launch) (p1 : Int32) (p2 : Int32) (σ : zG) (q : Int64) (hq : f_X12_ghosts p1 p2 σ = some q) : zMet l zsyM m_X12_ghosts yX12_ghosts [zR 0 0, zI p1, zI p2] σ (some (zL q)) σ := by
  refine zEnter [(0, zR 0 0), (1, zI p1), (2, zI p2)] (by decide) rfl (fun _ => Nat.le_of_ble_eq_true rfl) (fun _ => rfl) (fun w h => ?_) (fun K hv hs => ?_)
  · exact zokm rfl h
  · have hP : ∀ x, f_X12_ghosts p1 p2 σ = some x → zKv K = some (zL x) ∧ zKs K = σ := fun x h => by rw [hq] at h; cases h; exact ⟨hv, hs⟩
    have hn : f_X12_ghosts p1 p2 σ ≠ none := fun z => by rw [hq] at z; cases z
    have hf := f_X12_ghosts.eq_1 p1 p2 σ
    refine z_iload_n (pc := 0) 1 (zdg D_X12_ghosts 0 (0, .iload_n 1, 1) rfl) rfl rfl ?_
    refine z_iload_n (pc := 1) 2 (zdg D_X12_ghosts 1 (1, .iload_n 2, 1) rfl) rfl rfl ?_
    refine z_callS (pc := 2) (rest := []) (st2 := [zI (f_X12_areMinutes p1 p2)]) (fun l => c_X12_areMinutes l p1 p2 σ) zs_X12_areMinutes lm_X12_373 rfl rfl rfl (Nat.le_of_ble_eq_true rfl) ⟨Nat.le_of_ble_eq_true rfl, Nat.le_of_ble_eq_true rfl⟩ (zdg D_X12_ghosts 2 (2, .invokestatic 373, 3) rfl) ?_
    refine z_if_ne (pc := 5) 12 (zdg D_X12_ghosts 3 (5, .ifCond .ne 7, 3) rfl) rfl hf (fun hf => ?_) (fun hf => ?_)
    · refine z_lconst (pc := 12) (v := 0) (zdg D_X12_ghosts 6 (12, .lconst 0, 1) rfl) rfl ?_
      refine z_lstore_n (pc := 13) (al' := [(3, zL (0 : Int64)), (0, zR 0 0), (1, zI p1), (2, zI p2)]) (zdg D_X12_ghosts 7 (13, .lstore_n 3, 1) rfl) rfl (by decide) rfl ?_
      refine z_iconst (pc := 14) (v := 0) (zdg D_X12_ghosts 8 (14, .iconst 0, 1) rfl) rfl ?_
      refine z_istore (pc := 15) (al' := [(5, zI (0 : Int32)), (3, zL (0 : Int64)), (0, zR 0 0), (1, zI p1), (2, zI p2)]) (zdg D_X12_ghosts 9 (15, .istore 5, 2) rfl) (by decide) rfl ?_
      refine z_sub (al' := [(0, zR 0 0), (1, zI p1), (2, zI p2), (3, zL (0 : Int64)), (5, zI (0 : Int32))]) [2, 3, 4, 1, 0] rfl ?_
      refine z_loop (f := (fun q : Int64 × Int32 => b_X12_ghosts_17 σ p1 p2 q.1 q.2)) (a := ((0 : Int64), (0 : Int32))) (fun q : Int64 × Int32 => zX zsyM m_X12_ghosts K 17 [(0, zR 0 0), (1, zI p1), (2, zI p2), (3, zL q.1), (5, zI q.2)] [] σ) (fun e6 : Int64 => zX zsyM m_X12_ghosts K 75 [(3, zL e6)] [] σ) hn hf ?_ ?_
      · intro e6 hf
        refine z_lload_n (pc := 75) 0 (zdg D_X12_ghosts 44 (75, .lload_n 3, 1) rfl) rfl rfl ?_
        exact z_lret (pc := 76) rfl (zdg D_X12_ghosts 45 (76, .lreturn, 1) rfl) (hP _ hf)
      · rintro ⟨v3_1, v5_2⟩ hn hi hx
        have hf := b_X12_ghosts_17.eq_1 σ p1 p2 v3_1 v5_2
        refine z_iload (pc := 17) 4 (zdg D_X12_ghosts 10 (17, .iload 5, 2) rfl) rfl ?_
        refine z_bipush (pc := 19) (v := 64) (zdg D_X12_ghosts 11 (19, .bipush 64, 2) rfl) rfl ?_
        refine z_icmp_ge (pc := 21) 75 (zdg D_X12_ghosts 12 (21, .if_icmp .ge 54, 3) rfl) rfl hf (fun hf => ?_) (fun hf => ?_)
        · refine z_sub (al' := [(3, zL v3_1)]) [3] rfl ?_
          exact hx v3_1 hf
        · refine z_aload_n (pc := 24) 0 (zdg D_X12_ghosts 13 (24, .aload_n 0, 1) rfl) rfl rfl ?_
          refine z_iload (pc := 25) 4 (zdg D_X12_ghosts 14 (25, .iload 5, 2) rfl) rfl ?_
          refine z_bind hn hf (fun q3 hq hf => ?_)
          refine z_callV (pc := 27) (rest := []) (st2 := [zI q3]) (fun l => c_X12_isSpot l v5_2 σ q3 hq) zv_X12_isSpot lm_X12_236 rfl rfl rfl rfl rfl rfl (Nat.le_of_ble_eq_true rfl) ⟨Nat.le_of_ble_eq_true rfl, Nat.le_of_ble_eq_true rfl⟩ (zdg D_X12_ghosts 15 (27, .invokevirtual 236, 3) rfl) ?_
          refine z_if_eq (pc := 30) 69 (zdg D_X12_ghosts 16 (30, .ifCond .eq 39, 3) rfl) rfl hf (fun hf => ?_) (fun hf => ?_)
          · refine z_iinc (pc := 69) (v0 := (v5_2 + 1)) (al' := [(5, zI (v5_2 + 1)), (0, zR 0 0), (1, zI p1), (2, zI p2), (3, zL v3_1)]) 4 (zdg D_X12_ghosts 42 (69, .iinc 5 1, 3) rfl) rfl rfl (by decide) rfl ?_
            refine z_goto (pc := 72) 17 (zdg D_X12_ghosts 43 (72, .goto (-55), 3) rfl) rfl ?_
            refine z_sub (al' := [(0, zR 0 0), (1, zI p1), (2, zI p2), (3, zL v3_1), (5, zI (v5_2 + 1))]) [1, 2, 3, 4, 0] rfl ?_
            exact hi (v3_1, (v5_2 + 1)) hf
          · refine z_aload_n (pc := 33) 0 (zdg D_X12_ghosts 17 (33, .aload_n 0, 1) rfl) rfl rfl ?_
            refine z_iload (pc := 34) 4 (zdg D_X12_ghosts 18 (34, .iload 5, 2) rfl) rfl ?_
            refine z_iload_n (pc := 36) 1 (zdg D_X12_ghosts 19 (36, .iload_n 1, 1) rfl) rfl rfl ?_
            refine z_iload_n (pc := 37) 2 (zdg D_X12_ghosts 20 (37, .iload_n 2, 1) rfl) rfl rfl ?_
            refine z_bind hn hf (fun q4 hq hf => ?_)
            refine z_callV (pc := 38) (rest := []) (st2 := [zI q4]) (fun l => c_X12_coveredMany l v5_2 p1 p2 σ q4 hq) zv_X12_coveredMany lm_X12_408 rfl rfl rfl rfl rfl rfl (Nat.le_of_ble_eq_true rfl) ⟨Nat.le_of_ble_eq_true rfl, Nat.le_of_ble_eq_true rfl⟩ (zdg D_X12_ghosts 21 (38, .invokevirtual 408, 3) rfl) ?_
            refine z_if_le (pc := 41) 69 (zdg D_X12_ghosts 22 (41, .ifCond .le 28, 3) rfl) rfl hf (fun hf => ?_) (fun hf => ?_)
            · refine z_iinc (pc := 69) (v0 := (v5_2 + 1)) (al' := [(5, zI (v5_2 + 1)), (0, zR 0 0), (1, zI p1), (2, zI p2), (3, zL v3_1)]) 4 (zdg D_X12_ghosts 42 (69, .iinc 5 1, 3) rfl) rfl rfl (by decide) rfl ?_
              refine z_goto (pc := 72) 17 (zdg D_X12_ghosts 43 (72, .goto (-55), 3) rfl) rfl ?_
              refine z_sub (al' := [(0, zR 0 0), (1, zI p1), (2, zI p2), (3, zL v3_1), (5, zI (v5_2 + 1))]) [1, 2, 3, 4, 0] rfl ?_
              exact hi (v3_1, (v5_2 + 1)) hf
            · refine z_iconst (pc := 44) (v := 2) (zdg D_X12_ghosts 23 (44, .iconst 2, 1) rfl) rfl ?_
              refine z_aload_n (pc := 45) 0 (zdg D_X12_ghosts 24 (45, .aload_n 0, 1) rfl) rfl rfl ?_
              refine z_iload (pc := 46) 4 (zdg D_X12_ghosts 25 (46, .iload 5, 2) rfl) rfl ?_
              refine z_iload_n (pc := 48) 1 (zdg D_X12_ghosts 26 (48, .iload_n 1, 1) rfl) rfl rfl ?_
              refine z_iload_n (pc := 49) 2 (zdg D_X12_ghosts 27 (49, .iload_n 2, 1) rfl) rfl rfl ?_
              refine z_bind hn hf (fun q5 hq hf => ?_)
              refine z_callV (pc := 50) (rest := [zI (2 : Int32)]) (st2 := [zI q5, zI (2 : Int32)]) (fun l => c_X12_coveredMany l v5_2 p1 p2 σ q5 hq) zv_X12_coveredMany lm_X12_408 rfl rfl rfl rfl rfl rfl (Nat.le_of_ble_eq_true rfl) ⟨Nat.le_of_ble_eq_true rfl, Nat.le_of_ble_eq_true rfl⟩ (zdg D_X12_ghosts 28 (50, .invokevirtual 408, 3) rfl) ?_
              refine z_imul (pc := 53) (zdg D_X12_ghosts 29 (53, .imul, 1) rfl) ?_
              refine z_iload_n (pc := 54) 2 (zdg D_X12_ghosts 30 (54, .iload_n 2, 1) rfl) rfl rfl ?_
              refine z_iload_n (pc := 55) 1 (zdg D_X12_ghosts 31 (55, .iload_n 1, 1) rfl) rfl rfl ?_
              refine z_isub (pc := 56) (zdg D_X12_ghosts 32 (56, .isub, 1) rfl) ?_
              refine z_iconst (pc := 57) (v := 1) (zdg D_X12_ghosts 33 (57, .iconst 1, 1) rfl) rfl ?_
              refine z_iadd (pc := 58) (zdg D_X12_ghosts 34 (58, .iadd, 1) rfl) ?_
              refine z_icmp_gt (pc := 59) 69 (zdg D_X12_ghosts 35 (59, .if_icmp .gt 10, 3) rfl) rfl hf (fun hf => ?_) (fun hf => ?_)
              · refine z_iinc (pc := 69) (v0 := (v5_2 + 1)) (al' := [(5, zI (v5_2 + 1)), (0, zR 0 0), (1, zI p1), (2, zI p2), (3, zL v3_1)]) 4 (zdg D_X12_ghosts 42 (69, .iinc 5 1, 3) rfl) rfl rfl (by decide) rfl ?_
                refine z_goto (pc := 72) 17 (zdg D_X12_ghosts 43 (72, .goto (-55), 3) rfl) rfl ?_
                refine z_sub (al' := [(0, zR 0 0), (1, zI p1), (2, zI p2), (3, zL v3_1), (5, zI (v5_2 + 1))]) [1, 2, 3, 4, 0] rfl ?_
                exact hi (v3_1, (v5_2 + 1)) hf
              · refine z_lload_n (pc := 62) 3 (zdg D_X12_ghosts 36 (62, .lload_n 3, 1) rfl) rfl rfl ?_
                refine z_lconst (pc := 63) (v := 1) (zdg D_X12_ghosts 37 (63, .lconst 1, 1) rfl) rfl ?_
                refine z_iload (pc := 64) 4 (zdg D_X12_ghosts 38 (64, .iload 5, 2) rfl) rfl ?_
                refine z_lshl (pc := 66) (zdg D_X12_ghosts 39 (66, .lshl, 1) rfl) ?_
                refine z_lor (pc := 67) (zdg D_X12_ghosts 40 (67, .lor, 1) rfl) ?_
                refine z_lstore_n (pc := 68) (al' := [(3, zL (v3_1 ||| (zlshl (1 : Int64) v5_2))), (0, zR 0 0), (1, zI p1), (2, zI p2), (5, zI v5_2)]) (zdg D_X12_ghosts 41 (68, .lstore_n 3, 1) rfl) rfl (by decide) rfl ?_
                refine z_iinc (pc := 69) (v0 := (v5_2 + 1)) (al' := [(5, zI (v5_2 + 1)), (3, zL (v3_1 ||| (zlshl (1 : Int64) v5_2))), (0, zR 0 0), (1, zI p1), (2, zI p2)]) 4 (zdg D_X12_ghosts 42 (69, .iinc 5 1, 3) rfl) rfl rfl (by decide) rfl ?_
                refine z_goto (pc := 72) 17 (zdg D_X12_ghosts 43 (72, .goto (-55), 3) rfl) rfl ?_
                refine z_sub (al' := [(0, zR 0 0), (1, zI p1), (2, zI p2), (3, zL (v3_1 ||| (zlshl (1 : Int64) v5_2))), (5, zI (v5_2 + 1))]) [2, 3, 4, 1, 0] rfl ?_
                exact hi ((v3_1 ||| (zlshl (1 : Int64) v5_2)), (v5_2 + 1)) hf
    · refine z_ldc2 (pc := 8) lc_X12_353 (zdg D_X12_ghosts 4 (8, .ldc2_w 353, 3) rfl) ?_
      exact z_lret (pc := 11) rfl (zdg D_X12_ghosts 5 (11, .lreturn, 1) rfl) (hP _ hf)

def L_X12_nobody : List (Nat × Instr × Nat) := [(0, .iload_n 1, 1), (1, .iconst 0, 1), (2, .sipush 500, 3), (5, .invokestatic 64, 3), (8, .ifCond .ne 5, 3), (11, .iconst (-1), 1), (12, .ireturn, 1), (13, .ldc_w 411, 3), (16, .istore_n 2, 1), (17, .iconst 0, 1), (18, .istore_n 3, 1), (19, .iload_n 3, 1), (20, .iload_n 1, 1), (21, .if_icmp .ge 27, 3), (24, .iload_n 2, 1), (25, .sipush 1000, 3), (28, .aload_n 0, 1), (29, .getfield 7, 3), (32, .bipush 33, 2), (34, .iaload, 1), (35, .isub, 1), (36, .imul, 1), (37, .sipush 1000, 3), (40, .idiv, 1), (41, .istore_n 2, 1), (42, .iinc 3 1, 3), (45, .goto (-26), 3), (48, .iload_n 2, 1), (49, .ireturn, 1)]
set_option maxRecDepth 100000 in
theorem D_X12_nobody : zdecs cX12_nobody L_X12_nobody = true := by decide +kernel
noncomputable def b_X12_nobody_19 (p1 : Int32) (σ : zG) (v2_1 : Int32) (v3_2 : Int32) : Option ((Int32 × Int32) ⊕ (Int32)) :=
  if v3_2 < p1 then some (Sum.inl (((v2_1 * ((1000 : Int32) - (σ.1 1 0 33))) / (1000 : Int32)), (v3_2 + 1))) else some (Sum.inr v2_1)
noncomputable def f_X12_nobody (p1 : Int32) (σ : zG) : Option (Int32) :=
  if (f_X12_isIn p1 (0 : Int32) (500 : Int32)) = 0 then some (-1 : Int32) else (zlp (fun q : Int32 × Int32 => b_X12_nobody_19 p1 σ q.1 q.2) ((1000000 : Int32), (0 : Int32))).bind (fun e3 : Int32 => some e3)
set_option maxRecDepth 100000 in
set_option maxHeartbeats 4000000 in
theorem c_X12_nobody (l : Launch) (p1 : Int32) (σ : zG) (q : Int32) (hq : f_X12_nobody p1 σ = some q) : zMet l zsyM m_X12_nobody yX12_nobody [zR 0 0, zI p1] σ (some (zI q)) σ := by
  refine zEnter [(0, zR 0 0), (1, zI p1)] (by decide) rfl (fun _ => Nat.le_of_ble_eq_true rfl) (fun _ => rfl) (fun w h => ?_) (fun K hv hs => ?_)
  · exact zokm rfl h
  · have hP : ∀ x, f_X12_nobody p1 σ = some x → zKv K = some (zI x) ∧ zKs K = σ := fun x h => by rw [hq] at h; cases h; exact ⟨hv, hs⟩
    have hn : f_X12_nobody p1 σ ≠ none := fun z => by rw [hq] at z; cases z
    have hf := f_X12_nobody.eq_1 p1 σ
    refine z_iload_n (pc := 0) 1 (zdg D_X12_nobody 0 (0, .iload_n 1, 1) rfl) rfl rfl ?_
    refine z_iconst (pc := 1) (v := 0) (zdg D_X12_nobody 1 (1, .iconst 0, 1) rfl) rfl ?_
    refine z_sipush (pc := 2) (v := 500) (zdg D_X12_nobody 2 (2, .sipush 500, 3) rfl) rfl ?_
    refine z_callS (pc := 5) (rest := []) (st2 := [zI (f_X12_isIn p1 (0 : Int32) (500 : Int32))]) (fun l => c_X12_isIn l p1 (0 : Int32) (500 : Int32) σ) zs_X12_isIn lm_X12_64 rfl rfl rfl (Nat.le_of_ble_eq_true rfl) ⟨Nat.le_of_ble_eq_true rfl, Nat.le_of_ble_eq_true rfl⟩ (zdg D_X12_nobody 3 (5, .invokestatic 64, 3) rfl) ?_
    refine z_if_ne (pc := 8) 13 (zdg D_X12_nobody 4 (8, .ifCond .ne 5, 3) rfl) rfl hf (fun hf => ?_) (fun hf => ?_)
    · refine z_ldcw (pc := 13) lc_X12_411 (zdg D_X12_nobody 7 (13, .ldc_w 411, 3) rfl) ?_
      refine z_istore_n (pc := 16) (al' := [(2, zI (1000000 : Int32)), (0, zR 0 0), (1, zI p1)]) (zdg D_X12_nobody 8 (16, .istore_n 2, 1) rfl) rfl (by decide) rfl ?_
      refine z_iconst (pc := 17) (v := 0) (zdg D_X12_nobody 9 (17, .iconst 0, 1) rfl) rfl ?_
      refine z_istore_n (pc := 18) (al' := [(3, zI (0 : Int32)), (2, zI (1000000 : Int32)), (0, zR 0 0), (1, zI p1)]) (zdg D_X12_nobody 10 (18, .istore_n 3, 1) rfl) rfl (by decide) rfl ?_
      refine z_sub (al' := [(0, zR 0 0), (1, zI p1), (2, zI (1000000 : Int32)), (3, zI (0 : Int32))]) [2, 3, 1, 0] rfl ?_
      refine z_loop (f := (fun q : Int32 × Int32 => b_X12_nobody_19 p1 σ q.1 q.2)) (a := ((1000000 : Int32), (0 : Int32))) (fun q : Int32 × Int32 => zX zsyM m_X12_nobody K 19 [(0, zR 0 0), (1, zI p1), (2, zI q.1), (3, zI q.2)] [] σ) (fun e3 : Int32 => zX zsyM m_X12_nobody K 48 [(2, zI e3)] [] σ) hn hf ?_ ?_
      · intro e3 hf
        refine z_iload_n (pc := 48) 0 (zdg D_X12_nobody 27 (48, .iload_n 2, 1) rfl) rfl rfl ?_
        exact z_iret (pc := 49) rfl rfl (zdg D_X12_nobody 28 (49, .ireturn, 1) rfl) (hP _ hf)
      · rintro ⟨v2_1, v3_2⟩ hn hi hx
        have hf := b_X12_nobody_19.eq_1 p1 σ v2_1 v3_2
        refine z_iload_n (pc := 19) 3 (zdg D_X12_nobody 11 (19, .iload_n 3, 1) rfl) rfl rfl ?_
        refine z_iload_n (pc := 20) 1 (zdg D_X12_nobody 12 (20, .iload_n 1, 1) rfl) rfl rfl ?_
        refine z_icmp_ge (pc := 21) 48 (zdg D_X12_nobody 13 (21, .if_icmp .ge 27, 3) rfl) rfl hf (fun hf => ?_) (fun hf => ?_)
        · refine z_sub (al' := [(2, zI v2_1)]) [2] rfl ?_
          exact hx v2_1 hf
        · refine z_iload_n (pc := 24) 2 (zdg D_X12_nobody 14 (24, .iload_n 2, 1) rfl) rfl rfl ?_
          refine z_sipush (pc := 25) (v := 1000) (zdg D_X12_nobody 15 (25, .sipush 1000, 3) rfl) rfl ?_
          refine z_aload_n (pc := 28) 0 (zdg D_X12_nobody 16 (28, .aload_n 0, 1) rfl) rfl rfl ?_
          refine z_getR (pc := 29) (g := 1) (j := 0) lf_X12_7 rfl rfl rfl (zdg D_X12_nobody 17 (29, .getfield 7, 3) rfl) ?_
          refine z_bipush (pc := 32) (v := 33) (zdg D_X12_nobody 18 (32, .bipush 33, 2) rfl) rfl ?_
          refine z_ialdC (pc := 34) (j := 33) rfl (fun _ => rfl) (zdg D_X12_nobody 19 (34, .iaload, 1) rfl) rfl rfl ?_
          refine z_isub (pc := 35) (zdg D_X12_nobody 20 (35, .isub, 1) rfl) ?_
          refine z_imul (pc := 36) (zdg D_X12_nobody 21 (36, .imul, 1) rfl) ?_
          refine z_sipush (pc := 37) (v := 1000) (zdg D_X12_nobody 22 (37, .sipush 1000, 3) rfl) rfl ?_
          refine z_idivK (pc := 40) (zdg D_X12_nobody 23 (40, .idiv, 1) rfl) rfl ?_
          refine z_istore_n (pc := 41) (al' := [(2, zI ((v2_1 * ((1000 : Int32) - (σ.1 1 0 33))) / (1000 : Int32))), (0, zR 0 0), (1, zI p1), (3, zI v3_2)]) (zdg D_X12_nobody 24 (41, .istore_n 2, 1) rfl) rfl (by decide) rfl ?_
          refine z_iinc (pc := 42) (v0 := (v3_2 + 1)) (al' := [(3, zI (v3_2 + 1)), (2, zI ((v2_1 * ((1000 : Int32) - (σ.1 1 0 33))) / (1000 : Int32))), (0, zR 0 0), (1, zI p1)]) 3 (zdg D_X12_nobody 25 (42, .iinc 3 1, 3) rfl) rfl rfl (by decide) rfl ?_
          refine z_goto (pc := 45) 19 (zdg D_X12_nobody 26 (45, .goto (-26), 3) rfl) rfl ?_
          refine z_sub (al' := [(0, zR 0 0), (1, zI p1), (2, zI ((v2_1 * ((1000 : Int32) - (σ.1 1 0 33))) / (1000 : Int32))), (3, zI (v3_2 + 1))]) [2, 3, 1, 0] rfl ?_
          exact hi (((v2_1 * ((1000 : Int32) - (σ.1 1 0 33))) / (1000 : Int32)), (v3_2 + 1)) hf
    · refine z_iconst (pc := 11) (v := -1) (zdg D_X12_nobody 5 (11, .iconst (-1), 1) rfl) rfl ?_
      exact z_iret (pc := 12) rfl rfl (zdg D_X12_nobody 6 (12, .ireturn, 1) rfl) (hP _ hf)

def L_X12_copies : List (Nat × Instr × Nat) := [(0, .iload_n 1, 1), (1, .iconst 1, 1), (2, .bipush 15, 2), (4, .invokestatic 64, 3), (7, .ifCond .eq 20, 3), (10, .iload_n 1, 1), (11, .iconst 2, 1), (12, .irem, 1), (13, .ifCond .eq 14, 3), (16, .iload_n 2, 1), (17, .iconst 0, 1), (18, .sipush 1000, 3), (21, .invokestatic 64, 3), (24, .ifCond .ne 5, 3), (27, .iconst (-1), 1), (28, .ireturn, 1), (29, .iconst 0, 1), (30, .istore_n 3, 1), (31, .iload_n 3, 1), (32, .iload_n 1, 1), (33, .if_icmp .gt 26, 3), (36, .aload_n 0, 1), (37, .getfield 51, 3), (40, .iload_n 3, 1), (41, .iload_n 3, 1), (42, .ifCond .ne 9, 3), (45, .ldc_w 411, 3), (48, .goto 4, 3), (51, .iconst 0, 1), (52, .iastore, 1), (53, .iinc 3 1, 3), (56, .goto (-25), 3), (59, .iconst 0, 1), (60, .istore_n 3, 1), (61, .iload_n 3, 1), (62, .iload_n 1, 1), (63, .if_icmp .ge 72, 3), (66, .iload_n 1, 1), (67, .istore 4, 2), (69, .iload 4, 2), (71, .ifCond .lt 58, 3), (74, .aload_n 0, 1), (75, .getfield 51, 3), (78, .iload 4, 2), (80, .aload_n 0, 1), (81, .getfield 51, 3), (84, .iload 4, 2), (86, .iaload, 1), (87, .iload_n 2, 1), (88, .imul, 1), (89, .sipush 1000, 3), (92, .idiv, 1), (93, .iload 4, 2), (95, .ifCond .ne 7, 3), (98, .iconst 0, 1), (99, .goto 22, 3), (102, .aload_n 0, 1), (103, .getfield 51, 3), (106, .iload 4, 2), (108, .iconst 1, 1), (109, .isub, 1), (110, .iaload, 1), (111, .sipush 1000, 3), (114, .iload_n 2, 1), (115, .isub, 1), (116, .imul, 1), (117, .sipush 1000, 3), (120, .idiv, 1), (121, .iadd, 1), (122, .iastore, 1), (123, .iinc 4 (-1), 3), (126, .goto (-57), 3), (129, .iinc 3 1, 3), (132, .goto (-71), 3), (135, .iconst 0, 1), (136, .istore_n 3, 1), (137, .iload_n 1, 1), (138, .iconst 2, 1), (139, .idiv, 1), (140, .iconst 1, 1), (141, .iadd, 1), (142, .istore 4, 2), (144, .iload 4, 2), (146, .iload_n 1, 1), (147, .if_icmp .gt 19, 3), (150, .iload_n 3, 1), (151, .aload_n 0, 1), (152, .getfield 51, 3), (155, .iload 4, 2), (157, .iaload, 1), (158, .iadd, 1), (159, .istore_n 3, 1), (160, .iinc 4 1, 3), (163, .goto (-19), 3), (166, .iload_n 3, 1), (167, .ireturn, 1)]
set_option maxRecDepth 100000 in
theorem D_X12_copies : zdecs cX12_copies L_X12_copies = true := by decide +kernel
noncomputable def b_X12_copies_31 (p1 : Int32) (v3_1 : Int32) (s2 : zG) : Option ((Int32 × zG) ⊕ (zG)) :=
  if v3_1 ≤ p1 then if v3_1 = 0 then zg (zin v3_1 17) (zb (zwI s2 13 0 v3_1.toNatClampNeg (1000000 : Int32)) (fun s4 => some (Sum.inl ((v3_1 + 1), s4)))) else zg (zin v3_1 17) (zb (zwI s2 13 0 v3_1.toNatClampNeg (0 : Int32)) (fun s3 => some (Sum.inl ((v3_1 + 1), s3)))) else some (Sum.inr s2)
noncomputable def b_X12_copies_69 (p2 : Int32) (v4_8 : Int32) (s9 : zG) : Option ((Int32 × zG) ⊕ (zG)) :=
  if 0 ≤ v4_8 then zg (zin v4_8 17) (if v4_8 = 0 then zg (zin v4_8 17) (zb (zwI s9 13 0 v4_8.toNatClampNeg ((((s9.1 13 0 v4_8.toNatClampNeg) * p2) / (1000 : Int32)) + (0 : Int32))) (fun s11 => some (Sum.inl ((v4_8 + (-1)), s11)))) else zg (zin (v4_8 - (1 : Int32)) 17) (zg (zin v4_8 17) (zb (zwI s9 13 0 v4_8.toNatClampNeg ((((s9.1 13 0 v4_8.toNatClampNeg) * p2) / (1000 : Int32)) + (((s9.1 13 0 (v4_8 - (1 : Int32)).toNatClampNeg) * ((1000 : Int32) - p2)) / (1000 : Int32)))) (fun s10 => some (Sum.inl ((v4_8 + (-1)), s10)))))) else some (Sum.inr s9)
noncomputable def b_X12_copies_61 (p1 : Int32) (p2 : Int32) (v3_6 : Int32) (s7 : zG) : Option ((Int32 × zG) ⊕ (zG)) :=
  if v3_6 < p1 then (zlp (fun q : Int32 × zG => b_X12_copies_69 p2 q.1 q.2) (p1, s7)).bind (fun e12 : zG => some (Sum.inl ((v3_6 + 1), e12))) else some (Sum.inr s7)
noncomputable def b_X12_copies_144 (p1 : Int32) (e13 : zG) (v3_14 : Int32) (v4_15 : Int32) : Option ((Int32 × Int32) ⊕ (Int32)) :=
  if v4_15 ≤ p1 then zg (zin v4_15 17) (some (Sum.inl ((v3_14 + (e13.1 13 0 v4_15.toNatClampNeg)), (v4_15 + 1)))) else some (Sum.inr v3_14)
noncomputable def f_X12_copies (p1 : Int32) (p2 : Int32) (σ : zG) : Option (Int32 × zG) :=
  if (f_X12_isIn p1 (1 : Int32) (15 : Int32)) = 0 then some ((-1 : Int32), σ) else if (zrem p1 (2 : Int32)) = 0 then some ((-1 : Int32), σ) else if (f_X12_isIn p2 (0 : Int32) (1000 : Int32)) = 0 then some ((-1 : Int32), σ) else (zlp (fun q : Int32 × zG => b_X12_copies_31 p1 q.1 q.2) ((0 : Int32), σ)).bind (fun e5 : zG => (zlp (fun q : Int32 × zG => b_X12_copies_61 p1 p2 q.1 q.2) ((0 : Int32), e5)).bind (fun e13 : zG => (zlp (fun q : Int32 × Int32 => b_X12_copies_144 p1 e13 q.1 q.2) ((0 : Int32), ((p1 / (2 : Int32)) + (1 : Int32)))).bind (fun e16 : Int32 => some (e16, e13))))
set_option maxRecDepth 100000 in
set_option maxHeartbeats 4000000 in
theorem c_X12_copies (l : Launch) (p1 : Int32) (p2 : Int32) (σ : zG) (q : Int32 × zG) (hq : f_X12_copies p1 p2 σ = some q) : zMet l zsyM m_X12_copies yX12_copies [zR 0 0, zI p1, zI p2] σ (some (zI q.1)) q.2 := by
  refine zEnter [(0, zR 0 0), (1, zI p1), (2, zI p2)] (by decide) rfl (fun _ => Nat.le_of_ble_eq_true rfl) (fun _ => rfl) (fun w h => ?_) (fun K hv hs => ?_)
  · exact zokm rfl h
  · have hP : ∀ x s, f_X12_copies p1 p2 σ = some (x, s) → zKv K = some (zI x) ∧ zKs K = s := fun x s h => by rw [hq] at h; cases h; exact ⟨hv, hs⟩
    have hn : f_X12_copies p1 p2 σ ≠ none := fun z => by rw [hq] at z; cases z
    have hf := f_X12_copies.eq_1 p1 p2 σ
    refine z_iload_n (pc := 0) 1 (zdg D_X12_copies 0 (0, .iload_n 1, 1) rfl) rfl rfl ?_
    refine z_iconst (pc := 1) (v := 1) (zdg D_X12_copies 1 (1, .iconst 1, 1) rfl) rfl ?_
    refine z_bipush (pc := 2) (v := 15) (zdg D_X12_copies 2 (2, .bipush 15, 2) rfl) rfl ?_
    refine z_callS (pc := 4) (rest := []) (st2 := [zI (f_X12_isIn p1 (1 : Int32) (15 : Int32))]) (fun l => c_X12_isIn l p1 (1 : Int32) (15 : Int32) σ) zs_X12_isIn lm_X12_64 rfl rfl rfl (Nat.le_of_ble_eq_true rfl) ⟨Nat.le_of_ble_eq_true rfl, Nat.le_of_ble_eq_true rfl⟩ (zdg D_X12_copies 3 (4, .invokestatic 64, 3) rfl) ?_
    refine z_if_eq (pc := 7) 27 (zdg D_X12_copies 4 (7, .ifCond .eq 20, 3) rfl) rfl hf (fun hf => ?_) (fun hf => ?_)
    · refine z_iconst (pc := 27) (v := -1) (zdg D_X12_copies 14 (27, .iconst (-1), 1) rfl) rfl ?_
      exact z_iret (pc := 28) rfl rfl (zdg D_X12_copies 15 (28, .ireturn, 1) rfl) (hP _ _ hf)
    · refine z_iload_n (pc := 10) 1 (zdg D_X12_copies 5 (10, .iload_n 1, 1) rfl) rfl rfl ?_
      refine z_iconst (pc := 11) (v := 2) (zdg D_X12_copies 6 (11, .iconst 2, 1) rfl) rfl ?_
      refine z_iremK (pc := 12) (zdg D_X12_copies 7 (12, .irem, 1) rfl) rfl ?_
      refine z_if_eq (pc := 13) 27 (zdg D_X12_copies 8 (13, .ifCond .eq 14, 3) rfl) rfl hf (fun hf => ?_) (fun hf => ?_)
      · refine z_iconst (pc := 27) (v := -1) (zdg D_X12_copies 14 (27, .iconst (-1), 1) rfl) rfl ?_
        exact z_iret (pc := 28) rfl rfl (zdg D_X12_copies 15 (28, .ireturn, 1) rfl) (hP _ _ hf)
      · refine z_iload_n (pc := 16) 2 (zdg D_X12_copies 9 (16, .iload_n 2, 1) rfl) rfl rfl ?_
        refine z_iconst (pc := 17) (v := 0) (zdg D_X12_copies 10 (17, .iconst 0, 1) rfl) rfl ?_
        refine z_sipush (pc := 18) (v := 1000) (zdg D_X12_copies 11 (18, .sipush 1000, 3) rfl) rfl ?_
        refine z_callS (pc := 21) (rest := []) (st2 := [zI (f_X12_isIn p2 (0 : Int32) (1000 : Int32))]) (fun l => c_X12_isIn l p2 (0 : Int32) (1000 : Int32) σ) zs_X12_isIn lm_X12_64 rfl rfl rfl (Nat.le_of_ble_eq_true rfl) ⟨Nat.le_of_ble_eq_true rfl, Nat.le_of_ble_eq_true rfl⟩ (zdg D_X12_copies 12 (21, .invokestatic 64, 3) rfl) ?_
        refine z_if_ne (pc := 24) 29 (zdg D_X12_copies 13 (24, .ifCond .ne 5, 3) rfl) rfl hf (fun hf => ?_) (fun hf => ?_)
        · refine z_iconst (pc := 29) (v := 0) (zdg D_X12_copies 16 (29, .iconst 0, 1) rfl) rfl ?_
          refine z_istore_n (pc := 30) (al' := [(3, zI (0 : Int32)), (0, zR 0 0), (1, zI p1), (2, zI p2)]) (zdg D_X12_copies 17 (30, .istore_n 3, 1) rfl) rfl (by decide) rfl ?_
          refine z_sub (al' := [(0, zR 0 0), (1, zI p1), (2, zI p2), (3, zI (0 : Int32))]) [1, 2, 3, 0] rfl ?_
          refine z_loop (f := (fun q : Int32 × zG => b_X12_copies_31 p1 q.1 q.2)) (a := ((0 : Int32), σ)) (fun q : Int32 × zG => zX zsyM m_X12_copies K 31 [(0, zR 0 0), (1, zI p1), (2, zI p2), (3, zI q.1)] [] q.2) (fun e5 : zG => zX zsyM m_X12_copies K 59 [(0, zR 0 0), (1, zI p1), (2, zI p2)] [] e5) hn hf ?_ ?_
          · intro e5 hf
            refine z_iconst (pc := 59) (v := 0) (zdg D_X12_copies 32 (59, .iconst 0, 1) rfl) rfl ?_
            refine z_istore_n (pc := 60) (al' := [(3, zI (0 : Int32)), (0, zR 0 0), (1, zI p1), (2, zI p2)]) (zdg D_X12_copies 33 (60, .istore_n 3, 1) rfl) rfl (by decide) rfl ?_
            refine z_sub (al' := [(0, zR 0 0), (1, zI p1), (2, zI p2), (3, zI (0 : Int32))]) [1, 2, 3, 0] rfl ?_
            refine z_loop (f := (fun q : Int32 × zG => b_X12_copies_61 p1 p2 q.1 q.2)) (a := ((0 : Int32), e5)) (fun q : Int32 × zG => zX zsyM m_X12_copies K 61 [(0, zR 0 0), (1, zI p1), (2, zI p2), (3, zI q.1)] [] q.2) (fun e13 : zG => zX zsyM m_X12_copies K 135 [(0, zR 0 0), (1, zI p1)] [] e13) hn hf ?_ ?_
            · intro e13 hf
              refine z_iconst (pc := 135) (v := 0) (zdg D_X12_copies 74 (135, .iconst 0, 1) rfl) rfl ?_
              refine z_istore_n (pc := 136) (al' := [(3, zI (0 : Int32)), (0, zR 0 0), (1, zI p1)]) (zdg D_X12_copies 75 (136, .istore_n 3, 1) rfl) rfl (by decide) rfl ?_
              refine z_iload_n (pc := 137) 2 (zdg D_X12_copies 76 (137, .iload_n 1, 1) rfl) rfl rfl ?_
              refine z_iconst (pc := 138) (v := 2) (zdg D_X12_copies 77 (138, .iconst 2, 1) rfl) rfl ?_
              refine z_idivK (pc := 139) (zdg D_X12_copies 78 (139, .idiv, 1) rfl) rfl ?_
              refine z_iconst (pc := 140) (v := 1) (zdg D_X12_copies 79 (140, .iconst 1, 1) rfl) rfl ?_
              refine z_iadd (pc := 141) (zdg D_X12_copies 80 (141, .iadd, 1) rfl) ?_
              refine z_istore (pc := 142) (al' := [(4, zI ((p1 / (2 : Int32)) + (1 : Int32))), (3, zI (0 : Int32)), (0, zR 0 0), (1, zI p1)]) (zdg D_X12_copies 81 (142, .istore 4, 2) rfl) (by decide) rfl ?_
              refine z_sub (al' := [(0, zR 0 0), (1, zI p1), (3, zI (0 : Int32)), (4, zI ((p1 / (2 : Int32)) + (1 : Int32)))]) [2, 3, 1, 0] rfl ?_
              refine z_loop (f := (fun q : Int32 × Int32 => b_X12_copies_144 p1 e13 q.1 q.2)) (a := ((0 : Int32), ((p1 / (2 : Int32)) + (1 : Int32)))) (fun q : Int32 × Int32 => zX zsyM m_X12_copies K 144 [(0, zR 0 0), (1, zI p1), (3, zI q.1), (4, zI q.2)] [] e13) (fun e16 : Int32 => zX zsyM m_X12_copies K 166 [(3, zI e16)] [] e13) hn hf ?_ ?_
              · intro e16 hf
                refine z_iload_n (pc := 166) 0 (zdg D_X12_copies 94 (166, .iload_n 3, 1) rfl) rfl rfl ?_
                exact z_iret (pc := 167) rfl rfl (zdg D_X12_copies 95 (167, .ireturn, 1) rfl) (hP _ _ hf)
              · rintro ⟨v3_14, v4_15⟩ hn hi hx
                have hf := b_X12_copies_144.eq_1 p1 e13 v3_14 v4_15
                refine z_iload (pc := 144) 3 (zdg D_X12_copies 82 (144, .iload 4, 2) rfl) rfl ?_
                refine z_iload_n (pc := 146) 1 (zdg D_X12_copies 83 (146, .iload_n 1, 1) rfl) rfl rfl ?_
                refine z_icmp_gt (pc := 147) 166 (zdg D_X12_copies 84 (147, .if_icmp .gt 19, 3) rfl) rfl hf (fun hf => ?_) (fun hf => ?_)
                · refine z_sub (al' := [(3, zI v3_14)]) [2] rfl ?_
                  exact hx v3_14 hf
                · refine z_iload_n (pc := 150) 2 (zdg D_X12_copies 85 (150, .iload_n 3, 1) rfl) rfl rfl ?_
                  refine z_aload_n (pc := 151) 0 (zdg D_X12_copies 86 (151, .aload_n 0, 1) rfl) rfl rfl ?_
                  refine z_getR (pc := 152) (g := 13) (j := 0) lf_X12_51 rfl rfl rfl (zdg D_X12_copies 87 (152, .getfield 51, 3) rfl) ?_
                  refine z_iload (pc := 155) 3 (zdg D_X12_copies 88 (155, .iload 4, 2) rfl) rfl ?_
                  refine z_iald (pc := 157) rfl (fun _ => rfl) (zdg D_X12_copies 89 (157, .iaload, 1) rfl) hn hf (fun hf => ?_)
                  refine z_iadd (pc := 158) (zdg D_X12_copies 90 (158, .iadd, 1) rfl) ?_
                  refine z_istore_n (pc := 159) (al' := [(3, zI (v3_14 + (e13.1 13 0 v4_15.toNatClampNeg))), (0, zR 0 0), (1, zI p1), (4, zI v4_15)]) (zdg D_X12_copies 91 (159, .istore_n 3, 1) rfl) rfl (by decide) rfl ?_
                  refine z_iinc (pc := 160) (v0 := (v4_15 + 1)) (al' := [(4, zI (v4_15 + 1)), (3, zI (v3_14 + (e13.1 13 0 v4_15.toNatClampNeg))), (0, zR 0 0), (1, zI p1)]) 3 (zdg D_X12_copies 92 (160, .iinc 4 1, 3) rfl) rfl rfl (by decide) rfl ?_
                  refine z_goto (pc := 163) 144 (zdg D_X12_copies 93 (163, .goto (-19), 3) rfl) rfl ?_
                  refine z_sub (al' := [(0, zR 0 0), (1, zI p1), (3, zI (v3_14 + (e13.1 13 0 v4_15.toNatClampNeg))), (4, zI (v4_15 + 1))]) [2, 3, 1, 0] rfl ?_
                  exact hi ((v3_14 + (e13.1 13 0 v4_15.toNatClampNeg)), (v4_15 + 1)) hf
            · rintro ⟨v3_6, s7⟩ hn hi hx
              have hf := b_X12_copies_61.eq_1 p1 p2 v3_6 s7
              refine z_iload_n (pc := 61) 3 (zdg D_X12_copies 34 (61, .iload_n 3, 1) rfl) rfl rfl ?_
              refine z_iload_n (pc := 62) 1 (zdg D_X12_copies 35 (62, .iload_n 1, 1) rfl) rfl rfl ?_
              refine z_icmp_ge (pc := 63) 135 (zdg D_X12_copies 36 (63, .if_icmp .ge 72, 3) rfl) rfl hf (fun hf => ?_) (fun hf => ?_)
              · refine z_sub (al' := [(0, zR 0 0), (1, zI p1)]) [0, 1] rfl ?_
                exact hx s7 hf
              · refine z_iload_n (pc := 66) 1 (zdg D_X12_copies 37 (66, .iload_n 1, 1) rfl) rfl rfl ?_
                refine z_istore (pc := 67) (al' := [(4, zI p1), (0, zR 0 0), (1, zI p1), (2, zI p2), (3, zI v3_6)]) (zdg D_X12_copies 38 (67, .istore 4, 2) rfl) (by decide) rfl ?_
                refine z_sub (al' := [(0, zR 0 0), (1, zI p1), (2, zI p2), (3, zI v3_6), (4, zI p1)]) [1, 2, 3, 4, 0] rfl ?_
                refine z_loop (f := (fun q : Int32 × zG => b_X12_copies_69 p2 q.1 q.2)) (a := (p1, s7)) (fun q : Int32 × zG => zX zsyM m_X12_copies K 69 [(0, zR 0 0), (1, zI p1), (2, zI p2), (3, zI v3_6), (4, zI q.1)] [] q.2) (fun e12 : zG => zX zsyM m_X12_copies K 129 [(0, zR 0 0), (1, zI p1), (2, zI p2), (3, zI v3_6)] [] e12) hn hf ?_ ?_
                · intro e12 hf
                  refine z_iinc (pc := 129) (v0 := (v3_6 + 1)) (al' := [(3, zI (v3_6 + 1)), (0, zR 0 0), (1, zI p1), (2, zI p2)]) 3 (zdg D_X12_copies 72 (129, .iinc 3 1, 3) rfl) rfl rfl (by decide) rfl ?_
                  refine z_goto (pc := 132) 61 (zdg D_X12_copies 73 (132, .goto (-71), 3) rfl) rfl ?_
                  refine z_sub (al' := [(0, zR 0 0), (1, zI p1), (2, zI p2), (3, zI (v3_6 + 1))]) [1, 2, 3, 0] rfl ?_
                  exact hi ((v3_6 + 1), e12) hf
                · rintro ⟨v4_8, s9⟩ hn hi hx
                  have hf := b_X12_copies_69.eq_1 p2 v4_8 s9
                  refine z_iload (pc := 69) 4 (zdg D_X12_copies 39 (69, .iload 4, 2) rfl) rfl ?_
                  refine z_if_lt (pc := 71) 129 (zdg D_X12_copies 40 (71, .ifCond .lt 58, 3) rfl) rfl hf (fun hf => ?_) (fun hf => ?_)
                  · refine z_sub (al' := [(0, zR 0 0), (1, zI p1), (2, zI p2), (3, zI v3_6)]) [0, 1, 2, 3] rfl ?_
                    exact hx s9 hf
                  · refine z_aload_n (pc := 74) 0 (zdg D_X12_copies 41 (74, .aload_n 0, 1) rfl) rfl rfl ?_
                    refine z_getR (pc := 75) (g := 13) (j := 0) lf_X12_51 rfl rfl rfl (zdg D_X12_copies 42 (75, .getfield 51, 3) rfl) ?_
                    refine z_iload (pc := 78) 4 (zdg D_X12_copies 43 (78, .iload 4, 2) rfl) rfl ?_
                    refine z_aload_n (pc := 80) 0 (zdg D_X12_copies 44 (80, .aload_n 0, 1) rfl) rfl rfl ?_
                    refine z_getR (pc := 81) (g := 13) (j := 0) lf_X12_51 rfl rfl rfl (zdg D_X12_copies 45 (81, .getfield 51, 3) rfl) ?_
                    refine z_iload (pc := 84) 4 (zdg D_X12_copies 46 (84, .iload 4, 2) rfl) rfl ?_
                    refine z_iald (pc := 86) rfl (fun _ => rfl) (zdg D_X12_copies 47 (86, .iaload, 1) rfl) hn hf (fun hf => ?_)
                    refine z_iload_n (pc := 87) 2 (zdg D_X12_copies 48 (87, .iload_n 2, 1) rfl) rfl rfl ?_
                    refine z_imul (pc := 88) (zdg D_X12_copies 49 (88, .imul, 1) rfl) ?_
                    refine z_sipush (pc := 89) (v := 1000) (zdg D_X12_copies 50 (89, .sipush 1000, 3) rfl) rfl ?_
                    refine z_idivK (pc := 92) (zdg D_X12_copies 51 (92, .idiv, 1) rfl) rfl ?_
                    refine z_iload (pc := 93) 4 (zdg D_X12_copies 52 (93, .iload 4, 2) rfl) rfl ?_
                    refine z_if_ne (pc := 95) 102 (zdg D_X12_copies 53 (95, .ifCond .ne 7, 3) rfl) rfl hf (fun hf => ?_) (fun hf => ?_)
                    · refine z_aload_n (pc := 102) 0 (zdg D_X12_copies 56 (102, .aload_n 0, 1) rfl) rfl rfl ?_
                      refine z_getR (pc := 103) (g := 13) (j := 0) lf_X12_51 rfl rfl rfl (zdg D_X12_copies 57 (103, .getfield 51, 3) rfl) ?_
                      refine z_iload (pc := 106) 4 (zdg D_X12_copies 58 (106, .iload 4, 2) rfl) rfl ?_
                      refine z_iconst (pc := 108) (v := 1) (zdg D_X12_copies 59 (108, .iconst 1, 1) rfl) rfl ?_
                      refine z_isub (pc := 109) (zdg D_X12_copies 60 (109, .isub, 1) rfl) ?_
                      refine z_iald (pc := 110) rfl (fun _ => rfl) (zdg D_X12_copies 61 (110, .iaload, 1) rfl) hn hf (fun hf => ?_)
                      refine z_sipush (pc := 111) (v := 1000) (zdg D_X12_copies 62 (111, .sipush 1000, 3) rfl) rfl ?_
                      refine z_iload_n (pc := 114) 2 (zdg D_X12_copies 63 (114, .iload_n 2, 1) rfl) rfl rfl ?_
                      refine z_isub (pc := 115) (zdg D_X12_copies 64 (115, .isub, 1) rfl) ?_
                      refine z_imul (pc := 116) (zdg D_X12_copies 65 (116, .imul, 1) rfl) ?_
                      refine z_sipush (pc := 117) (v := 1000) (zdg D_X12_copies 66 (117, .sipush 1000, 3) rfl) rfl ?_
                      refine z_idivK (pc := 120) (zdg D_X12_copies 67 (120, .idiv, 1) rfl) rfl ?_
                      refine z_iadd (pc := 121) (zdg D_X12_copies 68 (121, .iadd, 1) rfl) ?_
                      refine z_iast (pc := 122) rfl (fun _ => rfl) (zdg D_X12_copies 69 (122, .iastore, 1) rfl) hn hf (fun hf => ?_)
                      refine z_nmS hf (fun s10 hf => ?_)
                      refine z_iinc (pc := 123) (v0 := (v4_8 + (-1))) (al' := [(4, zI (v4_8 + (-1))), (0, zR 0 0), (1, zI p1), (2, zI p2), (3, zI v3_6)]) 4 (zdg D_X12_copies 70 (123, .iinc 4 (-1), 3) rfl) rfl rfl (by decide) rfl ?_
                      refine z_goto (pc := 126) 69 (zdg D_X12_copies 71 (126, .goto (-57), 3) rfl) rfl ?_
                      refine z_sub (al' := [(0, zR 0 0), (1, zI p1), (2, zI p2), (3, zI v3_6), (4, zI (v4_8 + (-1)))]) [1, 2, 3, 4, 0] rfl ?_
                      exact hi ((v4_8 + (-1)), s10) hf
                    · refine z_iconst (pc := 98) (v := 0) (zdg D_X12_copies 54 (98, .iconst 0, 1) rfl) rfl ?_
                      refine z_goto (pc := 99) 121 (zdg D_X12_copies 55 (99, .goto 22, 3) rfl) rfl ?_
                      refine z_iadd (pc := 121) (zdg D_X12_copies 68 (121, .iadd, 1) rfl) ?_
                      refine z_iast (pc := 122) rfl (fun _ => rfl) (zdg D_X12_copies 69 (122, .iastore, 1) rfl) hn hf (fun hf => ?_)
                      refine z_nmS hf (fun s11 hf => ?_)
                      refine z_iinc (pc := 123) (v0 := (v4_8 + (-1))) (al' := [(4, zI (v4_8 + (-1))), (0, zR 0 0), (1, zI p1), (2, zI p2), (3, zI v3_6)]) 4 (zdg D_X12_copies 70 (123, .iinc 4 (-1), 3) rfl) rfl rfl (by decide) rfl ?_
                      refine z_goto (pc := 126) 69 (zdg D_X12_copies 71 (126, .goto (-57), 3) rfl) rfl ?_
                      refine z_sub (al' := [(0, zR 0 0), (1, zI p1), (2, zI p2), (3, zI v3_6), (4, zI (v4_8 + (-1)))]) [1, 2, 3, 4, 0] rfl ?_
                      exact hi ((v4_8 + (-1)), s11) hf
          · rintro ⟨v3_1, s2⟩ hn hi hx
            have hf := b_X12_copies_31.eq_1 p1 v3_1 s2
            refine z_iload_n (pc := 31) 3 (zdg D_X12_copies 18 (31, .iload_n 3, 1) rfl) rfl rfl ?_
            refine z_iload_n (pc := 32) 1 (zdg D_X12_copies 19 (32, .iload_n 1, 1) rfl) rfl rfl ?_
            refine z_icmp_gt (pc := 33) 59 (zdg D_X12_copies 20 (33, .if_icmp .gt 26, 3) rfl) rfl hf (fun hf => ?_) (fun hf => ?_)
            · refine z_sub (al' := [(0, zR 0 0), (1, zI p1), (2, zI p2)]) [0, 1, 2] rfl ?_
              exact hx s2 hf
            · refine z_aload_n (pc := 36) 0 (zdg D_X12_copies 21 (36, .aload_n 0, 1) rfl) rfl rfl ?_
              refine z_getR (pc := 37) (g := 13) (j := 0) lf_X12_51 rfl rfl rfl (zdg D_X12_copies 22 (37, .getfield 51, 3) rfl) ?_
              refine z_iload_n (pc := 40) 3 (zdg D_X12_copies 23 (40, .iload_n 3, 1) rfl) rfl rfl ?_
              refine z_iload_n (pc := 41) 3 (zdg D_X12_copies 24 (41, .iload_n 3, 1) rfl) rfl rfl ?_
              refine z_if_ne (pc := 42) 51 (zdg D_X12_copies 25 (42, .ifCond .ne 9, 3) rfl) rfl hf (fun hf => ?_) (fun hf => ?_)
              · refine z_iconst (pc := 51) (v := 0) (zdg D_X12_copies 28 (51, .iconst 0, 1) rfl) rfl ?_
                refine z_iast (pc := 52) rfl (fun _ => rfl) (zdg D_X12_copies 29 (52, .iastore, 1) rfl) hn hf (fun hf => ?_)
                refine z_nmS hf (fun s3 hf => ?_)
                refine z_iinc (pc := 53) (v0 := (v3_1 + 1)) (al' := [(3, zI (v3_1 + 1)), (0, zR 0 0), (1, zI p1), (2, zI p2)]) 3 (zdg D_X12_copies 30 (53, .iinc 3 1, 3) rfl) rfl rfl (by decide) rfl ?_
                refine z_goto (pc := 56) 31 (zdg D_X12_copies 31 (56, .goto (-25), 3) rfl) rfl ?_
                refine z_sub (al' := [(0, zR 0 0), (1, zI p1), (2, zI p2), (3, zI (v3_1 + 1))]) [1, 2, 3, 0] rfl ?_
                exact hi ((v3_1 + 1), s3) hf
              · refine z_ldcw (pc := 45) lc_X12_411 (zdg D_X12_copies 26 (45, .ldc_w 411, 3) rfl) ?_
                refine z_goto (pc := 48) 52 (zdg D_X12_copies 27 (48, .goto 4, 3) rfl) rfl ?_
                refine z_iast (pc := 52) rfl (fun _ => rfl) (zdg D_X12_copies 29 (52, .iastore, 1) rfl) hn hf (fun hf => ?_)
                refine z_nmS hf (fun s4 hf => ?_)
                refine z_iinc (pc := 53) (v0 := (v3_1 + 1)) (al' := [(3, zI (v3_1 + 1)), (0, zR 0 0), (1, zI p1), (2, zI p2)]) 3 (zdg D_X12_copies 30 (53, .iinc 3 1, 3) rfl) rfl rfl (by decide) rfl ?_
                refine z_goto (pc := 56) 31 (zdg D_X12_copies 31 (56, .goto (-25), 3) rfl) rfl ?_
                refine z_sub (al' := [(0, zR 0 0), (1, zI p1), (2, zI p2), (3, zI (v3_1 + 1))]) [1, 2, 3, 0] rfl ?_
                exact hi ((v3_1 + 1), s4) hf
        · refine z_iconst (pc := 27) (v := -1) (zdg D_X12_copies 14 (27, .iconst (-1), 1) rfl) rfl ?_
          exact z_iret (pc := 28) rfl rfl (zdg D_X12_copies 15 (28, .ireturn, 1) rfl) (hP _ _ hf)

def L_X12_enough : List (Nat × Instr × Nat) := [(0, .iload_n 1, 1), (1, .iconst 0, 1), (2, .sipush 1000, 3), (5, .invokestatic 64, 3), (8, .ifCond .eq 14, 3), (11, .iload_n 2, 1), (12, .iconst 0, 1), (13, .ldc_w 411, 3), (16, .invokestatic 64, 3), (19, .ifCond .ne 5, 3), (22, .iconst (-1), 1), (23, .ireturn, 1), (24, .iconst 1, 1), (25, .istore_n 3, 1), (26, .iload_n 3, 1), (27, .bipush 15, 2), (29, .if_icmp .gt 21, 3), (32, .aload_n 0, 1), (33, .iload_n 3, 1), (34, .iload_n 1, 1), (35, .invokevirtual 412, 3), (38, .iload_n 2, 1), (39, .if_icmp .lt 5, 3), (42, .iload_n 3, 1), (43, .ireturn, 1), (44, .iinc 3 2, 3), (47, .goto (-21), 3), (50, .iconst (-1), 1), (51, .ireturn, 1)]
set_option maxRecDepth 100000 in
theorem D_X12_enough : zdecs cX12_enough L_X12_enough = true := by decide +kernel
noncomputable def b_X12_enough_26 (p1 : Int32) (p2 : Int32) (v3_1 : Int32) (s2 : zG) : Option ((Int32 × zG) ⊕ ((Int32 × zG) ⊕ (zG))) :=
  if v3_1 ≤ (15 : Int32) then (f_X12_copies v3_1 p1 s2).bind (fun q3 => if p2 ≤ q3.1 then some (Sum.inr (Sum.inl (v3_1, q3.2))) else some (Sum.inl ((v3_1 + 2), q3.2))) else some (Sum.inr (Sum.inr s2))
noncomputable def f_X12_enough (p1 : Int32) (p2 : Int32) (σ : zG) : Option (Int32 × zG) :=
  if (f_X12_isIn p1 (0 : Int32) (1000 : Int32)) = 0 then some ((-1 : Int32), σ) else if (f_X12_isIn p2 (0 : Int32) (1000000 : Int32)) = 0 then some ((-1 : Int32), σ) else (zlp (fun q : Int32 × zG => b_X12_enough_26 p1 p2 q.1 q.2) ((1 : Int32), σ)).bind (Sum.elim (fun e4 : Int32 × zG => some (e4.1, e4.2)) (fun e5 : zG => some ((-1 : Int32), e5)))
set_option maxRecDepth 100000 in
set_option maxHeartbeats 4000000 in
theorem c_X12_enough (l : Launch) (p1 : Int32) (p2 : Int32) (σ : zG) (q : Int32 × zG) (hq : f_X12_enough p1 p2 σ = some q) : zMet l zsyM m_X12_enough yX12_enough [zR 0 0, zI p1, zI p2] σ (some (zI q.1)) q.2 := by
  refine zEnter [(0, zR 0 0), (1, zI p1), (2, zI p2)] (by decide) rfl (fun _ => Nat.le_of_ble_eq_true rfl) (fun _ => rfl) (fun w h => ?_) (fun K hv hs => ?_)
  · exact zokm rfl h
  · have hP : ∀ x s, f_X12_enough p1 p2 σ = some (x, s) → zKv K = some (zI x) ∧ zKs K = s := fun x s h => by rw [hq] at h; cases h; exact ⟨hv, hs⟩
    have hn : f_X12_enough p1 p2 σ ≠ none := fun z => by rw [hq] at z; cases z
    have hf := f_X12_enough.eq_1 p1 p2 σ
    refine z_iload_n (pc := 0) 1 (zdg D_X12_enough 0 (0, .iload_n 1, 1) rfl) rfl rfl ?_
    refine z_iconst (pc := 1) (v := 0) (zdg D_X12_enough 1 (1, .iconst 0, 1) rfl) rfl ?_
    refine z_sipush (pc := 2) (v := 1000) (zdg D_X12_enough 2 (2, .sipush 1000, 3) rfl) rfl ?_
    refine z_callS (pc := 5) (rest := []) (st2 := [zI (f_X12_isIn p1 (0 : Int32) (1000 : Int32))]) (fun l => c_X12_isIn l p1 (0 : Int32) (1000 : Int32) σ) zs_X12_isIn lm_X12_64 rfl rfl rfl (Nat.le_of_ble_eq_true rfl) ⟨Nat.le_of_ble_eq_true rfl, Nat.le_of_ble_eq_true rfl⟩ (zdg D_X12_enough 3 (5, .invokestatic 64, 3) rfl) ?_
    refine z_if_eq (pc := 8) 22 (zdg D_X12_enough 4 (8, .ifCond .eq 14, 3) rfl) rfl hf (fun hf => ?_) (fun hf => ?_)
    · refine z_iconst (pc := 22) (v := -1) (zdg D_X12_enough 10 (22, .iconst (-1), 1) rfl) rfl ?_
      exact z_iret (pc := 23) rfl rfl (zdg D_X12_enough 11 (23, .ireturn, 1) rfl) (hP _ _ hf)
    · refine z_iload_n (pc := 11) 2 (zdg D_X12_enough 5 (11, .iload_n 2, 1) rfl) rfl rfl ?_
      refine z_iconst (pc := 12) (v := 0) (zdg D_X12_enough 6 (12, .iconst 0, 1) rfl) rfl ?_
      refine z_ldcw (pc := 13) lc_X12_411 (zdg D_X12_enough 7 (13, .ldc_w 411, 3) rfl) ?_
      refine z_callS (pc := 16) (rest := []) (st2 := [zI (f_X12_isIn p2 (0 : Int32) (1000000 : Int32))]) (fun l => c_X12_isIn l p2 (0 : Int32) (1000000 : Int32) σ) zs_X12_isIn lm_X12_64 rfl rfl rfl (Nat.le_of_ble_eq_true rfl) ⟨Nat.le_of_ble_eq_true rfl, Nat.le_of_ble_eq_true rfl⟩ (zdg D_X12_enough 8 (16, .invokestatic 64, 3) rfl) ?_
      refine z_if_ne (pc := 19) 24 (zdg D_X12_enough 9 (19, .ifCond .ne 5, 3) rfl) rfl hf (fun hf => ?_) (fun hf => ?_)
      · refine z_iconst (pc := 24) (v := 1) (zdg D_X12_enough 12 (24, .iconst 1, 1) rfl) rfl ?_
        refine z_istore_n (pc := 25) (al' := [(3, zI (1 : Int32)), (0, zR 0 0), (1, zI p1), (2, zI p2)]) (zdg D_X12_enough 13 (25, .istore_n 3, 1) rfl) rfl (by decide) rfl ?_
        refine z_sub (al' := [(0, zR 0 0), (1, zI p1), (2, zI p2), (3, zI (1 : Int32))]) [1, 2, 3, 0] rfl ?_
        refine z_loop (f := (fun q : Int32 × zG => b_X12_enough_26 p1 p2 q.1 q.2)) (a := ((1 : Int32), σ)) (fun q : Int32 × zG => zX zsyM m_X12_enough K 26 [(0, zR 0 0), (1, zI p1), (2, zI p2), (3, zI q.1)] [] q.2) (Sum.elim (fun e4 : Int32 × zG => zX zsyM m_X12_enough K 42 [(3, zI e4.1)] [] e4.2) (fun e5 : zG => zX zsyM m_X12_enough K 50 [] [] e5)) hn hf ?_ ?_
        · intro b hf
          cases b with
          | inl e4 =>
            refine z_iload_n (pc := 42) 0 (zdg D_X12_enough 23 (42, .iload_n 3, 1) rfl) rfl rfl ?_
            exact z_iret (pc := 43) rfl rfl (zdg D_X12_enough 24 (43, .ireturn, 1) rfl) (hP _ _ hf)
          | inr b =>
            revert hf
            revert b
            intro e5 hf
            refine z_iconst (pc := 50) (v := -1) (zdg D_X12_enough 27 (50, .iconst (-1), 1) rfl) rfl ?_
            exact z_iret (pc := 51) rfl rfl (zdg D_X12_enough 28 (51, .ireturn, 1) rfl) (hP _ _ hf)
        · rintro ⟨v3_1, s2⟩ hn hi hx
          have hf := b_X12_enough_26.eq_1 p1 p2 v3_1 s2
          refine z_iload_n (pc := 26) 3 (zdg D_X12_enough 14 (26, .iload_n 3, 1) rfl) rfl rfl ?_
          refine z_bipush (pc := 27) (v := 15) (zdg D_X12_enough 15 (27, .bipush 15, 2) rfl) rfl ?_
          refine z_icmp_gt (pc := 29) 50 (zdg D_X12_enough 16 (29, .if_icmp .gt 21, 3) rfl) rfl hf (fun hf => ?_) (fun hf => ?_)
          · refine z_sub (al' := []) [] rfl ?_
            exact hx (Sum.inr s2) hf
          · refine z_aload_n (pc := 32) 0 (zdg D_X12_enough 17 (32, .aload_n 0, 1) rfl) rfl rfl ?_
            refine z_iload_n (pc := 33) 3 (zdg D_X12_enough 18 (33, .iload_n 3, 1) rfl) rfl rfl ?_
            refine z_iload_n (pc := 34) 1 (zdg D_X12_enough 19 (34, .iload_n 1, 1) rfl) rfl rfl ?_
            refine z_bind hn hf (fun q3 hq hf => ?_)
            refine z_callV (pc := 35) (rest := []) (st2 := [zI q3.1]) (fun l => c_X12_copies l v3_1 p1 s2 q3 hq) zv_X12_copies lm_X12_412 rfl rfl rfl rfl rfl rfl (Nat.le_of_ble_eq_true rfl) ⟨Nat.le_of_ble_eq_true rfl, Nat.le_of_ble_eq_true rfl⟩ (zdg D_X12_enough 20 (35, .invokevirtual 412, 3) rfl) ?_
            refine z_iload_n (pc := 38) 2 (zdg D_X12_enough 21 (38, .iload_n 2, 1) rfl) rfl rfl ?_
            refine z_icmp_lt (pc := 39) 44 (zdg D_X12_enough 22 (39, .if_icmp .lt 5, 3) rfl) rfl hf (fun hf => ?_) (fun hf => ?_)
            · refine z_iinc (pc := 44) (v0 := (v3_1 + 2)) (al' := [(3, zI (v3_1 + 2)), (0, zR 0 0), (1, zI p1), (2, zI p2)]) 3 (zdg D_X12_enough 25 (44, .iinc 3 2, 3) rfl) rfl rfl (by decide) rfl ?_
              refine z_goto (pc := 47) 26 (zdg D_X12_enough 26 (47, .goto (-21), 3) rfl) rfl ?_
              refine z_sub (al' := [(0, zR 0 0), (1, zI p1), (2, zI p2), (3, zI (v3_1 + 2))]) [1, 2, 3, 0] rfl ?_
              exact hi ((v3_1 + 2), q3.2) hf
            · refine z_sub (al' := [(3, zI v3_1)]) [3] rfl ?_
              exact hx (Sum.inl (v3_1, q3.2)) hf
      · refine z_iconst (pc := 22) (v := -1) (zdg D_X12_enough 10 (22, .iconst (-1), 1) rfl) rfl ?_
        exact z_iret (pc := 23) rfl rfl (zdg D_X12_enough 11 (23, .ireturn, 1) rfl) (hP _ _ hf)

def L_X12_hours : List (Nat × Instr × Nat) := [(0, .aload_n 0, 1), (1, .iload_n 1, 1), (2, .invokevirtual 236, 3), (5, .ifCond .eq 22, 3), (8, .iload_n 2, 1), (9, .iconst 0, 1), (10, .bipush 99, 2), (12, .invokestatic 64, 3), (15, .ifCond .eq 12, 3), (18, .iload_n 3, 1), (19, .iconst 0, 1), (20, .iconst 2, 1), (21, .invokestatic 64, 3), (24, .ifCond .ne 5, 3), (27, .iconst (-1), 1), (28, .ireturn, 1), (29, .iconst 0, 1), (30, .istore 4, 2), (32, .iconst (-1), 1), (33, .istore 5, 2), (35, .iconst (-1), 1), (36, .istore 6, 2), (38, .iconst 0, 1), (39, .istore 7, 2), (41, .iload 7, 2), (43, .sipush 500, 3), (46, .if_icmp .gt 44, 3), (49, .aload_n 0, 1), (50, .iload_n 1, 1), (51, .iload 7, 2), (53, .invokevirtual 312, 3), (56, .iload_n 2, 1), (57, .if_icmp .eq 6, 3), (60, .goto 24, 3), (63, .iload 4, 2), (65, .ifCond .ne 8, 3), (68, .iload 7, 2), (70, .goto 5, 3), (73, .iload 5, 2), (75, .istore 5, 2), (77, .iload 7, 2), (79, .istore 6, 2), (81, .iinc 4 1, 3), (84, .iinc 7 1, 3), (87, .goto (-46), 3), (90, .iload_n 3, 1), (91, .ifCond .ne 8, 3), (94, .iload 4, 2), (96, .goto 15, 3), (99, .iload_n 3, 1), (100, .iconst 1, 1), (101, .if_icmp .ne 8, 3), (104, .iload 5, 2), (106, .goto 5, 3), (109, .iload 6, 2), (111, .ireturn, 1)]
set_option maxRecDepth 100000 in
theorem D_X12_hours : zdecs cX12_hours L_X12_hours = true := by decide +kernel
noncomputable def b_X12_hours_41 (p1 : Int32) (p2 : Int32) (v4_2 : Int32) (v5_3 : Int32) (v6_4 : Int32) (v7_5 : Int32) (s6 : zG) : Option ((Int32 × Int32 × Int32 × Int32 × zG) ⊕ (Int32 × Int32 × Int32 × zG)) :=
  if v7_5 ≤ (500 : Int32) then (f_X12_shade p1 v7_5 s6).bind (fun q7 => if q7.1 = p2 then if v4_2 = 0 then some (Sum.inl ((v4_2 + 1), v7_5, v7_5, (v7_5 + 1), q7.2)) else some (Sum.inl ((v4_2 + 1), v5_3, v7_5, (v7_5 + 1), q7.2)) else some (Sum.inl (v4_2, v5_3, v6_4, (v7_5 + 1), q7.2))) else some (Sum.inr (v4_2, v5_3, v6_4, s6))
noncomputable def f_X12_hours (p1 : Int32) (p2 : Int32) (p3 : Int32) (σ : zG) : Option (Int32 × zG) :=
  (f_X12_isSpot p1 σ).bind (fun q1 => if q1 = 0 then some ((-1 : Int32), σ) else if (f_X12_isIn p2 (0 : Int32) (99 : Int32)) = 0 then some ((-1 : Int32), σ) else if (f_X12_isIn p3 (0 : Int32) (2 : Int32)) = 0 then some ((-1 : Int32), σ) else (zlp (fun q : Int32 × Int32 × Int32 × Int32 × zG => b_X12_hours_41 p1 p2 q.1 q.2.1 q.2.2.1 q.2.2.2.1 q.2.2.2.2) ((0 : Int32), (-1 : Int32), (-1 : Int32), (0 : Int32), σ)).bind (fun e8 : Int32 × Int32 × Int32 × zG => if p3 = 0 then some (e8.1, e8.2.2.2) else if p3 = (1 : Int32) then some (e8.2.1, e8.2.2.2) else some (e8.2.2.1, e8.2.2.2)))
set_option maxRecDepth 100000 in
set_option maxHeartbeats 4000000 in
theorem c_X12_hours (l : Launch) (p1 : Int32) (p2 : Int32) (p3 : Int32) (σ : zG) (q : Int32 × zG) (hq : f_X12_hours p1 p2 p3 σ = some q) : zMet l zsyM m_X12_hours yX12_hours [zR 0 0, zI p1, zI p2, zI p3] σ (some (zI q.1)) q.2 := by
  refine zEnter [(0, zR 0 0), (1, zI p1), (2, zI p2), (3, zI p3)] (by decide) rfl (fun _ => Nat.le_of_ble_eq_true rfl) (fun _ => rfl) (fun w h => ?_) (fun K hv hs => ?_)
  · exact zokm rfl h
  · have hP : ∀ x s, f_X12_hours p1 p2 p3 σ = some (x, s) → zKv K = some (zI x) ∧ zKs K = s := fun x s h => by rw [hq] at h; cases h; exact ⟨hv, hs⟩
    have hn : f_X12_hours p1 p2 p3 σ ≠ none := fun z => by rw [hq] at z; cases z
    have hf := f_X12_hours.eq_1 p1 p2 p3 σ
    refine z_aload_n (pc := 0) 0 (zdg D_X12_hours 0 (0, .aload_n 0, 1) rfl) rfl rfl ?_
    refine z_iload_n (pc := 1) 1 (zdg D_X12_hours 1 (1, .iload_n 1, 1) rfl) rfl rfl ?_
    refine z_bind hn hf (fun q1 hq hf => ?_)
    refine z_callV (pc := 2) (rest := []) (st2 := [zI q1]) (fun l => c_X12_isSpot l p1 σ q1 hq) zv_X12_isSpot lm_X12_236 rfl rfl rfl rfl rfl rfl (Nat.le_of_ble_eq_true rfl) ⟨Nat.le_of_ble_eq_true rfl, Nat.le_of_ble_eq_true rfl⟩ (zdg D_X12_hours 2 (2, .invokevirtual 236, 3) rfl) ?_
    refine z_if_eq (pc := 5) 27 (zdg D_X12_hours 3 (5, .ifCond .eq 22, 3) rfl) rfl hf (fun hf => ?_) (fun hf => ?_)
    · refine z_iconst (pc := 27) (v := -1) (zdg D_X12_hours 14 (27, .iconst (-1), 1) rfl) rfl ?_
      exact z_iret (pc := 28) rfl rfl (zdg D_X12_hours 15 (28, .ireturn, 1) rfl) (hP _ _ hf)
    · refine z_iload_n (pc := 8) 2 (zdg D_X12_hours 4 (8, .iload_n 2, 1) rfl) rfl rfl ?_
      refine z_iconst (pc := 9) (v := 0) (zdg D_X12_hours 5 (9, .iconst 0, 1) rfl) rfl ?_
      refine z_bipush (pc := 10) (v := 99) (zdg D_X12_hours 6 (10, .bipush 99, 2) rfl) rfl ?_
      refine z_callS (pc := 12) (rest := []) (st2 := [zI (f_X12_isIn p2 (0 : Int32) (99 : Int32))]) (fun l => c_X12_isIn l p2 (0 : Int32) (99 : Int32) σ) zs_X12_isIn lm_X12_64 rfl rfl rfl (Nat.le_of_ble_eq_true rfl) ⟨Nat.le_of_ble_eq_true rfl, Nat.le_of_ble_eq_true rfl⟩ (zdg D_X12_hours 7 (12, .invokestatic 64, 3) rfl) ?_
      refine z_if_eq (pc := 15) 27 (zdg D_X12_hours 8 (15, .ifCond .eq 12, 3) rfl) rfl hf (fun hf => ?_) (fun hf => ?_)
      · refine z_iconst (pc := 27) (v := -1) (zdg D_X12_hours 14 (27, .iconst (-1), 1) rfl) rfl ?_
        exact z_iret (pc := 28) rfl rfl (zdg D_X12_hours 15 (28, .ireturn, 1) rfl) (hP _ _ hf)
      · refine z_iload_n (pc := 18) 3 (zdg D_X12_hours 9 (18, .iload_n 3, 1) rfl) rfl rfl ?_
        refine z_iconst (pc := 19) (v := 0) (zdg D_X12_hours 10 (19, .iconst 0, 1) rfl) rfl ?_
        refine z_iconst (pc := 20) (v := 2) (zdg D_X12_hours 11 (20, .iconst 2, 1) rfl) rfl ?_
        refine z_callS (pc := 21) (rest := []) (st2 := [zI (f_X12_isIn p3 (0 : Int32) (2 : Int32))]) (fun l => c_X12_isIn l p3 (0 : Int32) (2 : Int32) σ) zs_X12_isIn lm_X12_64 rfl rfl rfl (Nat.le_of_ble_eq_true rfl) ⟨Nat.le_of_ble_eq_true rfl, Nat.le_of_ble_eq_true rfl⟩ (zdg D_X12_hours 12 (21, .invokestatic 64, 3) rfl) ?_
        refine z_if_ne (pc := 24) 29 (zdg D_X12_hours 13 (24, .ifCond .ne 5, 3) rfl) rfl hf (fun hf => ?_) (fun hf => ?_)
        · refine z_iconst (pc := 29) (v := 0) (zdg D_X12_hours 16 (29, .iconst 0, 1) rfl) rfl ?_
          refine z_istore (pc := 30) (al' := [(4, zI (0 : Int32)), (0, zR 0 0), (1, zI p1), (2, zI p2), (3, zI p3)]) (zdg D_X12_hours 17 (30, .istore 4, 2) rfl) (by decide) rfl ?_
          refine z_iconst (pc := 32) (v := -1) (zdg D_X12_hours 18 (32, .iconst (-1), 1) rfl) rfl ?_
          refine z_istore (pc := 33) (al' := [(5, zI (-1 : Int32)), (4, zI (0 : Int32)), (0, zR 0 0), (1, zI p1), (2, zI p2), (3, zI p3)]) (zdg D_X12_hours 19 (33, .istore 5, 2) rfl) (by decide) rfl ?_
          refine z_iconst (pc := 35) (v := -1) (zdg D_X12_hours 20 (35, .iconst (-1), 1) rfl) rfl ?_
          refine z_istore (pc := 36) (al' := [(6, zI (-1 : Int32)), (5, zI (-1 : Int32)), (4, zI (0 : Int32)), (0, zR 0 0), (1, zI p1), (2, zI p2), (3, zI p3)]) (zdg D_X12_hours 21 (36, .istore 6, 2) rfl) (by decide) rfl ?_
          refine z_iconst (pc := 38) (v := 0) (zdg D_X12_hours 22 (38, .iconst 0, 1) rfl) rfl ?_
          refine z_istore (pc := 39) (al' := [(7, zI (0 : Int32)), (6, zI (-1 : Int32)), (5, zI (-1 : Int32)), (4, zI (0 : Int32)), (0, zR 0 0), (1, zI p1), (2, zI p2), (3, zI p3)]) (zdg D_X12_hours 23 (39, .istore 7, 2) rfl) (by decide) rfl ?_
          refine z_sub (al' := [(0, zR 0 0), (1, zI p1), (2, zI p2), (3, zI p3), (4, zI (0 : Int32)), (5, zI (-1 : Int32)), (6, zI (-1 : Int32)), (7, zI (0 : Int32))]) [4, 5, 6, 7, 3, 2, 1, 0] rfl ?_
          refine z_loop (f := (fun q : Int32 × Int32 × Int32 × Int32 × zG => b_X12_hours_41 p1 p2 q.1 q.2.1 q.2.2.1 q.2.2.2.1 q.2.2.2.2)) (a := ((0 : Int32), (-1 : Int32), (-1 : Int32), (0 : Int32), σ)) (fun q : Int32 × Int32 × Int32 × Int32 × zG => zX zsyM m_X12_hours K 41 [(0, zR 0 0), (1, zI p1), (2, zI p2), (3, zI p3), (4, zI q.1), (5, zI q.2.1), (6, zI q.2.2.1), (7, zI q.2.2.2.1)] [] q.2.2.2.2) (fun e8 : Int32 × Int32 × Int32 × zG => zX zsyM m_X12_hours K 90 [(3, zI p3), (4, zI e8.1), (5, zI e8.2.1), (6, zI e8.2.2.1)] [] e8.2.2.2) hn hf ?_ ?_
          · intro e8 hf
            refine z_iload_n (pc := 90) 0 (zdg D_X12_hours 45 (90, .iload_n 3, 1) rfl) rfl rfl ?_
            refine z_if_ne (pc := 91) 99 (zdg D_X12_hours 46 (91, .ifCond .ne 8, 3) rfl) rfl hf (fun hf => ?_) (fun hf => ?_)
            · refine z_iload_n (pc := 99) 0 (zdg D_X12_hours 49 (99, .iload_n 3, 1) rfl) rfl rfl ?_
              refine z_iconst (pc := 100) (v := 1) (zdg D_X12_hours 50 (100, .iconst 1, 1) rfl) rfl ?_
              refine z_icmp_ne (pc := 101) 109 (zdg D_X12_hours 51 (101, .if_icmp .ne 8, 3) rfl) rfl hf (fun hf => ?_) (fun hf => ?_)
              · refine z_iload (pc := 109) 3 (zdg D_X12_hours 54 (109, .iload 6, 2) rfl) rfl ?_
                exact z_iret (pc := 111) rfl rfl (zdg D_X12_hours 55 (111, .ireturn, 1) rfl) (hP _ _ hf)
              · refine z_iload (pc := 104) 2 (zdg D_X12_hours 52 (104, .iload 5, 2) rfl) rfl ?_
                refine z_goto (pc := 106) 111 (zdg D_X12_hours 53 (106, .goto 5, 3) rfl) rfl ?_
                exact z_iret (pc := 111) rfl rfl (zdg D_X12_hours 55 (111, .ireturn, 1) rfl) (hP _ _ hf)
            · refine z_iload (pc := 94) 1 (zdg D_X12_hours 47 (94, .iload 4, 2) rfl) rfl ?_
              refine z_goto (pc := 96) 111 (zdg D_X12_hours 48 (96, .goto 15, 3) rfl) rfl ?_
              exact z_iret (pc := 111) rfl rfl (zdg D_X12_hours 55 (111, .ireturn, 1) rfl) (hP _ _ hf)
          · rintro ⟨v4_2, v5_3, v6_4, v7_5, s6⟩ hn hi hx
            have hf := b_X12_hours_41.eq_1 p1 p2 v4_2 v5_3 v6_4 v7_5 s6
            refine z_iload (pc := 41) 7 (zdg D_X12_hours 24 (41, .iload 7, 2) rfl) rfl ?_
            refine z_sipush (pc := 43) (v := 500) (zdg D_X12_hours 25 (43, .sipush 500, 3) rfl) rfl ?_
            refine z_icmp_gt (pc := 46) 90 (zdg D_X12_hours 26 (46, .if_icmp .gt 44, 3) rfl) rfl hf (fun hf => ?_) (fun hf => ?_)
            · refine z_sub (al' := [(3, zI p3), (4, zI v4_2), (5, zI v5_3), (6, zI v6_4)]) [3, 4, 5, 6] rfl ?_
              exact hx (v4_2, v5_3, v6_4, s6) hf
            · refine z_aload_n (pc := 49) 0 (zdg D_X12_hours 27 (49, .aload_n 0, 1) rfl) rfl rfl ?_
              refine z_iload_n (pc := 50) 1 (zdg D_X12_hours 28 (50, .iload_n 1, 1) rfl) rfl rfl ?_
              refine z_iload (pc := 51) 7 (zdg D_X12_hours 29 (51, .iload 7, 2) rfl) rfl ?_
              refine z_bind hn hf (fun q7 hq hf => ?_)
              refine z_callV (pc := 53) (rest := []) (st2 := [zI q7.1]) (fun l => c_X12_shade l p1 v7_5 s6 q7 hq) zv_X12_shade lm_X12_312 rfl rfl rfl rfl rfl rfl (Nat.le_of_ble_eq_true rfl) ⟨Nat.le_of_ble_eq_true rfl, Nat.le_of_ble_eq_true rfl⟩ (zdg D_X12_hours 30 (53, .invokevirtual 312, 3) rfl) ?_
              refine z_iload_n (pc := 56) 2 (zdg D_X12_hours 31 (56, .iload_n 2, 1) rfl) rfl rfl ?_
              refine z_icmp_eq (pc := 57) 63 (zdg D_X12_hours 32 (57, .if_icmp .eq 6, 3) rfl) rfl hf (fun hf => ?_) (fun hf => ?_)
              · refine z_iload (pc := 63) 4 (zdg D_X12_hours 34 (63, .iload 4, 2) rfl) rfl ?_
                refine z_if_ne (pc := 65) 73 (zdg D_X12_hours 35 (65, .ifCond .ne 8, 3) rfl) rfl hf (fun hf => ?_) (fun hf => ?_)
                · refine z_iload (pc := 73) 5 (zdg D_X12_hours 38 (73, .iload 5, 2) rfl) rfl ?_
                  refine z_istore (pc := 75) (al' := [(5, zI v5_3), (0, zR 0 0), (1, zI p1), (2, zI p2), (3, zI p3), (4, zI v4_2), (6, zI v6_4), (7, zI v7_5)]) (zdg D_X12_hours 39 (75, .istore 5, 2) rfl) (by decide) rfl ?_
                  refine z_iload (pc := 77) 7 (zdg D_X12_hours 40 (77, .iload 7, 2) rfl) rfl ?_
                  refine z_istore (pc := 79) (al' := [(6, zI v7_5), (5, zI v5_3), (0, zR 0 0), (1, zI p1), (2, zI p2), (3, zI p3), (4, zI v4_2), (7, zI v7_5)]) (zdg D_X12_hours 41 (79, .istore 6, 2) rfl) (by decide) rfl ?_
                  refine z_iinc (pc := 81) (v0 := (v4_2 + 1)) (al' := [(4, zI (v4_2 + 1)), (6, zI v7_5), (5, zI v5_3), (0, zR 0 0), (1, zI p1), (2, zI p2), (3, zI p3), (7, zI v7_5)]) 6 (zdg D_X12_hours 42 (81, .iinc 4 1, 3) rfl) rfl rfl (by decide) rfl ?_
                  refine z_iinc (pc := 84) (v0 := (v7_5 + 1)) (al' := [(7, zI (v7_5 + 1)), (4, zI (v4_2 + 1)), (6, zI v7_5), (5, zI v5_3), (0, zR 0 0), (1, zI p1), (2, zI p2), (3, zI p3)]) 7 (zdg D_X12_hours 43 (84, .iinc 7 1, 3) rfl) rfl rfl (by decide) rfl ?_
                  refine z_goto (pc := 87) 41 (zdg D_X12_hours 44 (87, .goto (-46), 3) rfl) rfl ?_
                  refine z_sub (al' := [(0, zR 0 0), (1, zI p1), (2, zI p2), (3, zI p3), (4, zI (v4_2 + 1)), (5, zI v5_3), (6, zI v7_5), (7, zI (v7_5 + 1))]) [4, 5, 6, 7, 1, 3, 2, 0] rfl ?_
                  exact hi ((v4_2 + 1), v5_3, v7_5, (v7_5 + 1), q7.2) hf
                · refine z_iload (pc := 68) 7 (zdg D_X12_hours 36 (68, .iload 7, 2) rfl) rfl ?_
                  refine z_goto (pc := 70) 75 (zdg D_X12_hours 37 (70, .goto 5, 3) rfl) rfl ?_
                  refine z_istore (pc := 75) (al' := [(5, zI v7_5), (0, zR 0 0), (1, zI p1), (2, zI p2), (3, zI p3), (4, zI v4_2), (6, zI v6_4), (7, zI v7_5)]) (zdg D_X12_hours 39 (75, .istore 5, 2) rfl) (by decide) rfl ?_
                  refine z_iload (pc := 77) 7 (zdg D_X12_hours 40 (77, .iload 7, 2) rfl) rfl ?_
                  refine z_istore (pc := 79) (al' := [(6, zI v7_5), (5, zI v7_5), (0, zR 0 0), (1, zI p1), (2, zI p2), (3, zI p3), (4, zI v4_2), (7, zI v7_5)]) (zdg D_X12_hours 41 (79, .istore 6, 2) rfl) (by decide) rfl ?_
                  refine z_iinc (pc := 81) (v0 := (v4_2 + 1)) (al' := [(4, zI (v4_2 + 1)), (6, zI v7_5), (5, zI v7_5), (0, zR 0 0), (1, zI p1), (2, zI p2), (3, zI p3), (7, zI v7_5)]) 6 (zdg D_X12_hours 42 (81, .iinc 4 1, 3) rfl) rfl rfl (by decide) rfl ?_
                  refine z_iinc (pc := 84) (v0 := (v7_5 + 1)) (al' := [(7, zI (v7_5 + 1)), (4, zI (v4_2 + 1)), (6, zI v7_5), (5, zI v7_5), (0, zR 0 0), (1, zI p1), (2, zI p2), (3, zI p3)]) 7 (zdg D_X12_hours 43 (84, .iinc 7 1, 3) rfl) rfl rfl (by decide) rfl ?_
                  refine z_goto (pc := 87) 41 (zdg D_X12_hours 44 (87, .goto (-46), 3) rfl) rfl ?_
                  refine z_sub (al' := [(0, zR 0 0), (1, zI p1), (2, zI p2), (3, zI p3), (4, zI (v4_2 + 1)), (5, zI v7_5), (6, zI v7_5), (7, zI (v7_5 + 1))]) [4, 5, 6, 7, 1, 3, 2, 0] rfl ?_
                  exact hi ((v4_2 + 1), v7_5, v7_5, (v7_5 + 1), q7.2) hf
              · refine z_goto (pc := 60) 84 (zdg D_X12_hours 33 (60, .goto 24, 3) rfl) rfl ?_
                refine z_iinc (pc := 84) (v0 := (v7_5 + 1)) (al' := [(7, zI (v7_5 + 1)), (0, zR 0 0), (1, zI p1), (2, zI p2), (3, zI p3), (4, zI v4_2), (5, zI v5_3), (6, zI v6_4)]) 7 (zdg D_X12_hours 43 (84, .iinc 7 1, 3) rfl) rfl rfl (by decide) rfl ?_
                refine z_goto (pc := 87) 41 (zdg D_X12_hours 44 (87, .goto (-46), 3) rfl) rfl ?_
                refine z_sub (al' := [(0, zR 0 0), (1, zI p1), (2, zI p2), (3, zI p3), (4, zI v4_2), (5, zI v5_3), (6, zI v6_4), (7, zI (v7_5 + 1))]) [1, 2, 3, 4, 5, 6, 7, 0] rfl ?_
                exact hi (v4_2, v5_3, v6_4, (v7_5 + 1), q7.2) hf
        · refine z_iconst (pc := 27) (v := -1) (zdg D_X12_hours 14 (27, .iconst (-1), 1) rfl) rfl ?_
          exact z_iret (pc := 28) rfl rfl (zdg D_X12_hours 15 (28, .ireturn, 1) rfl) (hP _ _ hf)

def L_X12_judgedBy : List (Nat × Instr × Nat) := [(0, .iconst 0, 1), (1, .istore_n 3, 1), (2, .iload_n 3, 1), (3, .bipush 64, 2), (5, .if_icmp .ge 38, 3), (8, .aload_n 0, 1), (9, .iload_n 1, 1), (10, .iload_n 3, 1), (11, .invokevirtual 376, 3), (14, .ifCond .eq 23, 3), (17, .aload_n 0, 1), (18, .iload_n 1, 1), (19, .bipush 68, 2), (21, .iload_n 3, 1), (22, .iadd, 1), (23, .invokevirtual 358, 3), (26, .aload_n 0, 1), (27, .iload_n 3, 1), (28, .iload_n 2, 1), (29, .invokevirtual 312, 3), (32, .if_icmp .eq 5, 3), (35, .iload_n 3, 1), (36, .ireturn, 1), (37, .iinc 3 1, 3), (40, .goto (-38), 3), (43, .iconst (-1), 1), (44, .ireturn, 1)]
set_option maxRecDepth 100000 in
theorem D_X12_judgedBy : zdecs cX12_judgedBy L_X12_judgedBy = true := by decide +kernel
noncomputable def b_X12_judgedBy_2 (p1 : Int32) (p2 : Int32) (v3_1 : Int32) (s2 : zG) : Option ((Int32 × zG) ⊕ ((Int32 × zG) ⊕ (zG))) :=
  if v3_1 < (64 : Int32) then (f_X12_isClearIn p1 v3_1 s2).bind (fun q3 => if q3 = 0 then some (Sum.inl ((v3_1 + 1), s2)) else (f_X12_ofShot p1 ((68 : Int32) + v3_1) s2).bind (fun q4 => (f_X12_shade v3_1 p2 s2).bind (fun q5 => if q4 = q5.1 then some (Sum.inl ((v3_1 + 1), q5.2)) else some (Sum.inr (Sum.inl (v3_1, q5.2)))))) else some (Sum.inr (Sum.inr s2))
noncomputable def f_X12_judgedBy (p1 : Int32) (p2 : Int32) (σ : zG) : Option (Int32 × zG) :=
  (zlp (fun q : Int32 × zG => b_X12_judgedBy_2 p1 p2 q.1 q.2) ((0 : Int32), σ)).bind (Sum.elim (fun e6 : Int32 × zG => some (e6.1, e6.2)) (fun e7 : zG => some ((-1 : Int32), e7)))
set_option maxRecDepth 100000 in
set_option maxHeartbeats 4000000 in
theorem c_X12_judgedBy (l : Launch) (p1 : Int32) (p2 : Int32) (σ : zG) (q : Int32 × zG) (hq : f_X12_judgedBy p1 p2 σ = some q) : zMet l zsyM m_X12_judgedBy yX12_judgedBy [zR 0 0, zI p1, zI p2] σ (some (zI q.1)) q.2 := by
  refine zEnter [(0, zR 0 0), (1, zI p1), (2, zI p2)] (by decide) rfl (fun _ => Nat.le_of_ble_eq_true rfl) (fun _ => rfl) (fun w h => ?_) (fun K hv hs => ?_)
  · exact zokm rfl h
  · have hP : ∀ x s, f_X12_judgedBy p1 p2 σ = some (x, s) → zKv K = some (zI x) ∧ zKs K = s := fun x s h => by rw [hq] at h; cases h; exact ⟨hv, hs⟩
    have hn : f_X12_judgedBy p1 p2 σ ≠ none := fun z => by rw [hq] at z; cases z
    have hf := f_X12_judgedBy.eq_1 p1 p2 σ
    refine z_iconst (pc := 0) (v := 0) (zdg D_X12_judgedBy 0 (0, .iconst 0, 1) rfl) rfl ?_
    refine z_istore_n (pc := 1) (al' := [(3, zI (0 : Int32)), (0, zR 0 0), (1, zI p1), (2, zI p2)]) (zdg D_X12_judgedBy 1 (1, .istore_n 3, 1) rfl) rfl (by decide) rfl ?_
    refine z_sub (al' := [(0, zR 0 0), (1, zI p1), (2, zI p2), (3, zI (0 : Int32))]) [1, 2, 3, 0] rfl ?_
    refine z_loop (f := (fun q : Int32 × zG => b_X12_judgedBy_2 p1 p2 q.1 q.2)) (a := ((0 : Int32), σ)) (fun q : Int32 × zG => zX zsyM m_X12_judgedBy K 2 [(0, zR 0 0), (1, zI p1), (2, zI p2), (3, zI q.1)] [] q.2) (Sum.elim (fun e6 : Int32 × zG => zX zsyM m_X12_judgedBy K 35 [(3, zI e6.1)] [] e6.2) (fun e7 : zG => zX zsyM m_X12_judgedBy K 43 [] [] e7)) hn hf ?_ ?_
    · intro b hf
      cases b with
      | inl e6 =>
        refine z_iload_n (pc := 35) 0 (zdg D_X12_judgedBy 21 (35, .iload_n 3, 1) rfl) rfl rfl ?_
        exact z_iret (pc := 36) rfl rfl (zdg D_X12_judgedBy 22 (36, .ireturn, 1) rfl) (hP _ _ hf)
      | inr b =>
        revert hf
        revert b
        intro e7 hf
        refine z_iconst (pc := 43) (v := -1) (zdg D_X12_judgedBy 25 (43, .iconst (-1), 1) rfl) rfl ?_
        exact z_iret (pc := 44) rfl rfl (zdg D_X12_judgedBy 26 (44, .ireturn, 1) rfl) (hP _ _ hf)
    · rintro ⟨v3_1, s2⟩ hn hi hx
      have hf := b_X12_judgedBy_2.eq_1 p1 p2 v3_1 s2
      refine z_iload_n (pc := 2) 3 (zdg D_X12_judgedBy 2 (2, .iload_n 3, 1) rfl) rfl rfl ?_
      refine z_bipush (pc := 3) (v := 64) (zdg D_X12_judgedBy 3 (3, .bipush 64, 2) rfl) rfl ?_
      refine z_icmp_ge (pc := 5) 43 (zdg D_X12_judgedBy 4 (5, .if_icmp .ge 38, 3) rfl) rfl hf (fun hf => ?_) (fun hf => ?_)
      · refine z_sub (al' := []) [] rfl ?_
        exact hx (Sum.inr s2) hf
      · refine z_aload_n (pc := 8) 0 (zdg D_X12_judgedBy 5 (8, .aload_n 0, 1) rfl) rfl rfl ?_
        refine z_iload_n (pc := 9) 1 (zdg D_X12_judgedBy 6 (9, .iload_n 1, 1) rfl) rfl rfl ?_
        refine z_iload_n (pc := 10) 3 (zdg D_X12_judgedBy 7 (10, .iload_n 3, 1) rfl) rfl rfl ?_
        refine z_bind hn hf (fun q3 hq hf => ?_)
        refine z_callV (pc := 11) (rest := []) (st2 := [zI q3]) (fun l => c_X12_isClearIn l p1 v3_1 s2 q3 hq) zv_X12_isClearIn lm_X12_376 rfl rfl rfl rfl rfl rfl (Nat.le_of_ble_eq_true rfl) ⟨Nat.le_of_ble_eq_true rfl, Nat.le_of_ble_eq_true rfl⟩ (zdg D_X12_judgedBy 8 (11, .invokevirtual 376, 3) rfl) ?_
        refine z_if_eq (pc := 14) 37 (zdg D_X12_judgedBy 9 (14, .ifCond .eq 23, 3) rfl) rfl hf (fun hf => ?_) (fun hf => ?_)
        · refine z_iinc (pc := 37) (v0 := (v3_1 + 1)) (al' := [(3, zI (v3_1 + 1)), (0, zR 0 0), (1, zI p1), (2, zI p2)]) 3 (zdg D_X12_judgedBy 23 (37, .iinc 3 1, 3) rfl) rfl rfl (by decide) rfl ?_
          refine z_goto (pc := 40) 2 (zdg D_X12_judgedBy 24 (40, .goto (-38), 3) rfl) rfl ?_
          refine z_sub (al' := [(0, zR 0 0), (1, zI p1), (2, zI p2), (3, zI (v3_1 + 1))]) [1, 2, 3, 0] rfl ?_
          exact hi ((v3_1 + 1), s2) hf
        · refine z_aload_n (pc := 17) 0 (zdg D_X12_judgedBy 10 (17, .aload_n 0, 1) rfl) rfl rfl ?_
          refine z_iload_n (pc := 18) 1 (zdg D_X12_judgedBy 11 (18, .iload_n 1, 1) rfl) rfl rfl ?_
          refine z_bipush (pc := 19) (v := 68) (zdg D_X12_judgedBy 12 (19, .bipush 68, 2) rfl) rfl ?_
          refine z_iload_n (pc := 21) 3 (zdg D_X12_judgedBy 13 (21, .iload_n 3, 1) rfl) rfl rfl ?_
          refine z_iadd (pc := 22) (zdg D_X12_judgedBy 14 (22, .iadd, 1) rfl) ?_
          refine z_bind hn hf (fun q4 hq hf => ?_)
          refine z_callV (pc := 23) (rest := []) (st2 := [zI q4]) (fun l => c_X12_ofShot l p1 ((68 : Int32) + v3_1) s2 q4 hq) zv_X12_ofShot lm_X12_358 rfl rfl rfl rfl rfl rfl (Nat.le_of_ble_eq_true rfl) ⟨Nat.le_of_ble_eq_true rfl, Nat.le_of_ble_eq_true rfl⟩ (zdg D_X12_judgedBy 15 (23, .invokevirtual 358, 3) rfl) ?_
          refine z_aload_n (pc := 26) 0 (zdg D_X12_judgedBy 16 (26, .aload_n 0, 1) rfl) rfl rfl ?_
          refine z_iload_n (pc := 27) 3 (zdg D_X12_judgedBy 17 (27, .iload_n 3, 1) rfl) rfl rfl ?_
          refine z_iload_n (pc := 28) 2 (zdg D_X12_judgedBy 18 (28, .iload_n 2, 1) rfl) rfl rfl ?_
          refine z_bind hn hf (fun q5 hq hf => ?_)
          refine z_callV (pc := 29) (rest := [zI q4]) (st2 := [zI q5.1, zI q4]) (fun l => c_X12_shade l v3_1 p2 s2 q5 hq) zv_X12_shade lm_X12_312 rfl rfl rfl rfl rfl rfl (Nat.le_of_ble_eq_true rfl) ⟨Nat.le_of_ble_eq_true rfl, Nat.le_of_ble_eq_true rfl⟩ (zdg D_X12_judgedBy 19 (29, .invokevirtual 312, 3) rfl) ?_
          refine z_icmp_eq (pc := 32) 37 (zdg D_X12_judgedBy 20 (32, .if_icmp .eq 5, 3) rfl) rfl hf (fun hf => ?_) (fun hf => ?_)
          · refine z_iinc (pc := 37) (v0 := (v3_1 + 1)) (al' := [(3, zI (v3_1 + 1)), (0, zR 0 0), (1, zI p1), (2, zI p2)]) 3 (zdg D_X12_judgedBy 23 (37, .iinc 3 1, 3) rfl) rfl rfl (by decide) rfl ?_
            refine z_goto (pc := 40) 2 (zdg D_X12_judgedBy 24 (40, .goto (-38), 3) rfl) rfl ?_
            refine z_sub (al' := [(0, zR 0 0), (1, zI p1), (2, zI p2), (3, zI (v3_1 + 1))]) [1, 2, 3, 0] rfl ?_
            exact hi ((v3_1 + 1), q5.2) hf
          · refine z_sub (al' := [(3, zI v3_1)]) [3] rfl ?_
            exact hx (Sum.inl (v3_1, q5.2)) hf

def L_X12_judged : List (Nat × Instr × Nat) := [(0, .aload_n 0, 1), (1, .iload_n 1, 1), (2, .invokevirtual 361, 3), (5, .ifCond .eq 19, 3), (8, .iload_n 2, 1), (9, .invokestatic 350, 3), (12, .ifCond .eq 12, 3), (15, .aload_n 0, 1), (16, .iload_n 1, 1), (17, .iload_n 2, 1), (18, .invokevirtual 415, 3), (21, .goto 4, 3), (24, .iconst (-1), 1), (25, .ireturn, 1)]
set_option maxRecDepth 100000 in
theorem D_X12_judged : zdecs cX12_judged L_X12_judged = true := by decide +kernel
noncomputable def f_X12_judged (p1 : Int32) (p2 : Int32) (σ : zG) : Option (Int32 × zG) :=
  (f_X12_isShot p1 σ).bind (fun q1 => if q1 = 0 then some ((-1 : Int32), σ) else (f_X12_isMinute p2).bind (fun q2 => if q2 = 0 then some ((-1 : Int32), σ) else (f_X12_judgedBy p1 p2 σ).bind (fun q3 => some (q3.1, q3.2))))
set_option maxRecDepth 100000 in
set_option maxHeartbeats 4000000 in
theorem c_X12_judged (l : Launch) (p1 : Int32) (p2 : Int32) (σ : zG) (q : Int32 × zG) (hq : f_X12_judged p1 p2 σ = some q) : zMet l zsyM m_X12_judged yX12_judged [zR 0 0, zI p1, zI p2] σ (some (zI q.1)) q.2 := by
  refine zEnter [(0, zR 0 0), (1, zI p1), (2, zI p2)] (by decide) rfl (fun _ => Nat.le_of_ble_eq_true rfl) (fun _ => rfl) (fun w h => ?_) (fun K hv hs => ?_)
  · exact zokm rfl h
  · have hP : ∀ x s, f_X12_judged p1 p2 σ = some (x, s) → zKv K = some (zI x) ∧ zKs K = s := fun x s h => by rw [hq] at h; cases h; exact ⟨hv, hs⟩
    have hn : f_X12_judged p1 p2 σ ≠ none := fun z => by rw [hq] at z; cases z
    have hf := f_X12_judged.eq_1 p1 p2 σ
    refine z_aload_n (pc := 0) 0 (zdg D_X12_judged 0 (0, .aload_n 0, 1) rfl) rfl rfl ?_
    refine z_iload_n (pc := 1) 1 (zdg D_X12_judged 1 (1, .iload_n 1, 1) rfl) rfl rfl ?_
    refine z_bind hn hf (fun q1 hq hf => ?_)
    refine z_callV (pc := 2) (rest := []) (st2 := [zI q1]) (fun l => c_X12_isShot l p1 σ q1 hq) zv_X12_isShot lm_X12_361 rfl rfl rfl rfl rfl rfl (Nat.le_of_ble_eq_true rfl) ⟨Nat.le_of_ble_eq_true rfl, Nat.le_of_ble_eq_true rfl⟩ (zdg D_X12_judged 2 (2, .invokevirtual 361, 3) rfl) ?_
    refine z_if_eq (pc := 5) 24 (zdg D_X12_judged 3 (5, .ifCond .eq 19, 3) rfl) rfl hf (fun hf => ?_) (fun hf => ?_)
    · refine z_iconst (pc := 24) (v := -1) (zdg D_X12_judged 12 (24, .iconst (-1), 1) rfl) rfl ?_
      exact z_iret (pc := 25) rfl rfl (zdg D_X12_judged 13 (25, .ireturn, 1) rfl) (hP _ _ hf)
    · refine z_iload_n (pc := 8) 2 (zdg D_X12_judged 4 (8, .iload_n 2, 1) rfl) rfl rfl ?_
      refine z_bind hn hf (fun q2 hq hf => ?_)
      refine z_callS (pc := 9) (rest := []) (st2 := [zI q2]) (fun l => c_X12_isMinute l p2 σ q2 hq) zs_X12_isMinute lm_X12_350 rfl rfl rfl (Nat.le_of_ble_eq_true rfl) ⟨Nat.le_of_ble_eq_true rfl, Nat.le_of_ble_eq_true rfl⟩ (zdg D_X12_judged 5 (9, .invokestatic 350, 3) rfl) ?_
      refine z_if_eq (pc := 12) 24 (zdg D_X12_judged 6 (12, .ifCond .eq 12, 3) rfl) rfl hf (fun hf => ?_) (fun hf => ?_)
      · refine z_iconst (pc := 24) (v := -1) (zdg D_X12_judged 12 (24, .iconst (-1), 1) rfl) rfl ?_
        exact z_iret (pc := 25) rfl rfl (zdg D_X12_judged 13 (25, .ireturn, 1) rfl) (hP _ _ hf)
      · refine z_aload_n (pc := 15) 0 (zdg D_X12_judged 7 (15, .aload_n 0, 1) rfl) rfl rfl ?_
        refine z_iload_n (pc := 16) 1 (zdg D_X12_judged 8 (16, .iload_n 1, 1) rfl) rfl rfl ?_
        refine z_iload_n (pc := 17) 2 (zdg D_X12_judged 9 (17, .iload_n 2, 1) rfl) rfl rfl ?_
        refine z_bind hn hf (fun q3 hq hf => ?_)
        refine z_callV (pc := 18) (rest := []) (st2 := [zI q3.1]) (fun l => c_X12_judgedBy l p1 p2 σ q3 hq) zv_X12_judgedBy lm_X12_415 rfl rfl rfl rfl rfl rfl (Nat.le_of_ble_eq_true rfl) ⟨Nat.le_of_ble_eq_true rfl, Nat.le_of_ble_eq_true rfl⟩ (zdg D_X12_judged 10 (18, .invokevirtual 415, 3) rfl) ?_
        refine z_goto (pc := 21) 25 (zdg D_X12_judged 11 (21, .goto 4, 3) rfl) rfl ?_
        exact z_iret (pc := 25) rfl rfl (zdg D_X12_judged 13 (25, .ireturn, 1) rfl) (hP _ _ hf)

def L_X12_whenShot : List (Nat × Instr × Nat) := [(0, .aload_n 0, 1), (1, .iload_n 1, 1), (2, .invokevirtual 361, 3), (5, .ifCond .eq 12, 3), (8, .iload_n 2, 1), (9, .iconst 0, 1), (10, .iconst 2, 1), (11, .invokestatic 64, 3), (14, .ifCond .ne 6, 3), (17, .bipush (-2), 2), (19, .ireturn, 1), (20, .iconst 0, 1), (21, .istore_n 3, 1), (22, .iconst (-1), 1), (23, .istore 4, 2), (25, .iconst (-1), 1), (26, .istore 5, 2), (28, .iconst 0, 1), (29, .istore 6, 2), (31, .iload 6, 2), (33, .sipush 500, 3), (36, .if_icmp .gt 43, 3), (39, .aload_n 0, 1), (40, .iload_n 1, 1), (41, .iload 6, 2), (43, .invokevirtual 415, 3), (46, .iconst (-1), 1), (47, .if_icmp .eq 6, 3), (50, .goto 23, 3), (53, .iload_n 3, 1), (54, .ifCond .ne 8, 3), (57, .iload 6, 2), (59, .goto 5, 3), (62, .iload 4, 2), (64, .istore 4, 2), (66, .iload 6, 2), (68, .istore 5, 2), (70, .iinc 3 1, 3), (73, .iinc 6 1, 3), (76, .goto (-45), 3), (79, .iload_n 2, 1), (80, .ifCond .ne 7, 3), (83, .iload_n 3, 1), (84, .goto 15, 3), (87, .iload_n 2, 1), (88, .iconst 1, 1), (89, .if_icmp .ne 8, 3), (92, .iload 4, 2), (94, .goto 5, 3), (97, .iload 5, 2), (99, .ireturn, 1)]
set_option maxRecDepth 100000 in
theorem D_X12_whenShot : zdecs cX12_whenShot L_X12_whenShot = true := by decide +kernel
noncomputable def b_X12_whenShot_31 (p1 : Int32) (v3_2 : Int32) (v4_3 : Int32) (v5_4 : Int32) (v6_5 : Int32) (s6 : zG) : Option ((Int32 × Int32 × Int32 × Int32 × zG) ⊕ (Int32 × Int32 × Int32 × zG)) :=
  if v6_5 ≤ (500 : Int32) then (f_X12_judgedBy p1 v6_5 s6).bind (fun q7 => if q7.1 = (-1 : Int32) then if v3_2 = 0 then some (Sum.inl ((v3_2 + 1), v6_5, v6_5, (v6_5 + 1), q7.2)) else some (Sum.inl ((v3_2 + 1), v4_3, v6_5, (v6_5 + 1), q7.2)) else some (Sum.inl (v3_2, v4_3, v5_4, (v6_5 + 1), q7.2))) else some (Sum.inr (v3_2, v4_3, v5_4, s6))
noncomputable def f_X12_whenShot (p1 : Int32) (p2 : Int32) (σ : zG) : Option (Int32 × zG) :=
  (f_X12_isShot p1 σ).bind (fun q1 => if q1 = 0 then some ((-2 : Int32), σ) else if (f_X12_isIn p2 (0 : Int32) (2 : Int32)) = 0 then some ((-2 : Int32), σ) else (zlp (fun q : Int32 × Int32 × Int32 × Int32 × zG => b_X12_whenShot_31 p1 q.1 q.2.1 q.2.2.1 q.2.2.2.1 q.2.2.2.2) ((0 : Int32), (-1 : Int32), (-1 : Int32), (0 : Int32), σ)).bind (fun e8 : Int32 × Int32 × Int32 × zG => if p2 = 0 then some (e8.1, e8.2.2.2) else if p2 = (1 : Int32) then some (e8.2.1, e8.2.2.2) else some (e8.2.2.1, e8.2.2.2)))
set_option maxRecDepth 100000 in
set_option maxHeartbeats 4000000 in
theorem c_X12_whenShot (l : Launch) (p1 : Int32) (p2 : Int32) (σ : zG) (q : Int32 × zG) (hq : f_X12_whenShot p1 p2 σ = some q) : zMet l zsyM m_X12_whenShot yX12_whenShot [zR 0 0, zI p1, zI p2] σ (some (zI q.1)) q.2 := by
  refine zEnter [(0, zR 0 0), (1, zI p1), (2, zI p2)] (by decide) rfl (fun _ => Nat.le_of_ble_eq_true rfl) (fun _ => rfl) (fun w h => ?_) (fun K hv hs => ?_)
  · exact zokm rfl h
  · have hP : ∀ x s, f_X12_whenShot p1 p2 σ = some (x, s) → zKv K = some (zI x) ∧ zKs K = s := fun x s h => by rw [hq] at h; cases h; exact ⟨hv, hs⟩
    have hn : f_X12_whenShot p1 p2 σ ≠ none := fun z => by rw [hq] at z; cases z
    have hf := f_X12_whenShot.eq_1 p1 p2 σ
    refine z_aload_n (pc := 0) 0 (zdg D_X12_whenShot 0 (0, .aload_n 0, 1) rfl) rfl rfl ?_
    refine z_iload_n (pc := 1) 1 (zdg D_X12_whenShot 1 (1, .iload_n 1, 1) rfl) rfl rfl ?_
    refine z_bind hn hf (fun q1 hq hf => ?_)
    refine z_callV (pc := 2) (rest := []) (st2 := [zI q1]) (fun l => c_X12_isShot l p1 σ q1 hq) zv_X12_isShot lm_X12_361 rfl rfl rfl rfl rfl rfl (Nat.le_of_ble_eq_true rfl) ⟨Nat.le_of_ble_eq_true rfl, Nat.le_of_ble_eq_true rfl⟩ (zdg D_X12_whenShot 2 (2, .invokevirtual 361, 3) rfl) ?_
    refine z_if_eq (pc := 5) 17 (zdg D_X12_whenShot 3 (5, .ifCond .eq 12, 3) rfl) rfl hf (fun hf => ?_) (fun hf => ?_)
    · refine z_bipush (pc := 17) (v := -2) (zdg D_X12_whenShot 9 (17, .bipush (-2), 2) rfl) rfl ?_
      exact z_iret (pc := 19) rfl rfl (zdg D_X12_whenShot 10 (19, .ireturn, 1) rfl) (hP _ _ hf)
    · refine z_iload_n (pc := 8) 2 (zdg D_X12_whenShot 4 (8, .iload_n 2, 1) rfl) rfl rfl ?_
      refine z_iconst (pc := 9) (v := 0) (zdg D_X12_whenShot 5 (9, .iconst 0, 1) rfl) rfl ?_
      refine z_iconst (pc := 10) (v := 2) (zdg D_X12_whenShot 6 (10, .iconst 2, 1) rfl) rfl ?_
      refine z_callS (pc := 11) (rest := []) (st2 := [zI (f_X12_isIn p2 (0 : Int32) (2 : Int32))]) (fun l => c_X12_isIn l p2 (0 : Int32) (2 : Int32) σ) zs_X12_isIn lm_X12_64 rfl rfl rfl (Nat.le_of_ble_eq_true rfl) ⟨Nat.le_of_ble_eq_true rfl, Nat.le_of_ble_eq_true rfl⟩ (zdg D_X12_whenShot 7 (11, .invokestatic 64, 3) rfl) ?_
      refine z_if_ne (pc := 14) 20 (zdg D_X12_whenShot 8 (14, .ifCond .ne 6, 3) rfl) rfl hf (fun hf => ?_) (fun hf => ?_)
      · refine z_iconst (pc := 20) (v := 0) (zdg D_X12_whenShot 11 (20, .iconst 0, 1) rfl) rfl ?_
        refine z_istore_n (pc := 21) (al' := [(3, zI (0 : Int32)), (0, zR 0 0), (1, zI p1), (2, zI p2)]) (zdg D_X12_whenShot 12 (21, .istore_n 3, 1) rfl) rfl (by decide) rfl ?_
        refine z_iconst (pc := 22) (v := -1) (zdg D_X12_whenShot 13 (22, .iconst (-1), 1) rfl) rfl ?_
        refine z_istore (pc := 23) (al' := [(4, zI (-1 : Int32)), (3, zI (0 : Int32)), (0, zR 0 0), (1, zI p1), (2, zI p2)]) (zdg D_X12_whenShot 14 (23, .istore 4, 2) rfl) (by decide) rfl ?_
        refine z_iconst (pc := 25) (v := -1) (zdg D_X12_whenShot 15 (25, .iconst (-1), 1) rfl) rfl ?_
        refine z_istore (pc := 26) (al' := [(5, zI (-1 : Int32)), (4, zI (-1 : Int32)), (3, zI (0 : Int32)), (0, zR 0 0), (1, zI p1), (2, zI p2)]) (zdg D_X12_whenShot 16 (26, .istore 5, 2) rfl) (by decide) rfl ?_
        refine z_iconst (pc := 28) (v := 0) (zdg D_X12_whenShot 17 (28, .iconst 0, 1) rfl) rfl ?_
        refine z_istore (pc := 29) (al' := [(6, zI (0 : Int32)), (5, zI (-1 : Int32)), (4, zI (-1 : Int32)), (3, zI (0 : Int32)), (0, zR 0 0), (1, zI p1), (2, zI p2)]) (zdg D_X12_whenShot 18 (29, .istore 6, 2) rfl) (by decide) rfl ?_
        refine z_sub (al' := [(0, zR 0 0), (1, zI p1), (2, zI p2), (3, zI (0 : Int32)), (4, zI (-1 : Int32)), (5, zI (-1 : Int32)), (6, zI (0 : Int32))]) [4, 5, 6, 3, 2, 1, 0] rfl ?_
        refine z_loop (f := (fun q : Int32 × Int32 × Int32 × Int32 × zG => b_X12_whenShot_31 p1 q.1 q.2.1 q.2.2.1 q.2.2.2.1 q.2.2.2.2)) (a := ((0 : Int32), (-1 : Int32), (-1 : Int32), (0 : Int32), σ)) (fun q : Int32 × Int32 × Int32 × Int32 × zG => zX zsyM m_X12_whenShot K 31 [(0, zR 0 0), (1, zI p1), (2, zI p2), (3, zI q.1), (4, zI q.2.1), (5, zI q.2.2.1), (6, zI q.2.2.2.1)] [] q.2.2.2.2) (fun e8 : Int32 × Int32 × Int32 × zG => zX zsyM m_X12_whenShot K 79 [(2, zI p2), (3, zI e8.1), (4, zI e8.2.1), (5, zI e8.2.2.1)] [] e8.2.2.2) hn hf ?_ ?_
        · intro e8 hf
          refine z_iload_n (pc := 79) 0 (zdg D_X12_whenShot 40 (79, .iload_n 2, 1) rfl) rfl rfl ?_
          refine z_if_ne (pc := 80) 87 (zdg D_X12_whenShot 41 (80, .ifCond .ne 7, 3) rfl) rfl hf (fun hf => ?_) (fun hf => ?_)
          · refine z_iload_n (pc := 87) 0 (zdg D_X12_whenShot 44 (87, .iload_n 2, 1) rfl) rfl rfl ?_
            refine z_iconst (pc := 88) (v := 1) (zdg D_X12_whenShot 45 (88, .iconst 1, 1) rfl) rfl ?_
            refine z_icmp_ne (pc := 89) 97 (zdg D_X12_whenShot 46 (89, .if_icmp .ne 8, 3) rfl) rfl hf (fun hf => ?_) (fun hf => ?_)
            · refine z_iload (pc := 97) 3 (zdg D_X12_whenShot 49 (97, .iload 5, 2) rfl) rfl ?_
              exact z_iret (pc := 99) rfl rfl (zdg D_X12_whenShot 50 (99, .ireturn, 1) rfl) (hP _ _ hf)
            · refine z_iload (pc := 92) 2 (zdg D_X12_whenShot 47 (92, .iload 4, 2) rfl) rfl ?_
              refine z_goto (pc := 94) 99 (zdg D_X12_whenShot 48 (94, .goto 5, 3) rfl) rfl ?_
              exact z_iret (pc := 99) rfl rfl (zdg D_X12_whenShot 50 (99, .ireturn, 1) rfl) (hP _ _ hf)
          · refine z_iload_n (pc := 83) 1 (zdg D_X12_whenShot 42 (83, .iload_n 3, 1) rfl) rfl rfl ?_
            refine z_goto (pc := 84) 99 (zdg D_X12_whenShot 43 (84, .goto 15, 3) rfl) rfl ?_
            exact z_iret (pc := 99) rfl rfl (zdg D_X12_whenShot 50 (99, .ireturn, 1) rfl) (hP _ _ hf)
        · rintro ⟨v3_2, v4_3, v5_4, v6_5, s6⟩ hn hi hx
          have hf := b_X12_whenShot_31.eq_1 p1 v3_2 v4_3 v5_4 v6_5 s6
          refine z_iload (pc := 31) 6 (zdg D_X12_whenShot 19 (31, .iload 6, 2) rfl) rfl ?_
          refine z_sipush (pc := 33) (v := 500) (zdg D_X12_whenShot 20 (33, .sipush 500, 3) rfl) rfl ?_
          refine z_icmp_gt (pc := 36) 79 (zdg D_X12_whenShot 21 (36, .if_icmp .gt 43, 3) rfl) rfl hf (fun hf => ?_) (fun hf => ?_)
          · refine z_sub (al' := [(2, zI p2), (3, zI v3_2), (4, zI v4_3), (5, zI v5_4)]) [2, 3, 4, 5] rfl ?_
            exact hx (v3_2, v4_3, v5_4, s6) hf
          · refine z_aload_n (pc := 39) 0 (zdg D_X12_whenShot 22 (39, .aload_n 0, 1) rfl) rfl rfl ?_
            refine z_iload_n (pc := 40) 1 (zdg D_X12_whenShot 23 (40, .iload_n 1, 1) rfl) rfl rfl ?_
            refine z_iload (pc := 41) 6 (zdg D_X12_whenShot 24 (41, .iload 6, 2) rfl) rfl ?_
            refine z_bind hn hf (fun q7 hq hf => ?_)
            refine z_callV (pc := 43) (rest := []) (st2 := [zI q7.1]) (fun l => c_X12_judgedBy l p1 v6_5 s6 q7 hq) zv_X12_judgedBy lm_X12_415 rfl rfl rfl rfl rfl rfl (Nat.le_of_ble_eq_true rfl) ⟨Nat.le_of_ble_eq_true rfl, Nat.le_of_ble_eq_true rfl⟩ (zdg D_X12_whenShot 25 (43, .invokevirtual 415, 3) rfl) ?_
            refine z_iconst (pc := 46) (v := -1) (zdg D_X12_whenShot 26 (46, .iconst (-1), 1) rfl) rfl ?_
            refine z_icmp_eq (pc := 47) 53 (zdg D_X12_whenShot 27 (47, .if_icmp .eq 6, 3) rfl) rfl hf (fun hf => ?_) (fun hf => ?_)
            · refine z_iload_n (pc := 53) 3 (zdg D_X12_whenShot 29 (53, .iload_n 3, 1) rfl) rfl rfl ?_
              refine z_if_ne (pc := 54) 62 (zdg D_X12_whenShot 30 (54, .ifCond .ne 8, 3) rfl) rfl hf (fun hf => ?_) (fun hf => ?_)
              · refine z_iload (pc := 62) 4 (zdg D_X12_whenShot 33 (62, .iload 4, 2) rfl) rfl ?_
                refine z_istore (pc := 64) (al' := [(4, zI v4_3), (0, zR 0 0), (1, zI p1), (2, zI p2), (3, zI v3_2), (5, zI v5_4), (6, zI v6_5)]) (zdg D_X12_whenShot 34 (64, .istore 4, 2) rfl) (by decide) rfl ?_
                refine z_iload (pc := 66) 6 (zdg D_X12_whenShot 35 (66, .iload 6, 2) rfl) rfl ?_
                refine z_istore (pc := 68) (al' := [(5, zI v6_5), (4, zI v4_3), (0, zR 0 0), (1, zI p1), (2, zI p2), (3, zI v3_2), (6, zI v6_5)]) (zdg D_X12_whenShot 36 (68, .istore 5, 2) rfl) (by decide) rfl ?_
                refine z_iinc (pc := 70) (v0 := (v3_2 + 1)) (al' := [(3, zI (v3_2 + 1)), (5, zI v6_5), (4, zI v4_3), (0, zR 0 0), (1, zI p1), (2, zI p2), (6, zI v6_5)]) 5 (zdg D_X12_whenShot 37 (70, .iinc 3 1, 3) rfl) rfl rfl (by decide) rfl ?_
                refine z_iinc (pc := 73) (v0 := (v6_5 + 1)) (al' := [(6, zI (v6_5 + 1)), (3, zI (v3_2 + 1)), (5, zI v6_5), (4, zI v4_3), (0, zR 0 0), (1, zI p1), (2, zI p2)]) 6 (zdg D_X12_whenShot 38 (73, .iinc 6 1, 3) rfl) rfl rfl (by decide) rfl ?_
                refine z_goto (pc := 76) 31 (zdg D_X12_whenShot 39 (76, .goto (-45), 3) rfl) rfl ?_
                refine z_sub (al' := [(0, zR 0 0), (1, zI p1), (2, zI p2), (3, zI (v3_2 + 1)), (4, zI v4_3), (5, zI v6_5), (6, zI (v6_5 + 1))]) [4, 5, 6, 1, 3, 2, 0] rfl ?_
                exact hi ((v3_2 + 1), v4_3, v6_5, (v6_5 + 1), q7.2) hf
              · refine z_iload (pc := 57) 6 (zdg D_X12_whenShot 31 (57, .iload 6, 2) rfl) rfl ?_
                refine z_goto (pc := 59) 64 (zdg D_X12_whenShot 32 (59, .goto 5, 3) rfl) rfl ?_
                refine z_istore (pc := 64) (al' := [(4, zI v6_5), (0, zR 0 0), (1, zI p1), (2, zI p2), (3, zI v3_2), (5, zI v5_4), (6, zI v6_5)]) (zdg D_X12_whenShot 34 (64, .istore 4, 2) rfl) (by decide) rfl ?_
                refine z_iload (pc := 66) 6 (zdg D_X12_whenShot 35 (66, .iload 6, 2) rfl) rfl ?_
                refine z_istore (pc := 68) (al' := [(5, zI v6_5), (4, zI v6_5), (0, zR 0 0), (1, zI p1), (2, zI p2), (3, zI v3_2), (6, zI v6_5)]) (zdg D_X12_whenShot 36 (68, .istore 5, 2) rfl) (by decide) rfl ?_
                refine z_iinc (pc := 70) (v0 := (v3_2 + 1)) (al' := [(3, zI (v3_2 + 1)), (5, zI v6_5), (4, zI v6_5), (0, zR 0 0), (1, zI p1), (2, zI p2), (6, zI v6_5)]) 5 (zdg D_X12_whenShot 37 (70, .iinc 3 1, 3) rfl) rfl rfl (by decide) rfl ?_
                refine z_iinc (pc := 73) (v0 := (v6_5 + 1)) (al' := [(6, zI (v6_5 + 1)), (3, zI (v3_2 + 1)), (5, zI v6_5), (4, zI v6_5), (0, zR 0 0), (1, zI p1), (2, zI p2)]) 6 (zdg D_X12_whenShot 38 (73, .iinc 6 1, 3) rfl) rfl rfl (by decide) rfl ?_
                refine z_goto (pc := 76) 31 (zdg D_X12_whenShot 39 (76, .goto (-45), 3) rfl) rfl ?_
                refine z_sub (al' := [(0, zR 0 0), (1, zI p1), (2, zI p2), (3, zI (v3_2 + 1)), (4, zI v6_5), (5, zI v6_5), (6, zI (v6_5 + 1))]) [4, 5, 6, 1, 3, 2, 0] rfl ?_
                exact hi ((v3_2 + 1), v6_5, v6_5, (v6_5 + 1), q7.2) hf
            · refine z_goto (pc := 50) 73 (zdg D_X12_whenShot 28 (50, .goto 23, 3) rfl) rfl ?_
              refine z_iinc (pc := 73) (v0 := (v6_5 + 1)) (al' := [(6, zI (v6_5 + 1)), (0, zR 0 0), (1, zI p1), (2, zI p2), (3, zI v3_2), (4, zI v4_3), (5, zI v5_4)]) 6 (zdg D_X12_whenShot 38 (73, .iinc 6 1, 3) rfl) rfl rfl (by decide) rfl ?_
              refine z_goto (pc := 76) 31 (zdg D_X12_whenShot 39 (76, .goto (-45), 3) rfl) rfl ?_
              refine z_sub (al' := [(0, zR 0 0), (1, zI p1), (2, zI p2), (3, zI v3_2), (4, zI v4_3), (5, zI v5_4), (6, zI (v6_5 + 1))]) [1, 2, 3, 4, 5, 6, 0] rfl ?_
              exact hi (v3_2, v4_3, v5_4, (v6_5 + 1), q7.2) hf
      · refine z_bipush (pc := 17) (v := -2) (zdg D_X12_whenShot 9 (17, .bipush (-2), 2) rfl) rfl ?_
        exact z_iret (pc := 19) rfl rfl (zdg D_X12_whenShot 10 (19, .ireturn, 1) rfl) (hP _ _ hf)

def L_X12_laysStanding : List (Nat × Instr × Nat) := [(0, .iconst 0, 1), (1, .istore_n 2, 1), (2, .aload_n 0, 1), (3, .iconst 0, 1), (4, .putfield 418, 3), (7, .aload_n 0, 1), (8, .iconst (-1), 1), (9, .putfield 421, 3), (12, .iconst 0, 1), (13, .istore_n 3, 1), (14, .iload_n 3, 1), (15, .sipush 500, 3), (18, .if_icmp .gt 89, 3), (21, .aload_n 0, 1), (22, .iload_n 1, 1), (23, .iload_n 3, 1), (24, .invokevirtual 303, 3), (27, .iconst (-1), 1), (28, .if_icmp .eq 7, 3), (31, .iconst 1, 1), (32, .goto 4, 3), (35, .iconst 0, 1), (36, .istore 4, 2), (38, .iload 4, 2), (40, .ifCond .ne 7, 3), (43, .iconst 0, 1), (44, .goto 31, 3), (47, .iload_n 3, 1), (48, .ifCond .le 26, 3), (51, .aload_n 0, 1), (52, .iload_n 1, 1), (53, .iload_n 3, 1), (54, .invokevirtual 303, 3), (57, .aload_n 0, 1), (58, .iload_n 1, 1), (59, .iload_n 3, 1), (60, .iconst 1, 1), (61, .isub, 1), (62, .invokevirtual 303, 3), (65, .if_icmp .ne 9, 3), (68, .iload_n 2, 1), (69, .iconst 1, 1), (70, .iadd, 1), (71, .goto 4, 3), (74, .iconst 1, 1), (75, .istore_n 2, 1), (76, .iload_n 2, 1), (77, .aload_n 0, 1), (78, .getfield 418, 3), (81, .if_icmp .gt 6, 3), (84, .goto 17, 3), (87, .aload_n 0, 1), (88, .iload_n 2, 1), (89, .putfield 418, 3), (92, .aload_n 0, 1), (93, .iload_n 3, 1), (94, .iload_n 2, 1), (95, .isub, 1), (96, .iconst 1, 1), (97, .iadd, 1), (98, .putfield 421, 3), (101, .iinc 3 1, 3), (104, .goto (-90), 3), (107, .return_, 1)]
set_option maxRecDepth 100000 in
theorem D_X12_laysStanding : zdecs cX12_laysStanding L_X12_laysStanding = true := by decide +kernel
noncomputable def j_X12_laysStanding_75_14 (w3_13 : Int32) (t14 : Int32) (s15 : zG) : Option ((Int32 × Int32 × zG) ⊕ (zG)) :=
  if t14 ≤ (s15.1 0 0 33) then some (Sum.inl (t14, (w3_13 + 1), s15)) else zb (zwI s15 0 0 33 t14) (fun s16 => zb (zwI s16 0 0 34 ((w3_13 - t14) + (1 : Int32))) (fun s17 => some (Sum.inl (t14, (w3_13 + 1), s17))))
noncomputable def j_X12_laysStanding_74_14 (w3_11 : Int32) (s12 : zG) : Option ((Int32 × Int32 × zG) ⊕ (zG)) :=
  j_X12_laysStanding_75_14 w3_11 (1 : Int32) s12
noncomputable def j_X12_laysStanding_36_14 (p1 : Int32) (w2_7 : Int32) (w3_8 : Int32) (t9 : Int32) (s10 : zG) : Option ((Int32 × Int32 × zG) ⊕ (zG)) :=
  if t9 = 0 then j_X12_laysStanding_75_14 w3_8 (0 : Int32) s10 else if 0 < w3_8 then (f_X12_placeOf p1 w3_8 s10).bind (fun q18 => (f_X12_placeOf p1 (w3_8 - (1 : Int32)) s10).bind (fun q19 => if q18 = q19 then j_X12_laysStanding_75_14 w3_8 (w2_7 + (1 : Int32)) s10 else j_X12_laysStanding_74_14 w3_8 s10)) else j_X12_laysStanding_74_14 w3_8 s10
noncomputable def b_X12_laysStanding_14 (p1 : Int32) (v2_3 : Int32) (v3_4 : Int32) (s5 : zG) : Option ((Int32 × Int32 × zG) ⊕ (zG)) :=
  if v3_4 ≤ (500 : Int32) then (f_X12_placeOf p1 v3_4 s5).bind (fun q6 => if q6 = (-1 : Int32) then j_X12_laysStanding_36_14 p1 v2_3 v3_4 (0 : Int32) s5 else j_X12_laysStanding_36_14 p1 v2_3 v3_4 (1 : Int32) s5) else some (Sum.inr s5)
noncomputable def f_X12_laysStanding (p1 : Int32) (σ : zG) : Option (zG) :=
  zb (zwI σ 0 0 33 (0 : Int32)) (fun s1 => zb (zwI s1 0 0 34 (-1 : Int32)) (fun s2 => (zlp (fun q : Int32 × Int32 × zG => b_X12_laysStanding_14 p1 q.1 q.2.1 q.2.2) ((0 : Int32), (0 : Int32), s2)).bind (fun e20 : zG => some e20)))
set_option maxRecDepth 100000 in
set_option maxHeartbeats 4000000 in
theorem c_X12_laysStanding (l : Launch) (p1 : Int32) (σ : zG) (q : zG) (hq : f_X12_laysStanding p1 σ = some q) : zMet l zsyM m_X12_laysStanding yX12_laysStanding [zR 0 0, zI p1] σ none q := by
  refine zEnter [(0, zR 0 0), (1, zI p1)] (by decide) rfl (fun _ => Nat.le_of_ble_eq_true rfl) (fun _ => rfl) (fun w h => ?_) (fun K hv hs => ?_)
  · exact zokm rfl h
  · have hP : ∀ s, f_X12_laysStanding p1 σ = some s → zKv K = none ∧ zKs K = s := fun s h => by rw [hq] at h; cases h; exact ⟨hv, hs⟩
    have hn : f_X12_laysStanding p1 σ ≠ none := fun z => by rw [hq] at z; cases z
    have hf := f_X12_laysStanding.eq_1 p1 σ
    refine z_iconst (pc := 0) (v := 0) (zdg D_X12_laysStanding 0 (0, .iconst 0, 1) rfl) rfl ?_
    refine z_istore_n (pc := 1) (al' := [(2, zI (0 : Int32)), (0, zR 0 0), (1, zI p1)]) (zdg D_X12_laysStanding 1 (1, .istore_n 2, 1) rfl) rfl (by decide) rfl ?_
    refine z_aload_n (pc := 2) 1 (zdg D_X12_laysStanding 2 (2, .aload_n 0, 1) rfl) rfl rfl ?_
    refine z_iconst (pc := 3) (v := 0) (zdg D_X12_laysStanding 3 (3, .iconst 0, 1) rfl) rfl ?_
    refine z_putI (pc := 4) lw_X12_418 rfl rfl rfl rfl (zdg D_X12_laysStanding 4 (4, .putfield 418, 3) rfl) ?_
    refine z_nmS hf (fun s1 hf => ?_)
    refine z_aload_n (pc := 7) 1 (zdg D_X12_laysStanding 5 (7, .aload_n 0, 1) rfl) rfl rfl ?_
    refine z_iconst (pc := 8) (v := -1) (zdg D_X12_laysStanding 6 (8, .iconst (-1), 1) rfl) rfl ?_
    refine z_putI (pc := 9) lw_X12_421 rfl rfl rfl rfl (zdg D_X12_laysStanding 7 (9, .putfield 421, 3) rfl) ?_
    refine z_nmS hf (fun s2 hf => ?_)
    refine z_iconst (pc := 12) (v := 0) (zdg D_X12_laysStanding 8 (12, .iconst 0, 1) rfl) rfl ?_
    refine z_istore_n (pc := 13) (al' := [(3, zI (0 : Int32)), (2, zI (0 : Int32)), (0, zR 0 0), (1, zI p1)]) (zdg D_X12_laysStanding 9 (13, .istore_n 3, 1) rfl) rfl (by decide) rfl ?_
    refine z_sub (al' := [(0, zR 0 0), (1, zI p1), (2, zI (0 : Int32)), (3, zI (0 : Int32))]) [2, 3, 1, 0] rfl ?_
    refine z_loop (f := (fun q : Int32 × Int32 × zG => b_X12_laysStanding_14 p1 q.1 q.2.1 q.2.2)) (a := ((0 : Int32), (0 : Int32), s2)) (fun q : Int32 × Int32 × zG => zX zsyM m_X12_laysStanding K 14 [(0, zR 0 0), (1, zI p1), (2, zI q.1), (3, zI q.2.1)] [] q.2.2) (fun e20 : zG => zX zsyM m_X12_laysStanding K 107 [] [] e20) hn hf ?_ ?_
    · intro e20 hf
      exact z_vret (pc := 107) rfl (zdg D_X12_laysStanding 63 (107, .return_, 1) rfl) (hP _ hf)
    · rintro ⟨v2_3, v3_4, s5⟩ hn hi hx
      have hf := b_X12_laysStanding_14.eq_1 p1 v2_3 v3_4 s5
      have t_75 : ∀ (w3_13 : Int32) (t14 : Int32) (s15 : zG), b_X12_laysStanding_14 p1 v2_3 v3_4 s5 = j_X12_laysStanding_75_14 w3_13 t14 s15 → zX zsyM m_X12_laysStanding K 75 [(0, zR 0 0), (1, zI p1), (3, zI w3_13)] [zI t14] s15 := by
        intro w3_13 t14 s15 hf
        replace hf := hf.trans (j_X12_laysStanding_75_14.eq_1 w3_13 t14 s15)
        refine z_istore_n (pc := 75) (al' := [(2, zI t14), (0, zR 0 0), (1, zI p1), (3, zI w3_13)]) (zdg D_X12_laysStanding 45 (75, .istore_n 2, 1) rfl) rfl (by decide) rfl ?_
        refine z_iload_n (pc := 76) 0 (zdg D_X12_laysStanding 46 (76, .iload_n 2, 1) rfl) rfl rfl ?_
        refine z_aload_n (pc := 77) 1 (zdg D_X12_laysStanding 47 (77, .aload_n 0, 1) rfl) rfl rfl ?_
        refine z_getI (pc := 78) lf_X12_418 rfl rfl (zdg D_X12_laysStanding 48 (78, .getfield 418, 3) rfl) ?_
        refine z_icmp_gt (pc := 81) 87 (zdg D_X12_laysStanding 49 (81, .if_icmp .gt 6, 3) rfl) rfl hf (fun hf => ?_) (fun hf => ?_)
        · refine z_aload_n (pc := 87) 1 (zdg D_X12_laysStanding 51 (87, .aload_n 0, 1) rfl) rfl rfl ?_
          refine z_iload_n (pc := 88) 0 (zdg D_X12_laysStanding 52 (88, .iload_n 2, 1) rfl) rfl rfl ?_
          refine z_putI (pc := 89) lw_X12_418 rfl rfl rfl rfl (zdg D_X12_laysStanding 53 (89, .putfield 418, 3) rfl) ?_
          refine z_nmS hf (fun s16 hf => ?_)
          refine z_aload_n (pc := 92) 1 (zdg D_X12_laysStanding 54 (92, .aload_n 0, 1) rfl) rfl rfl ?_
          refine z_iload_n (pc := 93) 3 (zdg D_X12_laysStanding 55 (93, .iload_n 3, 1) rfl) rfl rfl ?_
          refine z_iload_n (pc := 94) 0 (zdg D_X12_laysStanding 56 (94, .iload_n 2, 1) rfl) rfl rfl ?_
          refine z_isub (pc := 95) (zdg D_X12_laysStanding 57 (95, .isub, 1) rfl) ?_
          refine z_iconst (pc := 96) (v := 1) (zdg D_X12_laysStanding 58 (96, .iconst 1, 1) rfl) rfl ?_
          refine z_iadd (pc := 97) (zdg D_X12_laysStanding 59 (97, .iadd, 1) rfl) ?_
          refine z_putI (pc := 98) lw_X12_421 rfl rfl rfl rfl (zdg D_X12_laysStanding 60 (98, .putfield 421, 3) rfl) ?_
          refine z_nmS hf (fun s17 hf => ?_)
          refine z_iinc (pc := 101) (v0 := (w3_13 + 1)) (al' := [(3, zI (w3_13 + 1)), (2, zI t14), (0, zR 0 0), (1, zI p1)]) 3 (zdg D_X12_laysStanding 61 (101, .iinc 3 1, 3) rfl) rfl rfl (by decide) rfl ?_
          refine z_goto (pc := 104) 14 (zdg D_X12_laysStanding 62 (104, .goto (-90), 3) rfl) rfl ?_
          refine z_sub (al' := [(0, zR 0 0), (1, zI p1), (2, zI t14), (3, zI (w3_13 + 1))]) [2, 3, 1, 0] rfl ?_
          exact hi (t14, (w3_13 + 1), s17) hf
        · refine z_goto (pc := 84) 101 (zdg D_X12_laysStanding 50 (84, .goto 17, 3) rfl) rfl ?_
          refine z_iinc (pc := 101) (v0 := (w3_13 + 1)) (al' := [(3, zI (w3_13 + 1)), (2, zI t14), (0, zR 0 0), (1, zI p1)]) 3 (zdg D_X12_laysStanding 61 (101, .iinc 3 1, 3) rfl) rfl rfl (by decide) rfl ?_
          refine z_goto (pc := 104) 14 (zdg D_X12_laysStanding 62 (104, .goto (-90), 3) rfl) rfl ?_
          refine z_sub (al' := [(0, zR 0 0), (1, zI p1), (2, zI t14), (3, zI (w3_13 + 1))]) [2, 3, 1, 0] rfl ?_
          exact hi (t14, (w3_13 + 1), s15) hf
      have t_74 : ∀ (w3_11 : Int32) (s12 : zG), b_X12_laysStanding_14 p1 v2_3 v3_4 s5 = j_X12_laysStanding_74_14 w3_11 s12 → zX zsyM m_X12_laysStanding K 74 [(0, zR 0 0), (1, zI p1), (3, zI w3_11)] [] s12 := by
        intro w3_11 s12 hf
        replace hf := hf.trans (j_X12_laysStanding_74_14.eq_1 w3_11 s12)
        refine z_iconst (pc := 74) (v := 1) (zdg D_X12_laysStanding 44 (74, .iconst 1, 1) rfl) rfl ?_
        exact t_75 w3_11 (1 : Int32) s12 hf
      have t_36 : ∀ (w2_7 : Int32) (w3_8 : Int32) (t9 : Int32) (s10 : zG), b_X12_laysStanding_14 p1 v2_3 v3_4 s5 = j_X12_laysStanding_36_14 p1 w2_7 w3_8 t9 s10 → zX zsyM m_X12_laysStanding K 36 [(0, zR 0 0), (1, zI p1), (2, zI w2_7), (3, zI w3_8)] [zI t9] s10 := by
        intro w2_7 w3_8 t9 s10 hf
        replace hf := hf.trans (j_X12_laysStanding_36_14.eq_1 p1 w2_7 w3_8 t9 s10)
        refine z_istore (pc := 36) (al' := [(4, zI t9), (0, zR 0 0), (1, zI p1), (2, zI w2_7), (3, zI w3_8)]) (zdg D_X12_laysStanding 22 (36, .istore 4, 2) rfl) (by decide) rfl ?_
        refine z_iload (pc := 38) 0 (zdg D_X12_laysStanding 23 (38, .iload 4, 2) rfl) rfl ?_
        refine z_if_ne (pc := 40) 47 (zdg D_X12_laysStanding 24 (40, .ifCond .ne 7, 3) rfl) rfl hf (fun hf => ?_) (fun hf => ?_)
        · refine z_iload_n (pc := 47) 4 (zdg D_X12_laysStanding 27 (47, .iload_n 3, 1) rfl) rfl rfl ?_
          refine z_if_le (pc := 48) 74 (zdg D_X12_laysStanding 28 (48, .ifCond .le 26, 3) rfl) rfl hf (fun hf => ?_) (fun hf => ?_)
          · refine z_sub (al' := [(0, zR 0 0), (1, zI p1), (3, zI w3_8)]) [1, 2, 4] rfl ?_
            exact t_74 w3_8 s10 hf
          · refine z_aload_n (pc := 51) 1 (zdg D_X12_laysStanding 29 (51, .aload_n 0, 1) rfl) rfl rfl ?_
            refine z_iload_n (pc := 52) 2 (zdg D_X12_laysStanding 30 (52, .iload_n 1, 1) rfl) rfl rfl ?_
            refine z_iload_n (pc := 53) 4 (zdg D_X12_laysStanding 31 (53, .iload_n 3, 1) rfl) rfl rfl ?_
            refine z_bind hn hf (fun q18 hq hf => ?_)
            refine z_callV (pc := 54) (rest := []) (st2 := [zI q18]) (fun l => c_X12_placeOf l p1 w3_8 s10 q18 hq) zv_X12_placeOf lm_X12_303 rfl rfl rfl rfl rfl rfl (Nat.le_of_ble_eq_true rfl) ⟨Nat.le_of_ble_eq_true rfl, Nat.le_of_ble_eq_true rfl⟩ (zdg D_X12_laysStanding 32 (54, .invokevirtual 303, 3) rfl) ?_
            refine z_aload_n (pc := 57) 1 (zdg D_X12_laysStanding 33 (57, .aload_n 0, 1) rfl) rfl rfl ?_
            refine z_iload_n (pc := 58) 2 (zdg D_X12_laysStanding 34 (58, .iload_n 1, 1) rfl) rfl rfl ?_
            refine z_iload_n (pc := 59) 4 (zdg D_X12_laysStanding 35 (59, .iload_n 3, 1) rfl) rfl rfl ?_
            refine z_iconst (pc := 60) (v := 1) (zdg D_X12_laysStanding 36 (60, .iconst 1, 1) rfl) rfl ?_
            refine z_isub (pc := 61) (zdg D_X12_laysStanding 37 (61, .isub, 1) rfl) ?_
            refine z_bind hn hf (fun q19 hq hf => ?_)
            refine z_callV (pc := 62) (rest := [zI q18]) (st2 := [zI q19, zI q18]) (fun l => c_X12_placeOf l p1 (w3_8 - (1 : Int32)) s10 q19 hq) zv_X12_placeOf lm_X12_303 rfl rfl rfl rfl rfl rfl (Nat.le_of_ble_eq_true rfl) ⟨Nat.le_of_ble_eq_true rfl, Nat.le_of_ble_eq_true rfl⟩ (zdg D_X12_laysStanding 38 (62, .invokevirtual 303, 3) rfl) ?_
            refine z_icmp_ne (pc := 65) 74 (zdg D_X12_laysStanding 39 (65, .if_icmp .ne 9, 3) rfl) rfl hf (fun hf => ?_) (fun hf => ?_)
            · refine z_sub (al' := [(0, zR 0 0), (1, zI p1), (3, zI w3_8)]) [1, 2, 4] rfl ?_
              exact t_74 w3_8 s10 hf
            · refine z_iload_n (pc := 68) 3 (zdg D_X12_laysStanding 40 (68, .iload_n 2, 1) rfl) rfl rfl ?_
              refine z_iconst (pc := 69) (v := 1) (zdg D_X12_laysStanding 41 (69, .iconst 1, 1) rfl) rfl ?_
              refine z_iadd (pc := 70) (zdg D_X12_laysStanding 42 (70, .iadd, 1) rfl) ?_
              refine z_goto (pc := 71) 75 (zdg D_X12_laysStanding 43 (71, .goto 4, 3) rfl) rfl ?_
              refine z_sub (al' := [(0, zR 0 0), (1, zI p1), (3, zI w3_8)]) [1, 2, 4] rfl ?_
              exact t_75 w3_8 (w2_7 + (1 : Int32)) s10 hf
        · refine z_iconst (pc := 43) (v := 0) (zdg D_X12_laysStanding 25 (43, .iconst 0, 1) rfl) rfl ?_
          refine z_goto (pc := 44) 75 (zdg D_X12_laysStanding 26 (44, .goto 31, 3) rfl) rfl ?_
          refine z_sub (al' := [(0, zR 0 0), (1, zI p1), (3, zI w3_8)]) [1, 2, 4] rfl ?_
          exact t_75 w3_8 (0 : Int32) s10 hf
      refine z_iload_n (pc := 14) 3 (zdg D_X12_laysStanding 10 (14, .iload_n 3, 1) rfl) rfl rfl ?_
      refine z_sipush (pc := 15) (v := 500) (zdg D_X12_laysStanding 11 (15, .sipush 500, 3) rfl) rfl ?_
      refine z_icmp_gt (pc := 18) 107 (zdg D_X12_laysStanding 12 (18, .if_icmp .gt 89, 3) rfl) rfl hf (fun hf => ?_) (fun hf => ?_)
      · refine z_sub (al' := []) [] rfl ?_
        exact hx s5 hf
      · refine z_aload_n (pc := 21) 0 (zdg D_X12_laysStanding 13 (21, .aload_n 0, 1) rfl) rfl rfl ?_
        refine z_iload_n (pc := 22) 1 (zdg D_X12_laysStanding 14 (22, .iload_n 1, 1) rfl) rfl rfl ?_
        refine z_iload_n (pc := 23) 3 (zdg D_X12_laysStanding 15 (23, .iload_n 3, 1) rfl) rfl rfl ?_
        refine z_bind hn hf (fun q6 hq hf => ?_)
        refine z_callV (pc := 24) (rest := []) (st2 := [zI q6]) (fun l => c_X12_placeOf l p1 v3_4 s5 q6 hq) zv_X12_placeOf lm_X12_303 rfl rfl rfl rfl rfl rfl (Nat.le_of_ble_eq_true rfl) ⟨Nat.le_of_ble_eq_true rfl, Nat.le_of_ble_eq_true rfl⟩ (zdg D_X12_laysStanding 16 (24, .invokevirtual 303, 3) rfl) ?_
        refine z_iconst (pc := 27) (v := -1) (zdg D_X12_laysStanding 17 (27, .iconst (-1), 1) rfl) rfl ?_
        refine z_icmp_eq (pc := 28) 35 (zdg D_X12_laysStanding 18 (28, .if_icmp .eq 7, 3) rfl) rfl hf (fun hf => ?_) (fun hf => ?_)
        · refine z_iconst (pc := 35) (v := 0) (zdg D_X12_laysStanding 21 (35, .iconst 0, 1) rfl) rfl ?_
          exact t_36 v2_3 v3_4 (0 : Int32) s5 hf
        · refine z_iconst (pc := 31) (v := 1) (zdg D_X12_laysStanding 19 (31, .iconst 1, 1) rfl) rfl ?_
          refine z_goto (pc := 32) 36 (zdg D_X12_laysStanding 20 (32, .goto 4, 3) rfl) rfl ?_
          exact t_36 v2_3 v3_4 (1 : Int32) s5 hf
