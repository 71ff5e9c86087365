/-! Arrays.fill, for any array of a system -/
def L_J7_fill_53178 : List (Nat × Instr × Nat) := [(0, .iconst 0, 1), (1, .istore_n 2, 1), (2, .aload_n 0, 1), (3, .arraylength, 1), (4, .istore_n 3, 1), (5, .iload_n 2, 1), (6, .iload_n 3, 1), (7, .if_icmp .ge 13, 3), (10, .aload_n 0, 1), (11, .iload_n 2, 1), (12, .iload_n 1, 1), (13, .iastore, 1), (14, .iinc 2 1, 3), (17, .goto (-12), 3), (20, .return_, 1)]
theorem D_J7_fill_53178 : zdecs cJ7_fill_53178 L_J7_fill_53178 = true := by decide +kernel
theorem zflI_0 (σ : zG) (f i : Nat) (x : Int32) : zflI σ f i 0 x = σ := by simp [zflI]
theorem zflI_s (σ : zG) (f i k : Nat) (x : Int32) : zwI (zflI σ f i k x) f i k x = zflI σ f i (k + 1) x := by
  unfold zwI zflI
  congr 1
  funext f' i' k'
  by_cases h1 : f' = f ∧ i' = i
  · obtain ⟨rfl, rfl⟩ := h1
    simp only [true_and]
    by_cases h2 : k' = k
    · subst h2; simp
    · by_cases h3 : k' < k
      · rw [if_neg h2, if_pos h3, if_pos (by omega)]
      · rw [if_neg h2, if_neg h3, if_neg (by omega)]
  · have e1 : ¬ (f' = f ∧ i' = i ∧ k' = k) := fun z => h1 ⟨z.1, z.2.1⟩
    have e2 : ∀ n, ¬ (f' = f ∧ i' = i ∧ k' < n) := fun n z => h1 ⟨z.1, z.2.1⟩
    simp only [if_neg e1, if_neg (e2 _)]
set_option maxRecDepth 100000 in
set_option maxHeartbeats 4000000 in
theorem c_fillI (l : Launch) (sy : zSy) (f i n : Nat) (x : Int32) (σ : zG) (hf0 : sy.1.1 f = .inr (.int, n)) (ht : ∀ j, sy.1.2.1 f j = 0) (hN : n < 2 ^ 31) : zMet l sy m_J7_fill_53178 yJ7_fill_53178 [zR f i, zI x] σ none (zflI σ f i n x) := by
  refine zEnter [(0, zR f i), (1, zI x)] (by decide) rfl (fun _ => Nat.le_of_ble_eq_true rfl) (fun _ => rfl) (fun w h => ?_) (fun K hv hs => ?_)
  · exact zokm rfl h
  · have loop : ∀ d k, k + d = n → zX sy m_J7_fill_53178 K 5 [(3, zI (nI n)), (2, zI (nI k)), (0, zR f i), (1, zI x)] [] (zflI σ f i k x) := by
      intro d
      induction d with
      | zero =>
        intro k hk
        have hkn : k = n := by omega
        subst hkn
        refine z_iload_n (pc := 5) 1 (zdg D_J7_fill_53178 5 (5, .iload_n 2, 1) rfl) rfl rfl ?_
        refine z_iload_n (pc := 6) 0 (zdg D_J7_fill_53178 6 (6, .iload_n 3, 1) rfl) rfl rfl ?_
        refine z_icmp_ge (res := if nI k < nI k then (1 : Nat) else 0) (A := 1) (B := 0) (pc := 7) 20 (zdg D_J7_fill_53178 7 (7, .if_icmp .ge 13, 3) rfl) rfl rfl (fun _ => ?_) (fun h => ?_)
        · exact z_vret (pc := 20) rfl (zdg D_J7_fill_53178 14 (20, .return_, 1) rfl) ⟨hv, hs⟩
        · rw [if_neg (nI_nlt (Nat.le_refl k) hN)] at h
          cases h
      | succ d ih =>
        intro k hk
        refine z_iload_n (pc := 5) 1 (zdg D_J7_fill_53178 5 (5, .iload_n 2, 1) rfl) rfl rfl ?_
        refine z_iload_n (pc := 6) 0 (zdg D_J7_fill_53178 6 (6, .iload_n 3, 1) rfl) rfl rfl ?_
        refine z_icmp_ge (res := if nI k < nI n then (1 : Nat) else 0) (A := 1) (B := 0) (pc := 7) 20 (zdg D_J7_fill_53178 7 (7, .if_icmp .ge 13, 3) rfl) rfl rfl (fun h => ?_) (fun _ => ?_)
        · rw [if_pos (nI_lt (show k < n by omega) hN)] at h
          cases h
        · refine z_aload_n (pc := 10) 2 (zdg D_J7_fill_53178 8 (10, .aload_n 0, 1) rfl) rfl rfl ?_
          refine z_iload_n (pc := 11) 1 (zdg D_J7_fill_53178 9 (11, .iload_n 2, 1) rfl) rfl rfl ?_
          refine z_iload_n (pc := 12) 3 (zdg D_J7_fill_53178 10 (12, .iload_n 1, 1) rfl) rfl rfl ?_
          refine z_iastK (pc := 13) hf0 ht (zdg D_J7_fill_53178 11 (13, .iastore, 1) rfl) ?_ ?_
          · simp only [zin, Bool.and_eq_true, decide_eq_true_eq]
            exact ⟨nI_pos (by omega), by rw [nI_clamp (by omega)]; omega⟩
          · rw [nI_clamp (by omega), zflI_s]
            refine z_iinc (pc := 14) (v0 := nI (k + 1)) (al' := [(2, zI (nI (k + 1))), (3, zI (nI n)), (0, zR f i), (1, zI x)]) 1 (zdg D_J7_fill_53178 12 (14, .iinc 2 1, 3) rfl) rfl (nI_succ k).symm (by decide) rfl ?_
            refine z_goto (pc := 17) 5 (zdg D_J7_fill_53178 13 (17, .goto (-12), 3) rfl) rfl ?_
            refine z_sub (al' := [(3, zI (nI n)), (2, zI (nI (k + 1))), (0, zR f i), (1, zI x)]) [1, 0, 2, 3] rfl ?_
            exact ih (k + 1) (by omega)
    refine z_iconst (pc := 0) (v := 0) (zdg D_J7_fill_53178 0 (0, .iconst 0, 1) rfl) rfl ?_
    refine z_istore_n (pc := 1) (al' := [(2, zI 0), (0, zR f i), (1, zI x)]) (zdg D_J7_fill_53178 1 (1, .istore_n 2, 1) rfl) rfl (by decide) rfl ?_
    refine z_aload_n (pc := 2) 1 (zdg D_J7_fill_53178 2 (2, .aload_n 0, 1) rfl) rfl rfl ?_
    refine z_alen (pc := 3) hf0 (zdg D_J7_fill_53178 3 (3, .arraylength, 1) rfl) ?_
    refine z_istore_n (pc := 4) (al' := [(3, zI (nI n)), (2, zI 0), (0, zR f i), (1, zI x)]) (zdg D_J7_fill_53178 4 (4, .istore_n 3, 1) rfl) rfl (by decide) rfl ?_
    have h0 := loop n 0 (by omega)
    rw [zflI_0] at h0
    exact h0
def L_J7_fill_031fb : List (Nat × Instr × Nat) := [(0, .iconst 0, 1), (1, .istore_n 2, 1), (2, .aload_n 0, 1), (3, .arraylength, 1), (4, .istore_n 3, 1), (5, .iload_n 2, 1), (6, .iload_n 3, 1), (7, .if_icmp .ge 13, 3), (10, .aload_n 0, 1), (11, .iload_n 2, 1), (12, .iload_n 1, 1), (13, .bastore, 1), (14, .iinc 2 1, 3), (17, .goto (-12), 3), (20, .return_, 1)]
theorem D_J7_fill_031fb : zdecs cJ7_fill_031fb L_J7_fill_031fb = true := by decide +kernel
set_option maxRecDepth 100000 in
set_option maxHeartbeats 4000000 in
theorem c_fillB (l : Launch) (sy : zSy) (f i n : Nat) (x : Int32) (σ : zG) (hf0 : sy.1.1 f = .inr (.byte, n)) (ht : ∀ j, sy.1.2.1 f j = 0) (hN : n < 2 ^ 31) (hb : zi2b x = x) : zMet l sy m_J7_fill_031fb yJ7_fill_031fb [zR f i, zI x] σ none (zflB σ f i n x) := by
  refine zEnter [(0, zR f i), (1, zI x)] (by decide) rfl (fun _ => Nat.le_of_ble_eq_true rfl) (fun _ => rfl) (fun w h => ?_) (fun K hv hs => ?_)
  · exact zokm rfl h
  · have loop : ∀ d k, k + d = n → zX sy m_J7_fill_031fb K 5 [(3, zI (nI n)), (2, zI (nI k)), (0, zR f i), (1, zI x)] [] (zflI σ f i k x) := by
      intro d
      induction d with
      | zero =>
        intro k hk
        have hkn : k = n := by omega
        subst hkn
        refine z_iload_n (pc := 5) 1 (zdg D_J7_fill_031fb 5 (5, .iload_n 2, 1) rfl) rfl rfl ?_
        refine z_iload_n (pc := 6) 0 (zdg D_J7_fill_031fb 6 (6, .iload_n 3, 1) rfl) rfl rfl ?_
        refine z_icmp_ge (res := if nI k < nI k then (1 : Nat) else 0) (A := 1) (B := 0) (pc := 7) 20 (zdg D_J7_fill_031fb 7 (7, .if_icmp .ge 13, 3) rfl) rfl rfl (fun _ => ?_) (fun h => ?_)
        · exact z_vret (pc := 20) rfl (zdg D_J7_fill_031fb 14 (20, .return_, 1) rfl) ⟨hv, hs⟩
        · rw [if_neg (nI_nlt (Nat.le_refl k) hN)] at h
          cases h
      | succ d ih =>
        intro k hk
        refine z_iload_n (pc := 5) 1 (zdg D_J7_fill_031fb 5 (5, .iload_n 2, 1) rfl) rfl rfl ?_
        refine z_iload_n (pc := 6) 0 (zdg D_J7_fill_031fb 6 (6, .iload_n 3, 1) rfl) rfl rfl ?_
        refine z_icmp_ge (res := if nI k < nI n then (1 : Nat) else 0) (A := 1) (B := 0) (pc := 7) 20 (zdg D_J7_fill_031fb 7 (7, .if_icmp .ge 13, 3) rfl) rfl rfl (fun h => ?_) (fun _ => ?_)
        · rw [if_pos (nI_lt (show k < n by omega) hN)] at h
          cases h
        · refine z_aload_n (pc := 10) 2 (zdg D_J7_fill_031fb 8 (10, .aload_n 0, 1) rfl) rfl rfl ?_
          refine z_iload_n (pc := 11) 1 (zdg D_J7_fill_031fb 9 (11, .iload_n 2, 1) rfl) rfl rfl ?_
          refine z_iload_n (pc := 12) 3 (zdg D_J7_fill_031fb 10 (12, .iload_n 1, 1) rfl) rfl rfl ?_
          refine z_bastK (pc := 13) hf0 ht (zdg D_J7_fill_031fb 11 (13, .bastore, 1) rfl) ?_ ?_
          · simp only [zin, Bool.and_eq_true, decide_eq_true_eq]
            exact ⟨nI_pos (by omega), by rw [nI_clamp (by omega)]; omega⟩
          · rw [nI_clamp (by omega), hb, zflI_s]
            refine z_iinc (pc := 14) (v0 := nI (k + 1)) (al' := [(2, zI (nI (k + 1))), (3, zI (nI n)), (0, zR f i), (1, zI x)]) 1 (zdg D_J7_fill_031fb 12 (14, .iinc 2 1, 3) rfl) rfl (nI_succ k).symm (by decide) rfl ?_
            refine z_goto (pc := 17) 5 (zdg D_J7_fill_031fb 13 (17, .goto (-12), 3) rfl) rfl ?_
            refine z_sub (al' := [(3, zI (nI n)), (2, zI (nI (k + 1))), (0, zR f i), (1, zI x)]) [1, 0, 2, 3] rfl ?_
            exact ih (k + 1) (by omega)
    refine z_iconst (pc := 0) (v := 0) (zdg D_J7_fill_031fb 0 (0, .iconst 0, 1) rfl) rfl ?_
    refine z_istore_n (pc := 1) (al' := [(2, zI 0), (0, zR f i), (1, zI x)]) (zdg D_J7_fill_031fb 1 (1, .istore_n 2, 1) rfl) rfl (by decide) rfl ?_
    refine z_aload_n (pc := 2) 1 (zdg D_J7_fill_031fb 2 (2, .aload_n 0, 1) rfl) rfl rfl ?_
    refine z_alen (pc := 3) hf0 (zdg D_J7_fill_031fb 3 (3, .arraylength, 1) rfl) ?_
    refine z_istore_n (pc := 4) (al' := [(3, zI (nI n)), (2, zI 0), (0, zR f i), (1, zI x)]) (zdg D_J7_fill_031fb 4 (4, .istore_n 3, 1) rfl) rfl (by decide) rfl ?_
    have h0 := loop n 0 (by omega)
    rw [zflI_0] at h0
    exact h0
def L_J7_fill_d0a16 : List (Nat × Instr × Nat) := [(0, .iconst 0, 1), (1, .istore_n 3, 1), (2, .aload_n 0, 1), (3, .arraylength, 1), (4, .istore 4, 2), (6, .iload_n 3, 1), (7, .iload 4, 2), (9, .if_icmp .ge 13, 3), (12, .aload_n 0, 1), (13, .iload_n 3, 1), (14, .lload_n 1, 1), (15, .lastore, 1), (16, .iinc 3 1, 3), (19, .goto (-13), 3), (22, .return_, 1)]
theorem D_J7_fill_d0a16 : zdecs cJ7_fill_d0a16 L_J7_fill_d0a16 = true := by decide +kernel
theorem zflL_0 (σ : zG) (f i : Nat) (x : Int64) : zflL σ f i 0 x = σ := by simp [zflL]
theorem zflL_s (σ : zG) (f i k : Nat) (x : Int64) : zwL (zflL σ f i k x) f i k x = zflL σ f i (k + 1) x := by
  unfold zwL zflL
  congr 1
  funext f' i' k'
  by_cases h1 : f' = f ∧ i' = i
  · obtain ⟨rfl, rfl⟩ := h1
    simp only [true_and]
    by_cases h2 : k' = k
    · subst h2; simp
    · by_cases h3 : k' < k
      · rw [if_neg h2, if_pos h3, if_pos (by omega)]
      · rw [if_neg h2, if_neg h3, if_neg (by omega)]
  · have e1 : ¬ (f' = f ∧ i' = i ∧ k' = k) := fun z => h1 ⟨z.1, z.2.1⟩
    have e2 : ∀ n, ¬ (f' = f ∧ i' = i ∧ k' < n) := fun n z => h1 ⟨z.1, z.2.1⟩
    simp only [if_neg e1, if_neg (e2 _)]
set_option maxRecDepth 100000 in
set_option maxHeartbeats 4000000 in
theorem c_fillL (l : Launch) (sy : zSy) (f i n : Nat) (x : Int64) (σ : zG) (hf0 : sy.1.1 f = .inr (.long, n)) (ht : ∀ j, sy.1.2.1 f j = 1) (hN : n < 2 ^ 31) : zMet l sy m_J7_fill_d0a16 yJ7_fill_d0a16 [zR f i, zL x] σ none (zflL σ f i n x) := by
  refine zEnter [(0, zR f i), (1, zL x)] (by decide) rfl (fun _ => Nat.le_of_ble_eq_true rfl) (fun _ => rfl) (fun w h => ?_) (fun K hv hs => ?_)
  · exact zokm rfl h
  · have loop : ∀ d k, k + d = n → zX sy m_J7_fill_d0a16 K 6 [(4, zI (nI n)), (3, zI (nI k)), (0, zR f i), (1, zL x)] [] (zflL σ f i k x) := by
      intro d
      induction d with
      | zero =>
        intro k hk
        have hkn : k = n := by omega
        subst hkn
        refine z_iload_n (pc := 6) 1 (zdg D_J7_fill_d0a16 5 (6, .iload_n 3, 1) rfl) rfl rfl ?_
        refine z_iload (pc := 7) 0 (zdg D_J7_fill_d0a16 6 (7, .iload 4, 2) rfl) rfl ?_
        refine z_icmp_ge (res := if nI k < nI k then (1 : Nat) else 0) (A := 1) (B := 0) (pc := 9) 22 (zdg D_J7_fill_d0a16 7 (9, .if_icmp .ge 13, 3) rfl) rfl rfl (fun _ => ?_) (fun h => ?_)
        · exact z_vret (pc := 22) rfl (zdg D_J7_fill_d0a16 14 (22, .return_, 1) rfl) ⟨hv, hs⟩
        · rw [if_neg (nI_nlt (Nat.le_refl k) hN)] at h
          cases h
      | succ d ih =>
        intro k hk
        refine z_iload_n (pc := 6) 1 (zdg D_J7_fill_d0a16 5 (6, .iload_n 3, 1) rfl) rfl rfl ?_
        refine z_iload (pc := 7) 0 (zdg D_J7_fill_d0a16 6 (7, .iload 4, 2) rfl) rfl ?_
        refine z_icmp_ge (res := if nI k < nI n then (1 : Nat) else 0) (A := 1) (B := 0) (pc := 9) 22 (zdg D_J7_fill_d0a16 7 (9, .if_icmp .ge 13, 3) rfl) rfl rfl (fun h => ?_) (fun _ => ?_)
        · rw [if_pos (nI_lt (show k < n by omega) hN)] at h
          cases h
        · refine z_aload_n (pc := 12) 2 (zdg D_J7_fill_d0a16 8 (12, .aload_n 0, 1) rfl) rfl rfl ?_
          refine z_iload_n (pc := 13) 1 (zdg D_J7_fill_d0a16 9 (13, .iload_n 3, 1) rfl) rfl rfl ?_
          refine z_lload_n (pc := 14) 3 (zdg D_J7_fill_d0a16 10 (14, .lload_n 1, 1) rfl) rfl rfl ?_
          refine z_lastK (pc := 15) hf0 ht (zdg D_J7_fill_d0a16 11 (15, .lastore, 1) rfl) ?_ ?_
          · simp only [zin, Bool.and_eq_true, decide_eq_true_eq]
            exact ⟨nI_pos (by omega), by rw [nI_clamp (by omega)]; omega⟩
          · rw [nI_clamp (by omega), zflL_s]
            refine z_iinc (pc := 16) (v0 := nI (k + 1)) (al' := [(3, zI (nI (k + 1))), (4, zI (nI n)), (0, zR f i), (1, zL x)]) 1 (zdg D_J7_fill_d0a16 12 (16, .iinc 3 1, 3) rfl) rfl (nI_succ k).symm (by decide) rfl ?_
            refine z_goto (pc := 19) 6 (zdg D_J7_fill_d0a16 13 (19, .goto (-13), 3) rfl) rfl ?_
            refine z_sub (al' := [(4, zI (nI n)), (3, zI (nI (k + 1))), (0, zR f i), (1, zL x)]) [1, 0, 2, 3] rfl ?_
            exact ih (k + 1) (by omega)
    refine z_iconst (pc := 0) (v := 0) (zdg D_J7_fill_d0a16 0 (0, .iconst 0, 1) rfl) rfl ?_
    refine z_istore_n (pc := 1) (al' := [(3, zI 0), (0, zR f i), (1, zL x)]) (zdg D_J7_fill_d0a16 1 (1, .istore_n 3, 1) rfl) rfl (by decide) rfl ?_
    refine z_aload_n (pc := 2) 1 (zdg D_J7_fill_d0a16 2 (2, .aload_n 0, 1) rfl) rfl rfl ?_
    refine z_alen (pc := 3) hf0 (zdg D_J7_fill_d0a16 3 (3, .arraylength, 1) rfl) ?_
    refine z_istore (pc := 4) (al' := [(4, zI (nI n)), (3, zI 0), (0, zR f i), (1, zL x)]) (zdg D_J7_fill_d0a16 4 (4, .istore 4, 2) rfl) (by decide) rfl ?_
    have h0 := loop n 0 (by omega)
    rw [zflL_0] at h0
    exact h0
