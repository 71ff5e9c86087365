/-! Math.max, min, abs; String constants: length and charAt -/
def zmax (a b : Int32) : Int32 := if a < b then b else a
def zmin (a b : Int32) : Int32 := if b < a then b else a
def zabs (a : Int32) : Int32 := if 0 ≤ a then a else 0 - a
section ZS
variable {sy : zSy} {mt : zMT} {K : zK} {pc : Nat} {al al' : List (Nat × zV)} {as : List zV} {σ : zG}
theorem zroom13 {w : zW} {rest : List zV} {n : Nat} (h : (rest.map zcat).sum + 13 ≤ n) : ((rest.map (zc w)).map fun v => v.category).sum + 13 ≤ n := by
  rw [List.map_map]
  rw [show ((fun v : Value => v.category) ∘ zc w) = zcat from funext (zc_cat w)]
  exact h
theorem z_mmax {idx : Nat} {a b : Int32} (hlk0 : Cond.methodLink mt.1 idx yJ9_max_7cf53 ∈ zTB) (hfr : 1 ≤ (zrm mt.2.2.2.1).frames) (hloc : (as.map zcat).sum + 13 ≤ (zrm mt.2.2.2.1).locals) (hd : decode mt.2.1 pc = .ok (.invokestatic idx, 3)) (k : zX sy mt K (pc + 3) al (zI (zmax a b) :: as) σ) : zX sy mt K pc al (zI b :: zI a :: as) σ := by
  obtain ⟨w, l, p, e, s, m, args, below, meth, c, v, σ'⟩ := K
  intro F h1 h2 H locs ls hG hS hl
  obtain ⟨hx, hb, hml, hown, hts, hr, hlk, hAll⟩ := id F
  obtain ⟨⟨hini, hcode, -, -, -⟩, hstat⟩ := zs_J9_max_7cf53
  exact va_mmax hx hb (hml.trans hl.1.symm) hown (hts _ hlk0) (hts _ hstat) (hts _ hini) (hts _ hcode) hfr (zroom13 hloc) (Nat.zero_le _) (Nat.zero_le _) hd (k F h1 (zp trivial (zd (zd h2))) H locs ls hG hS hl)
theorem z_mmin {idx : Nat} {a b : Int32} (hlk0 : Cond.methodLink mt.1 idx yJ9_min_7cf53 ∈ zTB) (hfr : 1 ≤ (zrm mt.2.2.2.1).frames) (hloc : (as.map zcat).sum + 13 ≤ (zrm mt.2.2.2.1).locals) (hd : decode mt.2.1 pc = .ok (.invokestatic idx, 3)) (k : zX sy mt K (pc + 3) al (zI (zmin a b) :: as) σ) : zX sy mt K pc al (zI b :: zI a :: as) σ := by
  obtain ⟨w, l, p, e, s, m, args, below, meth, c, v, σ'⟩ := K
  intro F h1 h2 H locs ls hG hS hl
  obtain ⟨hx, hb, hml, hown, hts, hr, hlk, hAll⟩ := id F
  obtain ⟨⟨hini, hcode, -, -, -⟩, hstat⟩ := zs_J9_min_7cf53
  exact va_mmin hx hb (hml.trans hl.1.symm) hown (hts _ hlk0) (hts _ hstat) (hts _ hini) (hts _ hcode) hfr (zroom13 hloc) (Nat.zero_le _) (Nat.zero_le _) hd (k F h1 (zp trivial (zd (zd h2))) H locs ls hG hS hl)
theorem z_mabs {idx : Nat} {a : Int32} (hlk0 : Cond.methodLink mt.1 idx yJ9_abs_0f7a4 ∈ zTB) (hfr : 1 ≤ (zrm mt.2.2.2.1).frames) (hloc : (as.map zcat).sum + 13 ≤ (zrm mt.2.2.2.1).locals) (hd : decode mt.2.1 pc = .ok (.invokestatic idx, 3)) (k : zX sy mt K (pc + 3) al (zI (zabs a) :: as) σ) : zX sy mt K pc al (zI a :: as) σ := by
  obtain ⟨w, l, p, e, s, m, args, below, meth, c, v, σ'⟩ := K
  intro F h1 h2 H locs ls hG hS hl
  obtain ⟨hx, hb, hml, hown, hts, hr, hlk, hAll⟩ := id F
  obtain ⟨⟨hini, hcode, -, -, -⟩, hstat⟩ := zs_J9_abs_0f7a4
  exact va_mabs hx hb (hml.trans hl.1.symm) hown (hts _ hlk0) (hts _ hstat) (hts _ hini) (hts _ hcode) hfr (zroom13 hloc) (Nat.zero_le _) (Nat.zero_le _) hd (k F h1 (zp trivial (zd h2)) H locs ls hG hS hl)
theorem z_bload_n (j : Nat) {k0 : Fin 4} {i x : Nat} (hd : decode mt.2.1 pc = .ok (.aload_n k0, 1)) (hi : (k0 : Nat) = i) (hj : al[j]? = some (i, zB x)) (k : zX sy mt K (pc + 1) al (zB x :: as) σ) : zX sy mt K pc al as σ := by
  obtain ⟨w, l, p, e, s, m, args, below, meth, c, v, σ'⟩ := K
  intro F h1 h2 H locs ls hG hS hl
  obtain ⟨hx, hb, hml, hown, hts, hr, hlk, hAll⟩ := id F
  exact lv_aload_n hx hb hd hi (zlv hl j hj) (k F h1 (zp trivial h2) H locs ls hG hS hl)
theorem z_getsC {idx : Nat} (hlk0 : Cond.fieldLink mt.1 idx "java/lang/String" "COMPACT_STRINGS" "Z" ∈ zTB) (hd : decode mt.2.1 pc = .ok (.getstatic idx, 3)) (k : zX sy mt K (pc + 3) al (zI 1 :: as) σ) : zX sy mt K pc al as σ := by
  obtain ⟨w, l, p, e, s, m, args, below, meth, c, v, σ'⟩ := K
  intro F h1 h2 H locs ls hG hS hl
  obtain ⟨hx, hb, hml, hown, hts, hr, hlk, hAll⟩ := id F
  exact va_gets (A := zA w) hx hb hAll.2.2.2.2.1 hS hown (hts _ hlk0) (fun _ h => h) hd (k F h1 (zp trivial h2) H locs ls hG hS hl)
theorem z_getsQ {idx : Nat} (hlk0 : Cond.fieldLink mt.1 idx "jdk/internal/util/Preconditions" "SIOOBE_FORMATTER" "Ljava/util/function/BiFunction;" ∈ zTB) (hd : decode mt.2.1 pc = .ok (.getstatic idx, 3)) (k1 : zX sy mt K (pc + 3) al (zN 0 :: as) σ) (k2 : zX sy mt K (pc + 3) al (zB 999 :: as) σ) : zX sy mt K pc al as σ := by
  obtain ⟨w, l, p, e, s, m, args, below, meth, c, v, σ'⟩ := K
  intro F h1 h2 H locs ls hG hS hl
  obtain ⟨hx, hb, hml, hown, hts, hr, hlk, hAll⟩ := id F
  rcases hAll.2.2.2.2.2 with h | h
  · exact va_gets (A := zA w) hx hb h hS hown (hts _ hlk0) (fun _ h => h) hd (k1 F h1 (zp trivial h2) H locs ls hG hS hl)
  · exact va_gets (A := zA w) hx hb h hS hown (hts _ hlk0) (fun _ h => h) hd (k2 F h1 (zp trivial h2) H locs ls hG hS hl)
theorem z_getCod {idx k0 : Nat} {b : List Int32} (hk : sy.2.2.1[k0]? = some b) (hlk0 : Cond.fieldLink mt.1 idx "java/lang/String" "coder" "B" ∈ zTB) (hd : decode mt.2.1 pc = .ok (.getfield idx, 3)) (k : zX sy mt K (pc + 3) al (zI 0 :: as) σ) : zX sy mt K pc al (zS k0 :: as) σ := by
  obtain ⟨w, l, p, e, s, m, args, below, meth, c, v, σ'⟩ := K
  intro F h1 h2 H locs ls hG hS hl
  obtain ⟨hx, hb, hml, hown, hts, hr, hlk, hAll⟩ := id F
  exact vk_getf (A := zA w) hx hb (hAll.2.2.1 k0 b hk).2.1 hS hown (hts _ hlk0) (fun _ h => h) hd (k F h1 (zp trivial (zd h2)) H locs ls hG hS hl)
theorem z_getVal {idx k0 : Nat} {b : List Int32} (hk : sy.2.2.1[k0]? = some b) (hlk0 : Cond.fieldLink mt.1 idx "java/lang/String" "value" "[B" ∈ zTB) (hd : decode mt.2.1 pc = .ok (.getfield idx, 3)) (k : zX sy mt K (pc + 3) al (zB k0 :: as) σ) : zX sy mt K pc al (zS k0 :: as) σ := by
  obtain ⟨w, l, p, e, s, m, args, below, meth, c, v, σ'⟩ := K
  intro F h1 h2 H locs ls hG hS hl
  obtain ⟨hx, hb, hml, hown, hts, hr, hlk, hAll⟩ := id F
  exact vk_getf (A := zA w) hx hb (hAll.2.2.1 k0 b hk).2.2.1 hS hown (hts _ hlk0) (fun _ h => h) hd (k F h1 (zp trivial (zd h2)) H locs ls hG hS hl)
theorem z_blen {k0 : Nat} {b : List Int32} (hk : sy.2.2.1[k0]? = some b) (hd : decode mt.2.1 pc = .ok (.arraylength, 1)) (k : zX sy mt K (pc + 1) al (zI (nI b.length) :: as) σ) : zX sy mt K pc al (zB k0 :: as) σ := by
  obtain ⟨w, l, p, e, s, m, args, below, meth, c, v, σ'⟩ := K
  intro F h1 h2 H locs ls hG hS hl
  obtain ⟨hx, hb, hml, hown, hts, hr, hlk, hAll⟩ := id F
  exact va_tlen hx hb (hAll.2.2.1 k0 b hk).2.2.2 hS rfl hd (k F h1 (zp trivial (zd h2)) H locs ls hG hS hl)
theorem z_bbald {k0 : Nat} {b : List Int32} {x : Int32} (hk : sy.2.2.1[k0]? = some b) (h0 : zin x b.length = true) (hd : decode mt.2.1 pc = .ok (.baload, 1)) (k : zX sy mt K (pc + 1) al (zI (b.getD x.toNatClampNeg 0) :: as) σ) : zX sy mt K pc al (zI x :: zB k0 :: as) σ := by
  obtain ⟨w, l, p, e, s, m, args, below, meth, c, v, σ'⟩ := K
  intro F h1 h2 H locs ls hG hS hl
  obtain ⟨hx, hb, hml, hown, hts, hr, hlk, hAll⟩ := id F
  exact va_tb hx hb (hAll.2.2.1 k0 b hk).2.2.2 hS (zin_in h0) rfl hd (k F h1 (zp trivial (zd (zd h2))) H locs ls hG hS hl)
theorem z_callVS {idx n k0 : Nat} {b : List Int32} {y : MethodName} {mt' : zMT} {av rest st st2 : List zV} {v1 : Option zV} {σ1 : zG} (hk : sy.2.2.1[k0]? = some b) (hM : ∀ l, zMet l sy mt' y (zS k0 :: av) σ v1 σ1) (hc : zcV y mt' n) (hlk0 : Cond.methodLink mt.1 idx y ∈ zTB) (hry : "java/lang/String" = y.cls) (hlen : av.length = n) (hst : st = av.reverse ++ zS k0 :: rest) (hst2 : st2 = v1.toList ++ rest) (hroom : (rest.map zcat).sum ≤ 8) (hR : mt'.2.2.2.1 + 1 ≤ mt.2.2.2.1 ∧ 8 + (mt'.2.2.1 + 11) + 64 * mt'.2.2.2.1 ≤ 64 * mt.2.2.2.1)
    (hd : decode mt.2.1 pc = .ok (.invokevirtual idx, 3)) (kk : zX sy mt K (pc + 3) al st2 σ1) : zX sy mt K pc al st σ := by
  subst hst
  subst hst2
  obtain ⟨w, l, p, e, s, m, args, below, meth, c, v, σ'⟩ := K
  intro F h1 h2 H locs ls hG hS hl
  obtain ⟨hx, hb, hml, hown, hts, hr, hlk, hAll⟩ := id F
  obtain ⟨⟨hini, hcode, hy1, hy2, hlenY⟩, hinst, hsel⟩ := hc
  have hav : ∀ a ∈ zS k0 :: av, zok w a := fun a ha => by
    rcases List.mem_cons.mp ha with h | h
    · rw [h]; trivial
    · exact h2 a (List.mem_append_left _ (List.mem_reverse.mpr h))
  have hrest : ∀ a ∈ rest, zok w a := fun a ha => h2 a (List.mem_append_right _ (List.mem_cons_of_mem _ ha))
  obtain ⟨cell, q1, q2, q3, -⟩ := (hAll.2.2.1 k0 b hk).1.kept hS.2.1
  refine zrun (va_runV (g := F0 m pc ls ((av.reverse ++ zS k0 :: rest).map (zc w))) (rest := rest.map (zc w)) (As := av.map (zc w)) (b := w.2.1.1 k0) (C := y.cls) ⟨hx, hb, hml, hown, hts⟩ (hM l w hav) ⟨callB_of n hts (zGood hcode) rfl rfl rfl (hts _ hini) (hts _ hlk0) ⟨hy1, hy2, hlenY⟩ hR, hts _ hinst, hts _ hsel⟩ ⟨zblind, ⟨cell, q1, q2, by rw [← hry]; exact q3⟩, zpre (av := zS k0 :: av) hAll hG hS⟩ rfl (by rw [List.length_map]; exact hlen) hl.1 ?_ (lv_room (zroom hroom)) hd ⟨Nat.zero_le _, Nat.zero_le _⟩) hS (fun H1 locs1 hG1 hok hS1 => ?_)
  · show (av.reverse ++ zS k0 :: rest).map (zc w) = (av.map (zc w)).reverse ++ .ref (w.2.1.1 k0) :: rest.map (zc w)
    rw [List.map_append, List.map_reverse]
    rfl
  · have k := kk F h1 (fun a ha => ?_) H1 locs1 ls hG1 hS1 hl
    · cases v1 <;> exact k
    · rcases List.mem_append.mp ha with h | h
      · cases v1 with
        | none => simp at h
        | some z => exact hok a (by simp at h; rw [h])
      · exact hrest a h
end ZS
def L_J3_checkIndex_8e157 : List (Nat × Instr × Nat) := [(0, .iload_n 0, 1), (1, .ifCond .lt 8, 3), (4, .iload_n 0, 1), (5, .iload_n 1, 1), (6, .if_icmp .lt 10, 3), (9, .aload_n 2, 1), (10, .iload_n 0, 1), (11, .iload_n 1, 1), (12, .invokestatic 95, 3), (15, .athrow, 1), (16, .iload_n 0, 1), (17, .ireturn, 1)]
set_option maxRecDepth 100000 in
theorem D_J3_checkIndex_8e157 : zdecs cJ3_checkIndex_8e157 L_J3_checkIndex_8e157 = true := by decide +kernel
def L_J0_checkIndex_df160 : List (Nat × Instr × Nat) := [(0, .iload_n 0, 1), (1, .iload_n 1, 1), (2, .getstatic 1053, 3), (5, .invokestatic 1059, 3), (8, .pop, 1), (9, .return_, 1)]
set_option maxRecDepth 100000 in
theorem D_J0_checkIndex_df160 : zdecs cJ0_checkIndex_df160 L_J0_checkIndex_df160 = true := by decide +kernel
def L_J1_charAt_3b067 : List (Nat × Instr × Nat) := [(0, .iload_n 1, 1), (1, .aload_n 0, 1), (2, .arraylength, 1), (3, .invokestatic 9, 3), (6, .aload_n 0, 1), (7, .iload_n 1, 1), (8, .baload, 1), (9, .sipush 255, 3), (12, .iand, 1), (13, .i2c, 1), (14, .ireturn, 1)]
set_option maxRecDepth 100000 in
theorem D_J1_charAt_3b067 : zdecs cJ1_charAt_3b067 L_J1_charAt_3b067 = true := by decide +kernel
def L_J0_length_8abf5 : List (Nat × Instr × Nat) := [(0, .aload_n 0, 1), (1, .getfield 9, 3), (4, .arraylength, 1), (5, .aload_n 0, 1), (6, .invokevirtual 335, 3), (9, .ishr, 1), (10, .ireturn, 1)]
set_option maxRecDepth 100000 in
theorem D_J0_length_8abf5 : zdecs cJ0_length_8abf5 L_J0_length_8abf5 = true := by decide +kernel
def L_J0_coder_7d493 : List (Nat × Instr × Nat) := [(0, .getstatic 38, 3), (3, .ifCond .eq 10, 3), (6, .aload_n 0, 1), (7, .getfield 15, 3), (10, .goto 4, 3), (13, .iconst 1, 1), (14, .ireturn, 1)]
set_option maxRecDepth 100000 in
theorem D_J0_coder_7d493 : zdecs cJ0_coder_7d493 L_J0_coder_7d493 = true := by decide +kernel
def L_J0_isLatin1_aae02 : List (Nat × Instr × Nat) := [(0, .getstatic 38, 3), (3, .ifCond .eq 14, 3), (6, .aload_n 0, 1), (7, .getfield 15, 3), (10, .ifCond .ne 7, 3), (13, .iconst 1, 1), (14, .goto 4, 3), (17, .iconst 0, 1), (18, .ireturn, 1)]
set_option maxRecDepth 100000 in
theorem D_J0_isLatin1_aae02 : zdecs cJ0_isLatin1_aae02 L_J0_isLatin1_aae02 = true := by decide +kernel
def L_J0_charAt_5068e : List (Nat × Instr × Nat) := [(0, .aload_n 0, 1), (1, .invokevirtual 492, 3), (4, .ifCond .eq 12, 3), (7, .aload_n 0, 1), (8, .getfield 9, 3), (11, .iload_n 1, 1), (12, .invokestatic 495, 3), (15, .ireturn, 1), (16, .aload_n 0, 1), (17, .getfield 9, 3), (20, .iload_n 1, 1), (21, .invokestatic 498, 3), (24, .ireturn, 1)]
set_option maxRecDepth 100000 in
theorem D_J0_charAt_5068e : zdecs cJ0_charAt_5068e L_J0_charAt_5068e = true := by decide +kernel
set_option maxRecDepth 100000 in
set_option maxHeartbeats 4000000 in
theorem c_chkN (l : Launch) (sy : zSy) (x : Int32) (n : Nat) (hN : n < 2 ^ 31) (h0 : zin x n = true) (σ : zG) : zMet l sy m_J3_checkIndex_8e157 yJ3_checkIndex_8e157 [zI x, zI (nI n), zN 0] σ (some (zI x)) σ := by
  refine zEnter [(0, zI x), (1, zI (nI n)), (2, zN 0)] (by decide) rfl (fun _ => Nat.le_of_ble_eq_true rfl) (fun _ => rfl) (fun w h => ?_) (fun K hv hs => ?_)
  · exact zokm rfl h
  · simp only [zin, Bool.and_eq_true, decide_eq_true_eq] at h0
    have h1 : x < nI n := by
      obtain ⟨j, hj, rfl⟩ := nI_of h0.1
      rw [nI_clamp hj] at h0
      exact nI_lt h0.2 hN
    refine z_iload_n (pc := 0) 0 (zdg D_J3_checkIndex_8e157 0 (0, .iload_n 0, 1) rfl) rfl rfl ?_
    refine z_if_lt (res := if 0 ≤ x then (1 : Nat) else 0) (A := 1) (B := 0) (pc := 1) 9 (zdg D_J3_checkIndex_8e157 1 (1, .ifCond .lt 8, 3) rfl) rfl rfl (fun h => ?_) (fun _ => ?_)
    · rw [if_pos (Int32.not_lt.mp h0.1)] at h
      cases h
    · refine z_iload_n (pc := 4) 0 (zdg D_J3_checkIndex_8e157 2 (4, .iload_n 0, 1) rfl) rfl rfl ?_
      refine z_iload_n (pc := 5) 1 (zdg D_J3_checkIndex_8e157 3 (5, .iload_n 1, 1) rfl) rfl rfl ?_
      refine z_icmp_lt (res := if nI n ≤ x then (1 : Nat) else 0) (A := 1) (B := 0) (pc := 6) 16 (zdg D_J3_checkIndex_8e157 4 (6, .if_icmp .lt 10, 3) rfl) rfl rfl (fun _ => ?_) (fun h => ?_)
      · refine z_iload_n (pc := 16) 0 (zdg D_J3_checkIndex_8e157 10 (16, .iload_n 0, 1) rfl) rfl rfl ?_
        exact z_iret (pc := 17) rfl rfl (zdg D_J3_checkIndex_8e157 11 (17, .ireturn, 1) rfl) ⟨hv, hs⟩
      · rw [if_neg (Int32.not_le.mpr h1)] at h
        cases h
set_option maxRecDepth 100000 in
set_option maxHeartbeats 4000000 in
theorem c_chkB (l : Launch) (sy : zSy) (x : Int32) (n : Nat) (hN : n < 2 ^ 31) (h0 : zin x n = true) (σ : zG) : zMet l sy m_J3_checkIndex_8e157 yJ3_checkIndex_8e157 [zI x, zI (nI n), zB 999] σ (some (zI x)) σ := by
  refine zEnter [(0, zI x), (1, zI (nI n)), (2, zB 999)] (by decide) rfl (fun _ => Nat.le_of_ble_eq_true rfl) (fun _ => rfl) (fun w h => ?_) (fun K hv hs => ?_)
  · exact zokm rfl h
  · simp only [zin, Bool.and_eq_true, decide_eq_true_eq] at h0
    have h1 : x < nI n := by
      obtain ⟨j, hj, rfl⟩ := nI_of h0.1
      rw [nI_clamp hj] at h0
      exact nI_lt h0.2 hN
    refine z_iload_n (pc := 0) 0 (zdg D_J3_checkIndex_8e157 0 (0, .iload_n 0, 1) rfl) rfl rfl ?_
    refine z_if_lt (res := if 0 ≤ x then (1 : Nat) else 0) (A := 1) (B := 0) (pc := 1) 9 (zdg D_J3_checkIndex_8e157 1 (1, .ifCond .lt 8, 3) rfl) rfl rfl (fun h => ?_) (fun _ => ?_)
    · rw [if_pos (Int32.not_lt.mp h0.1)] at h
      cases h
    · refine z_iload_n (pc := 4) 0 (zdg D_J3_checkIndex_8e157 2 (4, .iload_n 0, 1) rfl) rfl rfl ?_
      refine z_iload_n (pc := 5) 1 (zdg D_J3_checkIndex_8e157 3 (5, .iload_n 1, 1) rfl) rfl rfl ?_
      refine z_icmp_lt (res := if nI n ≤ x then (1 : Nat) else 0) (A := 1) (B := 0) (pc := 6) 16 (zdg D_J3_checkIndex_8e157 4 (6, .if_icmp .lt 10, 3) rfl) rfl rfl (fun _ => ?_) (fun h => ?_)
      · refine z_iload_n (pc := 16) 0 (zdg D_J3_checkIndex_8e157 10 (16, .iload_n 0, 1) rfl) rfl rfl ?_
        exact z_iret (pc := 17) rfl rfl (zdg D_J3_checkIndex_8e157 11 (17, .ireturn, 1) rfl) ⟨hv, hs⟩
      · rw [if_neg (Int32.not_le.mpr h1)] at h
        cases h
set_option maxRecDepth 100000 in
set_option maxHeartbeats 4000000 in
theorem c_chk (l : Launch) (sy : zSy) (x : Int32) (n : Nat) (hN : n < 2 ^ 31) (h0 : zin x n = true) (σ : zG) : zMet l sy m_J0_checkIndex_df160 yJ0_checkIndex_df160 [zI x, zI (nI n)] σ none σ := by
  refine zEnter [(0, zI x), (1, zI (nI n))] (by decide) rfl (fun _ => Nat.le_of_ble_eq_true rfl) (fun _ => rfl) (fun w h => ?_) (fun K hv hs => ?_)
  · exact zokm rfl h
  · refine z_iload_n (pc := 0) 0 (zdg D_J0_checkIndex_df160 0 (0, .iload_n 0, 1) rfl) rfl rfl ?_
    refine z_iload_n (pc := 1) 1 (zdg D_J0_checkIndex_df160 1 (1, .iload_n 1, 1) rfl) rfl rfl ?_
    refine z_getsQ (pc := 2) lj_J0_1053 (zdg D_J0_checkIndex_df160 2 (2, .getstatic 1053, 3) rfl) ?_ ?_
    · refine z_callS (pc := 5) (rest := []) (st2 := [zI x]) (fun l => c_chkN l sy x n hN h0 σ) zs_J3_checkIndex_8e157 lj_J0_1059 rfl rfl rfl (Nat.le_of_ble_eq_true rfl) ⟨Nat.le_of_ble_eq_true rfl, Nat.le_of_ble_eq_true rfl⟩ (zdg D_J0_checkIndex_df160 3 (5, .invokestatic 1059, 3) rfl) ?_
      refine z_pop (pc := 8) rfl (zdg D_J0_checkIndex_df160 4 (8, .pop, 1) rfl) ?_
      exact z_vret (pc := 9) rfl (zdg D_J0_checkIndex_df160 5 (9, .return_, 1) rfl) ⟨hv, hs⟩
    · refine z_callS (pc := 5) (rest := []) (st2 := [zI x]) (fun l => c_chkB l sy x n hN h0 σ) zs_J3_checkIndex_8e157 lj_J0_1059 rfl rfl rfl (Nat.le_of_ble_eq_true rfl) ⟨Nat.le_of_ble_eq_true rfl, Nat.le_of_ble_eq_true rfl⟩ (zdg D_J0_checkIndex_df160 3 (5, .invokestatic 1059, 3) rfl) ?_
      refine z_pop (pc := 8) rfl (zdg D_J0_checkIndex_df160 4 (8, .pop, 1) rfl) ?_
      exact z_vret (pc := 9) rfl (zdg D_J0_checkIndex_df160 5 (9, .return_, 1) rfl) ⟨hv, hs⟩
set_option maxRecDepth 100000 in
set_option maxHeartbeats 4000000 in
theorem c_lat (l : Launch) (sy : zSy) (k : Nat) (b : List Int32) (hk : sy.2.2.1[k]? = some b) (hN : b.length < 2 ^ 31) (x : Int32) (h0 : zin x b.length = true) (σ : zG) : zMet l sy m_J1_charAt_3b067 yJ1_charAt_3b067 [zB k, zI x] σ (some (zI (zi2c (b.getD x.toNatClampNeg 0 &&& 255)))) σ := by
  refine zEnter [(0, zB k), (1, zI x)] (by decide) rfl (fun _ => Nat.le_of_ble_eq_true rfl) (fun _ => rfl) (fun w h => ?_) (fun K hv hs => ?_)
  · exact zokm rfl h
  · refine z_iload_n (pc := 0) 1 (zdg D_J1_charAt_3b067 0 (0, .iload_n 1, 1) rfl) rfl rfl ?_
    refine z_bload_n (pc := 1) 0 (zdg D_J1_charAt_3b067 1 (1, .aload_n 0, 1) rfl) rfl rfl ?_
    refine z_blen (pc := 2) hk (zdg D_J1_charAt_3b067 2 (2, .arraylength, 1) rfl) ?_
    refine z_callS (pc := 3) (rest := []) (st2 := []) (fun l => c_chk l sy x b.length hN h0 σ) zs_J0_checkIndex_df160 lj_J1_9 rfl rfl rfl (Nat.le_of_ble_eq_true rfl) ⟨Nat.le_of_ble_eq_true rfl, Nat.le_of_ble_eq_true rfl⟩ (zdg D_J1_charAt_3b067 3 (3, .invokestatic 9, 3) rfl) ?_
    refine z_bload_n (pc := 6) 0 (zdg D_J1_charAt_3b067 4 (6, .aload_n 0, 1) rfl) rfl rfl ?_
    refine z_iload_n (pc := 7) 1 (zdg D_J1_charAt_3b067 5 (7, .iload_n 1, 1) rfl) rfl rfl ?_
    refine z_bbald (pc := 8) hk h0 (zdg D_J1_charAt_3b067 6 (8, .baload, 1) rfl) ?_
    refine z_sipush (pc := 9) (v := 255) (zdg D_J1_charAt_3b067 7 (9, .sipush 255, 3) rfl) rfl ?_
    refine z_iand (pc := 12) (zdg D_J1_charAt_3b067 8 (12, .iand, 1) rfl) ?_
    refine z_i2c (pc := 13) (zdg D_J1_charAt_3b067 9 (13, .i2c, 1) rfl) ?_
    exact z_iret (pc := 14) rfl (pk_nc _) (zdg D_J1_charAt_3b067 10 (14, .ireturn, 1) rfl) ⟨hv, hs⟩
set_option maxRecDepth 100000 in
set_option maxHeartbeats 4000000 in
theorem c_coder (l : Launch) (sy : zSy) (k : Nat) (b : List Int32) (hk : sy.2.2.1[k]? = some b) (σ : zG) : zMet l sy m_J0_coder_7d493 yJ0_coder_7d493 [zS k] σ (some (zI 0)) σ := by
  refine zEnter [(0, zS k)] (by decide) rfl (fun _ => Nat.le_of_ble_eq_true rfl) (fun _ => rfl) (fun w h => ?_) (fun K hv hs => ?_)
  · exact zokm rfl h
  · refine z_getsC (pc := 0) lj_J0_38 (zdg D_J0_coder_7d493 0 (0, .getstatic 38, 3) rfl) ?_
    refine z_if_eq (res := if (1 : Int32) = 0 then (1 : Nat) else 0) (A := 1) (B := 0) (pc := 3) 13 (zdg D_J0_coder_7d493 1 (3, .ifCond .eq 10, 3) rfl) rfl rfl (fun h => by cases h) (fun _ => ?_)
    refine z_sload_n (pc := 6) 0 (zdg D_J0_coder_7d493 2 (6, .aload_n 0, 1) rfl) rfl rfl ?_
    refine z_getCod (pc := 7) hk lj_J0_15 (zdg D_J0_coder_7d493 3 (7, .getfield 15, 3) rfl) ?_
    refine z_goto (pc := 10) 14 (zdg D_J0_coder_7d493 4 (10, .goto 4, 3) rfl) rfl ?_
    exact z_iret (pc := 14) rfl rfl (zdg D_J0_coder_7d493 6 (14, .ireturn, 1) rfl) ⟨hv, hs⟩
set_option maxRecDepth 100000 in
set_option maxHeartbeats 4000000 in
theorem c_latin (l : Launch) (sy : zSy) (k : Nat) (b : List Int32) (hk : sy.2.2.1[k]? = some b) (σ : zG) : zMet l sy m_J0_isLatin1_aae02 yJ0_isLatin1_aae02 [zS k] σ (some (zI 1)) σ := by
  refine zEnter [(0, zS k)] (by decide) rfl (fun _ => Nat.le_of_ble_eq_true rfl) (fun _ => rfl) (fun w h => ?_) (fun K hv hs => ?_)
  · exact zokm rfl h
  · refine z_getsC (pc := 0) lj_J0_38 (zdg D_J0_isLatin1_aae02 0 (0, .getstatic 38, 3) rfl) ?_
    refine z_if_eq (res := if (1 : Int32) = 0 then (1 : Nat) else 0) (A := 1) (B := 0) (pc := 3) 17 (zdg D_J0_isLatin1_aae02 1 (3, .ifCond .eq 14, 3) rfl) rfl rfl (fun h => by cases h) (fun _ => ?_)
    refine z_sload_n (pc := 6) 0 (zdg D_J0_isLatin1_aae02 2 (6, .aload_n 0, 1) rfl) rfl rfl ?_
    refine z_getCod (pc := 7) hk lj_J0_15 (zdg D_J0_isLatin1_aae02 3 (7, .getfield 15, 3) rfl) ?_
    refine z_if_ne (res := if (0 : Int32) = 0 then (1 : Nat) else 0) (A := 1) (B := 0) (pc := 10) 17 (zdg D_J0_isLatin1_aae02 4 (10, .ifCond .ne 7, 3) rfl) rfl rfl (fun h => by cases h) (fun _ => ?_)
    refine z_iconst (pc := 13) (v := 1) (zdg D_J0_isLatin1_aae02 5 (13, .iconst 1, 1) rfl) rfl ?_
    refine z_goto (pc := 14) 18 (zdg D_J0_isLatin1_aae02 6 (14, .goto 4, 3) rfl) rfl ?_
    exact z_iret (pc := 18) rfl rfl (zdg D_J0_isLatin1_aae02 8 (18, .ireturn, 1) rfl) ⟨hv, hs⟩
set_option maxRecDepth 100000 in
set_option maxHeartbeats 4000000 in
theorem c_slen (l : Launch) (sy : zSy) (k : Nat) (b : List Int32) (hk : sy.2.2.1[k]? = some b) (σ : zG) : zMet l sy m_J0_length_8abf5 yJ0_length_8abf5 [zS k] σ (some (zI (nI b.length))) σ := by
  refine zEnter [(0, zS k)] (by decide) rfl (fun _ => Nat.le_of_ble_eq_true rfl) (fun _ => rfl) (fun w h => ?_) (fun K hv hs => ?_)
  · exact zokm rfl h
  · refine z_sload_n (pc := 0) 0 (zdg D_J0_length_8abf5 0 (0, .aload_n 0, 1) rfl) rfl rfl ?_
    refine z_getVal (pc := 1) hk lj_J0_9 (zdg D_J0_length_8abf5 1 (1, .getfield 9, 3) rfl) ?_
    refine z_blen (pc := 4) hk (zdg D_J0_length_8abf5 2 (4, .arraylength, 1) rfl) ?_
    refine z_sload_n (pc := 5) 0 (zdg D_J0_length_8abf5 3 (5, .aload_n 0, 1) rfl) rfl rfl ?_
    refine z_callVS (pc := 6) (rest := [zI (nI b.length)]) (st2 := [zI 0, zI (nI b.length)]) hk (fun l => c_coder l sy k b hk σ) zv_J0_coder_7d493 lj_J0_335 rfl rfl rfl rfl (Nat.le_of_ble_eq_true rfl) ⟨Nat.le_of_ble_eq_true rfl, Nat.le_of_ble_eq_true rfl⟩ (zdg D_J0_length_8abf5 4 (6, .invokevirtual 335, 3) rfl) ?_
    refine z_ishr (pc := 9) (zdg D_J0_length_8abf5 5 (9, .ishr, 1) rfl) ?_
    rw [show zshr (nI b.length) 0 = nI b.length from sb_shr0 _]
    exact z_iret (pc := 10) rfl rfl (zdg D_J0_length_8abf5 6 (10, .ireturn, 1) rfl) ⟨hv, hs⟩
set_option maxRecDepth 100000 in
set_option maxHeartbeats 4000000 in
theorem c_schar (l : Launch) (sy : zSy) (k : Nat) (b : List Int32) (hk : sy.2.2.1[k]? = some b) (hN : b.length < 2 ^ 31) (x : Int32) (h0 : zin x b.length = true) (σ : zG) : zMet l sy m_J0_charAt_5068e yJ0_charAt_5068e [zS k, zI x] σ (some (zI (b.getD x.toNatClampNeg 0 &&& 255))) σ := by
  refine zEnter [(0, zS k), (1, zI x)] (by decide) rfl (fun _ => Nat.le_of_ble_eq_true rfl) (fun _ => rfl) (fun w h => ?_) (fun K hv hs => ?_)
  · exact zokm rfl h
  · refine z_sload_n (pc := 0) 0 (zdg D_J0_charAt_5068e 0 (0, .aload_n 0, 1) rfl) rfl rfl ?_
    refine z_callVS (pc := 1) (rest := []) (st2 := [zI 1]) hk (fun l => c_latin l sy k b hk σ) zv_J0_isLatin1_aae02 lj_J0_492 rfl rfl rfl rfl (Nat.le_of_ble_eq_true rfl) ⟨Nat.le_of_ble_eq_true rfl, Nat.le_of_ble_eq_true rfl⟩ (zdg D_J0_charAt_5068e 1 (1, .invokevirtual 492, 3) rfl) ?_
    refine z_if_eq (res := if (1 : Int32) = 0 then (1 : Nat) else 0) (A := 1) (B := 0) (pc := 4) 16 (zdg D_J0_charAt_5068e 2 (4, .ifCond .eq 12, 3) rfl) rfl rfl (fun h => by cases h) (fun _ => ?_)
    refine z_sload_n (pc := 7) 0 (zdg D_J0_charAt_5068e 3 (7, .aload_n 0, 1) rfl) rfl rfl ?_
    refine z_getVal (pc := 8) hk lj_J0_9 (zdg D_J0_charAt_5068e 4 (8, .getfield 9, 3) rfl) ?_
    refine z_iload_n (pc := 11) 1 (zdg D_J0_charAt_5068e 5 (11, .iload_n 1, 1) rfl) rfl rfl ?_
    refine z_callS (pc := 12) (rest := []) (st2 := [zI (zi2c (b.getD x.toNatClampNeg 0 &&& 255))]) (fun l => c_lat l sy k b hk hN x h0 σ) zs_J1_charAt_3b067 lj_J0_495 rfl rfl rfl (Nat.le_of_ble_eq_true rfl) ⟨Nat.le_of_ble_eq_true rfl, Nat.le_of_ble_eq_true rfl⟩ (zdg D_J0_charAt_5068e 6 (12, .invokestatic 495, 3) rfl) ?_
    rw [show zi2c (b.getD x.toNatClampNeg 0 &&& 255) = b.getD x.toNatClampNeg 0 &&& 255 from sc_c2 _]
    exact z_iret (pc := 15) rfl (sc_nar _) (zdg D_J0_charAt_5068e 7 (15, .ireturn, 1) rfl) ⟨hv, hs⟩
section ZS2
variable {sy : zSy} {mt : zMT} {K : zK} {pc : Nat} {al al' : List (Nat × zV)} {as : List zV} {σ : zG}
theorem z_slen {τ : Type} {res A : Option τ} {k idx : Nat} (hlk0 : Cond.methodLink mt.1 idx yJ0_length_8abf5 ∈ zTB) (hR : 6 ≤ mt.2.2.2.1) (hroom : (as.map zcat).sum ≤ 8) (hd : decode mt.2.1 pc = .ok (.invokevirtual idx, 3)) (hn : res ≠ none) (hf : res = zg (decide (k < sy.2.2.1.length)) A) (kk : res = A → zX sy mt K (pc + 3) al (zI (zsl sy.2.2.1 k) :: as) σ) : zX sy mt K pc al (zS k :: as) σ := by
  obtain ⟨h0, hf⟩ := zg_t hn hf
  have h0 := of_decide_eq_true h0
  have hk : sy.2.2.1[k]? = some (sy.2.2.1.getD k []) := by
    rw [List.getD_eq_getElem?_getD, List.getElem?_eq_getElem h0]; rfl
  exact z_callVS (rest := as) (st2 := zI (zsl sy.2.2.1 k) :: as) hk (fun l => c_slen l sy k _ hk σ) zv_J0_length_8abf5 hlk0 rfl rfl rfl rfl hroom ⟨by show 2 + 1 ≤ _; omega, by show 8 + (1 + 11) + 64 * 2 ≤ _; omega⟩ hd (kk hf)
theorem z_schar {τ : Type} {res A : Option τ} {k idx : Nat} {x : Int32} (hN : ∀ b ∈ sy.2.2.1, b.length < 2 ^ 31) (hlk0 : Cond.methodLink mt.1 idx yJ0_charAt_5068e ∈ zTB) (hR : 6 ≤ mt.2.2.2.1) (hroom : (as.map zcat).sum ≤ 8) (hd : decode mt.2.1 pc = .ok (.invokevirtual idx, 3)) (hn : res ≠ none) (hf : res = zg (zin x (zsn sy.2.2.1 k)) A) (kk : res = A → zX sy mt K (pc + 3) al (zI (zsc sy.2.2.1 k x.toNatClampNeg) :: as) σ) : zX sy mt K pc al (zI x :: zS k :: as) σ := by
  obtain ⟨h0, hf⟩ := zg_t hn hf
  have h1 : k < sy.2.2.1.length := by
    rcases Nat.lt_or_ge k sy.2.2.1.length with h | h
    · exact h
    · have e : zsn sy.2.2.1 k = 0 := by
        unfold zsn
        rw [List.getD_eq_getElem?_getD, List.getElem?_eq_none h]; rfl
      rw [e] at h0
      simp [zin] at h0
  have hk : sy.2.2.1[k]? = some (sy.2.2.1.getD k []) := by
    rw [List.getD_eq_getElem?_getD, List.getElem?_eq_getElem h1]; rfl
  exact z_callVS (rest := as) (st2 := zI (zsc sy.2.2.1 k x.toNatClampNeg) :: as) hk (fun l => c_schar l sy k _ hk (hN _ (List.mem_of_getElem? hk)) x h0 σ) zv_J0_charAt_5068e hlk0 rfl rfl rfl rfl hroom ⟨by show 4 + 1 ≤ _; omega, by show 8 + (2 + 11) + 64 * 4 ≤ _; omega⟩ hd (kk hf)
end ZS2
