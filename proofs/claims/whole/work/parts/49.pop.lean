/-! PURE LAYER: how many bits a long has, as the JDK counts them -/
def pc_vl : List Nat → Nat
  | [] => 0
  | d :: ds => d + 256 * pc_vl ds
def pc_vmk (m : Nat) : Nat → Nat
  | 0 => 0
  | n + 1 => m + 256 * pc_vmk m n
theorem pc_and_lo {a c : Nat} (b d : Nat) (ha : a < 256) (hc : c < 256) : (a + 256 * b) &&& (c + 256 * d) = (a &&& c) + 256 * (b &&& d) := by
  have h1 : ((a + 256 * b) &&& (c + 256 * d)) % 2 ^ 8 = a &&& c := by
    rw [Nat.and_mod_two_pow, show (a + 256 * b) % 2 ^ 8 = a by omega, show (c + 256 * d) % 2 ^ 8 = c by omega]
  have h2 : ((a + 256 * b) &&& (c + 256 * d)) / 2 ^ 8 = b &&& d := by
    rw [Nat.and_div_two_pow, show (a + 256 * b) / 2 ^ 8 = b by omega, show (c + 256 * d) / 2 ^ 8 = d by omega]
  omega
set_option maxRecDepth 20000 in
theorem pc_by1 : ∀ d, d < 256 → ∀ e, e < 2 → (d / 2 + 128 * e) &&& 85 = (d / 2) &&& 85 := by decide +kernel
set_option maxRecDepth 20000 in
theorem pc_by2 : ∀ d, d < 256 → ∀ e, e < 4 → (d / 4 + 64 * e) &&& 51 = (d / 4) &&& 51 := by decide +kernel
def pc_q1 (d : Nat) : Nat := d - ((d / 2) &&& 85)
def pc_q2 (d : Nat) : Nat := (d &&& 51) + ((d / 4) &&& 51)
def pc_q3 (d : Nat) : Nat := d % 16 + d / 16
theorem pc_st1 : ∀ ds : List Nat, (∀ d ∈ ds, d < 256) → (pc_vl ds / 2) &&& pc_vmk 85 ds.length = pc_vl (ds.map fun d => (d / 2) &&& 85)
  | [], _ => rfl
  | d :: ds, h => by
    have hd : d < 256 := h d (List.mem_cons_self ..)
    have ih := pc_st1 ds (fun x hx => h x (List.mem_cons_of_mem _ hx))
    have e : (d + 256 * pc_vl ds) / 2 = (d / 2 + 128 * (pc_vl ds % 2)) + 256 * (pc_vl ds / 2) := by omega
    show ((d + 256 * pc_vl ds) / 2) &&& (85 + 256 * pc_vmk 85 ds.length) = ((d / 2) &&& 85) + 256 * pc_vl (ds.map fun d => (d / 2) &&& 85)
    rw [e, pc_and_lo _ _ (by omega) (by decide), pc_by1 d hd _ (by omega), ih]
theorem pc_st2 : ∀ ds : List Nat, (∀ d ∈ ds, d < 256) → (pc_vl ds / 4) &&& pc_vmk 51 ds.length = pc_vl (ds.map fun d => (d / 4) &&& 51)
  | [], _ => rfl
  | d :: ds, h => by
    have hd : d < 256 := h d (List.mem_cons_self ..)
    have ih := pc_st2 ds (fun x hx => h x (List.mem_cons_of_mem _ hx))
    have e : (d + 256 * pc_vl ds) / 4 = (d / 4 + 64 * (pc_vl ds % 4)) + 256 * (pc_vl ds / 4) := by omega
    show ((d + 256 * pc_vl ds) / 4) &&& (51 + 256 * pc_vmk 51 ds.length) = ((d / 4) &&& 51) + 256 * pc_vl (ds.map fun d => (d / 4) &&& 51)
    rw [e, pc_and_lo _ _ (by omega) (by decide), pc_by2 d hd _ (by omega), ih]
theorem pc_st0 (m : Nat) (hm : m < 256) : ∀ ds : List Nat, (∀ d ∈ ds, d < 256) → pc_vl ds &&& pc_vmk m ds.length = pc_vl (ds.map fun d => d &&& m)
  | [], _ => rfl
  | d :: ds, h => by
    have hd : d < 256 := h d (List.mem_cons_self ..)
    have ih := pc_st0 m hm ds (fun x hx => h x (List.mem_cons_of_mem _ hx))
    show (d + 256 * pc_vl ds) &&& (m + 256 * pc_vmk m ds.length) = (d &&& m) + 256 * pc_vl (ds.map fun d => d &&& m)
    rw [pc_and_lo _ _ hd hm, ih]
theorem pc_vl_sub (f : Nat → Nat) (hf : ∀ d, f d ≤ d) : ∀ ds : List Nat, pc_vl (ds.map f) ≤ pc_vl ds ∧ pc_vl ds - pc_vl (ds.map f) = pc_vl (ds.map fun d => d - f d)
  | [] => ⟨Nat.le_refl _, rfl⟩
  | d :: ds => by
    obtain ⟨h1, h2⟩ := pc_vl_sub f hf ds
    have := hf d
    show f d + 256 * pc_vl (ds.map f) ≤ d + 256 * pc_vl ds ∧ (d + 256 * pc_vl ds) - (f d + 256 * pc_vl (ds.map f)) = (d - f d) + 256 * pc_vl (ds.map fun d => d - f d)
    omega
theorem pc_vl_add (f h : Nat → Nat) : ∀ ds : List Nat, pc_vl (ds.map f) + pc_vl (ds.map h) = pc_vl (ds.map fun d => f d + h d)
  | [] => rfl
  | d :: ds => by
    have := pc_vl_add f h ds
    show f d + 256 * pc_vl (ds.map f) + (h d + 256 * pc_vl (ds.map h)) = (f d + h d) + 256 * pc_vl (ds.map fun d => f d + h d)
    omega
theorem pc_vl_mod {ds : List Nat} (h : ∀ d ∈ ds, d % 16 ≤ 4 ∧ d / 16 ≤ 4) : pc_vl ds % 16 ≤ 4 := by
  cases ds with
  | nil => decide
  | cons d ds =>
    have := h d (List.mem_cons_self ..)
    show (d + 256 * pc_vl ds) % 16 ≤ 4
    omega
set_option maxRecDepth 20000 in
theorem pc_by3 : ∀ a, a < 16 → ∀ b, b < 16 → (a + 16 * b) &&& 15 = a := by decide +kernel
theorem pc_st3 : ∀ ds : List Nat, (∀ d ∈ ds, d % 16 ≤ 4 ∧ d / 16 ≤ 4) → (pc_vl ds + pc_vl ds / 16) &&& pc_vmk 15 ds.length = pc_vl (ds.map pc_q3)
  | [], _ => rfl
  | d :: ds, h => by
    have hd := h d (List.mem_cons_self ..)
    have hr : ∀ x ∈ ds, x % 16 ≤ 4 ∧ x / 16 ≤ 4 := fun x hx => h x (List.mem_cons_of_mem _ hx)
    have ih := pc_st3 ds hr
    have hm := pc_vl_mod hr
    have e : (d + 256 * pc_vl ds) + (d + 256 * pc_vl ds) / 16 = ((d % 16 + d / 16) + 16 * (d / 16 + pc_vl ds % 16)) + 256 * (pc_vl ds + pc_vl ds / 16) := by omega
    show ((d + 256 * pc_vl ds) + (d + 256 * pc_vl ds) / 16) &&& (15 + 256 * pc_vmk 15 ds.length) = pc_q3 d + 256 * pc_vl (ds.map pc_q3)
    rw [e, pc_and_lo _ _ (by omega) (by decide), pc_by3 _ (by omega) _ (by omega), ih]
    rfl
set_option maxRecDepth 20000 in
theorem pc_by4 : ∀ d, d < 256 → (d / 2) &&& 85 ≤ d ∧ pc_q1 d < 256 ∧ (pc_q2 (pc_q1 d)) % 16 ≤ 4 ∧ (pc_q2 (pc_q1 d)) / 16 ≤ 4 ∧ pc_q2 (pc_q1 d) < 256 ∧ pc_q3 (pc_q2 (pc_q1 d)) = fb_ct d.testBit 8 := by decide +kernel
theorem pc_tb_split {d r : Nat} (hd : d < 256) (n : Nat) : fb_ct (d + 256 * r).testBit (8 + n) = fb_ct d.testBit 8 + fb_ct r.testBit n := by
  have e : ∀ j, (d + 256 * r).testBit j = if j < 8 then d.testBit j else r.testBit (j - 8) := fun j => by
    rw [show d + 256 * r = 2 ^ 8 * r + d by omega]
    exact Nat.testBit_two_pow_mul_add r hd j
  rw [fb_ct_split]
  congr 1
  · exact fb_ct_cong fun k hk => by rw [e, if_pos hk]
  · refine fb_ct_cong fun k hk => ?_
    rw [e, if_neg (by omega), Nat.add_sub_cancel_left]
theorem pc_vl_ct : ∀ ds : List Nat, (∀ d ∈ ds, d < 256) → fb_ct (pc_vl ds).testBit (8 * ds.length) = (ds.map fun d => pc_q3 (pc_q2 (pc_q1 d))).sum
  | [], _ => rfl
  | d :: ds, h => by
    have hd : d < 256 := h d (List.mem_cons_self ..)
    have ih := pc_vl_ct ds (fun x hx => h x (List.mem_cons_of_mem _ hx))
    show fb_ct (d + 256 * pc_vl ds).testBit (8 * (ds.length + 1)) = pc_q3 (pc_q2 (pc_q1 d)) + (ds.map fun d => pc_q3 (pc_q2 (pc_q1 d))).sum
    rw [show 8 * (ds.length + 1) = 8 + 8 * ds.length by omega, pc_tb_split hd, ih, (pc_by4 d hd).2.2.2.2.2]
theorem lb_lN {n c : Nat} (hc : c < 64) : lb (lN n) c = n.testBit c := by
  unfold lb
  rw [wb_tb, BitVec.getLsbD_ofNat]
  simp [hc]
theorem pc_vl_lt : ∀ ds : List Nat, (∀ d ∈ ds, d < 256) → pc_vl ds < 256 ^ ds.length
  | [], _ => by decide
  | d :: ds, h => by
    have hd : d < 256 := h d (List.mem_cons_self ..)
    have ih := pc_vl_lt ds (fun x hx => h x (List.mem_cons_of_mem _ hx))
    show d + 256 * pc_vl ds < 256 ^ (ds.length + 1)
    rw [Nat.pow_succ]
    omega
/-- JDK 17's count -/
theorem bitc8 {ds : List Nat} (hl : ds.length = 8) (hd : ∀ d ∈ ds, d < 256) : f_J13_bitCount_95d88 (lN (pc_vl ds)) = nI (fb_ct (pc_vl ds).testBit 64) := by
  have m1 : pc_vmk 85 8 = 6148914691236517205 := by decide
  have m2 : pc_vmk 51 8 = 3689348814741910323 := by decide
  have m3 : pc_vmk 15 8 = 1085102592571150095 := by decide
  have lt0 : pc_vl ds < 2 ^ 64 := by have := pc_vl_lt ds hd; rw [hl] at this; exact this
  have sh : ∀ n k, n < 2 ^ 64 → k < 64 → zlushr (lN n) (nI k) = lN (n / 2 ^ k) := fun n k h1 h2 => wb_shr h1 h2
  have e1 : lN (pc_vl ds) - (zlushr (lN (pc_vl ds)) 1 &&& 6148914691236517205) = lN (pc_vl (ds.map pc_q1)) := by
    have z := pc_st1 ds hd
    rw [hl, m1] at z
    have zs := pc_vl_sub (fun d => if d < 256 then (d / 2) &&& 85 else 0) (fun d => by
      show (if d < 256 then (d / 2) &&& 85 else 0) ≤ d
      split
      · exact (pc_by4 d (by assumption)).1
      · exact Nat.zero_le _) ds
    have c1 : (ds.map fun d => if d < 256 then (d / 2) &&& 85 else 0) = ds.map fun d => (d / 2) &&& 85 := List.map_congr_left fun d h => if_pos (hd d h)
    have c2 : (ds.map fun d => d - (if d < 256 then (d / 2) &&& 85 else 0)) = ds.map pc_q1 := List.map_congr_left fun d h => by
      show d - (if d < 256 then (d / 2) &&& 85 else 0) = d - ((d / 2) &&& 85)
      rw [if_pos (hd d h)]
    rw [c1, c2] at zs
    rw [show (1 : Int32) = nI 1 from rfl, sh _ 1 lt0 (by decide), show (6148914691236517205 : Int64) = lN 6148914691236517205 from rfl, wb_and (by omega) (by decide), show pc_vl ds / 2 ^ 1 = pc_vl ds / 2 from rfl, z, lN_sub zs.1, zs.2]
  have hd1 : ∀ d ∈ ds.map pc_q1, d < 256 := fun d h => by
    obtain ⟨a, ha, rfl⟩ := List.mem_map.mp h
    exact (pc_by4 a (hd a ha)).2.1
  have lt1 : pc_vl (ds.map pc_q1) < 2 ^ 64 := by have := pc_vl_lt _ hd1; rw [List.length_map, hl] at this; exact this
  have e2 : (lN (pc_vl (ds.map pc_q1)) &&& 3689348814741910323) + (zlushr (lN (pc_vl (ds.map pc_q1))) 2 &&& 3689348814741910323) = lN (pc_vl ((ds.map pc_q1).map pc_q2)) := by
    have z := pc_st2 _ hd1
    have z' := pc_st0 51 (by decide) _ hd1
    rw [List.length_map, hl, m2] at z z'
    rw [show (2 : Int32) = nI 2 from rfl, sh _ 2 lt1 (by decide), show (3689348814741910323 : Int64) = lN 3689348814741910323 from rfl, wb_and (by omega) (by decide), wb_and (by omega) (by decide), show pc_vl (ds.map pc_q1) / 2 ^ 2 = pc_vl (ds.map pc_q1) / 4 from rfl, z, z', lN_add, pc_vl_add]
    rfl
  have hd2 : ∀ d ∈ (ds.map pc_q1).map pc_q2, d < 256 ∧ d % 16 ≤ 4 ∧ d / 16 ≤ 4 := fun d h => by
    rw [List.map_map] at h
    obtain ⟨a, ha, rfl⟩ := List.mem_map.mp h
    have := pc_by4 a (hd a ha)
    exact ⟨this.2.2.2.2.1, this.2.2.1, this.2.2.2.1⟩
  have lt2 : pc_vl ((ds.map pc_q1).map pc_q2) < 2 ^ 64 := by have := pc_vl_lt _ (fun d h => (hd2 d h).1); rw [List.length_map, List.length_map, hl] at this; exact this
  have e3 : (lN (pc_vl ((ds.map pc_q1).map pc_q2)) + zlushr (lN (pc_vl ((ds.map pc_q1).map pc_q2))) 4) &&& 1085102592571150095 = lN (pc_vl (((ds.map pc_q1).map pc_q2).map pc_q3)) := by
    have z := pc_st3 _ (fun d h => (hd2 d h).2)
    rw [List.length_map, List.length_map, hl, m3] at z
    rw [show (4 : Int32) = nI 4 from rfl, sh _ 4 lt2 (by decide), lN_add, show (1085102592571150095 : Int64) = lN 1085102592571150095 from rfl, show pc_vl ((ds.map pc_q1).map pc_q2) / 2 ^ 4 = pc_vl ((ds.map pc_q1).map pc_q2) / 16 from rfl]
    rw [fb_andL, z]
  have key : ∀ ps : List Nat, ps.length = 8 → (∀ p ∈ ps, p ≤ 8) → ((lN (pc_vl ps) + zlushr (lN (pc_vl ps)) 8) + zlushr (lN (pc_vl ps) + zlushr (lN (pc_vl ps)) 8) 16 + zlushr ((lN (pc_vl ps) + zlushr (lN (pc_vl ps)) 8) + zlushr (lN (pc_vl ps) + zlushr (lN (pc_vl ps)) 8) 16) 32).toInt32 &&& 127 = nI ps.sum := by
    intro ps h8 hp
    match ps, h8, hp with
    | [p0, p1, p2, p3, p4, p5, p6, p7], _, hp =>
      simp only [List.mem_cons, List.not_mem_nil, or_false, forall_eq_or_imp, forall_eq] at hp
      obtain ⟨h0, h1, h2, h3, h4, h5, h6, h7⟩ := hp
      have ex : pc_vl [p0, p1, p2, p3, p4, p5, p6, p7] = p0 + 256 * p1 + 65536 * p2 + 16777216 * p3 + 4294967296 * p4 + 1099511627776 * p5 + 281474976710656 * p6 + 72057594037927936 * p7 := by
        simp only [pc_vl]
        omega
      generalize pc_vl [p0, p1, p2, p3, p4, p5, p6, p7] = X at ex
      have hX : X < 2 ^ 60 := by omega
      have d1 : X / 256 = p1 + 256 * p2 + 65536 * p3 + 16777216 * p4 + 4294967296 * p5 + 1099511627776 * p6 + 281474976710656 * p7 := by omega
      rw [show (8 : Int32) = nI 8 from rfl, show (16 : Int32) = nI 16 from rfl, show (32 : Int32) = nI 32 from rfl, sh X 8 (by omega) (by decide), lN_add, show X / 2 ^ 8 = X / 256 from rfl]
      generalize hY : X + X / 256 = Y
      have hY2 : Y < 2 ^ 61 := by omega
      have d2 : Y / 65536 = (p2 + p3) + 256 * (p3 + p4) + 65536 * (p4 + p5) + 16777216 * (p5 + p6) + 4294967296 * (p6 + p7) + 1099511627776 * p7 := by omega
      rw [sh Y 16 (by omega) (by decide), lN_add, show Y / 2 ^ 16 = Y / 65536 from rfl]
      generalize hZ : Y + Y / 65536 = Z
      have hZ2 : Z < 2 ^ 62 := by omega
      have d3 : Z / 4294967296 = (p4 + p5 + p6 + p7) + 256 * (p5 + p6 + p7) + 65536 * (p6 + p7) + 16777216 * p7 := by omega
      rw [sh Z 32 (by omega) (by decide), lN_add, show Z / 2 ^ 32 = Z / 4294967296 from rfl, lN_i, show (127 : Int32) = nI (2 ^ 7 - 1) from rfl, fa_mask]
      congr 1
      simp only [List.sum_cons, List.sum_nil]
      omega
  have hp3 : ∀ p ∈ (((ds.map pc_q1).map pc_q2).map pc_q3), p ≤ 8 := fun p h => by
    obtain ⟨a, ha, rfl⟩ := List.mem_map.mp h
    have := hd2 a ha
    unfold pc_q3
    omega
  have fin := key (((ds.map pc_q1).map pc_q2).map pc_q3) (by simp [hl]) hp3
  unfold f_J13_bitCount_95d88 zb
  rw [e1, e2, e3, fin]
  have ct := pc_vl_ct ds hd
  rw [hl] at ct
  rw [show (64 : Nat) = 8 * 8 from rfl, ct, List.map_map, List.map_map]
  rfl
theorem bitc (x : Int64) : f_J13_bitCount_95d88 x = nI (fb_ct (lb x) 64) := by
  obtain ⟨n, hn, rfl⟩ := wb_of x
  have e : n = pc_vl [n % 256, n / 256 % 256, n / 65536 % 256, n / 16777216 % 256, n / 4294967296 % 256, n / 1099511627776 % 256, n / 281474976710656 % 256, n / 72057594037927936 % 256] := by
    simp only [pc_vl]
    omega
  have r : f_J13_bitCount_95d88 (lN n) = nI (fb_ct n.testBit 64) := by
    have := bitc8 (ds := [n % 256, n / 256 % 256, n / 65536 % 256, n / 16777216 % 256, n / 4294967296 % 256, n / 1099511627776 % 256, n / 281474976710656 % 256, n / 72057594037927936 % 256]) rfl (by
      intro d hd
      simp only [List.mem_cons, List.not_mem_nil, or_false] at hd
      rcases hd with h | h | h | h | h | h | h | h <;> rw [h] <;> exact Nat.mod_lt _ (by decide))
    rw [← e] at this
    exact this
  rw [r]
  congr 1
  exact fb_ct_cong fun k hk => (lb_lN hk).symm
