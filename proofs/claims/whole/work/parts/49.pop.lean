/-! PURE LAYER: how many bits a long has, as the JDK counts them -/
def pc_vl : List Nat → Nat
  | [] => 0
  | d :: ds => d + 256 * pc_vl ds
def pc_vmk (m : Nat) : Nat → Nat
  | 0 => 0
  | n + 1 => m + 256 * pc_vmk m n
theorem pc_and_lo {a c : Nat} (b d : Nat) (ha : a < 256) (hc : c < 256) : (a + 256 * b) &&& (c + 256 * d) = (a &&& c) + 256 * (b &&& d) := by
  have h1 : ((a + 256 * b) &&& (c + 256 * d)) % 2 ^ 8 = a &&& c := by
    rw [Nat.and_mod_two_pow, show (a + 256 * b) % 2 ^ 8 = a by omega, show (c + 256 * d) % 2 ^ 8 = c by omega]
  have h2 : ((a + 256 * b) &&& (c + 256 * d)) / 2 ^ 8 = b &&& d := by
    rw [Nat.and_div_two_pow, show (a + 256 * b) / 2 ^ 8 = b by omega, show (c + 256 * d) / 2 ^ 8 = d by omega]
  omega
theorem pc_div {lo B n : Nat} (h : lo < n) : (lo + n * B) / n = B := by
  rw [Nat.add_mul_div_left _ _ (by omega), Nat.div_eq_of_lt h, Nat.zero_add]
set_option maxRecDepth 20000 in
theorem pc_by1 : ∀ d, d < 256 → ∀ e, e < 2 → (d / 2 + 128 * e) &&& 85 = (d / 2) &&& 85 := by decide +kernel
set_option maxRecDepth 20000 in
theorem pc_by2 : ∀ d, d < 256 → ∀ e, e < 4 → (d / 4 + 64 * e) &&& 51 = (d / 4) &&& 51 := by decide +kernel
def pc_q1 (d : Nat) : Nat := d - ((d / 2) &&& 85)
def pc_q2 (d : Nat) : Nat := (d &&& 51) + ((d / 4) &&& 51)
def pc_q3 (d : Nat) : Nat := d % 16 + d / 16
theorem pc_st1 : ∀ ds : List Nat, (∀ d ∈ ds, d < 256) → (pc_vl ds / 2) &&& pc_vmk 85 ds.length = pc_vl (ds.map fun d => (d / 2) &&& 85)
  | [], _ => rfl
  | d :: ds, h => by
    have hd : d < 256 := h d (List.mem_cons_self ..)
    have ih := pc_st1 ds (fun x hx => h x (List.mem_cons_of_mem _ hx))
    have e : (d + 256 * pc_vl ds) / 2 = (d / 2 + 128 * (pc_vl ds % 2)) + 256 * (pc_vl ds / 2) := by omega
    show ((d + 256 * pc_vl ds) / 2) &&& (85 + 256 * pc_vmk 85 ds.length) = ((d / 2) &&& 85) + 256 * pc_vl (ds.map fun d => (d / 2) &&& 85)
    rw [e, pc_and_lo _ _ (by omega) (by decide), pc_by1 d hd _ (by omega), ih]
theorem pc_st2 : ∀ ds : List Nat, (∀ d ∈ ds, d < 256) → (pc_vl ds / 4) &&& pc_vmk 51 ds.length = pc_vl (ds.map fun d => (d / 4) &&& 51)
  | [], _ => rfl
  | d :: ds, h => by
    have hd : d < 256 := h d (List.mem_cons_self ..)
    have ih := pc_st2 ds (fun x hx => h x (List.mem_cons_of_mem _ hx))
    have e : (d + 256 * pc_vl ds) / 4 = (d / 4 + 64 * (pc_vl ds % 4)) + 256 * (pc_vl ds / 4) := by omega
    show ((d + 256 * pc_vl ds) / 4) &&& (51 + 256 * pc_vmk 51 ds.length) = ((d / 4) &&& 51) + 256 * pc_vl (ds.map fun d => (d / 4) &&& 51)
    rw [e, pc_and_lo _ _ (by omega) (by decide), pc_by2 d hd _ (by omega), ih]
theorem pc_st0 (m : Nat) (hm : m < 256) : ∀ ds : List Nat, (∀ d ∈ ds, d < 256) → pc_vl ds &&& pc_vmk m ds.length = pc_vl (ds.map fun d => d &&& m)
  | [], _ => Nat.zero_and _
  | d :: ds, h => by
    have hd : d < 256 := h d (List.mem_cons_self ..)
    have ih := pc_st0 m hm ds (fun x hx => h x (List.mem_cons_of_mem _ hx))
    show (d + 256 * pc_vl ds) &&& (m + 256 * pc_vmk m ds.length) = (d &&& m) + 256 * pc_vl (ds.map fun d => d &&& m)
    rw [pc_and_lo _ _ hd hm, ih]
theorem pc_vl_sub (f : Nat → Nat) (hf : ∀ d, f d ≤ d) : ∀ ds : List Nat, pc_vl (ds.map f) ≤ pc_vl ds ∧ pc_vl ds - pc_vl (ds.map f) = pc_vl (ds.map fun d => d - f d)
  | [] => ⟨Nat.le_refl _, rfl⟩
  | d :: ds => by
    obtain ⟨h1, h2⟩ := pc_vl_sub f hf ds
    have := hf d
    show f d + 256 * pc_vl (ds.map f) ≤ d + 256 * pc_vl ds ∧ (d + 256 * pc_vl ds) - (f d + 256 * pc_vl (ds.map f)) = (d - f d) + 256 * pc_vl (ds.map fun d => d - f d)
    omega
theorem pc_vl_add (f h : Nat → Nat) : ∀ ds : List Nat, pc_vl (ds.map f) + pc_vl (ds.map h) = pc_vl (ds.map fun d => f d + h d)
  | [] => rfl
  | d :: ds => by
    have := pc_vl_add f h ds
    show f d + 256 * pc_vl (ds.map f) + (h d + 256 * pc_vl (ds.map h)) = (f d + h d) + 256 * pc_vl (ds.map fun d => f d + h d)
    omega
theorem pc_vl_mod {ds : List Nat} (h : ∀ d ∈ ds, d % 16 ≤ 4 ∧ d / 16 ≤ 4) : pc_vl ds % 16 ≤ 4 := by
  cases ds with
  | nil => decide
  | cons d ds =>
    have := h d (List.mem_cons_self ..)
    show (d + 256 * pc_vl ds) % 16 ≤ 4
    omega
set_option maxRecDepth 20000 in
theorem pc_by3 : ∀ a, a < 16 → ∀ b, b < 16 → (a + 16 * b) &&& 15 = a := by decide +kernel
theorem pc_st3 : ∀ ds : List Nat, (∀ d ∈ ds, d % 16 ≤ 4 ∧ d / 16 ≤ 4) → (pc_vl ds + pc_vl ds / 16) &&& pc_vmk 15 ds.length = pc_vl (ds.map pc_q3)
  | [], _ => rfl
  | d :: ds, h => by
    have hd := h d (List.mem_cons_self ..)
    have hr : ∀ x ∈ ds, x % 16 ≤ 4 ∧ x / 16 ≤ 4 := fun x hx => h x (List.mem_cons_of_mem _ hx)
    have ih := pc_st3 ds hr
    have hm := pc_vl_mod hr
    have e : (d + 256 * pc_vl ds) + (d + 256 * pc_vl ds) / 16 = ((d % 16 + d / 16) + 16 * (d / 16 + pc_vl ds % 16)) + 256 * (pc_vl ds + pc_vl ds / 16) := by omega
    show ((d + 256 * pc_vl ds) + (d + 256 * pc_vl ds) / 16) &&& (15 + 256 * pc_vmk 15 ds.length) = pc_q3 d + 256 * pc_vl (ds.map pc_q3)
    rw [e, pc_and_lo _ _ (by omega) (by decide), pc_by3 _ (by omega) _ (by omega), ih]
    rfl
set_option maxRecDepth 20000 in
theorem pc_by4 : ∀ d, d < 256 → (d / 2) &&& 85 ≤ d ∧ pc_q1 d < 256 ∧ (pc_q2 (pc_q1 d)) % 16 ≤ 4 ∧ (pc_q2 (pc_q1 d)) / 16 ≤ 4 ∧ pc_q2 (pc_q1 d) < 256 ∧ pc_q3 (pc_q2 (pc_q1 d)) = fb_ct d.testBit 8 := by decide +kernel
theorem pc_tb_split {d r : Nat} (hd : d < 256) (n : Nat) : fb_ct (d + 256 * r).testBit (8 + n) = fb_ct d.testBit 8 + fb_ct r.testBit n := by
  have e : ∀ j, (d + 256 * r).testBit j = if j < 8 then d.testBit j else r.testBit (j - 8) := fun j => by
    rw [show d + 256 * r = 2 ^ 8 * r + d by omega]
    exact Nat.testBit_two_pow_mul_add r hd j
  rw [fb_ct_split]
  congr 1
  · exact fb_ct_cong fun k hk => by rw [e, if_pos hk]
  · refine fb_ct_cong fun k hk => ?_
    rw [e, if_neg (by omega), Nat.add_sub_cancel_left]
theorem pc_vl_ct : ∀ ds : List Nat, (∀ d ∈ ds, d < 256) → fb_ct (pc_vl ds).testBit (8 * ds.length) = (ds.map fun d => pc_q3 (pc_q2 (pc_q1 d))).sum
  | [], _ => rfl
  | d :: ds, h => by
    have hd : d < 256 := h d (List.mem_cons_self ..)
    have ih := pc_vl_ct ds (fun x hx => h x (List.mem_cons_of_mem _ hx))
    show fb_ct (d + 256 * pc_vl ds).testBit (8 * (ds.length + 1)) = pc_q3 (pc_q2 (pc_q1 d)) + (ds.map fun d => pc_q3 (pc_q2 (pc_q1 d))).sum
    rw [show 8 * (ds.length + 1) = 8 + 8 * ds.length by omega, pc_tb_split hd, ih, (pc_by4 d hd).2.2.2.2.2]
theorem lb_lN {n c : Nat} (hc : c < 64) : lb (lN n) c = n.testBit c := by
  unfold lb
  rw [wb_tb, BitVec.getLsbD_ofNat]
  simp [hc]
theorem pc_vl_lt : ∀ ds : List Nat, (∀ d ∈ ds, d < 256) → pc_vl ds < 256 ^ ds.length
  | [], _ => by decide
  | d :: ds, h => by
    have hd : d < 256 := h d (List.mem_cons_self ..)
    have ih := pc_vl_lt ds (fun x hx => h x (List.mem_cons_of_mem _ hx))
    show d + 256 * pc_vl ds < 256 ^ (ds.length + 1)
    rw [Nat.pow_succ]
    omega
theorem pc_lt64 {ds : List Nat} (hl : ds.length = 8) (hd : ∀ d ∈ ds, d < 256) : pc_vl ds < 2 ^ 64 := by
  have h := pc_vl_lt ds hd
  rw [hl] at h
  exact Nat.lt_of_lt_of_le h (by decide +kernel)
theorem pc_sh {n k : Nat} (h1 : n < 2 ^ 64) (h2 : k < 64) : zlushr (lN n) (nI k) = lN (n / 2 ^ k) := wb_shr h1 h2
theorem pc_e1 {ds : List Nat} (hl : ds.length = 8) (hd : ∀ d ∈ ds, d < 256) : lN (pc_vl ds) - (zlushr (lN (pc_vl ds)) 1 &&& 6148914691236517205) = lN (pc_vl (ds.map pc_q1)) := by
  have m1 : pc_vmk 85 8 = 6148914691236517205 := by decide +kernel
  have z := pc_st1 ds hd
  rw [hl, m1] at z
  have zs := pc_vl_sub (fun d => if d < 256 then (d / 2) &&& 85 else 0) (fun d => by
    show (if d < 256 then (d / 2) &&& 85 else 0) ≤ d
    split
    · exact (pc_by4 d (by assumption)).1
    · exact Nat.zero_le _) ds
  have c1 : (ds.map fun d => if d < 256 then (d / 2) &&& 85 else 0) = ds.map fun d => (d / 2) &&& 85 := List.map_congr_left fun d h => if_pos (hd d h)
  have c2 : (ds.map fun d => d - (if d < 256 then (d / 2) &&& 85 else 0)) = ds.map pc_q1 := List.map_congr_left fun d h => by
    show d - (if d < 256 then (d / 2) &&& 85 else 0) = d - ((d / 2) &&& 85)
    rw [if_pos (hd d h)]
  rw [c1, c2] at zs
  have s1 : zlushr (lN (pc_vl ds)) 1 = lN (pc_vl ds / 2) := pc_sh (k := 1) (pc_lt64 hl hd) (by decide)
  have s2 : (6148914691236517205 : Int64) = lN 6148914691236517205 := fa_litL _
  rw [s1, s2, fb_andL, z, lN_sub zs.1, zs.2]
theorem pc_e2 {ds : List Nat} (hl : ds.length = 8) (hd : ∀ d ∈ ds, d < 256) : (lN (pc_vl ds) &&& 3689348814741910323) + (zlushr (lN (pc_vl ds)) 2 &&& 3689348814741910323) = lN (pc_vl (ds.map pc_q2)) := by
  have m2 : pc_vmk 51 8 = 3689348814741910323 := by decide +kernel
  have z := pc_st2 ds hd
  have z' := pc_st0 51 (by decide) ds hd
  rw [hl, m2] at z z'
  have s1 : zlushr (lN (pc_vl ds)) 2 = lN (pc_vl ds / 4) := pc_sh (k := 2) (pc_lt64 hl hd) (by decide)
  have s2 : (3689348814741910323 : Int64) = lN 3689348814741910323 := fa_litL _
  rw [s1, s2, fb_andL, fb_andL, z, z', lN_add, pc_vl_add]
  rfl
theorem pc_e3 {ds : List Nat} (hl : ds.length = 8) (hd : ∀ d ∈ ds, d < 256 ∧ d % 16 ≤ 4 ∧ d / 16 ≤ 4) : (lN (pc_vl ds) + zlushr (lN (pc_vl ds)) 4) &&& 1085102592571150095 = lN (pc_vl (ds.map pc_q3)) := by
  have m3 : pc_vmk 15 8 = 1085102592571150095 := by decide +kernel
  have z := pc_st3 ds (fun d h => (hd d h).2)
  rw [hl, m3] at z
  have s1 : zlushr (lN (pc_vl ds)) 4 = lN (pc_vl ds / 16) := pc_sh (k := 4) (pc_lt64 hl (fun d h => (hd d h).1)) (by decide)
  have s2 : (1085102592571150095 : Int64) = lN 1085102592571150095 := fa_litL _
  rw [s1, s2, lN_add, fb_andL, z]
theorem pc_i1 (p0 p1 p2 p3 p4 p5 p6 p7 : Nat) : p0 + 256 * p1 + 65536 * p2 + 16777216 * p3 + 4294967296 * p4 + 1099511627776 * p5 + 281474976710656 * p6 + 72057594037927936 * p7 = p0 + 256 * (p1 + 256 * p2 + 65536 * p3 + 16777216 * p4 + 4294967296 * p5 + 1099511627776 * p6 + 281474976710656 * p7) := by omega
theorem pc_i2 (p0 p1 p2 p3 p4 p5 p6 p7 : Nat) : p0 + 256 * p1 + 65536 * p2 + 16777216 * p3 + 4294967296 * p4 + 1099511627776 * p5 + 281474976710656 * p6 + 72057594037927936 * p7 + (p1 + 256 * p2 + 65536 * p3 + 16777216 * p4 + 4294967296 * p5 + 1099511627776 * p6 + 281474976710656 * p7) = ((p0 + p1) + 256 * (p1 + p2)) + 65536 * ((p2 + p3) + 256 * (p3 + p4) + 65536 * (p4 + p5) + 16777216 * (p5 + p6) + 4294967296 * (p6 + p7) + 1099511627776 * p7) := by omega
theorem pc_i3 (p0 p1 p2 p3 p4 p5 p6 p7 : Nat) : ((p0 + p1) + 256 * (p1 + p2)) + 65536 * ((p2 + p3) + 256 * (p3 + p4) + 65536 * (p4 + p5) + 16777216 * (p5 + p6) + 4294967296 * (p6 + p7) + 1099511627776 * p7) + ((p2 + p3) + 256 * (p3 + p4) + 65536 * (p4 + p5) + 16777216 * (p5 + p6) + 4294967296 * (p6 + p7) + 1099511627776 * p7) = ((p0 + p1 + p2 + p3) + 256 * (p1 + p2 + p3 + p4) + 65536 * (p2 + p3 + p4 + p5) + 16777216 * (p3 + p4 + p5 + p6)) + 4294967296 * ((p4 + p5 + p6 + p7) + 256 * (p5 + p6 + p7) + 65536 * (p6 + p7) + 16777216 * p7) := by omega
theorem pc_i4 (p0 p1 p2 p3 p4 p5 p6 p7 C : Nat) (hC : C = (p4 + p5 + p6 + p7) + 256 * (p5 + p6 + p7) + 65536 * (p6 + p7) + 16777216 * p7) : ((p0 + p1 + p2 + p3) + 256 * (p1 + p2 + p3 + p4) + 65536 * (p2 + p3 + p4 + p5) + 16777216 * (p3 + p4 + p5 + p6)) + 4294967296 * C + C = (p0 + (p1 + (p2 + (p3 + (p4 + (p5 + (p6 + p7))))))) + 128 * (2 * ((p1 + p2 + p3 + p4) + 256 * (p2 + p3 + p4 + p5) + 65536 * (p3 + p4 + p5 + p6) + 16777216 * C + (p5 + p6 + p7) + 256 * (p6 + p7) + 65536 * p7)) := by omega
theorem pc_lt2 {a b m n M : Nat} (ha : a < m) (hb : b < n) (hM : m * n ≤ M) : a + m * b < M := by
  have h1 : m * (b + 1) ≤ m * n := Nat.mul_le_mul_left m hb
  rw [Nat.mul_add, Nat.mul_one] at h1
  omega
theorem pc_fin {X p0 p1 p2 p3 p4 p5 p6 p7 : Nat} (h0 : p0 ≤ 8) (h1 : p1 ≤ 8) (h2 : p2 ≤ 8) (h3 : p3 ≤ 8) (h4 : p4 ≤ 8) (h5 : p5 ≤ 8) (h6 : p6 ≤ 8) (h7 : p7 ≤ 8) (ex : X = p0 + 256 * p1 + 65536 * p2 + 16777216 * p3 + 4294967296 * p4 + 1099511627776 * p5 + 281474976710656 * p6 + 72057594037927936 * p7) (hX : X < 2 ^ 60) :
    ∃ A B C, X / 256 = A ∧ (X + A) / 65536 = B ∧ (X + A + B) / 4294967296 = C ∧ A ≤ X ∧ B ≤ X + A ∧ (X + A + B + C) % 128 = p0 + (p1 + (p2 + (p3 + (p4 + (p5 + (p6 + p7)))))) := by
  have a0 : p0 < 256 := by omega
  have a1 : (p0 + p1) + 256 * (p1 + p2) < 65536 := by omega
  have a2 : (p0 + p1 + p2 + p3) + 256 * (p1 + p2 + p3 + p4) + 65536 * (p2 + p3 + p4 + p5) + 16777216 * (p3 + p4 + p5 + p6) < 4294967296 := by clear ex a0 a1 h7; omega
  have a3 : p0 + (p1 + (p2 + (p3 + (p4 + (p5 + (p6 + p7)))))) < 128 := by clear ex a0 a1 a2; omega
  have e1 := pc_i1 p0 p1 p2 p3 p4 p5 p6 p7
  have e2 := pc_i2 p0 p1 p2 p3 p4 p5 p6 p7
  have e3 := pc_i3 p0 p1 p2 p3 p4 p5 p6 p7
  have e4 := fun C h => pc_i4 p0 p1 p2 p3 p4 p5 p6 p7 C h
  clear h0 h1 h2 h3 h4 h5 h6 h7
  rw [← ex] at e1 e2
  generalize p1 + 256 * p2 + 65536 * p3 + 16777216 * p4 + 4294967296 * p5 + 1099511627776 * p6 + 281474976710656 * p7 = A at e1 e2
  generalize (p2 + p3) + 256 * (p3 + p4) + 65536 * (p4 + p5) + 16777216 * (p5 + p6) + 4294967296 * (p6 + p7) + 1099511627776 * p7 = B at e2 e3
  obtain ⟨C, hC⟩ : ∃ C, C = (p4 + p5 + p6 + p7) + 256 * (p5 + p6 + p7) + 65536 * (p6 + p7) + 16777216 * p7 := ⟨_, rfl⟩
  have e4' := e4 C hC
  rw [← hC, ← e2] at e3
  rw [← e3] at e4'
  have d1 : X / 256 = A := by rw [e1]; exact pc_div a0
  have d2 : (X + A) / 65536 = B := by rw [e2]; exact pc_div a1
  have d3 : (X + A + B) / 4294967296 = C := by rw [e3]; exact pc_div a2
  refine ⟨A, B, C, d1, d2, d3, by rw [← d1]; exact Nat.div_le_self _ _, by rw [← d2]; exact Nat.div_le_self _ _, ?_⟩
  rw [e4', Nat.add_mul_mod_self_left]
  exact Nat.mod_eq_of_lt a3
theorem pc_lt60 : ∀ ps : List Nat, (∀ p ∈ ps, p ≤ 8) → pc_vl ps * 2 ^ 4 < 256 ^ ps.length
  | [], _ => by decide
  | d :: ds, h => by
    have hd : d ≤ 8 := h d (List.mem_cons_self ..)
    have ih := pc_lt60 ds (fun x hx => h x (List.mem_cons_of_mem _ hx))
    show (d + 256 * pc_vl ds) * 2 ^ 4 < 256 ^ (ds.length + 1)
    rw [Nat.pow_succ]
    omega
theorem pc_key (ps : List Nat) (h8 : ps.length = 8) (hp : ∀ p ∈ ps, p ≤ 8) : ((lN (pc_vl ps) + zlushr (lN (pc_vl ps)) 8) + zlushr (lN (pc_vl ps) + zlushr (lN (pc_vl ps)) 8) 16 + zlushr ((lN (pc_vl ps) + zlushr (lN (pc_vl ps)) 8) + zlushr (lN (pc_vl ps) + zlushr (lN (pc_vl ps)) 8) 16) 32).toInt32 &&& 127 = nI ps.sum := by
  match ps, h8, hp with
  | [p0, p1, p2, p3, p4, p5, p6, p7], _, hp =>
    have hp0 := hp
    simp only [List.mem_cons, List.not_mem_nil, or_false, forall_eq_or_imp, forall_eq] at hp
    obtain ⟨h0, h1, h2, h3, h4, h5, h6, h7⟩ := hp
    have hX : pc_vl [p0, p1, p2, p3, p4, p5, p6, p7] < 2 ^ 60 := by
      have h := pc_lt60 [p0, p1, p2, p3, p4, p5, p6, p7] hp0
      have e : (256 : Nat) ^ [p0, p1, p2, p3, p4, p5, p6, p7].length = 2 ^ 60 * 2 ^ 4 := by show (256 : Nat) ^ 8 = _; decide +kernel
      rw [e] at h
      exact Nat.lt_of_mul_lt_mul_right h
    have ex : pc_vl [p0, p1, p2, p3, p4, p5, p6, p7] = p0 + 256 * p1 + 65536 * p2 + 16777216 * p3 + 4294967296 * p4 + 1099511627776 * p5 + 281474976710656 * p6 + 72057594037927936 * p7 := by
      simp only [pc_vl]
      omega
    generalize pc_vl [p0, p1, p2, p3, p4, p5, p6, p7] = X at ex hX
    obtain ⟨A, B, C, d1, d2, d3, hA, hB, hU⟩ := pc_fin h0 h1 h2 h3 h4 h5 h6 h7 ex hX
    clear ex h0 h1 h2 h3 h4 h5 h6 h7 hp0
    have s1 : zlushr (lN X) 8 = lN A := by rw [← d1]; exact pc_sh (k := 8) (by omega) (by decide)
    have s2 : zlushr (lN (X + A)) 16 = lN B := by rw [← d2]; exact pc_sh (k := 16) (by omega) (by decide)
    have s3 : zlushr (lN (X + A + B)) 32 = lN C := by rw [← d3]; exact pc_sh (k := 32) (by omega) (by decide)
    rw [s1, lN_add, s2, lN_add, s3, lN_add, lN_i]
    have m7 : nI (X + A + B + C) &&& 127 = nI ((X + A + B + C) % 128) := fa_mask _ 7
    rw [m7, hU]
    simp only [List.sum_cons, List.sum_nil, Nat.add_zero]
/-- JDK 17's count -/
theorem bitc8 {ds : List Nat} (hl : ds.length = 8) (hd : ∀ d ∈ ds, d < 256) : f_J13_bitCount_95d88 (lN (pc_vl ds)) = nI (fb_ct (pc_vl ds).testBit 64) := by
  have hd1 : ∀ d ∈ ds.map pc_q1, d < 256 := fun d h => by
    obtain ⟨a, ha, rfl⟩ := List.mem_map.mp h
    exact (pc_by4 a (hd a ha)).2.1
  have hd2 : ∀ d ∈ (ds.map pc_q1).map pc_q2, d < 256 ∧ d % 16 ≤ 4 ∧ d / 16 ≤ 4 := fun d h => by
    rw [List.map_map] at h
    obtain ⟨a, ha, rfl⟩ := List.mem_map.mp h
    have := pc_by4 a (hd a ha)
    exact ⟨this.2.2.2.2.1, this.2.2.1, this.2.2.2.1⟩
  have hp3 : ∀ p ∈ (((ds.map pc_q1).map pc_q2).map pc_q3), p ≤ 8 := fun p h => by
    obtain ⟨a, ha, rfl⟩ := List.mem_map.mp h
    have := hd2 a ha
    unfold pc_q3
    omega
  have l1 : (ds.map pc_q1).length = 8 := by rw [List.length_map]; exact hl
  have l2 : ((ds.map pc_q1).map pc_q2).length = 8 := by rw [List.length_map]; exact l1
  have l3 : (((ds.map pc_q1).map pc_q2).map pc_q3).length = 8 := by rw [List.length_map]; exact l2
  have fin := pc_key _ l3 hp3
  unfold f_J13_bitCount_95d88 zb
  rw [pc_e1 hl hd]
  dsimp only
  rw [pc_e2 l1 hd1, pc_e3 l2 hd2, fin]
  have ct := pc_vl_ct ds hd
  rw [hl] at ct
  rw [show (64 : Nat) = 8 * 8 from rfl, ct, List.map_map, List.map_map]
  rfl
def pc_ds : Nat → Nat → List Nat
  | 0, _ => []
  | k + 1, n => n % 256 :: pc_ds k (n / 256)
theorem pc_ds_len : ∀ k n, (pc_ds k n).length = k
  | 0, _ => rfl
  | k + 1, n => congrArg (· + 1) (pc_ds_len k (n / 256))
theorem pc_ds_lt : ∀ k n, ∀ d ∈ pc_ds k n, d < 256
  | 0, _, d, h => by cases h
  | k + 1, n, d, h => by
    rcases List.mem_cons.mp h with h | h
    · rw [h]; exact Nat.mod_lt _ (by decide)
    · exact pc_ds_lt k _ d h
theorem pc_ds_vl : ∀ k n, n < 256 ^ k → pc_vl (pc_ds k n) = n
  | 0, n, h => by
    have : n < 1 := h
    show 0 = n
    omega
  | k + 1, n, h => by
    have h2 : n / 256 < 256 ^ k := by
      rw [Nat.pow_succ] at h
      exact Nat.div_lt_of_lt_mul (by omega)
    show n % 256 + 256 * pc_vl (pc_ds k (n / 256)) = n
    rw [pc_ds_vl k _ h2]
    exact Nat.mod_add_div n 256
theorem bitc (x : Int64) : f_J13_bitCount_95d88 x = nI (fb_ct (lb x) 64) := by
  obtain ⟨n, hn, rfl⟩ := wb_of x
  have e := pc_ds_vl 8 n (by rw [show (256 : Nat) ^ 8 = 2 ^ 64 from by decide +kernel]; exact hn)
  have r := bitc8 (pc_ds_len 8 n) (pc_ds_lt 8 n)
  rw [e] at r
  rw [r]
  congr 1
  exact fb_ct_cong fun k hk => (lb_lN hk).symm
