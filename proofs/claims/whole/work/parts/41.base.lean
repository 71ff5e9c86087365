/-! PURE LAYER, base: truth values, literals, loops, bits -/
def zt (b : Bool) : Int32 := if b then 1 else 0
theorem zt_0 (b : Bool) : (zt b = 0) = (b = false) := by cases b <;> simp [zt]
theorem zt_0' (b : Bool) : (zt b = nI 0) = (b = false) := zt_0 b
theorem zt_1 (b : Bool) : (zt b = 1) = (b = true) := by cases b <;> simp [zt]
theorem zt_t : zt true = 1 := rfl
theorem zt_f : zt false = 0 := rfl
theorem zt_nI (b : Bool) : zt b = nI (if b then 1 else 0) := by cases b <;> rfl
theorem zbl_zt (b : Bool) : zbl (zt b) = true := by cases b <;> rfl
theorem zlit (n : Nat) : (@OfNat.ofNat Int32 n _) = nI n := rfl
theorem zgT {τ : Type} (A : Option τ) : zg true A = A := rfl
theorem zin_nI {a n : Nat} (h : a < 2 ^ 31) : zin (nI a) n = decide (a < n) := by
  unfold zin
  rw [nI_clamp h]
  simp [nI_pos h]
theorem zin_ok {a n : Nat} (h : a < n) (hn : n < 2 ^ 31) : zin (nI a) n = true := by
  rw [zin_nI (Nat.lt_trans h hn)]
  exact decide_eq_true h
theorem zrem_nI {a d : Nat} (ha : a < 2 ^ 31) (h0 : 0 < d) (hd : d < 2 ^ 31) : zrem (nI a) (nI d) = nI (a % d) := pk_rem ha h0 hd
theorem nI_nm1 {a : Nat} (h : a < 2 ^ 31) : (nI a = -1) = False := by
  refine eq_false fun e => ?_
  have := nI_toInt h
  rw [e] at this
  have e2 : (-1 : Int32).toInt = -1 := rfl
  omega
theorem m1_nI {a : Nat} (h : a < 2 ^ 31) : ((-1 : Int32) = nI a) = False := eq_false fun e => by have := nI_nm1 h; rw [← this]; exact e.symm
theorem nI_eqI {a b : Nat} (ha : a < 2 ^ 31) (hb : b < 2 ^ 31) : (nI a = nI b) = (a = b) := propext (nI_eq ha hb)
theorem nI_leQ {a b : Nat} (ha : a < 2 ^ 31) (hb : b < 2 ^ 31) : (nI a ≤ nI b) = (a ≤ b) := propext (nI_leI ha hb)
theorem nI_ltQ {a b : Nat} (ha : a < 2 ^ 31) (hb : b < 2 ^ 31) : (nI a < nI b) = (a < b) := propext (nI_ltI ha hb)
theorem isIn_zt (p a b : Int32) : f_X12_isIn p a b = zt (decide (a ≤ p ∧ p ≤ b)) := by
  unfold f_X12_isIn zt
  by_cases h1 : a ≤ p <;> by_cases h2 : p ≤ b <;> simp [h1, h2]
/-- loops -/
theorem zlp_for {α β : Type} {f : α → Option (α ⊕ β)} (s : Nat → α) (n : Nat) {a : α} {b : β} (h0 : a = s 0) (h : ∀ k, k < n → f (s k) = some (.inl (s (k + 1)))) (he : f (s n) = some (.inr b)) : zlp f a = some b := by
  have key : ∀ j, j ≤ n → zlp f (s (n - j)) = some b := by
    intro j
    induction j with
    | zero => intro _; exact zlp_done he
    | succ j ih =>
      intro hj
      have e := h (n - (j + 1)) (by omega)
      rw [zlp_step e]
      have e2 : n - (j + 1) + 1 = n - j := by omega
      rw [e2]
      exact ih (by omega)
  have := key n (Nat.le_refl n)
  rw [Nat.sub_self] at this
  rw [h0]
  exact this
/-- .. with a way out at the first k of which p holds -/
theorem zlp_find {α β : Type} {f : α → Option (α ⊕ β)} (s : Nat → α) (p : Nat → Bool) (n : Nat) {a : α} (B : Nat → β) {E : β} (h0 : a = s 0) (h : ∀ k, k < n → f (s k) = some (if p k then .inr (B k) else .inl (s (k + 1)))) (he : f (s n) = some (.inr E)) : zlp f a = some (if fa_first p n < n then B (fa_first p n) else E) := by
  by_cases hf : fa_first p n < n
  · rw [if_pos hf]
    refine zlp_for s (fa_first p n) h0 (fun k hk => ?_) ?_
    · rw [h k (by omega), if_neg (by rw [fa_first_no p n k hk]; exact Bool.false_ne_true)]
    · rw [h _ hf, if_pos (fa_first_yes p n hf)]
  · rw [if_neg hf]
    have hn : fa_first p n = n := Nat.le_antisymm (fa_first_le p n) (Nat.not_lt.mp hf)
    refine zlp_for s n h0 (fun k hk => ?_) he
    rw [h k hk, if_neg (by rw [fa_first_no p n k (by omega)]; exact Bool.false_ne_true)]
def zfold {τ : Type} (F : Nat → τ → τ) : Nat → τ → τ
  | 0, a => a
  | n + 1, a => F n (zfold F n a)
theorem zfold_cong {τ : Type} {F G : Nat → τ → τ} : ∀ {n : Nat} (a : τ), (∀ k, k < n → ∀ b, F k b = G k b) → zfold F n a = zfold G n a
  | 0, _, _ => rfl
  | n + 1, a, h => by
    show F n (zfold F n a) = G n (zfold G n a)
    rw [zfold_cong a (fun k hk => h k (Nat.lt_succ_of_lt hk)), h n (Nat.lt_succ_self n)]
/-- bits of a long -/
def lb (x : Int64) (c : Nat) : Bool := x.toBitVec.getLsbD c
theorem lb_ext {x y : Int64} (h : ∀ i, i < 64 → lb x i = lb y i) : x = y := Int64.toBitVec_inj.mp (BitVec.eq_of_getLsbD_eq h)
theorem lb_or (x y : Int64) (i : Nat) : lb (x ||| y) i = (lb x i || lb y i) := by unfold lb; rw [Int64.toBitVec_or, BitVec.getLsbD_or]
theorem lb_and (x y : Int64) (i : Nat) : lb (x &&& y) i = (lb x i && lb y i) := by unfold lb; rw [Int64.toBitVec_and, BitVec.getLsbD_and]
theorem lb_m1 : ∀ i, i < 64 → lb (-1) i = true := by decide
theorem lb_not (x : Int64) {i : Nat} (hi : i < 64) : lb (x ^^^ (-1)) i = !lb x i := by
  have e := lb_m1 i hi
  unfold lb at e ⊢
  rw [Int64.toBitVec_xor, BitVec.getLsbD_xor, e, Bool.xor_true]
theorem lb_0 (i : Nat) : lb 0 i = false := by
  show (0#64).getLsbD i = false
  simp
theorem lb_big {x : Int64} {i : Nat} (h : 64 ≤ i) : lb x i = false := BitVec.getLsbD_of_ge _ _ h
set_option maxRecDepth 20000 in
theorem lb_bit : ∀ c, c < 64 → ∀ i, i < 64 → lb (zlshl 1 (nI c)) i = decide (i = c) := by decide +kernel
theorem lb_shl (n : Nat) (hn : n < 64) (x : Int64) {i : Nat} (hi : i < 64) : lb (zlshl x (nI n)) i = (decide (n ≤ i) && lb x (i - n)) := by
  obtain ⟨m, hm, rfl⟩ := wb_of x
  unfold zlshl
  rw [wb_shl m hn]
  unfold lb
  rw [wb_tb, wb_tb, BitVec.getLsbD_ofNat, BitVec.getLsbD_ofNat, Nat.testBit_mul_two_pow]
  by_cases h : n ≤ i
  · simp [h, hi]
    omega
  · simp [h]
theorem lb_ushr (n : Nat) (hn : n < 64) (x : Int64) (i : Nat) : lb (zlushr x (nI n)) i = lb x (n + i) := by
  obtain ⟨m, hm, rfl⟩ := wb_of x
  unfold zlushr
  rw [wb_shr hm hn]
  unfold lb
  rw [wb_tb, wb_tb, BitVec.getLsbD_ofNat, BitVec.getLsbD_ofNat, Nat.testBit_div_two_pow]
  by_cases h : n + i < 64
  · simp [h, Nat.add_comm]
    omega
  · have : m.testBit (n + i) = false := Nat.testBit_lt_two_pow (Nat.lt_of_lt_of_le hm (Nat.pow_le_pow_right (by decide) (by omega)))
    rw [Nat.add_comm i n, this]
    simp
theorem lb_1 (i : Nat) : lb 1 i = decide (i = 0) := by
  unfold lb
  show (1#64).getLsbD i = _
  simp
theorem lcmp0 (x y : Int64) : (lg_cmp x y = 0) = (x = y) := by
  unfold lg_cmp
  by_cases h : x > y
  · rw [if_pos h]
    have : x ≠ y := fun e => by rw [e] at h; exact absurd h (Int64.lt_irrefl)
    simp [this]
  · rw [if_neg h]
    by_cases h2 : x = y <;> simp [h2]
theorem holds_lb (x : Int64) {c : Nat} (hc : c < 64) : f_X11_holds x (nI c) = zt (lb x c) := by
  unfold f_X11_holds
  simp only [lcmp0]
  have : ((zlushr x (nI c) &&& (1 : Int64)) = 0) = (lb x c = false) := by
    refine propext ⟨fun e => ?_, fun e => lb_ext fun i hi => ?_⟩
    · have := congrArg (fun z => lb z 0) e
      simp only [lb_and, lb_0, lb_1, lb_ushr c hc, Nat.add_zero] at this
      simpa using this
    · rw [lb_and, lb_0, lb_1, lb_ushr c hc]
      by_cases h : i = 0
      · subst h; simp [e]
      · simp [h]
  simp only [this]
  cases lb x c <;> rfl
/-- the set of those c < n of which p holds -/
def bitsL (p : Nat → Bool) : Nat → Int64
  | 0 => 0
  | n + 1 => if p n then bitsL p n ||| zlshl 1 (nI n) else bitsL p n
theorem lb_bits (p : Nat → Bool) : ∀ n, n ≤ 64 → ∀ i, i < 64 → lb (bitsL p n) i = (decide (i < n) && p i)
  | 0, _, i, _ => by rw [bitsL, lb_0]; simp
  | n + 1, hn, i, hi => by
    have ih := lb_bits p n (by omega) i hi
    rw [bitsL]
    by_cases hp : p n
    · rw [if_pos hp, lb_or, ih, lb_bit n (by omega) i hi]
      by_cases h : i = n
      · subst h; simp [hp]
      · have : (i < n + 1) = (i < n) := propext ⟨fun q => by omega, fun q => by omega⟩
        simp [h, this]
    · rw [if_neg hp, ih]
      by_cases h : i = n
      · subst h; simp [hp]
      · have : (i < n + 1) = (i < n) := propext ⟨fun q => by omega, fun q => by omega⟩
        simp [this]
theorem bits_eq {p : Nat → Bool} {x : Int64} {n : Nat} (hn : n ≤ 64) (h : ∀ i, i < 64 → lb x i = (decide (i < n) && p i)) : bitsL p n = x := lb_ext fun i hi => by rw [lb_bits p n hn i hi, h i hi]
/-- counts and sums in 32 bits -/
theorem cnt_step (p : Nat → Bool) (k : Nat) : nI (fb_ct p k) + nI (if p k then 1 else 0) = nI (fb_ct p (k + 1)) := by rw [fb_ct_succ, nI_add]
theorem one_min {x : Int32} : (f_X11_isMinute x = 0 ∧ f_X12_isMinute x = some 0) ∨ ∃ m, m < 501 ∧ x = nI m := by
  unfold f_X11_isMinute f_X12_isMinute f_X12_isIn
  by_cases h1 : 0 ≤ x
  · by_cases h2 : x ≤ 500
    · right
      obtain ⟨j, hj, e⟩ := nI_of2 (M := 500) (n := 500) rfl (fun h => by rw [fa_lt] at h; rw [fa_le] at h1; have : (0 : Int32).toInt = 0 := rfl; omega) h2
      exact ⟨j, by omega, e⟩
    · left; simp [h1, h2, zg, zbl]
  · left; simp [h1, zg, zbl]
theorem min_ok {m : Nat} (h : m < 501) : f_X11_isMinute (nI m) = 1 ∧ f_X12_isMinute (nI m) = some 1 := by
  unfold f_X11_isMinute f_X12_isMinute
  rw [isIn_zt]
  have h1 : (0 : Int32) ≤ nI m := nI_pos' (by omega)
  have h2 : nI m ≤ (500 : Int32) := nI_le (b := 500) (by omega) (by decide)
  simp [h1, h2, zg, zbl, zt]
theorem range_of {x : Int32} {n : Nat} (hn : n < 2 ^ 31) : (0 ≤ x ∧ x < nI n) ↔ ∃ j, j < n ∧ x = nI j := by
  constructor
  · rintro ⟨h1, h2⟩
    rcases pk_ix x hn with h | h | h
    · rw [fa_lt] at h; rw [fa_le] at h1; omega
    · rw [fa_le] at h; rw [fa_lt] at h2; omega
    · exact h
  · rintro ⟨j, hj, rfl⟩
    exact ⟨nI_pos' (by omega), nI_lt hj hn⟩
