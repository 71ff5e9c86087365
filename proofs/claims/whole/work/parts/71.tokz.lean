/-! PURE LAYER: the class reads all words at once -/
def FrA (ar : Nat → Nat → Nat → Bool) (σ σ' : zG) : Prop := (∀ f i k, ar f i k = false → σ'.1 f i k = σ.1 f i k) ∧ σ'.2 = σ.2
theorem FrA.refl (ar : Nat → Nat → Nat → Bool) (σ : zG) : FrA ar σ σ := ⟨fun _ _ _ _ => rfl, rfl⟩
theorem FrA.trans {ar : Nat → Nat → Nat → Bool} {x y z : zG} (h : FrA ar x y) (h2 : FrA ar y z) : FrA ar x z := ⟨fun f i k a => (h2.1 f i k a).trans (h.1 f i k a), h2.2.trans h.2⟩
theorem fra_w {ar : Nat → Nat → Nat → Bool} {σ : zG} {f i k : Nat} {x : Int32} (h : ar f i k = true) : FrA ar σ (zwI σ f i k x) := ⟨fun f' i' k' a => by
  rw [zw_at, if_neg]
  rintro ⟨e1, e2, e3⟩
  rw [e1, e2, e3, h] at a
  exact Bool.noConfusion a, rfl⟩
theorem FrA.w {ar : Nat → Nat → Nat → Bool} {σ σ' : zG} {f i k : Nat} {x : Int32} (h0 : FrA ar σ σ') (h : ar f i k = true) : FrA ar σ (zwI σ' f i k x) := h0.trans (fra_w h)
theorem FrA.mono {ar ar' : Nat → Nat → Nat → Bool} {σ σ' : zG} (h : FrA ar σ σ') (hm : ∀ f i k, ar' f i k = false → ar f i k = false) : FrA ar' σ σ' := ⟨fun f i k a => h.1 f i k (hm f i k a), h.2⟩
/-- where word k begins to be read, stands, its kind and number -/
def hdd (B : Nat → Nat) (n : Nat) : Nat → Nat
  | 0 => 0
  | k + 1 => if spn B n blk (hdd B n k) < n then en B n (spn B n blk (hdd B n k)) else n
def plc (B : Nat → Nat) (n k : Nat) : Nat := spn B n blk (hdd B n k)
def knd (B : Nat → Nat) (n k : Nat) : Nat := if plc B n k < n then kd B n (plc B n k) else 0
def nbr (B : Nat → Nat) (n k : Nat) : Nat := if plc B n k < n then nm B n (plc B n k) else 0
def arT (f i k : Nat) : Bool := (f == 3 && i == 0 && (k == 5 || k == 6)) || (f == 39 || (f == 40 || f == 41))
def TKs (σ : zG) (B : Nat → Nat) (n T : Nat) : Prop := σ.1 3 0 5 = nI (T + 1) ∧ ∀ k, k ≤ T → σ.1 39 0 k = nI (knd B n k) ∧ σ.1 40 0 k = nI (nbr B n k) ∧ σ.1 41 0 k = nI (plc B n k)
section PURE
variable {σ σ' : zG} {B : Nat → Nat} {n p q e : Nat}
theorem hdd_succ (k : Nat) : hdd B n (k + 1) = if plc B n k < n then en B n (plc B n k) else n := rfl
theorem en_lt (h : q < n) : q < en B n q ∧ en B n q ≤ n := by
  unfold en
  by_cases a : dgt (B q) = true
  · rw [if_pos a]
    exact ⟨spn_pos h a, (spn_le (Nat.le_of_lt h)).2⟩
  · rw [if_neg a]
    by_cases b : ltr (B q) = true
    · rw [if_pos b]
      exact ⟨spn_pos h b, (spn_le (Nat.le_of_lt h)).2⟩
    · rw [if_neg b]
      omega
theorem hdd_le : ∀ k, hdd B n k ≤ n
  | 0 => Nat.zero_le n
  | k + 1 => by
    rw [hdd_succ]
    by_cases a : plc B n k < n
    · rw [if_pos a]; exact (en_lt a).2
    · rw [if_neg a]; exact Nat.le_refl n
theorem plc_le (k : Nat) : hdd B n k ≤ plc B n k ∧ plc B n k ≤ n := spn_le (hdd_le k)
theorem hdd_ge (k : Nat) (h : ∀ j, j < k → plc B n j < n) : k ≤ hdd B n k := by
  induction k with
  | zero => exact Nat.zero_le _
  | succ k ih =>
    rw [hdd_succ, if_pos (h k (by omega))]
    have h1 := ih (fun j hj => h j (by omega))
    have h2 := (en_lt (B := B) (h k (by omega))).1
    have h3 := (plc_le (B := B) (n := n) k).1
    omega
/-- there is a last one -/
theorem tk_last : ∃ T, T ≤ n ∧ plc B n T = n ∧ ∀ k, k < T → plc B n k < n := by
  have hno := fa_first_no (fun k => !decide (plc B n k < n)) n
  have hy := fa_first_yes (fun k => !decide (plc B n k < n)) n
  have hle := fa_first_le (fun k => !decide (plc B n k < n)) n
  generalize fa_first (fun k => !decide (plc B n k < n)) n = T at hno hy hle
  have hlt : ∀ k, k < T → plc B n k < n := fun k hk => by simpa using hno k hk
  refine ⟨T, hle, ?_, hlt⟩
  have h2 := plc_le (B := B) (n := n) T
  by_cases c : T < n
  · have : ¬ plc B n T < n := by simpa using hy c
    omega
  · have := hdd_ge (B := B) (n := n) T hlt
    omega
theorem nI_ifB (b : Bool) {α : Type} (x y : α) : (if zt b = 0 then x else y) = if b then y else x := by cases b <;> rfl
theorem c_kind (h : CT σ B n) (hh : σ.1 3 0 6 = nI q) (hq : q < n) : f_X8_kindAtHead σ = some (nI (kd B n q), zwI σ 3 0 6 (nI (en B n q))) := by
  have hn := h.1
  have hb := h.2.2 q hq
  have h1 : zlp (fun q : zG => b_X8_kindAtHead_5 q) σ = some (zwI σ 3 0 6 (nI (spn B n dgt q))) := by
    have := spn_loop (B := B) (P := dgt) (f := fun q : zG => b_X8_kindAtHead_5 q) (fun i => zwI σ 3 0 6 (nI i)) (Nat.le_of_lt hq) (fun i hi hin => by
      have e1 : (zwI σ 3 0 6 (nI i)).1 3 0 1 = nI n := (ct_hd h _).2.1
      have e2 : (zwI σ 3 0 6 (nI i)).1 38 0 i = nI (B i) := ((ct_hd h _).2.2 i hin).2
      show b_X8_kindAtHead_5 (zwI σ 3 0 6 (nI i)) = _
      unfold b_X8_kindAtHead_5
      rw [hd_at, e1, if_pos (nI_lt hin (by omega)), zin_ok (show i < 400 by omega) (by decide), zgT, nI_clamp (show i < 2 ^ 31 by omega), e2, c_dgt (h.2.2 i hin).1, nI_ifB]
      simp only [zb, zw_zw, nI_1]
      cases dgt (B i) <;> rfl) (by
      show b_X8_kindAtHead_5 (zwI σ 3 0 6 (nI n)) = _
      unfold b_X8_kindAtHead_5
      rw [hd_at, (ct_hd h _).2.1, if_neg (nI_nlt (Nat.le_refl n) (by omega))])
    rw [← this]
    show zlp _ σ = zlp _ (zwI σ 3 0 6 (nI q))
    rw [zw_self hh]
  have hs := spn_le (B := B) (P := dgt) (Nat.le_of_lt hq)
  unfold f_X8_kindAtHead
  rw [h1, Option.bind_some, hh]
  unfold j_X8_kindAtHead_44 kd en
  rw [hd_at]
  by_cases a : dgt (B q) = true
  · have hp := spn_pos (B := B) hq a
    rw [if_pos (nI_lt hp (by omega)), if_pos a, if_pos a, pk_sub hs.1]
    by_cases c : spn B n dgt q - q ≤ 4
    · rw [if_pos (show nI (spn B n dgt q - q) ≤ 4 from nI_le (b := 4) c (by decide)), if_pos c]; rfl
    · rw [if_neg (show ¬ nI (spn B n dgt q - q) ≤ 4 from nI_ge (a := 4) (by omega) (by omega)), if_neg c]; rfl
  · have a' : dgt (B q) = false := by simpa using a
    rw [spn_no hq a', if_neg (nI_nlt (Nat.le_refl q) (by omega)), zw_self hh, if_neg a, if_neg a]
    have h2 : zlp (fun q : zG => b_X8_kindAtHead_68 q) σ = some (zwI σ 3 0 6 (nI (spn B n ltr q))) := by
      have := spn_loop (B := B) (P := ltr) (f := fun q : zG => b_X8_kindAtHead_68 q) (fun i => zwI σ 3 0 6 (nI i)) (Nat.le_of_lt hq) (fun i hi hin => by
        have e1 : (zwI σ 3 0 6 (nI i)).1 3 0 1 = nI n := (ct_hd h _).2.1
        have e2 : (zwI σ 3 0 6 (nI i)).1 38 0 i = nI (B i) := ((ct_hd h _).2.2 i hin).2
        show b_X8_kindAtHead_68 (zwI σ 3 0 6 (nI i)) = _
        unfold b_X8_kindAtHead_68
        rw [hd_at, e1, if_pos (nI_lt hin (by omega)), zin_ok (show i < 400 by omega) (by decide), zgT, nI_clamp (show i < 2 ^ 31 by omega), e2, c_ltr (h.2.2 i hin).1, nI_ifB]
        simp only [zb, zw_zw, nI_1]
        cases ltr (B i) <;> rfl) (by
        show b_X8_kindAtHead_68 (zwI σ 3 0 6 (nI n)) = _
        unfold b_X8_kindAtHead_68
        rw [hd_at, (ct_hd h _).2.1, if_neg (nI_nlt (Nat.le_refl n) (by omega))])
      rw [← this]
      show zlp _ σ = zlp _ (zwI σ 3 0 6 (nI q))
      rw [zw_self hh]
    rw [h2, Option.bind_some]
    unfold j_X8_kindAtHead_107
    rw [hd_at]
    have hs2 := spn_le (B := B) (P := ltr) (Nat.le_of_lt hq)
    by_cases b : ltr (B q) = true
    · have hp := spn_pos (B := B) hq b
      rw [if_pos (nI_lt hp (by omega)), if_pos b, if_pos b, c_word (ct_hd h _) (hd_at _ _) hs2.1 hs2.2]
      rfl
    · have b' : ltr (B q) = false := by simpa using b
      rw [spn_no hq b', if_neg (nI_nlt (Nat.le_refl q) (by omega)), if_neg b, if_neg b, zw_self hh]
      simp only [zb, nI_1]
      rw [(ct_hd h _).2.1, if_pos (nI_lt hq (by omega)), zin_ok (show q < 400 by omega) (by decide), zgT, zgT, nI_clamp (show q < 2 ^ 31 by omega), ((ct_hd h _).2.2 q hq).2, c_sgn _ hb.1, nI_ifB]
      cases sgn (B q) <;> rfl
theorem kd_lt (h : CT σ B n) (hq : q < n) : kd B n q < 256 ∧ 1 ≤ kd B n q := by
  have hb := h.2.2 q hq
  unfold kd
  by_cases a : dgt (B q) = true
  · rw [if_pos a]
    by_cases c : spn B n dgt q - q ≤ 4
    · rw [if_pos c]; decide
    · rw [if_neg c]; decide
  · rw [if_neg a]
    by_cases b : ltr (B q) = true
    · rw [if_pos b]
      unfold wkd
      by_cases d : fa_first (fun w => decide (zstrC.getD w [] = str B q (spn B n ltr q))) 22 < 22
      · rw [if_pos d]; omega
      · rw [if_neg d]; decide
    · rw [if_neg b]
      by_cases c : sgn (B q) = true
      · rw [if_pos c]
        refine ⟨hb.1, Nat.pos_of_ne_zero fun z => ?_⟩
        rw [z] at c
        exact absurd c (by decide)
      · rw [if_neg c]; decide
theorem c_addTok (a b c : Int32) {k : Nat} (h : σ.1 3 0 5 = nI k) (hk : k ≤ 400) : f_X8_addToken a b c σ = some (zwI (zwI (zwI (zwI σ 39 0 k a) 40 0 k b) 41 0 k c) 3 0 5 (nI (k + 1))) := by
  unfold f_X8_addToken
  have e1 : (zwI σ 39 0 k a).1 3 0 5 = nI k := by rw [zw_at, if_neg (fun z => absurd z.1 (by decide))]; exact h
  have e2 : (zwI (zwI σ 39 0 k a) 40 0 k b).1 3 0 5 = nI k := by rw [zw_at, if_neg (fun z => absurd z.1 (by decide))]; exact e1
  have e3 : (zwI (zwI (zwI σ 39 0 k a) 40 0 k b) 41 0 k c).1 3 0 5 = nI k := by rw [zw_at, if_neg (fun z => absurd z.1 (by decide))]; exact e2
  rw [h, if_pos (show nI k ≤ 400 from nI_le (b := 400) hk (by decide))]
  simp only [zb, nI_clamp (show k < 2 ^ 31 by omega), e1, e2, e3, zin_ok (show k < 401 by omega) (show 401 < 2 ^ 31 by decide), zgT, nI_1]
theorem ct_fr (h : CT σ B n) (hf : FrA arT σ σ') : CT σ' B n := ⟨h.1, by rw [hf.1 3 0 1 rfl]; exact h.2.1, fun k hk => ⟨(h.2.2 k hk).1, by rw [hf.1 38 0 k rfl]; exact (h.2.2 k hk).2⟩⟩
theorem c_tok1 (h : CT σ B n) {k : Nat} (h5 : σ.1 3 0 5 = nI k) (hk : k ≤ 400) (a b c : Nat) : ∃ s, f_X8_addToken (nI a) (nI b) (nI c) σ = some s ∧ FrA arT σ s ∧ s.1 3 0 5 = nI (k + 1) ∧ s.1 3 0 6 = σ.1 3 0 6 ∧ (s.1 39 0 k = nI a ∧ s.1 40 0 k = nI b ∧ s.1 41 0 k = nI c) ∧ ∀ j, j ≠ k → s.1 39 0 j = σ.1 39 0 j ∧ s.1 40 0 j = σ.1 40 0 j ∧ s.1 41 0 j = σ.1 41 0 j := by
  refine ⟨_, c_addTok _ _ _ h5 hk, (((fra_w rfl).w rfl).w rfl).w rfl, ?_, ?_, ⟨?_, ?_, ?_⟩, fun j hj => ⟨?_, ?_, ?_⟩⟩
  · rw [zw_at, if_pos ⟨rfl, rfl, rfl⟩]
  · simp [zw_at]
  · simp [zw_at]
  · simp [zw_at]
  · simp [zw_at]
  · simp [zw_at, hj]
  · simp [zw_at, hj]
  · simp [zw_at, hj]
def TkI (σ : zG) (B : Nat → Nat) (n k : Nat) (s : zG) : Prop := FrA arT σ s ∧ s.1 3 0 5 = nI k ∧ ∀ j, j < k → s.1 39 0 j = nI (knd B n j) ∧ s.1 40 0 j = nI (nbr B n j) ∧ s.1 41 0 j = nI (plc B n j)
theorem c_tokenize (h : CT σ B n) : ∃ T s, f_X8_tokenize σ = some s ∧ T ≤ n ∧ plc B n T = n ∧ (∀ k, k < T → plc B n k < n) ∧ TKs s B n T ∧ FrA arT σ s := by
  have hn := h.1
  obtain ⟨T, hT, hTn, hTl⟩ := tk_last (B := B) (n := n)
  have h2 : FrA arT σ (zwI (zwI σ 3 0 6 0) 3 0 5 0) := (fra_w rfl).w rfl
  obtain ⟨s, es, hS⟩ := zlp_run (f := fun q : Int32 × zG => b_X8_tokenize_12 q.1 q.2) T (fun k q => q.1 = nI k ∧ TkI σ B n k q.2 ∧ q.2.1 3 0 6 = nI (hdd B n k)) (TkI σ B n T) (a := ((0 : Int32), zwI (zwI σ 3 0 6 0) 3 0 5 0)) ⟨rfl, ⟨h2, by rw [zw_at, if_pos ⟨rfl, rfl, rfl⟩]; rfl, fun j hj => absurd hj (Nat.not_lt_zero j)⟩, by simp [zw_at]; rfl⟩ (by
    rintro k hk ⟨v, s⟩ ⟨hv, ⟨a1, a2, a3⟩, a4⟩
    right
    have hv' : v = nI k := hv
    subst hv'
    have hpk := hTl k hk
    have a4' : s.1 3 0 6 = nI (hdd B n k) := a4
    have hc : CT s B n := ct_fr h a1
    have hc2 : CT (zwI s 3 0 6 (nI (plc B n k))) B n := ct_hd hc _
    have hc3 : CT (zwI s 3 0 6 (nI (en B n (plc B n k)))) B n := ct_hd hc _
    have hE := en_lt (B := B) hpk
    have e5 : (zwI s 3 0 6 (nI (en B n (plc B n k)))).1 3 0 5 = nI k := by rw [zw_at, if_neg (by decide)]; exact a2
    have hkk : knd B n k = kd B n (plc B n k) := by unfold knd; rw [if_pos hpk]
    have hnn : nbr B n k = nm B n (plc B n k) := by unfold nbr; rw [if_pos hpk]
    have hl := kd_lt hc hpk
    obtain ⟨s', b1, b2, b3, b4, b5, b6⟩ := c_tok1 hc3 e5 (by omega) (knd B n k) (nbr B n k) (plc B n k)
    have key : b_X8_tokenize_12 (nI k) s = some (Sum.inl (nI (k + 1), s')) := by
      unfold b_X8_tokenize_12
      have ek : spn B n blk (hdd B n k) = plc B n k := rfl
      rw [if_pos (show nI k < 400 from nI_lt (b := 400) (by omega) (by decide)), c_skip hc a4' (hdd_le k), Option.bind_some, ek, decide_eq_true hpk]
      show (if (1 : Int32) = 0 then _ else _) = _
      rw [if_neg (by decide), c_kind hc2 (hd_at _ _) hpk, Option.bind_some, hd_at, zw_zw]
      dsimp only
      rw [nI_1]
      have e2 : (nI (kd B n (plc B n k)) = (2 : Int32)) = (kd B n (plc B n k) = 2) := nI_eqI (b := 2) (by omega) (by decide)
      simp only [e2]
      by_cases c : kd B n (plc B n k) = 2
      · rw [if_pos c]
        have hd0 : dgt (B (plc B n k)) = true ∧ spn B n dgt (plc B n k) - plc B n k ≤ 4 := by
          by_cases a : dgt (B (plc B n k)) = true
          · refine ⟨a, ?_⟩
            unfold kd at c
            rw [if_pos a] at c
            by_cases d : spn B n dgt (plc B n k) - plc B n k ≤ 4
            · exact d
            · rw [if_neg d] at c; cases c
          · exfalso
            unfold kd at c
            rw [if_neg a] at c
            by_cases b : ltr (B (plc B n k)) = true
            · rw [if_pos b] at c
              unfold wkd at c
              by_cases d : fa_first (fun w => decide (zstrC.getD w [] = str B (plc B n k) (spn B n ltr (plc B n k)))) 22 < 22
              · rw [if_pos d] at c; omega
              · rw [if_neg d] at c; cases c
            · rw [if_neg b] at c
              by_cases d : sgn (B (plc B n k)) = true
              · rw [if_pos d] at c
                rw [c] at d
                exact absurd d (by decide)
              · rw [if_neg d] at c; cases c
        have een : en B n (plc B n k) = spn B n dgt (plc B n k) := by unfold en; rw [if_pos hd0.1]
        have hnm : nbr B n k = dval B (plc B n k) (en B n (plc B n k) - plc B n k) := by
          rw [hnn, een]; unfold nm; rw [if_pos hd0.1, if_pos hd0.2]
        rw [c_num hc3 (hd_at _ _) (Nat.le_of_lt hE.1) hE.2 (fun i h1 h2 => spn_in (n := n) h1 (by rw [← een]; exact h2)), Option.bind_some, ← hnm, ← hkk, b1, Option.bind_some]
      · rw [if_neg c]
        have hnm : nbr B n k = 0 := by
          rw [hnn]
          unfold nm
          unfold kd at c
          by_cases a : dgt (B (plc B n k)) = true
          · rw [if_pos a] at c ⊢
            by_cases d : spn B n dgt (plc B n k) - plc B n k ≤ 4
            · rw [if_pos d] at c; exact absurd rfl c
            · rw [if_neg d]
          · rw [if_neg a]
        rw [hnm] at b1
        rw [← hkk]
        have b1' : f_X8_addToken (nI (knd B n k)) (0 : Int32) (nI (plc B n k)) (zwI s 3 0 6 (nI (en B n (plc B n k)))) = some s' := b1
        rw [b1', Option.bind_some]
    refine ⟨(nI (k + 1), s'), key, rfl, ⟨(a1.w rfl).trans b2, b3, fun j hj => ?_⟩, ?_⟩
    · by_cases q : j = k
      · subst q; exact b5
      · obtain ⟨c1, c2, c3⟩ := b6 j q
        obtain ⟨d1, d2, d3⟩ := a3 j (by omega)
        refine ⟨?_, ?_, ?_⟩
        · rw [c1, zw_at, if_neg (fun z => absurd z.1 (by decide))]; exact d1
        · rw [c2, zw_at, if_neg (fun z => absurd z.1 (by decide))]; exact d2
        · rw [c3, zw_at, if_neg (fun z => absurd z.1 (by decide))]; exact d3
    · show s'.1 3 0 6 = _
      rw [b4, hd_at, hdd_succ, if_pos hpk]) (by
    rintro ⟨v, s⟩ ⟨hv, ⟨a1, a2, a3⟩, a4⟩
    have hv' : v = nI T := hv
    subst hv'
    have a4' : s.1 3 0 6 = nI (hdd B n T) := a4
    have hc : CT s B n := ct_fr h a1
    show ∃ b, b_X8_tokenize_12 (nI T) s = some (Sum.inr b) ∧ _
    unfold b_X8_tokenize_12
    by_cases c : T < 400
    · have ek : spn B n blk (hdd B n T) = n := hTn
      rw [if_pos (show nI T < 400 from nI_lt (b := 400) c (by decide)), c_skip hc a4' (hdd_le T), Option.bind_some, ek, decide_eq_false (Nat.lt_irrefl n)]
      refine ⟨_, rfl, a1.w rfl, by rw [zw_at, if_neg (by decide)]; exact a2, fun j hj => ?_⟩
      obtain ⟨d1, d2, d3⟩ := a3 j hj
      refine ⟨?_, ?_, ?_⟩
      · rw [zw_at, if_neg (fun z => absurd z.1 (by decide))]; exact d1
      · rw [zw_at, if_neg (fun z => absurd z.1 (by decide))]; exact d2
      · rw [zw_at, if_neg (fun z => absurd z.1 (by decide))]; exact d3
    · rw [if_neg (show ¬ nI T < 400 from nI_nlt (b := 400) (by omega) (by omega))]
      exact ⟨_, rfl, a1, a2, a3⟩)
  obtain ⟨a1, a2, a3⟩ := hS
  have hc : CT s B n := ct_fr h a1
  have hk0 : knd B n T = 0 := by unfold knd; rw [if_neg (by omega)]
  have hn0 : nbr B n T = 0 := by unfold nbr; rw [if_neg (by omega)]
  obtain ⟨s', b1, b2, b3, b4, b5, b6⟩ := c_tok1 hc a2 (by omega) 0 0 n
  refine ⟨T, s', ?_, hT, hTn, hTl, ⟨b3, fun k hk => ?_⟩, a1.trans b2⟩
  · unfold f_X8_tokenize
    simp only [zb]
    rw [es, Option.bind_some, hc.2.1]
    have b1' : f_X8_addToken (0 : Int32) (0 : Int32) (nI n) s = some s' := b1
    rw [b1', Option.bind_some]
  · by_cases q : k = T
    · subst q
      rw [hk0, hn0, hTn]
      exact b5
    · obtain ⟨c1, c2, c3⟩ := b6 k q
      obtain ⟨d1, d2, d3⟩ := a3 k (by omega)
      exact ⟨c1.trans d1, c2.trans d2, c3.trans d3⟩
end PURE
