/-! PURE LAYER: what stands on the tape -/
def dgt (v : Nat) : Bool := decide (48 ≤ v) && decide (v ≤ 57)
def ltr (v : Nat) : Bool := (decide (97 ≤ v) && decide (v ≤ 122)) || (decide (65 ≤ v) && decide (v ≤ 90))
def blk (v : Nat) : Bool := decide (v = 32) || decide (v = 10)
def sgn (v : Nat) : Bool := decide (v = 59) || (decide (v = 43) || (decide (v = 45) || (decide (v = 42) || (decide (v = 47) || (decide (v = 40) || (decide (v = 41) || (decide (v = 60) || (decide (v = 61) || decide (v = 62)))))))))
def spn (B : Nat → Nat) (n : Nat) (P : Nat → Bool) (p : Nat) : Nat := p + fa_first (fun k => !P (B (p + k))) (n - p)
def dval (B : Nat → Nat) (q : Nat) : Nat → Nat
  | 0 => 0
  | j + 1 => dval B q j * 10 + (B (q + j) - 48)
def str (B : Nat → Nat) (q e : Nat) : List Int32 := (List.range (e - q)).map (fun i => nI (B (q + i)))
def wkd (u : List Int32) : Nat := if fa_first (fun w => decide (zstrC.getD w [] = u)) 22 < 22 then 100 + fa_first (fun w => decide (zstrC.getD w [] = u)) 22 else 1
/-- the end, kind and number of what stands at q -/
def en (B : Nat → Nat) (n q : Nat) : Nat := if dgt (B q) then spn B n dgt q else if ltr (B q) then spn B n ltr q else q + 1
def kd (B : Nat → Nat) (n q : Nat) : Nat := if dgt (B q) then (if spn B n dgt q - q ≤ 4 then 2 else 1) else if ltr (B q) then wkd (str B q (spn B n ltr q)) else if sgn (B q) then B q else 1
def nm (B : Nat → Nat) (n q : Nat) : Nat := if dgt (B q) then (if spn B n dgt q - q ≤ 4 then dval B q (spn B n dgt q - q) else 0) else 0
section PURE
variable {σ σ' : zG} {B : Nat → Nat} {n p q e : Nat} {P : Nat → Bool}
theorem spn_le (h : p ≤ n) : p ≤ spn B n P p ∧ spn B n P p ≤ n := by
  have := fa_first_le (fun k => !P (B (p + k))) (n - p)
  unfold spn
  omega
theorem spn_in {i : Nat} (h1 : p ≤ i) (h2 : i < spn B n P p) : P (B i) = true := by
  have := fa_first_no (fun k => !P (B (p + k))) (n - p) (i - p) (by unfold spn at h2; omega)
  rw [show p + (i - p) = i by omega] at this
  simpa using this
theorem spn_end (h : p ≤ n) (h2 : spn B n P p < n) : P (B (spn B n P p)) = false := by
  have := fa_first_yes (fun k => !P (B (p + k))) (n - p) (by unfold spn at h2; omega)
  unfold spn
  simpa using this
theorem spn_pos (h : p < n) (hP : P (B p) = true) : p < spn B n P p := by
  have h0 := (spn_le (B := B) (P := P) (Nat.le_of_lt h)).1
  refine Nat.lt_of_le_of_ne h0 fun e => ?_
  have := spn_end (B := B) (P := P) (Nat.le_of_lt h) (by omega)
  rw [← e, hP] at this
  cases this
theorem spn_no (h : p < n) (hP : P (B p) = false) : spn B n P p = p := by
  have h0 := (spn_le (B := B) (P := P) (Nat.le_of_lt h)).1
  refine Nat.le_antisymm (Nat.le_of_not_lt fun c => ?_) h0
  have := spn_in (B := B) (P := P) (Nat.le_refl p) c
  rw [hP] at this
  cases this
theorem spn_n : spn B n P n = n := by
  have := spn_le (B := B) (P := P) (Nat.le_refl n)
  omega
theorem spn_loop {f : zG → Option (zG ⊕ zG)} (s : Nat → zG) (hp : p ≤ n) (h : ∀ i, p ≤ i → i < n → f (s i) = some (if P (B i) then .inl (s (i + 1)) else .inr (s i))) (he : f (s n) = some (.inr (s n))) : zlp f (s p) = some (s (spn B n P p)) := by
  have := zlp_find (f := f) (fun k => s (p + k)) (fun k => !P (B (p + k))) (n - p) (a := s p) (fun k => s (p + k)) (E := s n) rfl (fun k hk => by
    rw [h (p + k) (by omega) (by omega)]
    cases P (B (p + k)) <;> rfl) (by rw [show p + (n - p) = n by omega]; exact he)
  rw [this]
  unfold spn
  by_cases q : fa_first (fun k => !P (B (p + k))) (n - p) < n - p
  · rw [if_pos q]
  · rw [if_neg q]
    have := fa_first_le (fun k => !P (B (p + k))) (n - p)
    rw [show p + fa_first (fun k => !P (B (p + k))) (n - p) = n by omega]
theorem zw_zw (σ : zG) (f i k : Nat) (x y : Int32) : zwI (zwI σ f i k x) f i k y = zwI σ f i k y := by
  unfold zwI
  refine Prod.ext ?_ rfl
  funext f' i' k'
  dsimp only
  by_cases q : f' = f ∧ i' = i ∧ k' = k
  · rw [if_pos q, if_pos q]
  · rw [if_neg q, if_neg q, if_neg q]
theorem zw_self {σ : zG} {f i k : Nat} {x : Int32} (h : σ.1 f i k = x) : zwI σ f i k x = σ := by
  unfold zwI
  refine Prod.ext ?_ rfl
  funext f' i' k'
  dsimp only
  by_cases q : f' = f ∧ i' = i ∧ k' = k
  · obtain ⟨a, b, c⟩ := q
    subst a; subst b; subst c
    rw [if_pos ⟨rfl, rfl, rfl⟩, h]
  · rw [if_neg q]
/-- the class's tape -/
def CT (σ : zG) (B : Nat → Nat) (n : Nat) : Prop := n ≤ 400 ∧ σ.1 3 0 1 = nI n ∧ ∀ k, k < n → B k < 256 ∧ σ.1 38 0 k = nI (B k)
theorem ct_hd (h : CT σ B n) (x : Int32) : CT (zwI σ 3 0 6 x) B n := ⟨h.1, by rw [zw_at, if_neg (by decide)]; exact h.2.1, fun k hk => ⟨(h.2.2 k hk).1, by rw [zw_at, if_neg (fun z => absurd z.1 (by decide))]; exact (h.2.2 k hk).2⟩⟩
theorem hd_at (σ : zG) (x : Int32) : (zwI σ 3 0 6 x).1 3 0 6 = x := by rw [zw_at, if_pos ⟨rfl, rfl, rfl⟩]
theorem c_dgt {v : Nat} (h : v < 256) : f_X8_isDigit (nI v) = zt (dgt v) := by
  unfold f_X8_isDigit dgt
  have e1 : ((48 : Int32) ≤ nI v) = (48 ≤ v) := nI_leQ (a := 48) (by decide) (by omega)
  have e2 : (nI v ≤ (57 : Int32)) = (v ≤ 57) := nI_leQ (b := 57) (by omega) (by decide)
  simp only [e1, e2]
  by_cases a : 48 ≤ v <;> by_cases b : v ≤ 57 <;> simp [a, b, zt]
theorem c_ltr {v : Nat} (h : v < 256) : f_X8_isLetter (nI v) = zt (ltr v) := by
  unfold f_X8_isLetter j_X8_isLetter_12 ltr
  have e1 : ((97 : Int32) ≤ nI v) = (97 ≤ v) := nI_leQ (a := 97) (by decide) (by omega)
  have e2 : ((122 : Int32) < nI v) = (122 < v) := nI_ltQ (a := 122) (by decide) (by omega)
  have e3 : ((65 : Int32) ≤ nI v) = (65 ≤ v) := nI_leQ (a := 65) (by decide) (by omega)
  have e4 : (nI v ≤ (90 : Int32)) = (v ≤ 90) := nI_leQ (b := 90) (by omega) (by decide)
  simp only [e1, e2, e3, e4]
  by_cases a : 97 ≤ v <;> by_cases b : v ≤ 122 <;> by_cases c : 65 ≤ v <;> by_cases d : v ≤ 90 <;> simp [a, b, c, d, zt] <;> omega
theorem c_sgn : ∀ v, v < 256 → f_X8_isSign (nI v) = zt (sgn v) := by decide +kernel
theorem dl_no (v : Nat) (h : dgt v = true) : ltr v = false ∧ blk v = false := by
  unfold dgt at h
  unfold ltr blk
  simp only [Bool.and_eq_true, decide_eq_true_eq] at h
  have a : ¬ 97 ≤ v := by omega
  have b : ¬ 65 ≤ v := by omega
  have c : ¬ v = 32 := by omega
  have d : ¬ v = 10 := by omega
  simp [a, b, c, d]
theorem c_skip (h : CT σ B n) (hh : σ.1 3 0 6 = nI p) (hp : p ≤ n) : f_X8_skipBlanks σ = some (zt (decide (spn B n blk p < n)), zwI σ 3 0 6 (nI (spn B n blk p))) := by
  have hn := h.1
  have hl : zlp (fun q : zG => b_X8_skipBlanks_0 q) σ = some (zwI σ 3 0 6 (nI (spn B n blk p))) := by
    have := spn_loop (B := B) (P := blk) (f := fun q : zG => b_X8_skipBlanks_0 q) (fun i => zwI σ 3 0 6 (nI i)) hp (fun i hi hin => by
      have hb := h.2.2 i hin
      have e1 : (zwI σ 3 0 6 (nI i)).1 3 0 1 = nI n := (ct_hd h _).2.1
      have e2 : (zwI σ 3 0 6 (nI i)).1 38 0 i = nI (B i) := ((ct_hd h _).2.2 i hin).2
      show b_X8_skipBlanks_0 (zwI σ 3 0 6 (nI i)) = _
      unfold b_X8_skipBlanks_0
      have c32 : (nI (B i) = (32 : Int32)) = (B i = 32) := nI_eqI (b := 32) (by omega) (by decide)
      have c10 : (nI (B i) = (10 : Int32)) = (B i = 10) := nI_eqI (b := 10) (by omega) (by decide)
      rw [hd_at, e1, if_pos (nI_lt hin (by omega)), zin_ok (show i < 400 by omega) (by decide), zgT, nI_clamp (show i < 2 ^ 31 by omega), e2, zgT]
      simp only [c32, c10, zb, zw_zw, nI_1]
      unfold blk
      by_cases a : B i = 32 <;> by_cases b : B i = 10 <;> simp [a, b]) (by
      show b_X8_skipBlanks_0 (zwI σ 3 0 6 (nI n)) = _
      unfold b_X8_skipBlanks_0
      rw [hd_at, (ct_hd h _).2.1, if_neg (nI_nlt (Nat.le_refl n) (by omega))])
    rw [← this]
    show zlp _ σ = zlp _ (zwI σ 3 0 6 (nI p))
    rw [zw_self hh]
  have hs := spn_le (B := B) (P := blk) hp
  unfold f_X8_skipBlanks
  rw [hl, Option.bind_some]
  unfold j_X8_skipBlanks_52
  rw [hd_at, (ct_hd h _).2.1]
  by_cases c : spn B n blk p < n
  · rw [if_pos (nI_lt c (by omega)), decide_eq_true c]; rfl
  · rw [if_neg (nI_nlt (by omega) (by omega)), decide_eq_false c]; rfl
theorem getD_nil (l : List Int32) (j : Nat) (h : j < l.length) : l.getD j 0 = l[j] := by
  rw [List.getD_eq_getElem?_getD, List.getElem?_eq_getElem h]; rfl
theorem str_eq (u : List Int32) : (u = str B q e) ↔ (u.length = e - q ∧ ∀ j, j < e - q → u.getD j 0 = nI (B (q + j))) := by
  have hl : (str B q e).length = e - q := by unfold str; simp
  have hg : ∀ j (h : j < (str B q e).length), (str B q e)[j] = nI (B (q + j)) := fun j h => by
    have h' : (str B q e)[j]? = some (nI (B (q + j))) := by
      unfold str
      rw [List.getElem?_map, List.getElem?_range (by omega)]
      rfl
    rw [List.getElem?_eq_getElem h] at h'
    exact Option.some.inj h'
  constructor
  · intro h
    subst h
    refine ⟨hl, fun j hj => ?_⟩
    rw [getD_nil _ _ (by omega), hg]
  · rintro ⟨h1, h2⟩
    refine List.ext_getElem (by omega) fun j a b => ?_
    rw [hg j b, ← h2 j (by omega), getD_nil _ _ a]
theorem zC_ok : ∀ w, w < 23 → ∀ j, j < (zstrC.getD w []).length → zsc zstrC w j = (zstrC.getD w []).getD j 0 := by decide +kernel
theorem zC_le : ∀ w, w < 23 → (zstrC.getD w []).length ≤ 7 := by decide
theorem zM_ok : ∀ w, w < 22 → ∀ j, j < (zstrM.getD w []).length → zsc zstrM w j = (zstrM.getD w []).getD j 0 := by decide +kernel
theorem zM_le : ∀ w, w < 22 → (zstrM.getD w []).length ≤ 7 := by decide
theorem c_spells (h : CT σ B n) (hh : σ.1 3 0 6 = nI e) (hq : q ≤ e) (he : e ≤ n) {w : Nat} (hw : w < 23) : f_X8_spells w (nI q) σ = some (zt (decide (zstrC.getD w [] = str B q e))) := by
  have hn := h.1
  have hL := zC_le w hw
  unfold f_X8_spells
  have l0 : w < zstrC.length := hw
  rw [decide_eq_true l0, zgT, hh, h.2.1, pk_sub hq, if_neg (nI_nlt he (by omega))]
  have e0 : (zsl zstrC w = nI (e - q)) = ((zstrC.getD w []).length = e - q) := nI_eqI (by omega) (by omega)
  simp only [e0]
  by_cases c : (zstrC.getD w []).length = e - q
  · rw [if_pos c]
    have := zlp_find (f := fun q' : Int32 => b_X8_spells_28 w (nI q) σ q') (fun k => nI k) (fun k => !decide (zsc zstrC w k = nI (B (q + k)))) (e - q) (a := (0 : Int32)) (fun _ => Sum.inl ()) (E := Sum.inr ()) rfl (fun k hk => by
      show b_X8_spells_28 w (nI q) σ (nI k) = _
      unfold b_X8_spells_28
      have z1 : zsl zstrC w = nI (e - q) := by unfold zsl; rw [c]
      have z2 : zsn zstrC w = e - q := c
      rw [decide_eq_true l0, zgT, z1, z2, if_pos (nI_lt hk (by omega)), zin_ok hk (by omega), zgT, nI_add, zin_ok (show q + k < 400 by omega) (by decide), zgT, nI_clamp (show k < 2 ^ 31 by omega), nI_clamp (show q + k < 2 ^ 31 by omega), (h.2.2 (q + k) (by omega)).2, nI_1]
      by_cases d : zsc zstrC w k = nI (B (q + k))
      · rw [if_pos d, decide_eq_true d]; rfl
      · rw [if_neg d, decide_eq_false d]; rfl) (by
      show b_X8_spells_28 w (nI q) σ (nI (e - q)) = _
      unfold b_X8_spells_28
      have z1 : zsl zstrC w = nI (e - q) := by unfold zsl; rw [c]
      rw [decide_eq_true l0, zgT, z1, if_neg (nI_nlt (Nat.le_refl _) (by omega))])
    rw [this]
    by_cases d : fa_first (fun k => !decide (zsc zstrC w k = nI (B (q + k)))) (e - q) < e - q
    · rw [if_pos d]
      have y := fa_first_yes _ _ d
      have hne : ¬ zstrC.getD w [] = str B q e := fun z => by
        have z2 := ((str_eq _).mp z).2 _ d
        rw [← zC_ok w hw _ (by omega)] at z2
        rw [decide_eq_true z2] at y
        cases y
      rw [decide_eq_false hne]; rfl
    · rw [if_neg d]
      have hle := fa_first_le (fun k => !decide (zsc zstrC w k = nI (B (q + k)))) (e - q)
      have hy : zstrC.getD w [] = str B q e := (str_eq _).mpr ⟨c, fun j hj => by
        have y := fa_first_no (fun k => !decide (zsc zstrC w k = nI (B (q + k)))) (e - q) j (by omega)
        rw [← zC_ok w hw _ (by omega)]
        simpa using y⟩
      rw [decide_eq_true hy]; rfl
  · rw [if_neg c]
    have hne : ¬ zstrC.getD w [] = str B q e := fun z => c ((str_eq _).mp z).1
    rw [decide_eq_false hne]; rfl
theorem wt_id : ∀ w, w < 22 → f_X8_wordText (nI w) = w := by decide
theorem c_word (h : CT σ B n) (hh : σ.1 3 0 6 = nI e) (hq : q ≤ e) (he : e ≤ n) : f_X8_wordFrom (nI q) σ = some (nI (wkd (str B q e))) := by
  unfold f_X8_wordFrom
  have := zlp_find (f := fun v : Int32 => b_X8_wordFrom_2 (nI q) σ v) (fun k => nI k) (fun w => decide (zstrC.getD w [] = str B q e)) 22 (a := (0 : Int32)) (fun k => Sum.inl (nI k)) (E := Sum.inr ()) rfl (fun k hk => by
    show b_X8_wordFrom_2 (nI q) σ (nI k) = _
    unfold b_X8_wordFrom_2
    rw [if_pos (show nI k < 22 from nI_lt (b := 22) hk (by decide)), wt_id k hk, c_spells h hh hq he (show k < 23 by omega), Option.bind_some, nI_1]
    cases decide (zstrC.getD k [] = str B q e) <;> rfl) (by
    show b_X8_wordFrom_2 (nI q) σ (nI 22) = _
    unfold b_X8_wordFrom_2
    rw [if_neg (show ¬ nI 22 < 22 by decide)])
  rw [this, Option.bind_some]
  unfold wkd
  by_cases d : fa_first (fun w => decide (zstrC.getD w [] = str B q e)) 22 < 22
  · rw [if_pos d, if_pos d]
    show some ((100 : Int32) + nI _) = _
    rw [show (100 : Int32) = nI 100 from rfl, nI_add]
  · rw [if_neg d, if_neg d]; rfl
theorem dval_lt (j : Nat) (h : ∀ i, i < j → dgt (B (q + i)) = true) : dval B q j < 10 ^ j := by
  induction j with
  | zero => exact Nat.one_pos
  | succ j ih =>
    have i1 := ih (fun i hi => h i (by omega))
    have i2 := h j (by omega)
    unfold dgt at i2
    simp only [Bool.and_eq_true, decide_eq_true_eq] at i2
    show dval B q j * 10 + (B (q + j) - 48) < 10 ^ (j + 1)
    rw [Nat.pow_succ]
    omega
theorem c_num (h : CT σ B n) (hh : σ.1 3 0 6 = nI e) (hq : q ≤ e) (he : e ≤ n) (hd : ∀ i, q ≤ i → i < e → dgt (B i) = true) : f_X8_numberFrom (nI q) σ = some (nI (dval B q (e - q))) := by
  have hn := h.1
  unfold f_X8_numberFrom
  rw [zlp_for (f := fun q : Int32 × Int32 => b_X8_numberFrom_4 σ q.1 q.2) (fun k => (nI (dval B q k), nI (q + k))) (e - q) (a := ((0 : Int32), nI q)) (b := nI (dval B q (e - q))) rfl (fun k hk => by
    show b_X8_numberFrom_4 σ (nI (dval B q k)) (nI (q + k)) = _
    unfold b_X8_numberFrom_4
    have hd' := hd (q + k) (by omega) (by omega)
    unfold dgt at hd'
    simp only [Bool.and_eq_true, decide_eq_true_eq] at hd'
    rw [hh, h.2.1, if_pos (nI_lt (show q + k < e by omega) (by omega)), if_pos (nI_lt (show q + k < n by omega) (by omega)), zin_ok (show q + k < 400 by omega) (by decide), zgT, nI_clamp (show q + k < 2 ^ 31 by omega), (h.2.2 (q + k) (by omega)).2, nI_1]
    have e1 : nI (dval B q k) * 10 + (nI (B (q + k)) - 48) = nI (dval B q (k + 1)) := by
      have a1 : nI (B (q + k)) - 48 = nI (B (q + k) - 48) := pk_sub (b := 48) (by omega)
      have a2 : nI (dval B q k) * 10 = nI (dval B q k * 10) := pk_mul _ 10
      rw [a1, a2, nI_add]
      rfl
    rw [e1]
    rfl) (by
    show b_X8_numberFrom_4 σ (nI (dval B q (e - q))) (nI (q + (e - q))) = _
    unfold b_X8_numberFrom_4
    rw [hh, if_neg (nI_nlt (by omega) (by omega))])]
  rfl
end PURE
