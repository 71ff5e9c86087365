/-! PURE LAYER: the model reads word by word -/
def img (r k : Nat) : Nat := if k ≤ 2 then k else if k < 100 then 100 + k else if r = 0 then (if k ≤ 107 then k - 92 else 1) else if 110 ≤ k ∧ k ≤ 113 then k - 107 else if r = 1 then (if k = 108 then 7 else if k = 114 then 41 else if k = 115 then 42 else if k = 116 then 44 else if k = 117 then 43 else 1) else (if k = 109 then 7 else if k = 117 then 43 else if 118 ≤ k then k - 73 else 1)
def wMw (u : List Int32) : Nat := if zstrM.getD 0 [] = u then 8 else if zstrM.getD 1 [] = u then 9 else if zstrM.getD 2 [] = u then 10 else if zstrM.getD 3 [] = u then 11 else if zstrM.getD 4 [] = u then 12 else if zstrM.getD 5 [] = u then 13 else if zstrM.getD 6 [] = u then 14 else if zstrM.getD 7 [] = u then 15 else 1
def wMs (u : List Int32) : Nat := if zstrM.getD 8 [] = u then 7 else if zstrM.getD 9 [] = u then 41 else if zstrM.getD 10 [] = u then 42 else if zstrM.getD 11 [] = u then 43 else if zstrM.getD 12 [] = u then 44 else 1
def wMo (u : List Int32) : Nat := if zstrM.getD 13 [] = u then 7 else if zstrM.getD 11 [] = u then 43 else if zstrM.getD 14 [] = u then 45 else if zstrM.getD 15 [] = u then 46 else if zstrM.getD 16 [] = u then 47 else if zstrM.getD 17 [] = u then 48 else 1
def wM (r : Nat) (u : List Int32) : Nat := if r = 0 then wMw u else if zstrM.getD 18 [] = u then 3 else if zstrM.getD 19 [] = u then 4 else if zstrM.getD 20 [] = u then 5 else if zstrM.getD 21 [] = u then 6 else if r = 1 then wMs u else wMo u
theorem zMC : ∀ w, w < 22 → ∃ v, v < 22 ∧ zstrC.getD v [] = zstrM.getD w [] := by decide
theorem wkd_1 {u : List Int32} (h : ∀ w, w < 22 → ¬ zstrC.getD w [] = u) : wkd u = 1 := by
  unfold wkd
  rw [if_neg]
  intro c
  have := fa_first_yes _ _ c
  exact h _ c (by simpa using this)
theorem wM_img (r : Nat) (hr : r < 3) (u : List Int32) : wM r u = img r (wkd u) := by
  by_cases h : ∃ w, w < 22 ∧ zstrC.getD w [] = u
  · obtain ⟨w, hw, rfl⟩ := h
    have : ∀ r, r < 3 → ∀ w, w < 22 → wM r (zstrC.getD w []) = img r (wkd (zstrC.getD w [])) := by decide +kernel
    exact this r hr w hw
  · have hC : ∀ w, w < 22 → ¬ zstrC.getD w [] = u := fun w hw e => h ⟨w, hw, e⟩
    have hM : ∀ w, w < 22 → ¬ zstrM.getD w [] = u := fun w hw e => by
      obtain ⟨v, hv, ev⟩ := zMC w hw
      exact hC v hv (ev.trans e)
    rw [wkd_1 hC]
    unfold wM wMw wMs wMo
    rw [if_neg (hM 0 (by decide)), if_neg (hM 1 (by decide)), if_neg (hM 2 (by decide)), if_neg (hM 3 (by decide)), if_neg (hM 4 (by decide)), if_neg (hM 5 (by decide)), if_neg (hM 6 (by decide)), if_neg (hM 7 (by decide)), if_neg (hM 18 (by decide)), if_neg (hM 19 (by decide)), if_neg (hM 20 (by decide)), if_neg (hM 21 (by decide)), if_neg (hM 8 (by decide)), if_neg (hM 9 (by decide)), if_neg (hM 10 (by decide)), if_neg (hM 11 (by decide)), if_neg (hM 12 (by decide)), if_neg (hM 13 (by decide)), if_neg (hM 11 (by decide)), if_neg (hM 14 (by decide)), if_neg (hM 15 (by decide)), if_neg (hM 16 (by decide)), if_neg (hM 17 (by decide))]
    by_cases a : r = 0
    · rw [if_pos a]; rfl
    · rw [if_neg a]
      by_cases b : r = 1
      · rw [if_pos b]; rfl
      · rw [if_neg b]; rfl
/-- the model's tape -/
def MT (σ : zG) (B : Nat → Nat) (n r : Nat) : Prop := n ≤ 400 ∧ σ.1 0 0 16 = nI n ∧ (∀ k, k < n → B k < 256 ∧ σ.1 8 0 k = nI (B k)) ∧ σ.1 0 0 12 = nI r ∧ r < 3
def arN (f i k : Nat) : Bool := f == 0 && i == 0 && (k == 17 || (k == 18 || (k == 19 || k == 20)))
section PURE
variable {σ σ' : zG} {B : Nat → Nat} {n p q e r : Nat}
theorem mt_fr {ar : Nat → Nat → Nat → Bool} (h : MT σ B n r) (hf : FrA ar σ σ') (h16 : ar 0 0 16 = false) (h12 : ar 0 0 12 = false) (h8 : ∀ k, ar 8 0 k = false) : MT σ' B n r := ⟨h.1, by rw [hf.1 0 0 16 h16]; exact h.2.1, fun k hk => ⟨(h.2.2.1 k hk).1, by rw [hf.1 8 0 k (h8 k)]; exact (h.2.2.1 k hk).2⟩, by rw [hf.1 0 0 12 h12]; exact h.2.2.2.1, h.2.2.2.2⟩
theorem m_see (h : MT σ B n r) (hp : p ≤ n) : f_X12_see (nI p) σ = some (if p < n then nI (B p) else -1) := by
  have hn := h.1
  unfold f_X12_see
  rw [h.2.1]
  by_cases c : p < n
  · rw [if_pos (nI_lt c (by omega)), if_pos c, zin_ok (show p < 400 by omega) (by decide), zgT, nI_clamp (show p < 2 ^ 31 by omega), (h.2.2.1 p c).2]
  · rw [if_neg (nI_nlt (by omega) (by omega)), if_neg c]
theorem m_dgt {v : Nat} (h : v < 256) : f_X12_isDigit (nI v) = some (zt (dgt v)) := by
  unfold f_X12_isDigit
  have e1 : ((48 : Int32) ≤ nI v) = (48 ≤ v) := nI_leQ (a := 48) (by decide) (by omega)
  have e2 : (nI v ≤ (57 : Int32)) = (v ≤ 57) := nI_leQ (b := 57) (by omega) (by decide)
  rw [isIn_zt, zbl_zt, zgT]
  simp only [e1, e2]
  unfold dgt
  rw [Bool.decide_and]
theorem m_dgt1 : f_X12_isDigit (-1) = some 0 := by decide
theorem m_ltr {v : Nat} (h : v < 256) : f_X12_isLetter (nI v) = zt (ltr v) := by
  unfold f_X12_isLetter ltr
  have e1 : ((97 : Int32) ≤ nI v) = (97 ≤ v) := nI_leQ (a := 97) (by decide) (by omega)
  have e2 : (nI v ≤ (122 : Int32)) = (v ≤ 122) := nI_leQ (b := 122) (by omega) (by decide)
  have e3 : ((65 : Int32) ≤ nI v) = (65 ≤ v) := nI_leQ (a := 65) (by decide) (by omega)
  have e4 : (nI v ≤ (90 : Int32)) = (v ≤ 90) := nI_leQ (b := 90) (by omega) (by decide)
  simp only [isIn_zt, e1, e2, e3, e4, zt_0]
  by_cases a : 97 ≤ v <;> by_cases b : v ≤ 122 <;> by_cases c : 65 ≤ v <;> by_cases d : v ≤ 90 <;> simp [a, b, c, d, zt]
theorem m_is (h : MT σ B n r) (ha : σ.1 0 0 17 = nI e) (hq : σ.1 0 0 19 = nI q) (hqe : q ≤ e) (he : e ≤ n) {w : Nat} (hw : w < 22) : f_X12_is w σ = some (zt (decide (zstrM.getD w [] = str B q e))) := by
  have hn := h.1
  have hL := zM_le w hw
  have l0 : w < zstrM.length := hw
  have e0 : (nI (e - q) = zsl zstrM w) = (e - q = (zstrM.getD w []).length) := nI_eqI (by omega) (by omega)
  unfold f_X12_is
  rw [decide_eq_true l0, zgT, ha, hq, pk_sub hqe]
  simp only [e0]
  have z1 : zsl zstrM w = nI (zstrM.getD w []).length := rfl
  have z2 : zsn zstrM w = (zstrM.getD w []).length := rfl
  by_cases c : e - q = (zstrM.getD w []).length
  · rw [if_pos c]
    unfold j_X12_is_21
    obtain ⟨b, eb, hb⟩ := zlp_run (f := fun q : Int32 × Int32 => b_X12_is_24 w σ q.1 q.2) (e - q) (fun k s => s.2 = nI k ∧ s.1 = zt (decide (∀ j, j < k → (zstrM.getD w []).getD j 0 = nI (B (q + j))))) (fun b => b = zt (decide (zstrM.getD w [] = str B q e))) (a := ((1 : Int32), (0 : Int32))) ⟨rfl, by rw [decide_eq_true (fun j hj => absurd hj (Nat.not_lt_zero j))]; rfl⟩ (by
      rintro k hk ⟨v, x⟩ ⟨hx, hv⟩
      have hx' : x = nI k := hx
      have hv' : v = zt (decide (∀ j, j < k → (zstrM.getD w []).getD j 0 = nI (B (q + j)))) := hv
      subst hx'
      subst hv'
      by_cases d : ∀ j, j < k → (zstrM.getD w []).getD j 0 = nI (B (q + j))
      · right
        rw [decide_eq_true d]
        show ∃ q', b_X12_is_24 w σ 1 (nI k) = _ ∧ _
        unfold b_X12_is_24
        rw [decide_eq_true l0, zgT, z1, z2, if_pos (nI_lt (show k < (zstrM.getD w []).length by omega) (by omega)), if_neg (show ¬ (1 : Int32) = 0 by decide), hq, nI_add, zin_ok (show q + k < 400 by omega) (by decide), zgT, zin_ok (show k < (zstrM.getD w []).length by omega) (by omega), zgT, nI_clamp (show k < 2 ^ 31 by omega), nI_clamp (show q + k < 2 ^ 31 by omega), (h.2.2.1 (q + k) (by omega)).2, nI_1, zM_ok w hw k (by omega)]
        by_cases f : nI (B (q + k)) = (zstrM.getD w []).getD k 0
        · rw [if_pos f]
          refine ⟨_, rfl, rfl, ?_⟩
          rw [decide_eq_true (fun j hj => by
            by_cases g : j = k
            · rw [g]; exact f.symm
            · exact d j (by omega))]
          rfl
        · rw [if_neg f]
          refine ⟨_, rfl, rfl, ?_⟩
          rw [decide_eq_false (fun z => f (z k (by omega)).symm)]
          rfl
      · left
        rw [decide_eq_false d]
        show ∃ q', b_X12_is_24 w σ 0 (nI k) = _ ∧ _
        unfold b_X12_is_24
        rw [decide_eq_true l0, zgT, z1, if_pos (nI_lt (show k < (zstrM.getD w []).length by omega) (by omega)), if_pos rfl]
        refine ⟨_, rfl, ?_⟩
        rw [decide_eq_false (fun z => d fun j hj => ((str_eq _).mp z).2 j (by omega))]
        rfl) (by
      rintro ⟨v, x⟩ ⟨hx, hv⟩
      have hx' : x = nI (e - q) := hx
      have hv' : v = zt (decide (∀ j, j < e - q → (zstrM.getD w []).getD j 0 = nI (B (q + j)))) := hv
      subst hx'
      show ∃ q', b_X12_is_24 w σ v (nI (e - q)) = _ ∧ _
      unfold b_X12_is_24
      rw [decide_eq_true l0, zgT, z1, if_neg (nI_nlt (show (zstrM.getD w []).length ≤ e - q by omega) (by omega))]
      refine ⟨_, rfl, ?_⟩
      rw [hv']
      refine congrArg zt (decide_eq_decide.mpr ?_)
      rw [str_eq]
      exact ⟨fun z => ⟨c.symm, z⟩, fun z => z.2⟩)
    rw [eb, Option.bind_some, hb, zbl_zt, zgT]
  · rw [if_neg c]
    unfold j_X12_is_21
    have hne : ¬ zstrM.getD w [] = str B q e := fun z => c ((str_eq _).mp z).1.symm
    rw [zlp_done (a := ((0 : Int32), (0 : Int32))) (b := (0 : Int32)), decide_eq_false hne]
    · rfl
    · show b_X12_is_24 w σ 0 0 = _
      unfold b_X12_is_24
      rw [decide_eq_true l0, zgT]
      by_cases d : (0 : Int32) < zsl zstrM w
      · rw [if_pos d, if_pos rfl]
      · rw [if_neg d]
theorem nI_ifB0 (b : Bool) {α : Type} (x y : α) : (if zt b = nI 0 then x else y) = if b then y else x := nI_ifB b x y
theorem m_word (h : MT σ B n r) (ha : σ.1 0 0 17 = nI e) (hq : σ.1 0 0 19 = nI q) (hqe : q ≤ e) (he : e ≤ n) : f_X12_word σ = some (nI (img r (wkd (str B q e)))) := by
  have I : ∀ w, w < 22 → f_X12_is w σ = some (zt (decide (zstrM.getD w [] = str B q e))) := fun w hw => m_is h ha hq hqe he hw
  have hr := h.2.2.2.2
  rw [← wM_img r hr]
  generalize str B q e = u at I
  have its : ∀ (c : Prop) [Decidable c] (x y : Int32), (if c then some x else some y) = some (if c then x else y) := fun c _ x y => by
    by_cases d : c
    · rw [if_pos d, if_pos d]
    · rw [if_neg d, if_neg d]
  have nit : ∀ (c : Prop) [Decidable c] (x y : Nat), nI (if c then x else y) = if c then nI x else nI y := fun c _ x y => by
    by_cases d : c
    · rw [if_pos d, if_pos d]
    · rw [if_neg d, if_neg d]
  have hw : f_X12_walkWord σ = some (nI (wMw u)) := by
    unfold f_X12_walkWord wMw
    simp only [I 0 (by decide), I 1 (by decide), I 2 (by decide), I 3 (by decide), I 4 (by decide), I 5 (by decide), I 6 (by decide), I 7 (by decide), I 8 (by decide), I 9 (by decide), I 10 (by decide), I 11 (by decide), I 12 (by decide), I 13 (by decide), I 14 (by decide), I 15 (by decide), I 16 (by decide), I 17 (by decide), I 18 (by decide), I 19 (by decide), I 20 (by decide), I 21 (by decide), Option.bind_some, nI_ifB, decide_eq_true_eq]
    simp only [its, nit]
    rfl
  have hs : f_X12_shadeName σ = some (nI (wMs u)) := by
    unfold f_X12_shadeName wMs
    simp only [I 0 (by decide), I 1 (by decide), I 2 (by decide), I 3 (by decide), I 4 (by decide), I 5 (by decide), I 6 (by decide), I 7 (by decide), I 8 (by decide), I 9 (by decide), I 10 (by decide), I 11 (by decide), I 12 (by decide), I 13 (by decide), I 14 (by decide), I 15 (by decide), I 16 (by decide), I 17 (by decide), I 18 (by decide), I 19 (by decide), I 20 (by decide), I 21 (by decide), Option.bind_some, nI_ifB, decide_eq_true_eq]
    simp only [its, nit]
    rfl
  have ho : f_X12_worthName σ = some (nI (wMo u)) := by
    unfold f_X12_worthName wMo
    simp only [I 0 (by decide), I 1 (by decide), I 2 (by decide), I 3 (by decide), I 4 (by decide), I 5 (by decide), I 6 (by decide), I 7 (by decide), I 8 (by decide), I 9 (by decide), I 10 (by decide), I 11 (by decide), I 12 (by decide), I 13 (by decide), I 14 (by decide), I 15 (by decide), I 16 (by decide), I 17 (by decide), I 18 (by decide), I 19 (by decide), I 20 (by decide), I 21 (by decide), Option.bind_some, nI_ifB, decide_eq_true_eq]
    simp only [its, nit]
    rfl
  unfold f_X12_word wM
  rw [h.2.2.2.1, hw, hs, ho]
  have e0 : (nI r = 0) = (r = 0) := nI_eqI (b := 0) (by omega) (by decide)
  have e1 : (nI r = 1) = (r = 1) := nI_eqI (b := 1) (by omega) (by decide)
  simp only [e0, e1, Option.bind_some]
  by_cases a : r = 0
  · rw [if_pos a, if_pos a]
  · rw [if_neg a, if_neg a]
    have eo : (if r = 1 then some (nI (wMs u)) else some (nI (wMo u))) = some (nI (if r = 1 then wMs u else wMo u)) := by
      by_cases b : r = 1
      · rw [if_pos b, if_pos b]
      · rw [if_neg b, if_neg b]
    rw [eo]
    simp only [I 0 (by decide), I 1 (by decide), I 2 (by decide), I 3 (by decide), I 4 (by decide), I 5 (by decide), I 6 (by decide), I 7 (by decide), I 8 (by decide), I 9 (by decide), I 10 (by decide), I 11 (by decide), I 12 (by decide), I 13 (by decide), I 14 (by decide), I 15 (by decide), I 16 (by decide), I 17 (by decide), I 18 (by decide), I 19 (by decide), I 20 (by decide), I 21 (by decide), Option.bind_some, nI_ifB, decide_eq_true_eq]
    simp only [its, nit]
    rfl
end PURE
