/-! PURE LAYER: the laws, run on both sides -/
theorem pm1 {t : Nat} (h : 1 ≤ t) : nI t + (-1) = nI (t - 1) := by
  obtain ⟨n, rfl⟩ : ∃ n, t = n + 1 := ⟨t - 1, by omega⟩
  exact pk_m1 n
theorem pm1' {t : Nat} (h : 1 ≤ t) : nI t - 1 = nI (t - 1) := pk_sub (a := t) (b := 1) h
/-- only family x has changed, and in ints alone -/
def Smf (x : Nat) (σ σ' : zG) : Prop := (∀ f, f ≠ x → σ'.1 f = σ.1 f) ∧ σ'.2 = σ.2
theorem Smf.refl (x : Nat) (σ : zG) : Smf x σ σ := ⟨fun _ _ => rfl, rfl⟩
theorem Smf.trans {x : Nat} {a b c : zG} (h : Smf x a b) (h2 : Smf x b c) : Smf x a c := ⟨fun f hf => (h2.1 f hf).trans (h.1 f hf), h2.2.trans h.2⟩
theorem smf_w (x : Nat) (σ : zG) (i k : Nat) (v : Int32) : Smf x σ (zwI σ x i k v) := ⟨fun f hf => by
  funext i' k'
  show (if f = x ∧ i' = i ∧ k' = k then v else σ.1 f i' k') = _
  rw [if_neg (fun z => hf z.1)], rfl⟩
theorem zw_at (σ : zG) (f i k f' i' k' : Nat) (x : Int32) : (zwI σ f i k x).1 f' i' k' = if f' = f ∧ i' = i ∧ k' = k then x else σ.1 f' i' k' := rfl
theorem zw_row (σ : zG) (f i k : Nat) (x : Int32) : (zwI σ f i k x).1 f i = upd (σ.1 f i) k x := by
  funext k'
  show (if f = f ∧ i = i ∧ k' = k then x else σ.1 f i k') = _
  by_cases h : k' = k
  · subst h; rw [if_pos ⟨rfl, rfl, rfl⟩, pk_us]
  · rw [if_neg (fun z => h z.2.2), pk_un h]
/-- one order: the new height, where it writes, what -/
noncomputable def evo (A u : Nat → Int32) (s v t : Nat) : Nat × Nat × Int32 :=
  if s = 0 then (t + 1, t, nI v) else if s < 23 then (t + 1, t, A s) else if s = 26 then (t, t - 1, u (t - 1) / nI v) else if s = 30 then (t, t - 1, 1 - u (t - 1)) else (t - 1, t - 2, f_X12_both (nI s) (u (t - 2)) (u (t - 1)))
noncomputable def evs (A : Nat → Int32) (op ov : Nat → Nat) : Nat → Nat → Nat → (Nat → Int32) → Int32
  | _, 0, _, u => u 0
  | j, n + 1, t, u => evs A op ov (j + 1) n (evo A u (op j) (ov j) t).1 (upd u (evo A u (op j) (ov j) t).2.1 (evo A u (op j) (ov j) t).2.2)
/-- truth values are 0 or 1 -/
def Stk : List Bool → (Nat → Int32) → Prop
  | [], _ => True
  | b :: T, u => Stk T u ∧ (b = true → u T.length = 0 ∨ u T.length = 1)
theorem stk_cong : ∀ {T : List Bool} {u u' : Nat → Int32}, (∀ p, p < T.length → u' p = u p) → Stk T u → Stk T u'
  | [], _, _, _, _ => trivial
  | b :: T, u, u', h, hs => ⟨stk_cong (fun p hp => h p (by rw [List.length_cons]; omega)) hs.1, fun hb => by
      rw [h T.length (by rw [List.length_cons]; omega)]
      exact hs.2 hb⟩
theorem evo_cong {A u u' : Nat → Int32} {s v t : Nat} (h : ∀ p, p < t → u' p = u p) (h1 : 23 ≤ s → 1 ≤ t) (h2 : 23 ≤ s → s ≠ 26 → s ≠ 30 → 2 ≤ t) : evo A u' s v t = evo A u s v t := by
  unfold evo
  by_cases a0 : s = 0
  · simp [a0]
  by_cases a1 : s < 23
  · simp [a0, a1]
  have b1 := h (t - 1) (by have := h1 (by omega); omega)
  by_cases a2 : s = 26
  · simp [a2, b1]
  by_cases a3 : s = 30
  · simp [a3, b1]
  have b2 := h (t - 2) (by have := h2 (by omega) a2 a3; omega)
  simp [a0, a1, a2, a3, b1, b2]
theorem both_01 {s : Nat} {a b : Int32} (h : 27 ≤ s) (h2 : s ≤ 32) (h3 : s ≠ 30) (hab : 31 ≤ s → (a = 0 ∨ a = 1) ∧ (b = 0 ∨ b = 1)) : f_X12_both (nI s) a b = 0 ∨ f_X12_both (nI s) a b = 1 := by
  have hs : s = 27 ∨ s = 28 ∨ s = 29 ∨ s = 31 ∨ s = 32 := by omega
  rcases hs with rfl | rfl | rfl | rfl | rfl
  · have : f_X12_both (nI 27) a b = if a < b then 1 else 0 := rfl
    rw [this]; split <;> simp
  · have : f_X12_both (nI 28) a b = if a = b then 1 else 0 := rfl
    rw [this]; split <;> simp
  · have : f_X12_both (nI 29) a b = if b < a then 1 else 0 := rfl
    rw [this]; split <;> simp
  · have : f_X12_both (nI 31) a b = (a &&& b) := rfl
    rw [this]
    obtain ⟨h1 | h1, h2 | h2⟩ := hab (by decide) <;> subst h1 <;> subst h2 <;> decide
  · have : f_X12_both (nI 32) a b = (a ||| b) := rfl
    rw [this]
    obtain ⟨h1 | h1, h2 | h2⟩ := hab (by decide) <;> subst h1 <;> subst h2 <;> decide
theorem ev_step {A u : Nat → Int32} {s v k : Nat} {T T' : List Bool} (h : tstep s T = some T') (hok : lwOk k s v) (hT : Stk T u) (hle : T.length ≤ 40) :
    (evo A u s v T.length).1 = T'.length ∧ T'.length ≤ 40 ∧ Stk T' (upd u (evo A u s v T.length).2.1 (evo A u s v T.length).2.2) ∧ (23 ≤ s → 1 ≤ T.length) ∧ (23 ≤ s → s ≠ 26 → s ≠ 30 → 2 ≤ T.length) ∧ (s = 30 → u (T.length - 1) = 0 ∨ u (T.length - 1) = 1) ∧ (s < 23 → T.length < 40) := by
  have h32 : s ≤ 32 := by unfold lwOk at hok; omega
  unfold tstep at h
  by_cases a1 : s < 23
  · rw [if_pos a1] at h
    by_cases a40 : T.length < 40
    · rw [if_pos a40] at h
      cases h
      have e1 : (evo A u s v T.length).1 = T.length + 1 := by unfold evo; by_cases q : s = 0 <;> simp [q, a1]
      have e2 : (evo A u s v T.length).2.1 = T.length := by unfold evo; by_cases q : s = 0 <;> simp [q, a1]
      rw [e1, e2]
      refine ⟨rfl, by rw [List.length_cons]; omega, ⟨stk_cong (fun p hp => pk_un (by omega)) hT, fun q => by cases q⟩, fun q => by omega, fun q => by omega, fun q => by omega, fun _ => a40⟩
    · rw [if_neg a40] at h
      cases h
  rw [if_neg a1] at h
  have a0 : ¬ s = 0 := by omega
  by_cases a2 : s = 26
  · rw [if_pos a2] at h
    match T, h, hT, hle with
    | false :: S', h, hT, hle =>
      cases h
      have e : evo A u s v (false :: S').length = (S'.length + 1, S'.length, u S'.length / nI v) := by unfold evo; simp [a2]
      rw [e]
      dsimp only
      refine ⟨rfl, hle, ⟨stk_cong (fun p hp => pk_un (by omega)) hT.1, fun q => by cases q⟩, fun _ => by simp, fun _ q => absurd a2 q, fun q => by omega, fun q => absurd q a1⟩
  rw [if_neg a2] at h
  by_cases a3 : s = 30
  · rw [if_pos a3] at h
    match T, h, hT, hle with
    | true :: S', h, hT, hle =>
      cases h
      have e : evo A u s v (true :: S').length = (S'.length + 1, S'.length, 1 - u S'.length) := by unfold evo; simp [a3]
      rw [e]
      dsimp only
      have hb := hT.2 rfl
      refine ⟨rfl, hle, ⟨stk_cong (fun p hp => pk_un (by omega)) hT.1, fun q => ?_⟩, fun _ => by simp, fun _ _ q => absurd a3 q, fun _ => by simpa using hb, fun q => absurd q a1⟩
      rw [pk_us]
      rcases hb with hb | hb <;> rw [hb] <;> decide
  rw [if_neg a3] at h
  match T, h, hT, hle with
  | b :: a :: S', h, hT, hle =>
    have e : evo A u s v (b :: a :: S').length = (S'.length + 1, S'.length, f_X12_both (nI s) (u S'.length) (u (S'.length + 1))) := by unfold evo; simp [a0, a1, a2, a3]
    have hl : S'.length + 2 ≤ 40 := hle
    rw [e]
    have key : ∀ r : Bool, (r = true → f_X12_both (nI s) (u S'.length) (u (S'.length + 1)) = 0 ∨ f_X12_both (nI s) (u S'.length) (u (S'.length + 1)) = 1) → T' = r :: S' → S'.length + 1 = T'.length ∧ T'.length ≤ 40 ∧ Stk T' (upd u S'.length (f_X12_both (nI s) (u S'.length) (u (S'.length + 1)))) ∧ (23 ≤ s → 1 ≤ (b :: a :: S').length) ∧ (23 ≤ s → s ≠ 26 → s ≠ 30 → 2 ≤ (b :: a :: S').length) ∧ (s = 30 → u ((b :: a :: S').length - 1) = 0 ∨ u ((b :: a :: S').length - 1) = 1) ∧ (s < 23 → (b :: a :: S').length < 40) := by
      rintro r hr rfl
      refine ⟨rfl, by rw [List.length_cons]; omega, ⟨stk_cong (fun p hp => pk_un (by omega)) hT.1.1, fun q => ?_⟩, fun _ => by simp, fun _ _ _ => by simp, fun q => absurd q a3, fun q => absurd q a1⟩
      rw [pk_us]
      exact hr q
    by_cases a4 : s ≤ 25
    · simp only [a4, if_true] at h
      cases hba : (b || a)
      · rw [hba] at h
        simp only [Bool.false_eq_true, if_false] at h
        cases h
        exact key false (fun q => by cases q) rfl
      · rw [hba] at h
        simp at h
    simp only [a4, if_false] at h
    by_cases a5 : s ≤ 29
    · simp only [a5, if_true] at h
      cases hba : (b || a)
      · rw [hba] at h
        simp only [Bool.false_eq_true, if_false] at h
        cases h
        exact key true (fun _ => both_01 (by omega) (by omega) a3 (fun q => by omega)) rfl
      · rw [hba] at h
        simp at h
    simp only [a5, if_false] at h
    cases hba : (b && a)
    · rw [hba] at h
      simp at h
    · rw [hba] at h
      simp only [if_true] at h
      cases h
      obtain ⟨hb, ha⟩ := Bool.and_eq_true_iff.mp hba
      exact key true (fun _ => both_01 (by omega) (by omega) a3 (fun _ => ⟨hT.1.2 ha, hT.2 hb⟩)) rfl
section PURE
variable {σ σc σm : zG} {g : zGa}
/-- the model's step -/
theorem m_ev {k j e s v t : Nat} (hk : k < 2) (hj : j < e) (he : e ≤ 400) (hs : σ.1 1 0 (7608 + 820 * k + 2 * j) = nI s) (hv : s = 0 ∨ s = 26 → σ.1 1 0 (7608 + 820 * k + 2 * j + 1) = nI v) (hok : lwOk k s v) (ht : t ≤ 40) (ht1 : 23 ≤ s → 1 ≤ t) (ht2 : 23 ≤ s → s ≠ 26 → s ≠ 30 → 2 ≤ t) :
    b_X12_comesTo_6 (nI e) (nI k) (nI t) (nI j) σ = some (Sum.inl (nI (evo (σ.1 10 0) (σ.1 9 0) s v t).1, nI (j + 1), zwI σ 9 0 (evo (σ.1 10 0) (σ.1 9 0) s v t).2.1 (evo (σ.1 10 0) (σ.1 9 0) s v t).2.2)) := by
  have h32 : s ≤ 32 := by unfold lwOk at hok; omega
  have ei : (7608 : Int32) + 820 * nI k + 2 * nI j = nI (7608 + 820 * k + 2 * j) := by simp only [zlit, nI_add, pk_mul]
  have ei1 : nI (7608 + 820 * k + 2 * j) + 1 = nI (7608 + 820 * k + 2 * j + 1) := nI_1 _
  unfold b_X12_comesTo_6 evo
  rw [if_pos (nI_lt hj (by omega)), ei, ei1, zin_ok (show 7608 + 820 * k + 2 * j < 9248 by omega) (by decide), zin_ok (show 7608 + 820 * k + 2 * j + 1 < 9248 by omega) (by decide), nI_clamp (show 7608 + 820 * k + 2 * j < 2 ^ 31 by omega), nI_clamp (show 7608 + 820 * k + 2 * j + 1 < 2 ^ 31 by omega)]
  simp only [zgT, zb, hs, nI_1]
  by_cases a0 : s = 0
  · subst a0
    rw [hv (Or.inl rfl)]
    rw [if_pos (show (nI 0 : Int32) < 23 by decide), if_pos (show (nI 0 : Int32) = 0 from rfl)]
    simp (disch := omega) only [if_true, zin_nI, decide_true, zgT, nI_clamp, show t < 420 by omega]
  have q0 : ¬ nI s = 0 := nI_ne0 (by omega) (by omega)
  by_cases a1 : s < 23
  · have q1 : nI s < 23 := nI_lt (b := 23) a1 (by decide)
    have q9 : s < 9 := by unfold lwOk at hok; omega
    simp (disch := omega) only [q1, q0, a0, a1, if_true, if_false, zin_nI, decide_true, zgT, nI_clamp, show t < 420 by omega, q9]
  have q1 : ¬ nI s < 23 := nI_nlt (b := 23) (by omega) (by omega)
  have t1 := ht1 (by omega)
  by_cases a2 : s = 26
  · subst a2
    have hv1 : 1 ≤ v ∧ v ≤ 9999 := by unfold lwOk at hok; omega
    have hv0 : (nI v != 0) = true := by
      have := nI_ne0 (n := v) (by omega) (by omega)
      simpa using this
    rw [hv (Or.inr rfl)]
    rw [if_neg q1, if_pos (show (nI 26 : Int32) = 26 from rfl)]
    simp (disch := omega) only [if_true, if_false, pm1', zin_nI, decide_true, zgT, nI_clamp, show t - 1 < 420 by omega, hv0, show ¬ (26 : Nat) = 0 by decide, show ¬ (26 : Nat) < 23 by decide]
  have q2 : ¬ nI s = 26 := fun q => a2 ((nI_eq (by omega) (by decide)).mp (q : nI s = nI 26))
  by_cases a3 : s = 30
  · subst a3
    rw [if_neg q1, if_neg q2, if_pos (show (nI 30 : Int32) = 30 from rfl)]
    simp (disch := omega) only [if_true, if_false, pm1', zin_nI, decide_true, zgT, nI_clamp, show t - 1 < 420 by omega, show ¬ (30 : Nat) = 0 by decide, show ¬ (30 : Nat) < 23 by decide, show ¬ (30 : Nat) = 26 by decide]
  have q3 : ¬ nI s = 30 := fun q => a3 ((nI_eq (by omega) (by decide)).mp (q : nI s = nI 30))
  have t2 := ht2 (by omega) a2 a3
  have e2 : t - 1 - 1 = t - 2 := by omega
  simp (disch := omega) only [q1, q2, q3, a0, a1, a2, a3, if_true, if_false, pm1, pm1', zin_nI, decide_true, zgT, nI_clamp, show t - 1 < 420 by omega, e2, show t - 2 < 420 by omega]
/-- the class's step -/
def askOf : Nat → Nat
  | 1 => 0
  | 2 => 1
  | 3 => 3
  | 4 => 2
  | 5 => 4
  | 6 => 5
  | 7 => 6
  | _ => 7
theorem c_ev2 {q j e v t : Nat} (hj : j < e) (he : e ≤ 400) (hO : zushr (σ.1 23 q j) 16 = 2) (hV : σ.1 23 q j &&& 65535 = nI v) (ht : t < 40) : b_X3_run_9 (nI e) q (nI t) (nI j) σ = some (Sum.inl (nI (t + 1), nI (j + 1), zwI σ 28 q t (nI v))) := by
  unfold b_X3_run_9 j_X3_run_60_9
  have q40 : nI t < 40 := nI_lt (b := 40) ht (by decide)
  have q400 : nI j < 400 := nI_lt (b := 400) (by omega) (by decide)
  simp (disch := omega) only [nI_ltQ, hj, q400, q40, if_true, zin_nI, decide_true, zgT, nI_clamp, hO, hV, zb, nI_1, show j < 400 by omega, ht]
theorem c_evA {q j e v t : Nat} (hj : j < e) (he : e ≤ 400) (hO : zushr (σ.1 23 q j) 16 = 114) (hV : σ.1 23 q j &&& 65535 = nI v) (hv : v < 8) (ht : t < 40) : b_X3_run_9 (nI e) q (nI t) (nI j) σ = some (Sum.inl (nI (t + 1), nI (j + 1), zwI σ 28 q t (σ.1 27 q v))) := by
  unfold b_X3_run_9 j_X3_run_60_9
  have q40 : nI t < 40 := nI_lt (b := 40) ht (by decide)
  have q400 : nI j < 400 := nI_lt (b := 400) (by omega) (by decide)
  have r8 : zrem (nI v) 8 = nI v := by
    have := zrem_nI (a := v) (d := 8) (by omega) (by decide) (by decide)
    rw [Nat.mod_eq_of_lt hv] at this
    exact this
  simp (disch := omega) only [nI_ltQ, hj, q400, q40, if_true, zin_nI, decide_true, zgT, nI_clamp, hO, hV, zb, nI_1, show j < 400 by omega, ht, show ¬ (114 : Int32) = 2 by decide, if_false, r8, hv]
theorem c_evD {q j e v t : Nat} (hj : j < e) (he : e ≤ 400) (hO : zushr (σ.1 23 q j) 16 = 47) (hV : σ.1 23 q j &&& 65535 = nI v) (hv : 0 < v) (hv2 : v < 65536) (ht : t ≤ 40) (ht1 : 1 ≤ t) : b_X3_run_9 (nI e) q (nI t) (nI j) σ = some (Sum.inl (nI t, nI (j + 1), zwI σ 28 q (t - 1) (σ.1 28 q (t - 1) / nI v))) := by
  unfold b_X3_run_9 j_X3_run_113_9 f_X3_changed
  have q400 : nI j < 400 := nI_lt (b := 400) (by omega) (by decide)
  have p0 : (0 : Int32) < nI t := nI_lt (a := 0) (by omega) (by omega)
  have pv : (0 : Int32) < nI v := nI_lt (a := 0) (by omega) (by omega)
  have hv0 : (nI v != 0) = true := by
    have := nI_ne0 (n := v) (by omega) (by omega)
    simpa using this
  simp (disch := omega) only [nI_ltQ, hj, q400, if_true, zin_nI, decide_true, zgT, nI_clamp, hO, hV, zb, nI_1, show j < 400 by omega, show ¬ (47 : Int32) = 2 by decide, show ¬ (47 : Int32) = 114 by decide, if_false, p0, pv, hv0, pm1', show t - 1 < 40 by omega, Option.bind_some]
theorem c_evN {q j e t : Nat} (hj : j < e) (he : e ≤ 400) (hO : zushr (σ.1 23 q j) 16 = 113) (ht : t ≤ 40) (ht1 : 1 ≤ t) (hb : σ.1 28 q (t - 1) = 0 ∨ σ.1 28 q (t - 1) = 1) : b_X3_run_9 (nI e) q (nI t) (nI j) σ = some (Sum.inl (nI t, nI (j + 1), zwI σ 28 q (t - 1) (1 - σ.1 28 q (t - 1)))) := by
  unfold b_X3_run_9 j_X3_run_113_9 f_X3_changed
  have q400 : nI j < 400 := nI_lt (b := 400) (by omega) (by decide)
  have p0 : (0 : Int32) < nI t := nI_lt (a := 0) (by omega) (by omega)
  simp (disch := omega) only [nI_ltQ, hj, q400, if_true, zin_nI, decide_true, zgT, nI_clamp, hO, zb, nI_1, show j < 400 by omega, show ¬ (113 : Int32) = 2 by decide, show ¬ (113 : Int32) = 114 by decide, show ¬ (113 : Int32) = 47 by decide, if_false, p0, pm1', show t - 1 < 40 by omega]
  rcases hb with hb | hb
  · simp only [hb, if_true, Option.bind_some, show (1 : Int32) - 0 = 1 by decide]
  · simp only [hb, show ¬ (1 : Int32) = 0 by decide, if_false, Option.bind_some, show (1 : Int32) - 1 = 0 by decide]
theorem c_evJ {q j e t : Nat} {O : Int32} (hj : j < e) (he : e ≤ 400) (hO : zushr (σ.1 23 q j) 16 = O) (n1 : ¬ O = 2) (n2 : ¬ O = 114) (n3 : ¬ O = 47) (n4 : ¬ O = 113) (ht : t ≤ 40) (ht1 : 2 ≤ t) : b_X3_run_9 (nI e) q (nI t) (nI j) σ = some (Sum.inl (nI (t - 1), nI (j + 1), zwI σ 28 q (t - 2) (f_X3_joined O (σ.1 28 q (t - 2)) (σ.1 28 q (t - 1))))) := by
  unfold b_X3_run_9
  have q400 : nI j < 400 := nI_lt (b := 400) (by omega) (by decide)
  have p0 : (1 : Int32) < nI t := nI_lt (a := 1) (by omega) (by omega)
  simp (disch := omega) only [nI_ltQ, hj, q400, if_true, zin_nI, decide_true, zgT, nI_clamp, hO, zb, nI_1, show j < 400 by omega, n1, n2, n3, n4, if_false, p0, pm1, pm1', show t - 1 < 40 by omega, show t - 1 - 1 = t - 2 by omega, show t - 2 < 40 by omega]
theorem c_ev {k q j e s v t : Nat} {A : Nat → Int32} (hj : j < e) (he : e ≤ 400) (hs : σ.1 23 q j = nI (lwC s v)) (hok : lwOk k s v) (hA : 1 ≤ s → s ≤ 8 → σ.1 27 q (askOf s) = A s) (ht : t ≤ 40) (ht0 : s < 23 → t < 40) (ht1 : 23 ≤ s → 1 ≤ t) (ht2 : 23 ≤ s → s ≠ 26 → s ≠ 30 → 2 ≤ t) (hb : s = 30 → σ.1 28 q (t - 1) = 0 ∨ σ.1 28 q (t - 1) = 1) :
    b_X3_run_9 (nI e) q (nI t) (nI j) σ = some (Sum.inl (nI (evo A (σ.1 28 q) s v t).1, nI (j + 1), zwI σ 28 q (evo A (σ.1 28 q) s v t).2.1 (evo A (σ.1 28 q) s v t).2.2)) := by
  have h32 : s ≤ 32 := by unfold lwOk at hok; omega
  have hO : ∀ n, n < 2 ^ 31 → lwC s v = n → zushr (σ.1 23 q j) 16 = nI (n / 65536) ∧ σ.1 23 q j &&& 65535 = nI (n % 65536) := by
    rintro n hn rfl
    rw [hs]
    exact ⟨pk_ushrN (by omega) 16 16 rfl, pk_andN (by omega) 16 rfl⟩
  by_cases a0 : s = 0
  · subst a0
    have hv : v ≤ 9999 := by unfold lwOk at hok; omega
    obtain ⟨o1, o2⟩ := hO (65536 * 2 + v) (by omega) rfl
    rw [show (65536 * 2 + v) / 65536 = 2 by omega] at o1
    rw [show (65536 * 2 + v) % 65536 = v by omega] at o2
    exact c_ev2 hj he o1 o2 (ht0 (by decide))
  by_cases a1 : s < 23
  · have h8 : s ≤ 8 := by unfold lwOk at hok; omega
    have e : evo A (σ.1 28 q) s v t = (t + 1, t, A s) := by unfold evo; simp [a0, a1]
    rw [e, ← hA (by omega) h8]
    have key : lwC s v = 65536 * 114 + askOf s := by
      have hs : s = 1 ∨ s = 2 ∨ s = 3 ∨ s = 4 ∨ s = 5 ∨ s = 6 ∨ s = 7 ∨ s = 8 := by omega
      rcases hs with rfl | rfl | rfl | rfl | rfl | rfl | rfl | rfl <;> rfl
    have ha : askOf s < 8 := by unfold askOf; split <;> omega
    obtain ⟨o1, o2⟩ := hO (65536 * 114 + askOf s) (by omega) key
    rw [show (65536 * 114 + askOf s) / 65536 = 114 by omega] at o1
    rw [show (65536 * 114 + askOf s) % 65536 = askOf s by omega] at o2
    exact c_evA hj he o1 o2 ha (ht0 a1)
  by_cases a2 : s = 26
  · subst a2
    have hv : 1 ≤ v ∧ v ≤ 9999 := by unfold lwOk at hok; omega
    obtain ⟨o1, o2⟩ := hO (65536 * 47 + v) (by omega) rfl
    rw [show (65536 * 47 + v) / 65536 = 47 by omega] at o1
    rw [show (65536 * 47 + v) % 65536 = v by omega] at o2
    exact c_evD hj he o1 o2 (by omega) (by omega) ht (ht1 (by decide))
  by_cases a3 : s = 30
  · subst a3
    obtain ⟨o1, -⟩ := hO (65536 * 113) (by omega) rfl
    exact c_evN hj he o1 ht (ht1 (by decide)) (hb rfl)
  have e : evo A (σ.1 28 q) s v t = (t - 1, t - 2, f_X12_both (nI s) (σ.1 28 q (t - 2)) (σ.1 28 q (t - 1))) := by unfold evo; simp [a0, a1, a2, a3]
  rw [e]
  have t2 := ht2 (by omega) a2 a3
  have hs' : s = 23 ∨ s = 24 ∨ s = 25 ∨ s = 27 ∨ s = 28 ∨ s = 29 ∨ s = 31 ∨ s = 32 := by omega
  rcases hs' with rfl | rfl | rfl | rfl | rfl | rfl | rfl | rfl
  · exact c_evJ hj he (hO (65536 * 43) (by omega) rfl).1 (by decide) (by decide) (by decide) (by decide) ht t2
  · exact c_evJ hj he (hO (65536 * 45) (by omega) rfl).1 (by decide) (by decide) (by decide) (by decide) ht t2
  · exact c_evJ hj he (hO (65536 * 42) (by omega) rfl).1 (by decide) (by decide) (by decide) (by decide) ht t2
  · exact c_evJ hj he (hO (65536 * 60) (by omega) rfl).1 (by decide) (by decide) (by decide) (by decide) ht t2
  · exact c_evJ hj he (hO (65536 * 61) (by omega) rfl).1 (by decide) (by decide) (by decide) (by decide) ht t2
  · exact c_evJ hj he (hO (65536 * 62) (by omega) rfl).1 (by decide) (by decide) (by decide) (by decide) ht t2
  · exact c_evJ hj he (hO (65536 * 112) (by omega) rfl).1 (by decide) (by decide) (by decide) (by decide) ht t2
  · exact c_evJ hj he (hO (65536 * 111) (by omega) rfl).1 (by decide) (by decide) (by decide) (by decide) ht t2
/-- a stretch of orders -/
theorem c_run {q k a n : Nat} {A : Nat → Int32} {op ov : Nat → Nat} {R : List Bool} (hn : a + n ≤ 400) (hR : trun op a n [] = some R) (hR1 : R.length = 1) (hok : ∀ j, a ≤ j → j < a + n → lwOk k (op j) (ov j)) (hC : ∀ j, a ≤ j → j < a + n → σ.1 23 q j = nI (lwC (op j) (ov j))) (hA : ∀ s v, lwOk k s v → 1 ≤ s → s ≤ 8 → σ.1 27 q (askOf s) = A s) :
    ∃ sc, f_X3_run q (nI a) (nI (a + n)) σ = some (evs A op ov a n 0 (fun _ => 0), sc) ∧ Smf 28 σ sc ∧ (R = [true] → evs A op ov a n 0 (fun _ => 0) = 0 ∨ evs A op ov a n 0 (fun _ => 0) = 1) := by
  have mx : zmax (nI a) 0 = nI a := by unfold zmax; rw [if_neg]; exact i_nlt.mpr (nI_pos' (by omega))
  unfold f_X3_run
  rw [mx]
  obtain ⟨r, e, h1, h2, h3, h4⟩ := zlp_run (f := fun q' : Int32 × Int32 × zG => b_X3_run_9 (nI (a + n)) q q'.1 q'.2.1 q'.2.2) n
    (fun i x => ∃ T u, x.1 = nI T.length ∧ x.2.1 = nI (a + i) ∧ Smf 28 σ x.2.2 ∧ trun op (a + i) (n - i) T = some R ∧ T.length ≤ 40 ∧ Stk T u ∧ (∀ p, p < T.length → x.2.2.1 28 q p = u p) ∧ evs A op ov a n 0 (fun _ => 0) = evs A op ov (a + i) (n - i) T.length u)
    (fun r => r.1 = 1 ∧ Smf 28 σ r.2 ∧ r.2.1 28 q 0 = evs A op ov a n 0 (fun _ => 0) ∧ (R = [true] → evs A op ov a n 0 (fun _ => 0) = 0 ∨ evs A op ov a n 0 (fun _ => 0) = 1))
    (a := ((0 : Int32), nI a, σ)) ⟨[], fun _ => 0, rfl, rfl, Smf.refl _ _, hR, by decide, trivial, fun p hp => absurd hp (Nat.not_lt_zero p), rfl⟩ (by
      rintro i hi ⟨_, _, s⟩ ⟨T, u, rfl, rfl, hS, hT, hl, hk, hu, hE⟩
      right
      obtain ⟨m, hm⟩ : ∃ m, n - i = m + 1 := ⟨n - i - 1, by omega⟩
      have hm2 : n - (i + 1) = m := by omega
      rw [hm] at hT hE
      have hT2 : (tstep (op (a + i)) T).bind (trun op (a + i + 1) m) = some R := hT
      cases hst : tstep (op (a + i)) T with
      | none => rw [hst] at hT2; cases hT2
      | some T' =>
        rw [hst] at hT2
        have hT3 : trun op (a + i + 1) m T' = some R := hT2
        have hu' : ∀ p, p < T.length → s.1 28 q p = u p := hu
        obtain ⟨g1, g2, g3, g4, g5, g6, g7⟩ := ev_step (A := A) hst (hok (a + i) (by omega) (by omega)) hk hl
        have hcg : evo A (s.1 28 q) (op (a + i)) (ov (a + i)) T.length = evo A u (op (a + i)) (ov (a + i)) T.length := evo_cong hu' g4 g5
        have f23 : s.1 23 = σ.1 23 := hS.1 23 (by decide)
        have f27 : s.1 27 = σ.1 27 := hS.1 27 (by decide)
        have st := c_ev (σ := s) (k := k) (q := q) (j := a + i) (e := a + n) (s := op (a + i)) (v := ov (a + i)) (t := T.length) (A := A) (by omega) hn (by rw [f23]; exact hC _ (by omega) (by omega)) (hok _ (by omega) (by omega)) (fun x1 x2 => by rw [f27]; exact hA _ _ (hok _ (by omega) (by omega)) x1 x2) hl g7 g4 g5 (fun x => by
          have := g4 (by omega)
          rw [hu' _ (by omega)]
          exact g6 x)
        rw [hcg] at st
        refine ⟨_, st, T', upd u (evo A u (op (a + i)) (ov (a + i)) T.length).2.1 (evo A u (op (a + i)) (ov (a + i)) T.length).2.2, by rw [g1], rfl, hS.trans (smf_w 28 s q _ _), by rw [hm2]; exact hT3, g2, g3, fun p hp => ?_, ?_⟩
        · show (zwI s 28 q _ _).1 28 q p = _
          rw [zw_row]
          by_cases hp2 : p = (evo A u (op (a + i)) (ov (a + i)) T.length).2.1
          · subst hp2; rw [pk_us, pk_us]
          · rw [pk_un hp2, pk_un hp2]
            refine hu' p ?_
            have hev : (evo A u (op (a + i)) (ov (a + i)) T.length).1 ≤ T.length ∨ ((evo A u (op (a + i)) (ov (a + i)) T.length).1 = T.length + 1 ∧ (evo A u (op (a + i)) (ov (a + i)) T.length).2.1 = T.length) := by
              unfold evo
              split
              · exact Or.inr ⟨rfl, rfl⟩
              · split
                · exact Or.inr ⟨rfl, rfl⟩
                · split
                  · exact Or.inl (Nat.le_refl _)
                  · split
                    · exact Or.inl (Nat.le_refl _)
                    · exact Or.inl (Nat.sub_le _ _)
            rcases hev with z | ⟨z1, z2⟩ <;> omega
        · rw [hE, hm2, ← g1]
          rfl) (by
      rintro ⟨_, _, s⟩ ⟨T, u, rfl, rfl, hS, hT, hl, hk, hu, hE⟩
      rw [Nat.sub_self] at hT hE
      have hT1 : T = R := by
        have : some T = some R := hT
        exact Option.some.inj this
      have hE1 : evs A op ov a n 0 (fun _ => 0) = u 0 := hE
      refine ⟨(nI T.length, s), ?_, ?_, hS, ?_, fun hr => ?_⟩
      · show b_X3_run_9 (nI (a + n)) q (nI T.length) (nI (a + n)) s = _
        unfold b_X3_run_9
        rw [if_neg (nI_nlt (Nat.le_refl _) (by omega))]
      · show nI T.length = 1
        rw [hT1, hR1]; rfl
      · rw [hE1]
        exact hu 0 (by rw [hT1, hR1]; decide)
      · rw [hE1]
        rw [hT1, hr] at hk
        exact hk.2 rfl)
  obtain ⟨r1, r2⟩ := r
  have h1' : r1 = 1 := h1
  subst h1'
  refine ⟨r2, ?_, h2, h4⟩
  rw [e]
  show j_X3_run_184 q 1 r2 = _
  unfold j_X3_run_184
  rw [if_pos (by decide)]
  have h3' : r2.1 28 q 0 = _ := h3
  rw [h3']
theorem m_run {k a n : Nat} {A : Nat → Int32} {op ov : Nat → Nat} {R : List Bool} (hk2 : k < 2) (hn : a + n ≤ 400) (hR : trun op a n [] = some R) (hR1 : R.length = 1) (hok : ∀ j, a ≤ j → j < a + n → lwOk k (op j) (ov j)) (hC : ∀ j, a ≤ j → j < a + n → σ.1 1 0 (7608 + 820 * k + 2 * j) = nI (op j) ∧ (op j = 0 ∨ op j = 26 → σ.1 1 0 (7608 + 820 * k + 2 * j + 1) = nI (ov j))) (hA : ∀ s v, lwOk k s v → 1 ≤ s → s ≤ 8 → σ.1 10 0 s = A s) :
    ∃ sm, f_X12_comesTo (nI k) (nI a) (nI (a + n)) σ = some (evs A op ov a n 0 (fun _ => 0), sm) ∧ Smf 9 σ sm := by
  unfold f_X12_comesTo
  obtain ⟨r, e, h2, h3⟩ := zlp_run (f := fun q' : Int32 × Int32 × zG => b_X12_comesTo_6 (nI (a + n)) (nI k) q'.1 q'.2.1 q'.2.2) n
    (fun i x => ∃ T u, x.1 = nI T.length ∧ x.2.1 = nI (a + i) ∧ Smf 9 σ x.2.2 ∧ trun op (a + i) (n - i) T = some R ∧ T.length ≤ 40 ∧ Stk T u ∧ (∀ p, p < T.length → x.2.2.1 9 0 p = u p) ∧ evs A op ov a n 0 (fun _ => 0) = evs A op ov (a + i) (n - i) T.length u)
    (fun r => Smf 9 σ r ∧ r.1 9 0 0 = evs A op ov a n 0 (fun _ => 0))
    (a := ((0 : Int32), nI a, σ)) ⟨[], fun _ => 0, rfl, rfl, Smf.refl _ _, hR, by decide, trivial, fun p hp => absurd hp (Nat.not_lt_zero p), rfl⟩ (by
      rintro i hi ⟨_, _, s⟩ ⟨T, u, rfl, rfl, hS, hT, hl, hk, hu, hE⟩
      right
      obtain ⟨m, hm⟩ : ∃ m, n - i = m + 1 := ⟨n - i - 1, by omega⟩
      have hm2 : n - (i + 1) = m := by omega
      rw [hm] at hT hE
      have hT2 : (tstep (op (a + i)) T).bind (trun op (a + i + 1) m) = some R := hT
      cases hst : tstep (op (a + i)) T with
      | none => rw [hst] at hT2; cases hT2
      | some T' =>
        rw [hst] at hT2
        have hT3 : trun op (a + i + 1) m T' = some R := hT2
        have hu' : ∀ p, p < T.length → s.1 9 0 p = u p := hu
        have hok1 := hok (a + i) (by omega) (by omega)
        obtain ⟨g1, g2, g3, g4, g5, g6, g7⟩ := ev_step (A := A) hst hok1 hk hl
        have f1 : s.1 1 = σ.1 1 := hS.1 1 (by decide)
        have f10 : s.1 10 = σ.1 10 := hS.1 10 (by decide)
        have hcg : evo (s.1 10 0) (s.1 9 0) (op (a + i)) (ov (a + i)) T.length = evo A u (op (a + i)) (ov (a + i)) T.length := by
          rw [evo_cong hu' g4 g5]
          unfold evo
          by_cases z0 : op (a + i) = 0
          · simp [z0]
          by_cases z1 : op (a + i) < 23
          · have z8 : op (a + i) ≤ 8 := by unfold lwOk at hok1; omega
            simp only [z0, z1, if_true, if_false]
            rw [f10, hA _ _ hok1 (by omega) z8]
          · simp [z0, z1]
        have st := m_ev (σ := s) (k := k) (j := a + i) (e := a + n) (s := op (a + i)) (v := ov (a + i)) (t := T.length) hk2 (by omega) hn (by rw [f1]; exact (hC _ (by omega) (by omega)).1) (by rw [f1]; exact (hC _ (by omega) (by omega)).2) hok1 hl g4 g5
        rw [hcg] at st
        refine ⟨_, st, T', upd u (evo A u (op (a + i)) (ov (a + i)) T.length).2.1 (evo A u (op (a + i)) (ov (a + i)) T.length).2.2, by rw [g1], rfl, hS.trans (smf_w 9 s 0 _ _), by rw [hm2]; exact hT3, g2, g3, fun p hp => ?_, ?_⟩
        · show (zwI s 9 0 _ _).1 9 0 p = _
          rw [zw_row]
          by_cases hp2 : p = (evo A u (op (a + i)) (ov (a + i)) T.length).2.1
          · subst hp2; rw [pk_us, pk_us]
          · rw [pk_un hp2, pk_un hp2]
            refine hu' p ?_
            have hev : (evo A u (op (a + i)) (ov (a + i)) T.length).1 ≤ T.length ∨ ((evo A u (op (a + i)) (ov (a + i)) T.length).1 = T.length + 1 ∧ (evo A u (op (a + i)) (ov (a + i)) T.length).2.1 = T.length) := by
              unfold evo
              split
              · exact Or.inr ⟨rfl, rfl⟩
              · split
                · exact Or.inr ⟨rfl, rfl⟩
                · split
                  · exact Or.inl (Nat.le_refl _)
                  · split
                    · exact Or.inl (Nat.le_refl _)
                    · exact Or.inl (Nat.sub_le _ _)
            rcases hev with z | ⟨z1, z2⟩ <;> omega
        · rw [hE, hm2, ← g1]
          rfl) (by
      rintro ⟨_, _, s⟩ ⟨T, u, rfl, rfl, hS, hT, hl, hk, hu, hE⟩
      rw [Nat.sub_self] at hT hE
      have hT1 : T = R := by
        have : some T = some R := hT
        exact Option.some.inj this
      have hE1 : evs A op ov a n 0 (fun _ => 0) = u 0 := hE
      refine ⟨s, ?_, hS, ?_⟩
      · show b_X12_comesTo_6 (nI (a + n)) (nI k) (nI T.length) (nI (a + n)) s = _
        unfold b_X12_comesTo_6
        rw [if_neg (nI_nlt (Nat.le_refl _) (by omega))]
      · rw [hE1]
        exact hu 0 (by rw [hT1, hR1]; decide))
  refine ⟨r, ?_, h2⟩
  rw [e]
  show some (r.1 9 0 0, r) = _
  rw [h3]
end PURE
