/-! THE LAW at image: the class's world, with flags at its references -/
def chkR (g : Nat) : Bool := match zkdC.getD g (.inl 99) with
  | .inl _ => true
  | .inr (ty, _) => refKind ty || (match ztgC.getD g (.inl 0) with | .inl t => t != 2 | .inr _ => false)
theorem chkR_ok : ∀ g, g < 45 → chkR g = true := by decide
def chkT (f : Nat) : Bool := match ztgC.getD f (.inl 0) with
  | .inl t => t == 0 || t == 1 || t == 2
  | .inr l => decide (l.length ≤ 20) && (List.range 20).all (fun k => l.getD k 0 == 0 || l.getD k 0 == 1 || l.getD k 0 == 2 || (f == 0 && k == 6))
theorem chkT_ok : ∀ f, f < 45 → chkT f = true := by decide
theorem tag3 {f k : Nat} (h0 : zlyC.2.1 f k ≠ 0) (h1 : zlyC.2.1 f k ≠ 1) (h2 : zlyC.2.1 f k ≠ 2) : f = 0 ∧ k = 6 := by
  change (match ztgC.getD f (.inl 0) with | .inl t => t | .inr l => l.getD k 0) ≠ 0 at h0
  change (match ztgC.getD f (.inl 0) with | .inl t => t | .inr l => l.getD k 0) ≠ 1 at h1
  change (match ztgC.getD f (.inl 0) with | .inl t => t | .inr l => l.getD k 0) ≠ 2 at h2
  by_cases hf : f < 45
  · have hc := chkT_ok f hf
    unfold chkT at hc
    cases e : ztgC.getD f (.inl 0) with
    | inl t =>
      rw [e] at h0 h1 h2 hc
      simp at hc
      exact absurd hc (by
        intro z
        rcases z with (z | z) | z
        · exact h0 z
        · exact h1 z
        · exact h2 z)
    | inr l =>
      rw [e] at h0 h1 h2 hc
      simp only [Bool.and_eq_true, decide_eq_true_eq, List.all_eq_true, List.mem_range] at hc
      have hk : k < 20 := by
        refine Nat.lt_of_not_le fun z => h0 ?_
        show l.getD k 0 = 0
        rw [List.getD_eq_getElem?_getD, List.getElem?_eq_none (by omega)]
        rfl
      have := hc.2 k hk
      simp only [Bool.or_eq_true, beq_iff_eq, Bool.and_eq_true] at this
      rcases this with ((z | z) | z) | z
      · exact absurd z h0
      · exact absurd z h1
      · exact absurd z h2
      · exact z
  · have e : ztgC.getD f (.inl 0) = .inl 0 := by
      rw [List.getD_eq_getElem?_getD, List.getElem?_eq_none (by show 45 ≤ f; omega)]
      rfl
    rw [e] at h0
    exact absurd rfl h0
theorem tagK (f k : Nat) : zlyCK.2.1 f k = if zlyC.2.1 f k = 2 then 3 else zlyC.2.1 f k := rfl
theorem zsm {σ : zG} {g j : Nat} (h : ∀ k, zlyC.2.1 g k = 2 → σ.1 g j k ≠ 0) : zSame zlyCK zlyC σ g j := by
  by_cases hh : ∀ k, zlyC.2.1 g k ≠ 2
  · refine Or.inl fun k => ?_
    rw [tagK, if_neg (hh k)]
  · refine Or.inr ⟨fun ty n e => ?_, fun k _ => ?_⟩
    · have hx : ∃ k, zlyC.2.1 g k = 2 := Classical.byContradiction fun z => hh fun k hk => z ⟨k, hk⟩
      obtain ⟨k, hk⟩ := hx
      change zkdC.getD g (.inl 99) = .inr (ty, n) at e
      change (match ztgC.getD g (.inl 0) with | .inl t => t | .inr l => l.getD k 0) = 2 at hk
      by_cases hg : g < 45
      · have hc := chkR_ok g hg
        unfold chkR at hc
        rw [e] at hc
        cases et : ztgC.getD g (.inl 0) with
        | inl t =>
          rw [et] at hc hk
          have : t = 2 := hk
          rw [this] at hc
          simpa using hc
        | inr l =>
          rw [et] at hc
          simpa using hc
      · rw [List.getD_eq_getElem?_getD, List.getElem?_eq_none (by show 45 ≤ g; omega)] at e
        cases e
    · by_cases h2 : zlyC.2.1 g k = 2
      · exact Or.inr ⟨h2, by rw [tagK, if_pos h2], h k h2⟩
      · exact Or.inl (by rw [tagK, if_neg h2])
theorem zgv_data {w : zW} {σ σ' : zG} {f i : Nat} (h1 : ∀ k, zlyC.2.1 f k ≠ 2 → σ'.1 f i k = σ.1 f i k) (h2 : ∀ k, σ'.2 f i k = σ.2 f i k) : zgv zlyC w σ' f i = zgv zlyC w σ f i := by
  funext k
  unfold zgv
  rw [h2 k]
  by_cases e : zlyC.2.1 f k = 2
  · rw [e]; rfl
  · rw [h1 k e]
theorem zGW_data {w : zW} {σ σ' : zG} {H : Heap} (h1 : ∀ f i k, w.2.2.2.2 f i → zlyC.2.1 f k ≠ 2 → σ'.1 f i k = σ.1 f i k) (h2 : ∀ f i k, w.2.2.2.2 f i → σ'.2 f i k = σ.2 f i k) (h : zGW zlyC w σ H) : zGW zlyC w σ' H := fun f i hw => by
  have h0 := h f i hw
  unfold zAt at h0 ⊢
  rw [zgv_data (fun k => h1 f i k hw) (fun k => h2 f i k hw)]
  exact h0
theorem zGW_K {w : zW} {σ : zG} {H : Heap} (hS : ∀ g j, w.2.2.2.2 g j → zSame zlyCK zlyC σ g j) : zGW zlyC w σ H ↔ zGW zlyCK w σ H :=
  ⟨fun h f i hw => (zAt_same (lyK := zlyCK) (lyN := zlyC) (w := w) (w' := w) rfl rfl ⟨rfl, rfl, rfl⟩ (hS f i hw)).mp (h f i hw), fun h f i hw => (zAt_same (lyK := zlyCK) (lyN := zlyC) (w := w) (w' := w) rfl rfl ⟨rfl, rfl, rfl⟩ (hS f i hw)).mpr (h f i hw)⟩
def zup (σ : zG) : zG := (fun f i k => if zlyC.2.1 f k = 2 then 1 else σ.1 f i k, σ.2)
def zup0 (σ : zG) : zG := (fun f i k => if (f, i) ∈ cX then 0 else if zlyC.2.1 f k = 2 then 1 else σ.1 f i k, fun f i k => if (f, i) ∈ cX then 0 else σ.2 f i k)
theorem zup_sm (σ : zG) : SmF (zup σ) := fun g j => zsm fun k hk => by
  show (if zlyC.2.1 g k = 2 then (1 : Int32) else σ.1 g j k) ≠ 0
  rw [if_pos hk]
  decide
theorem zup_at {σ : zG} {f i k : Nat} (h : zlyC.2.1 f k ≠ 2) : (zup σ).1 f i k = σ.1 f i k := if_neg h
theorem zup0_at {σ : zG} {f i k : Nat} (hn : (f, i) ∉ cX) (h : zlyC.2.1 f k ≠ 2) : (zup0 σ).1 f i k = σ.1 f i k := by
  show (if (f, i) ∈ cX then (0 : Int32) else if zlyC.2.1 f k = 2 then 1 else σ.1 f i k) = _
  rw [if_neg hn, if_neg h]
theorem zup0_2 {σ : zG} {f i k : Nat} (hn : (f, i) ∉ cX) : (zup0 σ).2 f i k = σ.2 f i k := if_neg hn
theorem zup0_fl {σ : zG} {f i k : Nat} (hn : (f, i) ∉ cX) (h : zlyC.2.1 f k = 2) : (zup0 σ).1 f i k = 1 := by
  show (if (f, i) ∈ cX then (0 : Int32) else if zlyC.2.1 f k = 2 then 1 else σ.1 f i k) = _
  rw [if_neg hn, if_pos h]
theorem zup0_z {σ : zG} {f i k : Nat} (hn : (f, i) ∈ cX) : (zup0 σ).1 f i k = 0 ∧ (zup0 σ).2 f i k = 0 := ⟨if_pos hn, if_pos hn⟩
/-- the class's world without, and with, an image -/
def zLA (wC : zW) : Prop := (∀ x ∈ cX, ¬ wC.2.2.2.2 x.1 x.2) ∧ ∀ i, wC.2.2.2.2 0 i → i = 0
def zLB (wC : zW) : Prop := wC.2.2.2.2 1 1
theorem zFl_B {wC : zW} {σ : zG} (hW : zWF zlyC wC) (h : zLB wC) : zFl zlyCK wC (zup σ) := fun f i k hw => by
  refine ⟨no2C f k, ?_⟩
  by_cases h2 : zlyC.2.1 f k = 2
  · exact Or.inr (Or.inr (Or.inr (fun t ht => hW.2 f i k t hw h2 ht)))
  · rw [tagK, if_neg h2]
    by_cases h0 : zlyC.2.1 f k = 0
    · exact Or.inl h0
    · by_cases h1 : zlyC.2.1 f k = 1
      · exact Or.inr (Or.inl h1)
      · obtain ⟨rfl, rfl⟩ := tag3 h0 h1 h2
        refine Or.inr (Or.inr (Or.inr (fun t ht => ?_)))
        have : t = (1, 1) := by
          change some (1, 1) = some t at ht
          exact (Option.some.inj ht).symm
        rw [this]
        exact h
theorem zFl_A {wC : zW} {σ : zG} (hW : zWF zlyC wC) (h : zLA wC) (h6 : σ.1 0 0 6 = 0) : zFl zlyCK wC (zup0 σ) := fun f i k hw => by
  have hn : (f, i) ∉ cX := fun z => h.1 _ z hw
  refine ⟨no2C f k, ?_⟩
  by_cases h2 : zlyC.2.1 f k = 2
  · exact Or.inr (Or.inr (Or.inr (fun t ht => hW.2 f i k t hw h2 ht)))
  · rw [tagK, if_neg h2]
    by_cases h0 : zlyC.2.1 f k = 0
    · exact Or.inl h0
    · by_cases h1 : zlyC.2.1 f k = 1
      · exact Or.inr (Or.inl h1)
      · obtain ⟨rfl, rfl⟩ := tag3 h0 h1 h2
        have := h.2 i hw
        subst this
        refine Or.inr (Or.inr (Or.inl ?_))
        rw [zup0_at hn h2]
        exact h6
theorem zFl_A1 {wC : zW} {σ : zG} (hW : zWF zlyC wC) (h : zLA wC) (h6 : σ.1 0 0 6 = 0) : zFl zlyCK wC (zup σ) := fun f i k hw => by
  refine ⟨no2C f k, ?_⟩
  by_cases h2 : zlyC.2.1 f k = 2
  · exact Or.inr (Or.inr (Or.inr (fun t ht => hW.2 f i k t hw h2 ht)))
  · rw [tagK, if_neg h2]
    by_cases h0 : zlyC.2.1 f k = 0
    · exact Or.inl h0
    · by_cases h1 : zlyC.2.1 f k = 1
      · exact Or.inr (Or.inl h1)
      · obtain ⟨rfl, rfl⟩ := tag3 h0 h1 h2
        have := h.2 i hw
        subst this
        refine Or.inr (Or.inr (Or.inl ?_))
        rw [zup_at h2]
        exact h6
