/-! PURE LAYER: ways of walkers -/
def wstep (W H w c : Nat) : Option Nat := if w = 105 then (if c % 8 + 1 < W then some (c + 1) else none) else if w = 107 then (if 1 ≤ c % 8 then some (c - 1) else none) else if w = 106 then (if c / 8 + 1 < H then some (c + 8) else none) else if w = 104 then (if 1 ≤ c / 8 then some (c - 8) else none) else some c
def wpos (W H c0 : Nat) (K : List Nat) : Option Nat := K.foldl (fun a w => a.bind (wstep W H w)) (some c0)
def enc : Option Nat → Int32
  | some c => nI c
  | none => -1
def plK (W H c0 cm : Nat) (K : List Nat) (m : Nat) : Int32 := if cm ≤ m ∧ m - cm ≤ K.length then enc (wpos W H c0 (K.take (m - cm))) else -1
/-- a spot of a bridge of that size -/
def spW (W H c : Nat) : Prop := c % 8 < W ∧ c / 8 < H
theorem wpos_app (W H c0 : Nat) (K : List Nat) (w : Nat) : wpos W H c0 (K ++ [w]) = (wpos W H c0 K).bind (wstep W H w) := by
  unfold wpos
  rw [List.foldl_append]
  rfl
theorem wstep_ok {W H w c c' : Nat} (hW : W ≤ 8) (hH : H ≤ 7) (h : spW W H c) (e : wstep W H w c = some c') : spW W H c' := by
  unfold spW at *
  unfold wstep at e
  by_cases a : w = 105
  · rw [if_pos a] at e
    by_cases b : c % 8 + 1 < W
    · rw [if_pos b] at e; have := Option.some.inj e; omega
    · rw [if_neg b] at e; cases e
  · rw [if_neg a] at e
    by_cases a2 : w = 107
    · rw [if_pos a2] at e
      by_cases b : 1 ≤ c % 8
      · rw [if_pos b] at e; have := Option.some.inj e; omega
      · rw [if_neg b] at e; cases e
    · rw [if_neg a2] at e
      by_cases a3 : w = 106
      · rw [if_pos a3] at e
        by_cases b : c / 8 + 1 < H
        · rw [if_pos b] at e; have := Option.some.inj e; omega
        · rw [if_neg b] at e; cases e
      · rw [if_neg a3] at e
        by_cases a4 : w = 104
        · rw [if_pos a4] at e
          by_cases b : 1 ≤ c / 8
          · rw [if_pos b] at e; have := Option.some.inj e; omega
          · rw [if_neg b] at e; cases e
        · rw [if_neg a4] at e
          rw [← Option.some.inj e]
          exact h
theorem wpos_ok {W H c0 : Nat} (hW : W ≤ 8) (hH : H ≤ 7) (h : spW W H c0) : ∀ (K : List Nat) (c a : Nat), spW W H a → K.foldl (fun a w => a.bind (wstep W H w)) (some a) = some c → spW W H c
  | [], c, a, ha, e => by
    have : a = c := Option.some.inj e
    rw [← this]; exact ha
  | w :: K, c, a, ha, e => by
    have e' : K.foldl (fun a w => a.bind (wstep W H w)) (wstep W H w a) = some c := e
    cases hs : wstep W H w a with
    | none =>
      rw [hs] at e'
      have : ∀ K : List Nat, K.foldl (fun a w => a.bind (wstep W H w)) (none : Option Nat) = none := fun K => by
        induction K with
        | nil => rfl
        | cons x K ih => exact ih
      rw [this] at e'
      cases e'
    | some b =>
      rw [hs] at e'
      exact wpos_ok hW hH h K c b (wstep_ok hW hH ha hs) e'
theorem wpos_sp {W H c0 c : Nat} (hW : W ≤ 8) (hH : H ≤ 7) (h : spW W H c0) {K : List Nat} (e : wpos W H c0 K = some c) : spW W H c := wpos_ok hW hH h K c c0 h e
theorem plK_app (W H c0 cm : Nat) (K : List Nat) (w m : Nat) : plK W H c0 cm (K ++ [w]) m = if m = cm + K.length + 1 then enc (wpos W H c0 (K ++ [w])) else plK W H c0 cm K m := by
  unfold plK
  rw [List.length_append]
  show (if cm ≤ m ∧ m - cm ≤ K.length + 1 then _ else _) = _
  by_cases a : m = cm + K.length + 1
  · rw [if_pos a, if_pos (by omega), List.take_of_length_le (by rw [List.length_append]; show K.length + 1 ≤ _; omega)]
  · rw [if_neg a]
    by_cases b : cm ≤ m ∧ m - cm ≤ K.length
    · rw [if_pos b, if_pos (by omega), List.take_append_of_le_length b.2]
    · rw [if_neg b, if_neg (by omega)]
theorem plK_off {W H c0 cm : Nat} {K : List Nat} (h : wpos W H c0 K = none) (w m : Nat) : plK W H c0 cm (K ++ [w]) m = plK W H c0 cm K m := by
  rw [plK_app]
  by_cases a : m = cm + K.length + 1
  · rw [if_pos a, wpos_app, h]
    unfold plK
    rw [if_neg (by omega)]
    rfl
  · rw [if_neg a]
theorem plK_nil (W H c0 cm m : Nat) : plK W H c0 cm [] m = if m = cm then nI c0 else -1 := by
  unfold plK
  by_cases a : m = cm
  · rw [if_pos a, if_pos ⟨by omega, by simp; omega⟩, List.take_nil]; rfl
  · rw [if_neg a, if_neg (fun z => a (by have := z.2; simp at this; omega))]
section PURE
variable {σ : zG}
theorem m_stepTo (hI : Inv (σ.1 1 0)) {w c : Nat} (hw : 103 ≤ w ∧ w ≤ 107) (hc : spW (aW (σ.1 1 0)) (aH (σ.1 1 0)) c) : f_X12_steppedTo (nI c) (nI (w - 92)) σ = some (enc (wstep (aW (σ.1 1 0)) (aH (σ.1 1 0)) w c)) := by
  have hW := hI.1
  have hH := hI.2.1
  have hc64 : c < 64 := by unfold spW at hc; omega
  have er : zrem (nI c) 8 = nI (c % 8) := zrem_nI (d := 8) (by omega) (by decide) (by decide)
  have ed : nI c / 8 = nI (c / 8) := pk_div (d := 8) (by omega) (by decide) (by decide)
  have neg : ∀ y : Int32, f_X12_isAt (-1) y σ = some 0 := fun y => by
    unfold f_X12_isAt f_X12_isIn
    rw [if_neg (show ¬ (0 : Int32) ≤ -1 by decide), if_pos rfl]
  have neg2 : ∀ x : Nat, x < 2 ^ 30 → f_X12_isAt (nI x) (-1) σ = some 0 := fun x hx => by
    unfold f_X12_isAt
    by_cases q : f_X12_isIn (nI x) 0 (σ.1 1 0 30 - 1) = 0
    · rw [if_pos q]
    · rw [if_neg q]
      unfold f_X12_isIn
      rw [if_neg (show ¬ (0 : Int32) ≤ -1 by decide), if_pos rfl]
  have e8 : ∀ x y : Nat, (8 : Int32) * nI y + nI x = nI (8 * y + x) := fun x y => by
    have : (8 : Int32) * nI y = nI (8 * y) := pk_mul 8 y
    rw [this, nI_add]
  unfold spW at hc
  have e0 : ∀ x : Nat, nI x + (0 : Int32) = nI x := fun x => nI_add x 0
  have h5 : w = 103 ∨ w = 104 ∨ w = 105 ∨ w = 106 ∨ w = 107 := by omega
  unfold f_X12_steppedTo j_X12_steppedTo_25 j_X12_steppedTo_52 wstep
  rw [er, ed]
  rcases h5 with rfl | rfl | rfl | rfl | rfl
  · rw [if_neg (by decide), if_neg (by decide), if_neg (by decide), if_neg (by decide), e0, e0, m_isAt hI (by omega) (by omega), Option.bind_some, decide_eq_true hc.1, decide_eq_true hc.2]
    rw [if_neg (show ¬ zt (true && true) = 0 by decide), e8, if_neg (by decide), if_neg (by decide), if_neg (by decide), if_neg (by decide), show 8 * (c / 8) + c % 8 = c by omega]
    rfl
  · rw [if_neg (by decide), if_neg (by decide), if_neg (by decide), if_pos (by decide), e0, if_neg (by decide), if_neg (by decide), if_neg (by decide), if_pos rfl]
    by_cases b : 1 ≤ c / 8
    · rw [pm1 b, m_isAt hI (by omega) (by omega), Option.bind_some, decide_eq_true hc.1, decide_eq_true (show c / 8 - 1 < aH (σ.1 1 0) by omega), if_neg (show ¬ zt (true && true) = 0 by decide), e8, if_pos b, show 8 * (c / 8 - 1) + c % 8 = c - 8 by omega]
      rfl
    · have : c / 8 = 0 := by omega
      rw [if_neg b, this, show nI 0 + (-1 : Int32) = -1 by decide, neg2 _ (by omega), Option.bind_some, if_pos rfl]
      rfl
  · rw [if_pos (by decide), if_neg (by decide), if_neg (by decide), e0, if_pos rfl, nI_1, m_isAt hI (by omega) (by omega), Option.bind_some, decide_eq_true hc.2, Bool.and_true, e8]
    by_cases b : c % 8 + 1 < aW (σ.1 1 0)
    · rw [decide_eq_true b, if_neg (show ¬ zt true = 0 by decide), if_pos b, show 8 * (c / 8) + (c % 8 + 1) = c + 1 by omega]
      rfl
    · rw [decide_eq_false b, if_pos (show zt false = 0 from rfl), if_neg b]
      rfl
  · rw [if_neg (by decide), if_neg (by decide), if_pos (by decide), e0, nI_1, m_isAt hI (by omega) (by omega), Option.bind_some, decide_eq_true hc.1, Bool.true_and, e8, if_neg (show ¬ (106 = 105) by decide), if_neg (show ¬ (106 = 107) by decide), if_pos (show 106 = 106 from rfl)]
    by_cases b : c / 8 + 1 < aH (σ.1 1 0)
    · rw [decide_eq_true b, if_neg (show ¬ zt true = 0 by decide), if_pos b, show 8 * (c / 8 + 1) + c % 8 = c + 8 by omega]
      rfl
    · rw [decide_eq_false b, if_pos (show zt false = 0 from rfl), if_neg b]
      rfl
  · rw [if_neg (by decide), if_pos (by decide), if_neg (by decide), if_neg (by decide), e0, if_neg (by decide), if_pos rfl]
    by_cases b : 1 ≤ c % 8
    · rw [pm1 b, m_isAt hI (by omega) (by omega), Option.bind_some, decide_eq_true hc.2, decide_eq_true (show c % 8 - 1 < aW (σ.1 1 0) by omega), if_neg (show ¬ zt (true && true) = 0 by decide), e8, if_pos b, show 8 * (c / 8) + (c % 8 - 1) = c - 1 by omega]
      rfl
    · have : c % 8 = 0 := by omega
      rw [if_neg b, this, show nI 0 + (-1 : Int32) = -1 by decide, neg, Option.bind_some, if_pos rfl]
      rfl
end PURE
