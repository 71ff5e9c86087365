/-! PURE LAYER: the model's next word -/
def sgI (x : Int32) : Bool := decide (x = 59) || (decide (x = 43) || (decide (x = 45) || (decide (x = 42) || (decide (x = 47) || (decide (x = 40) || (decide (x = 41) || (decide (x = 60) || (decide (x = 61) || decide (x = 62)))))))))
theorem sgI_ch {α : Type} (x : Int32) (X Y : α) : (if x = (59 : Int32) then X else if x = (43 : Int32) then X else if x = (45 : Int32) then X else if x = (42 : Int32) then X else if x = (47 : Int32) then X else if x = (40 : Int32) then X else if x = (41 : Int32) then X else if x = (60 : Int32) then X else if x = (61 : Int32) then X else if x = (62 : Int32) then X else Y) = if sgI x then X else Y := by
  have st : ∀ (c : Prop) [Decidable c] (b : Bool) (X Y : α), (if (decide c || b) = true then X else Y) = if c then X else if b then X else Y := fun c _ b X Y => by
    by_cases d : c
    · rw [decide_eq_true d, if_pos d]; rfl
    · rw [decide_eq_false d, if_neg d]; rfl
  unfold sgI
  rw [st, st, st, st, st, st, st, st, st]
  by_cases d : x = 62
  · rw [if_pos d, if_pos (decide_eq_true d)]
  · rw [if_neg d, if_neg (show ¬ decide (x = 62) = true by simpa using d)]
theorem sgI_v : ∀ v, v < 256 → sgI (nI v) = sgn v := by decide +kernel
section PURE
variable {σ σ' : zG} {B : Nat → Nat} {n p q e r : Nat}
theorem mt_n (h : MT σ B n r) (hf : FrA arN σ σ') : MT σ' B n r := mt_fr h hf rfl rfl (fun _ => rfl)
theorem m_blank (h : MT σ B n r) (ha : σ.1 0 0 17 = nI p) (hp : p ≤ n) : zlp (fun q : zG => b_X12_next0_0 q) σ = some (zwI σ 0 0 17 (nI (spn B n blk p))) := by
  have hn := h.1
  have := spn_loop (B := B) (P := blk) (f := fun q : zG => b_X12_next0_0 q) (fun i => zwI σ 0 0 17 (nI i)) hp (fun i hi hin => by
    have hm : MT (zwI σ 0 0 17 (nI i)) B n r := mt_n h (fra_w rfl)
    have hb := h.2.2.1 i hin
    have e1 : (zwI σ 0 0 17 (nI i)).1 0 0 17 = nI i := by rw [zw_at, if_pos ⟨rfl, rfl, rfl⟩]
    show b_X12_next0_0 (zwI σ 0 0 17 (nI i)) = _
    unfold b_X12_next0_0
    have c32 : (nI (B i) = (32 : Int32)) = (B i = 32) := nI_eqI (b := 32) (by omega) (by decide)
    have c10 : (nI (B i) = (10 : Int32)) = (B i = 10) := nI_eqI (b := 10) (by omega) (by decide)
    rw [e1, m_see hm (Nat.le_of_lt hin), if_pos hin, Option.bind_some, Option.bind_some]
    simp only [c32, c10, zb, zw_zw, nI_1]
    unfold blk
    by_cases a : B i = 32 <;> by_cases b : B i = 10 <;> simp [a, b]) (by
    have hm : MT (zwI σ 0 0 17 (nI n)) B n r := mt_n h (fra_w rfl)
    have e1 : (zwI σ 0 0 17 (nI n)).1 0 0 17 = nI n := by rw [zw_at, if_pos ⟨rfl, rfl, rfl⟩]
    show b_X12_next0_0 (zwI σ 0 0 17 (nI n)) = _
    unfold b_X12_next0_0
    rw [e1, m_see hm (Nat.le_refl n), if_neg (Nat.lt_irrefl n), Option.bind_some, if_neg (by decide), Option.bind_some, if_neg (by decide)])
  rw [← this]
  show zlp _ σ = zlp _ (zwI σ 0 0 17 (nI p))
  rw [zw_self ha]
theorem m_letters (h : MT σ B n r) (ha : σ.1 0 0 17 = nI p) (hp : p ≤ n) : zlp (fun q : zG => b_X12_next0_76 q) σ = some (zwI σ 0 0 17 (nI (spn B n ltr p))) := by
  have hn := h.1
  have := spn_loop (B := B) (P := ltr) (f := fun q : zG => b_X12_next0_76 q) (fun i => zwI σ 0 0 17 (nI i)) hp (fun i hi hin => by
    have hm : MT (zwI σ 0 0 17 (nI i)) B n r := mt_n h (fra_w rfl)
    have hb := h.2.2.1 i hin
    have e1 : (zwI σ 0 0 17 (nI i)).1 0 0 17 = nI i := by rw [zw_at, if_pos ⟨rfl, rfl, rfl⟩]
    show b_X12_next0_76 (zwI σ 0 0 17 (nI i)) = _
    unfold b_X12_next0_76
    rw [e1, m_see hm (Nat.le_of_lt hin), if_pos hin, Option.bind_some, m_ltr hb.1, nI_ifB]
    simp only [zb, zw_zw, nI_1]
    cases ltr (B i) <;> rfl) (by
    have hm : MT (zwI σ 0 0 17 (nI n)) B n r := mt_n h (fra_w rfl)
    have e1 : (zwI σ 0 0 17 (nI n)).1 0 0 17 = nI n := by rw [zw_at, if_pos ⟨rfl, rfl, rfl⟩]
    show b_X12_next0_76 (zwI σ 0 0 17 (nI n)) = _
    unfold b_X12_next0_76
    rw [e1, m_see hm (Nat.le_refl n), if_neg (Nat.lt_irrefl n), Option.bind_some, if_pos (show f_X12_isLetter (-1) = 0 by decide)])
  rw [← this]
  show zlp _ σ = zlp _ (zwI σ 0 0 17 (nI p))
  rw [zw_self ha]
theorem m_digits (h : MT σ B n r) (ha : σ.1 0 0 17 = nI q) (hq : σ.1 0 0 19 = nI q) (hv : σ.1 0 0 20 = 0) (hqn : q < n) : ∃ s, zlp (fun q : zG => b_X12_next0_126 q) σ = some s ∧ FrA arN σ s ∧ s.1 0 0 17 = nI (spn B n dgt q) ∧ s.1 0 0 19 = nI q ∧ s.1 0 0 20 = nI (dval B q (min (spn B n dgt q - q) 4)) := by
  have hn := h.1
  have hs := spn_le (B := B) (P := dgt) (Nat.le_of_lt hqn)
  refine zlp_run (f := fun q : zG => b_X12_next0_126 q) (spn B n dgt q - q) (fun k s => FrA arN σ s ∧ s.1 0 0 17 = nI (q + k) ∧ s.1 0 0 19 = nI q ∧ s.1 0 0 20 = nI (dval B q (min k 4))) (fun s => FrA arN σ s ∧ s.1 0 0 17 = nI (spn B n dgt q) ∧ s.1 0 0 19 = nI q ∧ s.1 0 0 20 = nI (dval B q (min (spn B n dgt q - q) 4))) ⟨FrA.refl _ _, ha, hq, hv⟩ (by
    rintro k hk s ⟨a1, a2, a3, a4⟩
    right
    have hm : MT s B n r := mt_n h a1
    have hkn : q + k < n := by omega
    have hd := spn_in (B := B) (n := n) (P := dgt) (p := q) (i := q + k) (by omega) (by omega)
    have hb := (h.2.2.1 (q + k) hkn).1
    have hd' := hd
    unfold dgt at hd'
    simp only [Bool.and_eq_true, decide_eq_true_eq] at hd'
    show ∃ q', b_X12_next0_126 s = _ ∧ _
    unfold b_X12_next0_126
    rw [a2, m_see hm (Nat.le_of_lt hkn), if_pos hkn, Option.bind_some, m_dgt hb, Option.bind_some, hd, if_neg (show ¬ zt true = 0 by decide), a3, a4, Option.bind_some]
    have e4 : nI q + 4 = nI (q + 4) := nI_add q 4
    rw [e4]
    simp only [zb]
    by_cases c : k < 4
    · rw [if_pos (nI_lt (by omega) (by omega))]
      have e1 : (10 : Int32) * nI (dval B q (min k 4)) + nI (B (q + k)) - 48 = nI (dval B q (min (k + 1) 4)) := by
        have m1 : min k 4 = k := by omega
        have m2 : min (k + 1) 4 = k + 1 := by omega
        have a2 : (10 : Int32) * nI (dval B q k) = nI (10 * dval B q k) := pk_mul 10 _
        rw [m1, m2, a2, nI_add]
        have a1 : nI (10 * dval B q k + B (q + k)) - 48 = nI (10 * dval B q k + B (q + k) - 48) := pk_sub (b := 48) (by omega)
        rw [a1]
        show nI _ = nI (dval B q k * 10 + (B (q + k) - 48))
        congr 1
        omega
      rw [e1]
      have e2 : (zwI s 0 0 20 (nI (dval B q (min (k + 1) 4)))).1 0 0 17 = nI (q + k) := by rw [zw_at, if_neg (by decide)]; exact a2
      rw [e2, nI_1]
      refine ⟨_, rfl, (a1.w rfl).w rfl, ?_, ?_, ?_⟩
      · rw [zw_at, if_pos ⟨rfl, rfl, rfl⟩]; rfl
      · rw [zw_at, if_neg (by decide), zw_at, if_neg (by decide)]; exact a3
      · rw [zw_at, if_neg (by decide), zw_at, if_pos ⟨rfl, rfl, rfl⟩]
    · rw [if_neg (nI_nlt (by omega) (by omega)), nI_1]
      refine ⟨_, rfl, a1.w rfl, ?_, ?_, ?_⟩
      · rw [zw_at, if_pos ⟨rfl, rfl, rfl⟩]; rfl
      · rw [zw_at, if_neg (by decide)]; exact a3
      · rw [zw_at, if_neg (by decide), a4, show min k 4 = min (k + 1) 4 by omega]) (by
    rintro s ⟨a1, a2, a3, a4⟩
    have hm : MT s B n r := mt_n h a1
    have e0 : q + (spn B n dgt q - q) = spn B n dgt q := by omega
    rw [e0] at a2
    refine ⟨s, ?_, a1, a2, a3, a4⟩
    show b_X12_next0_126 s = _
    unfold b_X12_next0_126
    rw [a2, m_see hm hs.2, Option.bind_some]
    by_cases c : spn B n dgt q < n
    · rw [if_pos c, m_dgt (h.2.2.1 _ c).1, Option.bind_some, spn_end (Nat.le_of_lt hqn) c, if_pos (show zt false = 0 by decide)]
    · rw [if_neg c, m_dgt1, Option.bind_some, if_pos rfl])
theorem m_next (h : MT σ B n r) (ha : σ.1 0 0 17 = nI p) (hp : p ≤ n) : ∃ s, f_X12_next0 σ = some s ∧ FrA arN σ s ∧ s.1 0 0 17 = nI (if spn B n blk p < n then en B n (spn B n blk p) else n) ∧ s.1 0 0 19 = nI (spn B n blk p) ∧ s.1 0 0 18 = nI (if spn B n blk p < n then img r (kd B n (spn B n blk p)) else 0) ∧ (spn B n blk p < n → kd B n (spn B n blk p) = 2 → s.1 0 0 20 = nI (nm B n (spn B n blk p))) := by
  have hn := h.1
  have hs := spn_le (B := B) (P := blk) hp
  unfold f_X12_next0
  rw [m_blank h ha hp, Option.bind_some]
  generalize spn B n blk p = q at hs ⊢
  have hq17 : (zwI σ 0 0 17 (nI q)).1 0 0 17 = nI q := by rw [zw_at, if_pos ⟨rfl, rfl, rfl⟩]
  simp only [zb, hq17]
  generalize h7 : zwI (zwI σ 0 0 17 (nI q)) 0 0 19 (nI q) = s7
  have f7 : FrA arN σ s7 := by rw [← h7]; exact (fra_w rfl).w rfl
  have a7 : s7.1 0 0 17 = nI q := by rw [← h7, zw_at, if_neg (by decide)]; exact hq17
  have b7 : s7.1 0 0 19 = nI q := by rw [← h7, zw_at, if_pos ⟨rfl, rfl, rfl⟩]
  have hm : MT s7 B n r := mt_n h f7
  rw [a7, m_see hm hs.2, Option.bind_some]
  by_cases c : q < n
  · rw [if_pos c, if_pos c, if_pos c]
    have hb := (h.2.2.1 q c).1
    rw [if_neg (show ¬ nI (B q) = -1 from by rw [nI_nm1 (show B q < 2 ^ 31 by omega)]; exact id), m_ltr hb, nI_ifB, m_dgt hb, Option.bind_some, nI_ifB]
    by_cases L : ltr (B q) = true
    · have D : dgt (B q) = false := by
        cases hd : dgt (B q) with
        | false => rfl
        | true => rw [(dl_no _ hd).1] at L; cases L
      have een : en B n q = spn B n ltr q := by unfold en; rw [if_neg (by rw [D]; exact Bool.false_ne_true), if_pos L]
      have ekd : kd B n q = wkd (str B q (spn B n ltr q)) := by unfold kd; rw [if_neg (by rw [D]; exact Bool.false_ne_true), if_pos L]
      have hsl := spn_le (B := B) (P := ltr) (Nat.le_of_lt c)
      rw [if_pos L, m_letters hm a7 (Nat.le_of_lt c), Option.bind_some]
      have e1 : (zwI s7 0 0 17 (nI (spn B n ltr q))).1 0 0 17 = nI (spn B n ltr q) := by rw [zw_at, if_pos ⟨rfl, rfl, rfl⟩]
      have e2 : (zwI s7 0 0 17 (nI (spn B n ltr q))).1 0 0 19 = nI q := by rw [zw_at, if_neg (by decide)]; exact b7
      rw [m_word (mt_n hm (fra_w rfl)) e1 e2 hsl.1 hsl.2, Option.bind_some, een, ekd]
      refine ⟨_, rfl, (f7.w rfl).w rfl, ?_, ?_, ?_, ?_⟩
      · rw [zw_at, if_neg (by decide)]; exact e1
      · rw [zw_at, if_neg (by decide)]; exact e2
      · rw [zw_at, if_pos ⟨rfl, rfl, rfl⟩]
      · intro _ z
        exfalso
        unfold wkd at z
        by_cases d : fa_first (fun w => decide (zstrC.getD w [] = str B q (spn B n ltr q))) 22 < 22
        · rw [if_pos d] at z; omega
        · rw [if_neg d] at z; cases z
    · rw [if_neg L]
      by_cases D : dgt (B q) = true
      · have een : en B n q = spn B n dgt q := by unfold en; rw [if_pos D]
        have hsd := spn_le (B := B) (P := dgt) (Nat.le_of_lt c)
        rw [if_pos D, een]
        have v1 : (zwI s7 0 0 20 0).1 0 0 17 = nI q := by rw [zw_at, if_neg (by decide)]; exact a7
        have v2 : (zwI s7 0 0 20 0).1 0 0 19 = nI q := by rw [zw_at, if_neg (by decide)]; exact b7
        have v3 : (zwI s7 0 0 20 0).1 0 0 20 = 0 := by rw [zw_at, if_pos ⟨rfl, rfl, rfl⟩]
        obtain ⟨s, d1, d2, d3, d4, d5⟩ := m_digits (mt_n hm (fra_w rfl)) v1 v2 v3 c
        rw [d1, Option.bind_some, d3, d4, pk_sub hsd.1]
        have ekd : kd B n q = if spn B n dgt q - q ≤ 4 then 2 else 1 := by unfold kd; rw [if_pos D]
        have enm : nm B n q = if spn B n dgt q - q ≤ 4 then dval B q (spn B n dgt q - q) else 0 := by unfold nm; rw [if_pos D]
        rw [ekd, enm]
        by_cases w : spn B n dgt q - q ≤ 4
        · rw [if_pos (show nI (spn B n dgt q - q) < 5 from nI_lt (b := 5) (by omega) (by decide)), if_pos w, if_pos w]
          refine ⟨_, rfl, (((f7.w rfl).trans d2)).w rfl, ?_, ?_, ?_, ?_⟩
          · rw [zw_at, if_neg (by decide)]; exact d3
          · rw [zw_at, if_neg (by decide)]; exact d4
          · rw [zw_at, if_pos ⟨rfl, rfl, rfl⟩]; rfl
          · intro _ _
            rw [zw_at, if_neg (by decide), d5, show min (spn B n dgt q - q) 4 = spn B n dgt q - q by omega]
        · rw [if_neg (show ¬ nI (spn B n dgt q - q) < 5 from nI_nlt (b := 5) (by omega) (by omega)), if_neg w, if_neg w]
          refine ⟨_, rfl, (((f7.w rfl).trans d2)).w rfl, ?_, ?_, ?_, ?_⟩
          · rw [zw_at, if_neg (by decide)]; exact d3
          · rw [zw_at, if_neg (by decide)]; exact d4
          · rw [zw_at, if_pos ⟨rfl, rfl, rfl⟩]; rfl
          · intro _ z; cases z
      · have een : en B n q = q + 1 := by unfold en; rw [if_neg D, if_neg L]
        have ekd : kd B n q = if sgn (B q) then B q else 1 := by unfold kd; rw [if_neg D, if_neg L]
        rw [if_neg D, een, ekd, nI_1, sgI_ch, sgI_v _ hb]
        have e2 : ∀ x, (zwI (zwI s7 0 0 17 (nI (q + 1))) 0 0 18 x).1 0 0 17 = nI (q + 1) := fun x => by rw [zw_at, if_neg (by decide), zw_at, if_pos ⟨rfl, rfl, rfl⟩]
        have e3 : ∀ x, (zwI (zwI s7 0 0 17 (nI (q + 1))) 0 0 18 x).1 0 0 19 = nI q := fun x => by rw [zw_at, if_neg (by decide), zw_at, if_neg (by decide)]; exact b7
        have e4 : ∀ x, (zwI (zwI s7 0 0 17 (nI (q + 1))) 0 0 18 x).1 0 0 18 = x := fun x => by rw [zw_at, if_pos ⟨rfl, rfl, rfl⟩]
        by_cases g : sgn (B q) = true
        · rw [if_pos g, if_pos g]
          have g2 : 2 < B q ∧ B q < 100 := by
            unfold sgn at g
            simp only [Bool.or_eq_true, decide_eq_true_eq] at g
            omega
          refine ⟨zwI (zwI s7 0 0 17 (nI (q + 1))) 0 0 18 (100 + nI (B q)), rfl, (f7.w rfl).w rfl, e2 _, e3 _, ?_, fun _ z => absurd z (by omega)⟩
          rw [e4]
          have i1 : img r (B q) = 100 + B q := by unfold img; rw [if_neg (by omega), if_pos (by omega)]
          rw [i1]
          exact nI_add 100 _
        · rw [if_neg g, if_neg g]
          refine ⟨zwI (zwI s7 0 0 17 (nI (q + 1))) 0 0 18 1, rfl, (f7.w rfl).w rfl, e2 _, e3 _, ?_, fun _ z => absurd z (by decide)⟩
          rw [e4]
          rfl
  · have hqn : q = n := by omega
    rw [if_neg c, if_neg c, if_neg c, if_pos rfl]
    refine ⟨_, rfl, f7.w rfl, ?_, ?_, ?_, fun z => absurd z c⟩
    · rw [zw_at, if_neg (by decide), a7, hqn]
    · rw [zw_at, if_neg (by decide)]; exact b7
    · rw [zw_at, if_pos ⟨rfl, rfl, rfl⟩]; rfl
end PURE
