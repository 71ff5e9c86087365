/-! PURE LAYER: the class walks all ways -/
section PURE
variable {σ σ' b s : zG} {i0 W H c0 cm c N : Nat} {p p' : Nat → Int32} {K : List Nat} {P : List (Nat × Nat)}
theorem plK_stop {x : Nat} (h : wpos W H c0 (K ++ [x]) = none) (K' : List Nat) (m : Nat) : plK W H c0 cm (K ++ [x] ++ K') m = plK W H c0 cm K m := by
  rw [plK_none h, plK_app]
  by_cases a : m = cm + K.length + 1
  · rw [if_pos a, h]
    unfold plK
    rw [if_neg (by omega)]
    rfl
  · rw [if_neg a]
theorem plK_out {m : Nat} (h : cm + K.length < m) : plK W H c0 cm K m = -1 := by
  unfold plK
  rw [if_neg (by omega)]
theorem ways_app2 (A B : List (Nat × Nat)) : ways (A ++ B) = ways A ++ ways B := List.flatMap_append
theorem getD_at {α : Type} {P : List α} {j : Nat} (hj : j < P.length) (d : α) : P.getD j d = P[j] := by
  rw [List.getD_eq_getElem?_getD, List.getElem?_eq_getElem hj]
  rfl
theorem rep_split {x l v : Nat} (K K' : List Nat) (hv : v ≤ l) : K ++ List.replicate l x ++ K' = K ++ List.replicate v x ++ (List.replicate (l - v) x ++ K') := by
  rw [← List.append_assoc, List.append_assoc K, List.append_assoc K, List.replicate_append_replicate, show v + (l - v) = l by omega, List.append_assoc]
theorem rep_split1 {x l v : Nat} (K K' : List Nat) (hv : v < l) : K ++ List.replicate l x ++ K' = K ++ List.replicate v x ++ [x] ++ (List.replicate (l - v - 1) x ++ K') := by
  rw [rep_split K K' (Nat.le_of_lt hv)]
  have e : l - v = (l - v - 1) + 1 := by omega
  have e2 : List.replicate (l - v) x = x :: List.replicate (l - v - 1) x := by
    rw [e, List.replicate_succ]
    rfl
  rw [e2, List.append_assoc (K ++ List.replicate v x) [x]]
  rfl
theorem c_partL {p2 v8 : Int32} {x l : Nat} (hi : i0 < 12) (ei : p2 = nI i0) (hW : W ≤ 8) (hH : H ≤ 7) (hsp : spW W H c0) (hx : 103 ≤ x ∧ x ≤ 107) (hl : l ≤ 60) {s6 : zG} (h19 : s6.1 19 0 (p2 * (8 : Int32) + v8).toNatClampNeg = nI x) (h20 : s6.1 20 0 (p2 * (8 : Int32) + v8).toNatClampNeg = nI l) (hmn : cm + K.length ≤ 500) (hc : wpos W H c0 K = some c) (hR : CR i0 (plK W H c0 cm K) b s6) :
    ∃ r, zlp (fun q : Int32 × Int32 × Int32 × Int32 × zG => b_X5_follow_97 s6 0 p2 v8 (nI W) (nI H) 0 q.1 q.2.1 q.2.2.1 q.2.2.2.1 q.2.2.2.2) (nI (cm + K.length), nI (c % 8), nI (c / 8), (0 : Int32), s6) = some r ∧ ((∃ s', r = Sum.inl s' ∧ ∀ K', CR i0 (plK W H c0 cm (K ++ List.replicate l x ++ K')) b s') ∨ ∃ c' s', r = Sum.inr (nI (cm + (K ++ List.replicate l x).length), nI (c' % 8), nI (c' / 8), s') ∧ cm + (K ++ List.replicate l x).length ≤ 500 ∧ wpos W H c0 (K ++ List.replicate l x) = some c' ∧ CR i0 (plK W H c0 cm (K ++ List.replicate l x)) b s') := by
  refine zlp_run (f := fun q : Int32 × Int32 × Int32 × Int32 × zG => b_X5_follow_97 s6 0 p2 v8 (nI W) (nI H) 0 q.1 q.2.1 q.2.2.1 q.2.2.2.1 q.2.2.2.2) l (fun v q => ∃ c' s', q = (nI (cm + (K ++ List.replicate v x).length), nI (c' % 8), nI (c' / 8), nI v, s') ∧ cm + (K ++ List.replicate v x).length ≤ 500 ∧ wpos W H c0 (K ++ List.replicate v x) = some c' ∧ CR i0 (plK W H c0 cm (K ++ List.replicate v x)) b s') (fun r => (∃ s', r = Sum.inl s' ∧ ∀ K', CR i0 (plK W H c0 cm (K ++ List.replicate l x ++ K')) b s') ∨ ∃ c' s', r = Sum.inr (nI (cm + (K ++ List.replicate l x).length), nI (c' % 8), nI (c' / 8), s') ∧ cm + (K ++ List.replicate l x).length ≤ 500 ∧ wpos W H c0 (K ++ List.replicate l x) = some c' ∧ CR i0 (plK W H c0 cm (K ++ List.replicate l x)) b s') ?_ ?_ ?_
  · rw [List.replicate_zero, List.append_nil]
    exact ⟨c, s6, rfl, hmn, hc, hR⟩
  · rintro v hv q ⟨c', s', rfl, hm, hc', hR'⟩
    have hsc := wpos_sp hW hH hsp hc'
    have st := c_fstep (s := s') (s6 := s6) (p1 := 0) (p2 := p2) (v8 := v8) (x := x) (l := l) (v := v) hW hH hx hsc hm hl hv h19 h20
    by_cases q : cm + (K ++ List.replicate v x).length + 1 ≤ 500
    · rw [if_pos q] at st
      have ew : wpos W H c0 (K ++ List.replicate v x ++ [x]) = wstep W H x c' := by rw [wpos_app, hc']; rfl
      cases ws : wstep W H x c' with
      | none =>
        left
        rw [ws] at st ew
        refine ⟨Sum.inl s', st, Or.inl ⟨s', rfl, fun K' => hR'.cong fun m hm' => ?_⟩⟩
        rw [rep_split1 K K' hv]
        exact plK_stop ew _ m
      | some c2 =>
        right
        rw [ws] at st ew
        have h2 := wpos_sp hW hH hsp ew
        have c64 : c2 < 64 := by unfold spW at h2; omega
        obtain ⟨s2, m1, m2⟩ := c_mark hR' hi (m0 := cm + (K ++ List.replicate v x).length + 1) (c := c2) (by omega) c64 (plK_out (by omega))
        have st' : b_X5_follow_97 s6 0 p2 v8 (nI W) (nI H) 0 (nI (cm + (K ++ List.replicate v x).length)) (nI (c' % 8)) (nI (c' / 8)) (nI v) s' = (f_X5_mark 0 p2 (nI (cm + (K ++ List.replicate v x).length + 1)) (nI c2) s').bind (fun q => some (Sum.inl (nI (cm + (K ++ List.replicate v x).length + 1), nI (c2 % 8), nI (c2 / 8), nI (v + 1), q))) := st
        rw [ei, m1, Option.bind_some, ← ei] at st'
        have er : K ++ List.replicate (v + 1) x = K ++ List.replicate v x ++ [x] := by rw [List.replicate_succ', ← List.append_assoc]
        have el : (K ++ List.replicate (v + 1) x).length = (K ++ List.replicate v x).length + 1 := by rw [er, List.length_append]; rfl
        refine ⟨_, st', c2, s2, ?_, ?_, ?_, ?_⟩
        · rw [el]; rfl
        · rw [el]; exact q
        · rw [er]; exact ew
        · rw [er]
          refine m2.cong fun m hm' => ?_
          rw [plK_app, ew]
          rfl
    · rw [if_neg q] at st
      refine Or.inl ⟨Sum.inl s', st, Or.inl ⟨s', rfl, fun K' => hR'.cong fun m hm' => ?_⟩⟩
      rw [rep_split K K' (Nat.le_of_lt hv)]
      exact plK_late (by omega) hm' _
  · rintro q ⟨c', s', rfl, hm, hc', hR'⟩
    refine ⟨Sum.inr (nI (cm + (K ++ List.replicate l x).length), nI (c' % 8), nI (c' / 8), s'), ?_, Or.inr ⟨c', s', rfl, hm, hc', hR'⟩⟩
    show b_X5_follow_97 s6 0 p2 v8 (nI W) (nI H) 0 (nI (cm + (K ++ List.replicate l x).length)) (nI (c' % 8)) (nI (c' / 8)) (nI l) s' = _
    unfold b_X5_follow_97
    rw [h20, if_neg (nI_nlt (Nat.le_refl l) (by omega))]
theorem c_follow (hi : i0 < 12) (hW : W ≤ 8) (hH : H ≤ 7) (hcm : cm ≤ 500) (hsp : spW W H c0) (ok : okP P) (hP : WP σ 0 i0 P) (h16 : σ.1 16 0 i0 = nI cm) (h17 : σ.1 17 0 i0 = nI c0) (hR : CR i0 (fun _ => -1) σ σ) : ∃ s, f_X5_follow 0 0 (nI i0) (nI W) (nI H) σ = some s ∧ CR i0 (plK W H c0 cm (ways P)) σ s := by
  have c64 : c0 < 64 := by unfold spW at hsp; omega
  have er : zrem (nI c0) 8 = nI (c0 % 8) := zrem_nI (d := 8) (by omega) (by decide) (by decide)
  have ed : nI c0 / 8 = nI (c0 / 8) := pk_div (d := 8) (by omega) (by decide) (by decide)
  have e8 : nI (c0 / 8) * (8 : Int32) = nI (c0 / 8 * 8) := pk_mul (c0 / 8) 8
  obtain ⟨s1, m1, m2⟩ := c_mark hR hi (m0 := cm) (c := c0) (by omega) c64 rfl
  have m3 : CR i0 (plK W H c0 cm []) σ s1 := m2.cong fun m hm => plK_nil W H c0 cm m
  unfold f_X5_follow
  rw [zin_ok hi (by decide), nI_clamp (show i0 < 2 ^ 31 by omega), h16, h17, er, ed, e8, nI_add, show c0 / 8 * 8 + c0 % 8 = c0 by omega]
  simp only [zgT]
  rw [m1, Option.bind_some]
  have key : ∀ j, nI i0 * (8 : Int32) + nI j = nI (8 * i0 + j) := fun j => by
    have : nI i0 * (8 : Int32) = nI (i0 * 8) := pk_mul i0 8
    rw [this, Nat.mul_comm, nI_add]
  have lp : ∃ r, zlp (fun q : Int32 × Int32 × Int32 × Int32 × zG => b_X5_follow_48 (nI i0) 0 (nI W) (nI H) 0 q.1 q.2.1 q.2.2.1 q.2.2.2.1 q.2.2.2.2) (nI cm, nI (c0 % 8), nI (c0 / 8), (0 : Int32), s1) = some r ∧ ∃ s', (r = Sum.inl s' ∨ r = Sum.inr s') ∧ CR i0 (plK W H c0 cm (ways P)) σ s' := by
    refine zlp_run (f := fun q : Int32 × Int32 × Int32 × Int32 × zG => b_X5_follow_48 (nI i0) 0 (nI W) (nI H) 0 q.1 q.2.1 q.2.2.1 q.2.2.2.1 q.2.2.2.2) P.length (fun j q => ∃ c' s', q = (nI (cm + (ways (P.take j)).length), nI (c' % 8), nI (c' / 8), nI j, s') ∧ cm + (ways (P.take j)).length ≤ 500 ∧ wpos W H c0 (ways (P.take j)) = some c' ∧ CR i0 (plK W H c0 cm (ways (P.take j))) σ s') (fun r => ∃ s', (r = Sum.inl s' ∨ r = Sum.inr s') ∧ CR i0 (plK W H c0 cm (ways P)) σ s') ?_ ?_ ?_
    · exact ⟨c0, s1, rfl, hcm, rfl, m3⟩
    · rintro j hj q ⟨c', s', rfl, hm, hc', hR'⟩
      have hP8 := hP.2.1
      have o : ∀ f k, f ≠ 21 → s'.1 f 0 k = σ.1 f 0 k := fun f k hf => hR'.1 f 0 k (fun z => hf z.1)
      have hmem : P.getD j (0, 0) ∈ P := by
        rw [getD_at hj]
        exact List.getElem_mem hj
      have hok := ok _ hmem
      have eT : ways (P.take (j + 1)) = ways (P.take j) ++ List.replicate (P.getD j (0, 0)).2 (P.getD j (0, 0)).1 := by
        rw [List.take_succ_eq_append_getElem hj, getD_at hj]
        exact ways_app _ _ _
      have h19 : s'.1 19 0 (nI i0 * (8 : Int32) + nI j).toNatClampNeg = nI (P.getD j (0, 0)).1 := by
        rw [key, nI_clamp (show 8 * i0 + j < 2 ^ 31 by omega), o 19 _ (by decide)]
        exact (hP.2.2 j hj).1
      have h20 : s'.1 20 0 (nI i0 * (8 : Int32) + nI j).toNatClampNeg = nI (P.getD j (0, 0)).2 := by
        rw [key, nI_clamp (show 8 * i0 + j < 2 ^ 31 by omega), o 20 _ (by decide)]
        exact (hP.2.2 j hj).2
      obtain ⟨r, r1, r2⟩ := c_partL (p2 := nI i0) (v8 := nI j) hi rfl hW hH hsp hok.1 hok.2.2 h19 h20 hm hc' hR'
      have hb : b_X5_follow_48 (nI i0) 0 (nI W) (nI H) 0 (nI (cm + (ways (P.take j)).length)) (nI (c' % 8)) (nI (c' / 8)) (nI j) s' = (some r).bind (Sum.elim (fun e25 : zG => some (Sum.inr (Sum.inl e25))) (fun e26 : Int32 × Int32 × Int32 × zG => some (Sum.inl (e26.1, e26.2.1, e26.2.2.1, (nI j + 1), e26.2.2.2)))) := by
        unfold b_X5_follow_48
        rw [zin_ok hi (by decide), nI_clamp (show i0 < 2 ^ 31 by omega), o 18 _ (by decide), hP.1, if_pos (nI_lt hj (by omega)), if_pos (show nI j < (8 : Int32) from nI_lt (b := 8) (by omega) (by decide)), r1, key, zin_ok (show 8 * i0 + j < 96 by omega) (by decide)]
        rfl
      rcases r2 with ⟨s2, rfl, hall⟩ | ⟨c2, s2, rfl, hm2, hc2, hR2⟩
      · left
        refine ⟨Sum.inl s2, hb, s2, Or.inl rfl, ?_⟩
        have e : ways P = ways (P.take j) ++ List.replicate (P.getD j (0, 0)).2 (P.getD j (0, 0)).1 ++ ways (P.drop (j + 1)) := by
          rw [← eT, ← ways_app2, List.take_append_drop]
        rw [e]
        exact hall _
      · right
        refine ⟨(nI (cm + (ways (P.take (j + 1))).length), nI (c2 % 8), nI (c2 / 8), nI (j + 1), s2), ?_, c2, s2, rfl, ?_, ?_, ?_⟩
        · rw [eT, ← nI_1 j]; exact hb
        · rw [eT]; exact hm2
        · rw [eT]; exact hc2
        · rw [eT]; exact hR2
    · rintro q ⟨c', s', rfl, hm, hc', hR'⟩
      have o : ∀ f k, f ≠ 21 → s'.1 f 0 k = σ.1 f 0 k := fun f k hf => hR'.1 f 0 k (fun z => hf z.1)
      have hP8 := hP.2.1
      refine ⟨Sum.inr s', ?_, s', Or.inr rfl, ?_⟩
      · show b_X5_follow_48 (nI i0) 0 (nI W) (nI H) 0 _ _ _ (nI P.length) s' = _
        unfold b_X5_follow_48
        rw [zin_ok hi (by decide), nI_clamp (show i0 < 2 ^ 31 by omega), o 18 _ (by decide), hP.1, if_neg (nI_nlt (Nat.le_refl _) (by omega))]
        rfl
      · rw [List.take_length] at hR'
        exact hR'
  obtain ⟨r, r1, s', r2, r3⟩ := lp
  rw [r1, Option.bind_some]
  rcases r2 with rfl | rfl
  · exact ⟨s', rfl, r3⟩
  · exact ⟨s', rfl, r3⟩
/-- all walkers walk -/
theorem c_walk (hW : W ≤ 8) (hH : H ≤ 7) (hN : N ≤ 12) (h8 : σ.1 8 0 0 = nI N) (r : Nat → Nat → Int32) (hD : ∀ i, i < N → ∃ (cm c : Nat) (P : List (Nat × Nat)), cm ≤ 500 ∧ spW W H c ∧ okP P ∧ σ.1 16 0 i = nI cm ∧ σ.1 17 0 i = nI c ∧ WP σ 0 i P ∧ ∀ m, m < 501 → r i m = plK W H c cm (ways P) m) : ∃ s, f_X5_walk 0 0 (nI W) (nI H) σ = some s ∧ (∀ f i k, ¬ (f = 21 ∧ i = 0) → s.1 f i k = σ.1 f i k) ∧ (∀ f i k, ¬ (f = 22 ∧ i = 0) → s.2 f i k = σ.2 f i k) ∧ (∀ i, i < N → ∀ m, m < 501 → s.1 21 0 (501 * i + m) = r i m) ∧ ∀ m, m < 501 → ∀ c, c < 64 → (lb (s.2 22 0 m) c = true ↔ ∃ i, i < N ∧ r i m = nI c) := by
  have lp : ∃ s, zlp (fun q : Int32 × zG => b_X5_walk_7 0 0 (nI W) (nI H) q.1 q.2) ((0 : Int32), f_X5_clear 0 σ) = some s ∧ ((∀ f i k, ¬ (f = 21 ∧ i = 0) → s.1 f i k = σ.1 f i k) ∧ (∀ f i k, ¬ (f = 22 ∧ i = 0) → s.2 f i k = σ.2 f i k) ∧ (∀ i, i < N → ∀ m, m < 501 → s.1 21 0 (501 * i + m) = r i m) ∧ ∀ m, m < 501 → ∀ c, c < 64 → (lb (s.2 22 0 m) c = true ↔ ∃ i, i < N ∧ r i m = nI c)) := by
    refine zlp_run (f := fun q : Int32 × zG => b_X5_walk_7 0 0 (nI W) (nI H) q.1 q.2) N (fun v q => q.1 = nI v ∧ (∀ f i k, ¬ (f = 21 ∧ i = 0) → q.2.1 f i k = σ.1 f i k) ∧ (∀ f i k, ¬ (f = 22 ∧ i = 0) → q.2.2 f i k = σ.2 f i k) ∧ (∀ i, i < v → ∀ m, m < 501 → q.2.1 21 0 (501 * i + m) = r i m) ∧ (∀ i, v ≤ i → i < 12 → ∀ m, m < 501 → q.2.1 21 0 (501 * i + m) = -1) ∧ ∀ m, m < 501 → ∀ c, c < 64 → (lb (q.2.2 22 0 m) c = true ↔ ∃ i, i < v ∧ r i m = nI c)) _ ?_ ?_ ?_
    · refine ⟨rfl, fun f i k hn => ?_, fun f i k hn => ?_, fun i hi => absurd hi (Nat.not_lt_zero i), fun i _ hi m hm => ?_, fun m hm c hc => ?_⟩
      · show (if f = 21 ∧ i = 0 ∧ k < 6012 then (-1 : Int32) else σ.1 f i k) = _
        rw [if_neg (fun z => hn ⟨z.1, z.2.1⟩)]
      · show (if f = 22 ∧ i = 0 ∧ k < 501 then (0 : Int64) else σ.2 f i k) = _
        rw [if_neg (fun z => hn ⟨z.1, z.2.1⟩)]
      · show (if 21 = 21 ∧ 0 = 0 ∧ 501 * i + m < 6012 then (-1 : Int32) else σ.1 21 0 (501 * i + m)) = _
        rw [if_pos ⟨rfl, rfl, by omega⟩]
      · show lb (if 22 = 22 ∧ 0 = 0 ∧ m < 501 then (0 : Int64) else σ.2 22 0 m) c = true ↔ _
        rw [if_pos ⟨rfl, rfl, hm⟩, lb_0]
        constructor
        · intro z; cases z
        · rintro ⟨i, hi, -⟩; exact absurd hi (Nat.not_lt_zero i)
    · rintro v hv ⟨i, s⟩ ⟨hi, o1, o2, o3, o4, o5⟩
      have hi' : i = nI v := hi
      subst hi'
      have o1' : ∀ f i k, ¬ (f = 21 ∧ i = 0) → s.1 f i k = σ.1 f i k := o1
      have o2' : ∀ f i k, ¬ (f = 22 ∧ i = 0) → s.2 f i k = σ.2 f i k := o2
      obtain ⟨cm, c, P, d1, d2, d3, d4, d5, d6, d7⟩ := hD v hv
      have q : ∀ f k, f ≠ 21 → s.1 f 0 k = σ.1 f 0 k := fun f k hf => o1' f 0 k (fun z => hf z.1)
      have hP : WP s 0 v P := ⟨by rw [q 18 _ (by decide)]; exact d6.1, d6.2.1, fun j hj => by rw [q 19 _ (by decide), q 20 _ (by decide)]; exact d6.2.2 j hj⟩
      have hR : CR v (fun _ => -1) s s := ⟨fun _ _ _ _ => rfl, fun _ _ _ _ => rfl, fun m hm => o4 v (Nat.le_refl v) (by omega) m hm, fun m hm c hc => ⟨fun z => Or.inl z, fun z => by
        rcases z with z | z
        · exact z
        · rw [m1_nI (by omega)] at z; exact z.elim⟩⟩
      obtain ⟨s2, e2, hR2⟩ := c_follow (by omega) hW hH d1 d2 d3 hP (by rw [q 16 _ (by decide)]; exact d4) (by rw [q 17 _ (by decide)]; exact d5) hR
      refine Or.inr ⟨(nI (v + 1), s2), ?_, rfl, fun f i k hn => ?_, fun f i k hn => ?_, fun i hi m hm => ?_, fun i h1 h2 m hm => ?_, fun m hm c' hc' => ?_⟩
      · show b_X5_walk_7 0 0 (nI W) (nI H) (nI v) s = _
        unfold b_X5_walk_7
        rw [q 8 _ (by decide), h8, if_pos (nI_lt hv (by omega)), if_pos (show nI v < (12 : Int32) from nI_lt (b := 12) (by omega) (by decide)), e2, Option.bind_some, nI_1]
      · show s2.1 f i k = _
        rw [hR2.1 f i k (fun z => hn ⟨z.1, z.2.1⟩)]
        exact o1' f i k hn
      · show s2.2 f i k = _
        rw [hR2.2.1 f i k hn]
        exact o2' f i k hn
      · show s2.1 21 0 (501 * i + m) = _
        by_cases e : i = v
        · rw [e, hR2.2.2.1 m hm, d7 m hm]
        · rw [hR2.1 21 0 _ (fun z => by omega)]
          exact o3 i (by omega) m hm
      · show s2.1 21 0 (501 * i + m) = _
        rw [hR2.1 21 0 _ (fun z => by omega)]
        exact o4 i (by omega) h2 m hm
      · show lb (s2.2 22 0 m) c' = true ↔ _
        rw [hR2.2.2.2 m hm c' hc', ← d7 m hm]
        have := o5 m hm c' hc'
        constructor
        · rintro (z | z)
          · obtain ⟨i, hi, e⟩ := this.mp z
            exact ⟨i, by omega, e⟩
          · exact ⟨v, by omega, z⟩
        · rintro ⟨i, hi, e⟩
          by_cases ei : i = v
          · rw [ei] at e; exact Or.inr e
          · exact Or.inl (this.mpr ⟨i, by omega, e⟩)
    · rintro ⟨i, s⟩ ⟨hi, o1, o2, o3, o4, o5⟩
      have hi' : i = nI N := hi
      subst hi'
      refine ⟨s, ?_, o1, o2, o3, o5⟩
      show b_X5_walk_7 0 0 (nI W) (nI H) (nI N) s = _
      unfold b_X5_walk_7
      have q : s.1 8 0 0 = nI N := by
        have := o1 8 0 0 (fun z => absurd z.1 (by decide))
        exact this.trans h8
      rw [q, if_neg (nI_nlt (Nat.le_refl N) (by omega))]
  obtain ⟨s, e, h⟩ := lp
  refine ⟨s, ?_, h⟩
  unfold f_X5_walk
  simp only [zb]
  rw [e, Option.bind_some]
end PURE
