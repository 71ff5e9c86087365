/-! PURE LAYER: tones sorted: middle, sure -/
theorem ins_ct {a c : Nat → Int32} {v : Int32} {p n : Nat} (hp : p ≤ n) (h1 : ∀ j, j < p → c j = a j) (h2 : c p = v) (h3 : ∀ j, p < j → j ≤ n → c j = a (j - 1)) (P : Int32 → Bool) : fb_ct (fun j => P (c j)) (n + 1) = fb_ct (fun j => P (a j)) n + (if P v then 1 else 0) := by
  obtain ⟨m, rfl⟩ : ∃ m, n = p + m := ⟨n - p, by omega⟩
  rw [show p + m + 1 = p + (1 + m) by omega, fb_ct_split (fun j => P (c j)) p (1 + m), fb_ct_split (fun k => P (c (p + k))) 1 m, fb_ct_split (fun j => P (a j)) p m]
  have e1 : fb_ct (fun j => P (c j)) p = fb_ct (fun j => P (a j)) p := fb_ct_cong fun k hk => by rw [h1 k hk]
  have e2 : fb_ct (fun k => P (c (p + k))) 1 = if P v then 1 else 0 := by
    show 0 + (if P (c (p + 0)) then 1 else 0) = _
    rw [Nat.add_zero, h2, Nat.zero_add]
  have e3 : fb_ct (fun k => P (c (p + (1 + k)))) m = fb_ct (fun k => P (a (p + k))) m := fb_ct_cong fun k hk => by
    rw [h3 (p + (1 + k)) (by omega) (by omega), show p + (1 + k) - 1 = p + k by omega]
  rw [e1, e2, e3]
  omega
theorem i_trans {a b c : Int32} (h : a ≤ b) (h2 : b ≤ c) : a ≤ c := by
  rw [fa_le] at *
  omega
theorem i_lt_le {a b : Int32} (h : a < b) : a ≤ b := by
  rw [fa_le]
  rw [fa_lt] at h
  omega
theorem i_anti {a b : Int32} (h : a ≤ b) (h2 : b ≤ a) : a = b := by
  rw [fa_eq]
  rw [fa_le] at *
  omega
section PURE
variable {σ σc σm : zG} {g : zGa}
def tt (g : zGa) (i c : Nat) : Int32 := g (152 + 134 * i + 68 + c)
def sel (g : zGa) (x : Int32) (c i : Nat) : Bool := bt x i && sV g i c
def Srt (a : Nat → Int32) (n : Nat) : Prop := ∀ i j, i ≤ j → j < n → a i ≤ a j
/-- the row a of n tones is that of the chosen shots */ -/
def Row (g : zGa) (x : Int32) (c : Nat) (N : Nat) (a : Nat → Int32) (n : Nat) : Prop := Srt a n ∧ ∀ P : Int32 → Bool, fb_ct (fun j => P (a j)) n = fb_ct (fun i => sel g x c i && P (tt g i c)) N
theorem m_ins {i c n : Nat} (hi : i < 10) (hc : c < 64) (hn : n < 10) (hs : Srt (σ.1 12 0) n) (hm : σ.1 0 0 31 = nI n) : ∃ s' p, zlp (fun q : Int32 × zG => b_X12_laysTones_43 (nI i) (nI c) q.1 q.2) (nI n, σ) = some (nI p, s') ∧ p ≤ n ∧ Smf 12 σ s' ∧ (p = 0 ∨ σ.1 12 0 (p - 1) ≤ tt (σ.1 1 0) i c) ∧ (∀ j, p ≤ j → j < n → tt (σ.1 1 0) i c < σ.1 12 0 j) ∧ ∀ j, s'.1 12 0 j = if p < j ∧ j ≤ n then σ.1 12 0 (j - 1) else σ.1 12 0 j := by
  obtain ⟨r, e, p, s', rfl, h1, h2, h3, h4, h5⟩ := zlp_run (f := fun q : Int32 × zG => b_X12_laysTones_43 (nI i) (nI c) q.1 q.2) n (fun d q => q.1 = nI (n - d) ∧ Smf 12 σ q.2 ∧ (∀ j, n - d ≤ j → j < n → tt (σ.1 1 0) i c < σ.1 12 0 j) ∧ ∀ j, q.2.1 12 0 j = if n - d < j ∧ j ≤ n then σ.1 12 0 (j - 1) else σ.1 12 0 j) (fun r => ∃ p s', r = (nI p, s') ∧ p ≤ n ∧ Smf 12 σ s' ∧ (p = 0 ∨ σ.1 12 0 (p - 1) ≤ tt (σ.1 1 0) i c) ∧ (∀ j, p ≤ j → j < n → tt (σ.1 1 0) i c < σ.1 12 0 j) ∧ ∀ j, s'.1 12 0 j = if p < j ∧ j ≤ n then σ.1 12 0 (j - 1) else σ.1 12 0 j) (a := (nI n, σ)) ⟨rfl, Smf.refl _ _, fun j h1 h2 => by omega, fun j => by
      show σ.1 12 0 j = _
      rw [if_neg (by omega)]⟩ (by
    rintro d hd ⟨_, s⟩ ⟨rfl, hS, hv, hr⟩
    have hS' : Smf 12 σ s := hS
    have hr' : ∀ j, s.1 12 0 j = if n - d < j ∧ j ≤ n then σ.1 12 0 (j - 1) else σ.1 12 0 j := hr
    have p0 : (0 : Int32) < nI (n - d) := nI_lt (a := 0) (by omega) (by omega)
    have et : f_X12_ofShot (nI i) (68 + nI c) s = some (tt (σ.1 1 0) i c) := by
      rw [m_sTone hi hc, hS'.1 1 (by decide)]
      rfl
    have ev : s.1 12 0 (n - d - 1) = σ.1 12 0 (n - d - 1) := by rw [hr', if_neg (by omega)]
    unfold b_X12_laysTones_43
    rw [et]
    simp (disch := omega) only [p0, if_true, pm1, pm1', zin_nI, show n - d - 1 < 10 by omega, show n - d < 10 by omega, decide_true, zgT, nI_clamp, Option.bind_some, ev, zb]
    by_cases q : tt (σ.1 1 0) i c < σ.1 12 0 (n - d - 1)
    · right
      rw [if_pos q]
      refine ⟨_, rfl, by show nI (n - d - 1) = _; rw [Nat.sub_sub], hS'.trans (smf_w 12 s _ _ _), fun j h1 h2 => ?_, fun j => ?_⟩
      · by_cases z : j = n - d - 1
        · rw [z]; exact q
        · exact hv j (by omega) h2
      · show (if 12 = 12 ∧ 0 = 0 ∧ j = n - d then _ else s.1 12 0 j) = _
        by_cases z : j = n - d
        · rw [if_pos ⟨rfl, rfl, z⟩, if_pos (by omega), z]
        · rw [if_neg (fun w => z w.2.2), hr' j]
          by_cases w : n - d < j ∧ j ≤ n
          · rw [if_pos w, if_pos (by omega)]
          · rw [if_neg w, if_neg (by omega)]
    · left
      rw [if_neg q]
      exact ⟨_, rfl, n - d, s, rfl, by omega, hS', Or.inr (i_nlt.mp q), hv, hr'⟩) (by
    rintro ⟨_, s⟩ ⟨rfl, hS, hv, hr⟩
    unfold b_X12_laysTones_43
    rw [Nat.sub_self, if_neg (show ¬ (0 : Int32) < nI 0 by decide)]
    rw [Nat.sub_self] at hv
    refine ⟨_, rfl, 0, s, rfl, Nat.zero_le _, hS, Or.inl rfl, hv, fun j => ?_⟩
    have := hr j
    rw [Nat.sub_self] at this
    exact this)
  exact ⟨s', p, e, h1, h2, h3, h4, h5⟩
theorem m_lays (hI : Inv (σ.1 1 0)) (x : Int32) {c : Nat} (hc : c < 64) : ∃ sm n, f_X12_laysTones x (nI c) σ = some sm ∧ SmO σ sm ∧ n ≤ aShN (σ.1 1 0) ∧ sm.1 0 0 31 = nI n ∧ Row (σ.1 1 0) x c (aShN (σ.1 1 0)) (sm.1 12 0) n := by
  have hN := tp_Sh (iv_Top hI)
  unfold f_X12_laysTones
  simp only [zb]
  obtain ⟨r, e, hS, n, hn, h31, hrow⟩ := zlp_run (f := fun q : Int32 × zG => b_X12_laysTones_7 x (nI c) q.1 q.2) (aShN (σ.1 1 0)) (fun k q => q.1 = nI k ∧ SmO σ q.2 ∧ ∃ n, n ≤ k ∧ q.2.1 0 0 31 = nI n ∧ Row (σ.1 1 0) x c k (q.2.1 12 0) n) (fun s => SmO σ s ∧ ∃ n, n ≤ aShN (σ.1 1 0) ∧ s.1 0 0 31 = nI n ∧ Row (σ.1 1 0) x c (aShN (σ.1 1 0)) (s.1 12 0) n) (a := ((0 : Int32), zwI σ 0 0 31 0)) ⟨rfl, smO_w0 rfl, 0, Nat.le_refl _, by simp [zw_at]; rfl, fun i j _ h => absurd h (Nat.not_lt_zero j), fun P => rfl⟩ (by
    rintro k hk ⟨_, s⟩ ⟨rfl, hS, n, hn, h31, hrow⟩
    right
    have hS' : SmO σ s := hS
    have k10 : k < 10 := by omega
    have l1 : nI k < nI (aShN (σ.1 1 0)) := nI_lt hk (by omega)
    have g1 : s.1 1 = σ.1 1 := hS'.1 1 rfl
    have hsrt : Srt (s.1 12 0) n := hrow.1
    have hcnt : ∀ P : Int32 → Bool, fb_ct (fun j => P (s.1 12 0 j)) n = fb_ct (fun i => sel (σ.1 1 0) x c i && P (tt (σ.1 1 0) i c)) k := hrow.2
    have skip : sel (σ.1 1 0) x c k = false → Row (σ.1 1 0) x c (k + 1) (s.1 12 0) n := fun q => ⟨hsrt, fun P => by
      rw [fb_ct_succ, hcnt P, q, Bool.false_and, if_neg Bool.false_ne_true, Nat.add_zero]⟩
    unfold b_X12_laysTones_7
    rw [g1, hN.1, shr_bt x (show k < 32 by omega), m_hasView k10 hc, g1]
    simp only [l1, if_true, zt_0, Option.bind_some]
    by_cases hb : bt x k = true
    · rw [if_neg (by rw [hb]; decide)]
      by_cases hv : sV (σ.1 1 0) k c = true
      · rw [if_neg (by rw [hv]; decide)]
        have h31' : s.1 0 0 31 = nI n := h31
        obtain ⟨s', p, e1, hp, hF, hp1, hp2, hp3⟩ := m_ins (σ := s) (i := k) k10 hc (show n < 10 by omega) hsrt h31'
        rw [g1] at hp1 hp2
        rw [h31', e1, Option.bind_some]
        unfold j_X12_laysTones_91_7
        have et : f_X12_ofShot (nI k) (68 + nI c) s' = some (tt (σ.1 1 0) k c) := by
          rw [m_sTone k10 hc, hF.1 1 (by decide), g1]
          rfl
        have e31 : (zwI s' 12 0 p (tt (σ.1 1 0) k c)).1 0 0 31 = nI n := by
          rw [zw_at, if_neg (fun z => absurd z.1 (by decide)), hF.1 0 (by decide), h31']
        rw [et, Option.bind_some, zin_ok (show p < 10 by omega) (by decide), zgT, nI_clamp (by omega)]
        simp only [zb, e31, nI_1]
        have hF' : SmO s s' := ⟨fun f hf => hF.1 f (fun q => by rw [q] at hf; cases hf), fun k _ => by rw [hF.1 0 (by decide)]⟩
        have arr : ∀ j, (zwI (zwI s' 12 0 p (tt (σ.1 1 0) k c)) 0 0 31 (nI (n + 1))).1 12 0 j = if j = p then tt (σ.1 1 0) k c else s'.1 12 0 j := fun j => by
          by_cases q : j = p <;> simp [zw_at, q]
        refine ⟨_, rfl, rfl, ((hS'.trans hF').trans (smO_w rfl (by decide))).trans (smO_w0 rfl), n + 1, by omega, ?_, ?_, ?_⟩
        · show (zwI (zwI s' 12 0 p (tt (σ.1 1 0) k c)) 0 0 31 (nI (n + 1))).1 0 0 31 = _
          rw [zw_at, if_pos ⟨rfl, rfl, rfl⟩]
        · intro i j hij hj
          show (zwI (zwI s' 12 0 p (tt (σ.1 1 0) k c)) 0 0 31 (nI (n + 1))).1 12 0 i ≤ (zwI (zwI s' 12 0 p (tt (σ.1 1 0) k c)) 0 0 31 (nI (n + 1))).1 12 0 j
          rw [arr, arr, hp3, hp3]
          by_cases q1 : i = p
          · by_cases q2 : j = p
            · rw [if_pos q1, if_pos q2]; rw [fa_le]; omega
            · rw [if_pos q1, if_neg q2, if_pos (by omega)]
              exact i_lt_le (hp2 (j - 1) (by omega) (by omega))
          · rw [if_neg q1]
            by_cases q2 : j = p
            · rw [if_pos q2, if_neg (by omega)]
              rcases hp1 with z | z
              · omega
              · exact i_trans (hsrt i (p - 1) (by omega) (by omega)) z
            · rw [if_neg q2]
              by_cases q3 : p < i ∧ i ≤ n
              · rw [if_pos q3, if_pos (by omega)]
                exact hsrt _ _ (by omega) (by omega)
              · rw [if_neg q3]
                by_cases q4 : p < j ∧ j ≤ n
                · rw [if_pos q4]
                  exact hsrt _ _ (by omega) (by omega)
                · rw [if_neg q4]
                  exact hsrt _ _ (by omega) (by omega)
        · intro P
          show fb_ct (fun j => P ((zwI (zwI s' 12 0 p (tt (σ.1 1 0) k c)) 0 0 31 (nI (n + 1))).1 12 0 j)) (n + 1) = _
          rw [ins_ct (a := s.1 12 0) (v := tt (σ.1 1 0) k c) hp (fun j hj => by rw [arr, hp3, if_neg (by omega), if_neg (by omega)]) (by rw [arr, if_pos rfl]) (fun j h1 h2 => by rw [arr, hp3, if_neg (by omega), if_pos ⟨h1, h2⟩]) P, hcnt P, fb_ct_succ]
          have : sel (σ.1 1 0) x c k = true := by unfold sel; rw [hb, hv]; rfl
          rw [this, Bool.true_and]
      · rw [if_pos (Bool.eq_false_iff.mpr hv)]
        exact ⟨_, rfl, nI_1 k, hS', n, by omega, h31, skip (by unfold sel; rw [Bool.eq_false_iff.mpr hv, Bool.and_false])⟩
    · rw [if_pos (Bool.eq_false_iff.mpr hb)]
      exact ⟨_, rfl, nI_1 k, hS', n, by omega, h31, skip (by unfold sel; rw [Bool.eq_false_iff.mpr hb, Bool.false_and])⟩) (by
    rintro ⟨_, s⟩ ⟨rfl, hS, n, hn, h31, hrow⟩
    have hS' : SmO σ s := hS
    unfold b_X12_laysTones_7
    rw [hS'.1 1 rfl, hN.1, if_neg (nI_nlt (Nat.le_refl _) (by omega))]
    exact ⟨_, rfl, hS, n, hn, h31, hrow⟩)
  rw [e]
  exact ⟨r, n, rfl, hS, hn, h31, hrow⟩
theorem c_countTones (hI : Inv g) (hR : RB σ 0 g) (x lo hi : Int32) {c : Nat} (hc : c < 56) : f_X0_countTones x (nI c) lo hi σ = some (nI (fb_ct (fun i => sel g x c i && (decide (lo ≤ tt g i c) && decide (tt g i c ≤ hi))) (aShN g))) := by
  have hN := tp_Sh (iv_Top hI)
  unfold f_X0_countTones
  rw [zlp_for (a := ((0 : Int32), (0 : Int32))) (fun k => (nI (fb_ct (fun i => sel g x c i && (decide (lo ≤ tt g i c) && decide (tt g i c ≤ hi))) k), nI k)) (aShN g) (b := nI (fb_ct (fun i => sel g x c i && (decide (lo ≤ tt g i c) && decide (tt g i c ≤ hi))) (aShN g))) rfl ?_ ?_]
  · rfl
  · intro k hk
    have k10 : k < 10 := by omega
    have l1 : nI k < nI (aShN g) := nI_lt hk (by omega)
    have l2 : nI k < 10 := nI_lt (b := 10) k10 (by decide)
    unfold b_X0_countTones_6
    rw [rN hR, hN.1, c_shows hR x hk k10 (show c < 64 by omega), zin_ok k10 (by decide), zin_ok hc (by decide), nI_clamp (show k < 2 ^ 31 by omega), nI_clamp (show c < 2 ^ 31 by omega)]
    simp only [l1, l2, if_true, Option.bind_some, zt_0, zgT, fb_ct_succ, nI_1]
    by_cases hs : (bt x k && sV g k c) = true
    · have hv : sV g k c = true := (Bool.and_eq_true_iff.mp hs).2
      have et : σ.1 29 k c = tt g k c := (c_who_tone hR hk hc hv).2
      have hsel : sel g x c k = true := hs
      rw [if_neg (by rw [hs]; decide), et, hsel]
      by_cases q1 : lo ≤ tt g k c
      · by_cases q2 : tt g k c ≤ hi
        · simp [q1, q2]
        · simp [q1, q2]
      · simp [q1]
    · have hsel : sel g x c k = false := Bool.eq_false_iff.mpr hs
      rw [if_pos (Bool.eq_false_iff.mpr hs), hsel]
      simp
  · unfold b_X0_countTones_6
    rw [rN hR, hN.1, if_neg (nI_nlt (Nat.le_refl _) (by omega))]
/-- tones of the row are those of shots -/
theorem row_src {x : Int32} {c N n q : Nat} {a : Nat → Int32} (hr : Row g x c N a n) (hq : q < n) : ∃ i, i < N ∧ sel g x c i = true ∧ tt g i c = a q := by
  have h := hr.2 (fun y => decide (y = a q))
  have hp : 0 < fb_ct (fun j => decide (a j = a q)) n := fb_ct_pos.mpr ⟨q, hq, decide_eq_true rfl⟩
  rw [h] at hp
  obtain ⟨i, hi, e⟩ := fb_ct_pos.mp hp
  rw [Bool.and_eq_true, decide_eq_true_eq] at e
  exact ⟨i, hi, e.1, e.2⟩
theorem row_dst {x : Int32} {c N n i : Nat} {a : Nat → Int32} (hr : Row g x c N a n) (hi : i < N) (hs : sel g x c i = true) : ∃ q, q < n ∧ a q = tt g i c := by
  have h := hr.2 (fun y => decide (y = tt g i c))
  have hp : 0 < fb_ct (fun i' => sel g x c i' && decide (tt g i' c = tt g i c)) N := fb_ct_pos.mpr ⟨i, hi, by
    show (sel g x c i && decide (tt g i c = tt g i c)) = true
    rw [hs, decide_eq_true rfl]
    rfl⟩
  rw [← h] at hp
  obtain ⟨q, hq, e⟩ := fb_ct_pos.mp hp
  exact ⟨q, hq, of_decide_eq_true e⟩
theorem tt_rng (hI : Inv g) {i c : Nat} (hi : i < aShN g) (hc : c < 56) : ∃ t, t ≤ 99 ∧ tt g i c = nI t := (hI.2.2.2.2.2.2.2.2.2.2.1 i hi c hc).2.1
theorem srt_lt {a : Nat → Int32} {n q : Nat} (hs : Srt a n) (hq : q < n) : fb_ct (fun j => decide (a j < a q)) n ≤ q := by
  obtain ⟨m, rfl⟩ : ∃ m, n = q + m := ⟨n - q, by omega⟩
  rw [fb_ct_split]
  have h1 := fb_ct_le (fun j => decide (a j < a q)) q
  have h2 : fb_ct (fun k => decide (a (q + k) < a q)) m = 0 := fb_ct_zero.mpr fun k hk => decide_eq_false (i_nlt.mpr (hs q (q + k) (by omega) (by omega)))
  omega
theorem srt_le {a : Nat → Int32} {n q : Nat} (hs : Srt a n) (hq : q < n) : q + 1 ≤ fb_ct (fun j => decide (a j ≤ a q)) n := by
  have h1 : fb_ct (fun j => decide (a j ≤ a q)) (q + 1) = q + 1 := fb_ct_all.mpr fun k hk => decide_eq_true (hs k q (by omega) hq)
  have h2 := fb_ct_mono (fun j => decide (a j ≤ a q)) (show q + 1 ≤ n from hq)
  omega
theorem pr_middle [Inhabited BFT] : PR_middle Rel := fun x y σc σm h => by
  have hN := tp_Sh (iv_Top (rI h))
  unfold f_X11_middle f_X12_middle f_X0_middleTone
  rcases set_cs h x with ⟨S, hS, rfl, e1, e2⟩ | ⟨e1, e2⟩
  · rcases sp_cs h y with ⟨c, hc, rfl, hsp, e3, e4⟩ | ⟨e3, e4⟩
    · obtain ⟨sm, n, e5, h5, hn, h31, hrow⟩ := m_lays (σ := σm) (rI h) (nI S) (show c < 64 by omega)
      have inr : ∀ i, i < aShN (σm.1 1 0) → 0 ≤ tt (σm.1 1 0) i c ∧ tt (σm.1 1 0) i c ≤ 99 := fun i hi => by
        obtain ⟨t, ht, et⟩ := tt_rng (rI h) hi hc
        rw [et]
        exact ⟨nI_pos' (by omega), nI_le (b := 99) ht (by decide)⟩
      have all : fb_ct (fun i => sel (σm.1 1 0) (nI S) c i && (decide (0 ≤ tt (σm.1 1 0) i c) && decide (tt (σm.1 1 0) i c ≤ 99))) (aShN (σm.1 1 0)) = n := by
        have := hrow.2 (fun _ => true)
        rw [fb_ct_all.mpr (fun _ _ => rfl)] at this
        rw [this]
        refine fb_ct_cong fun i hi => ?_
        obtain ⟨a1, a2⟩ := inr i hi
        rw [decide_eq_true a1, decide_eq_true a2]
        rfl
      have cnt : ∀ hi', f_X0_countTones (nI S) (nI c) 0 hi' σc = some (nI (fb_ct (fun j => decide (sm.1 12 0 j ≤ hi')) n)) := fun hi' => by
        rw [c_countTones (rI h) (rB h) (nI S) 0 hi' hc, hrow.2 (fun z => decide (z ≤ hi'))]
        congr 2
        refine fb_ct_cong fun i hi => ?_
        rw [decide_eq_true (inr i hi).1, Bool.true_and]
      have place : (nI n + 1) / 2 = nI ((n + 1) / 2) := by
        have := pk_div (a := n + 1) (d := 2) (by omega) (by decide) (by decide)
        rw [nI_1, show (2 : Int32) = nI 2 from rfl, this]
      rw [e1, e2, e3, e4]
      simp only [Option.bind_some, show ¬ (1 : Int32) = 0 by decide, if_false, e5, c_countTones (rI h) (rB h) (nI S) 0 99 hc, all, h31]
      have lb1 : ∀ t, fb_ct (fun j => decide (sm.1 12 0 j ≤ t)) n ≤ n := fun t => fb_ct_le _ n
      -- the class's search
      obtain ⟨pr, hpr⟩ : ∃ pr : Nat → Bool, pr = fun i => sel (σm.1 1 0) (nI S) c i && (decide (fb_ct (fun j => decide (sm.1 12 0 j ≤ tt (σm.1 1 0) i c - 1)) n < (n + 1) / 2) && decide ((n + 1) / 2 ≤ fb_ct (fun j => decide (sm.1 12 0 j ≤ tt (σm.1 1 0) i c)) n)) := ⟨_, rfl⟩
      by_cases hn0 : n = 0
      · subst hn0
        have dn : zlp (fun q : Int32 => b_X0_middleTone_17 σc (nI 0) (nI S) (nI c) q) (0 : Int32) = some (Sum.inr ()) := by
          refine zlp_done ?_
          unfold b_X0_middleTone_17
          by_cases q : (0 : Int32) < σc.1 1 0 9
          · rw [if_pos q, if_pos (by decide), if_neg (by decide)]
          · rw [if_neg q]
        rw [dn]
        simp only [show (nI 0 : Int32) = 0 from rfl, if_true]
        exact ⟨_, _, rfl, rfl, rel_same (SmC.refl _) h5.m h⟩
      · have hp1 : (n + 1) / 2 = (n - 1) / 2 + 1 := by omega
        have hq : (n - 1) / 2 < n := by omega
        have l0 : (0 : Int32) < nI ((n + 1) / 2) := nI_lt (a := 0) (by omega) (by omega)
        have src : zlp (fun q : Int32 => b_X0_middleTone_17 σc (nI n) (nI S) (nI c) q) (0 : Int32) = some (if fa_first pr (aShN (σm.1 1 0)) < aShN (σm.1 1 0) then Sum.inl (tt (σm.1 1 0) (fa_first pr (aShN (σm.1 1 0))) c) else Sum.inr ()) := by
          refine zlp_find (fun i => nI i) pr (aShN (σm.1 1 0)) (fun i => Sum.inl (tt (σm.1 1 0) i c)) rfl ?_ ?_
          · intro k hk
            have k10 : k < 10 := by omega
            have l1 : nI k < nI (aShN (σm.1 1 0)) := nI_lt hk (by omega)
            have l2 : nI k < 10 := nI_lt (b := 10) k10 (by decide)
            unfold b_X0_middleTone_17
            rw [rN (rB h), hN.1, c_shows (rB h) (nI S) hk k10 (show c < 64 by omega), zin_ok k10 (by decide), zin_ok hc (by decide), nI_clamp (show k < 2 ^ 31 by omega), nI_clamp (show c < 2 ^ 31 by omega), place]
            simp only [l1, l2, l0, if_true, Option.bind_some, zt_0, zgT, cnt, nI_1]
            by_cases hs : (bt (nI S) k && sV (σm.1 1 0) k c) = true
            · have hv : sV (σm.1 1 0) k c = true := (Bool.and_eq_true_iff.mp hs).2
              have et : σc.1 29 k c = tt (σm.1 1 0) k c := (c_who_tone (rB h) hk hc hv).2
              have hsel : sel (σm.1 1 0) (nI S) c k = true := hs
              have b1 := lb1 (tt (σm.1 1 0) k c - 1)
              have b2 := lb1 (tt (σm.1 1 0) k c)
              rw [if_neg (by rw [hs]; decide), et, hpr]
              simp (disch := omega) only [nI_ltQ, nI_leQ, hsel, Bool.true_and]
              by_cases q1 : fb_ct (fun j => decide (sm.1 12 0 j ≤ tt (σm.1 1 0) k c - 1)) n < (n + 1) / 2
              · by_cases q2 : (n + 1) / 2 ≤ fb_ct (fun j => decide (sm.1 12 0 j ≤ tt (σm.1 1 0) k c)) n
                · simp [q1, q2]
                · simp [q1, q2]
              · simp [q1]
            · have hsel : sel (σm.1 1 0) (nI S) c k = false := Bool.eq_false_iff.mpr hs
              rw [if_pos (Bool.eq_false_iff.mpr hs), hpr]
              simp [hsel]
          · unfold b_X0_middleTone_17
            rw [rN (rB h), hN.1, if_neg (nI_nlt (Nat.le_refl _) (by omega))]
        have srt := hrow.1
        -- below t means up to t - 1
        have sub : ∀ i, i < aShN (σm.1 1 0) → fb_ct (fun j => decide (sm.1 12 0 j ≤ tt (σm.1 1 0) i c - 1)) n = fb_ct (fun j => decide (sm.1 12 0 j < tt (σm.1 1 0) i c)) n := fun i hi => fb_ct_cong fun j hj => by
          obtain ⟨t, ht, et⟩ := tt_rng (rI h) hi hc
          obtain ⟨i', hi', -, e'⟩ := row_src hrow hj
          obtain ⟨t', ht', et'⟩ := tt_rng (rI h) hi' hc
          have e1 := sub1_toInt (n := t) (by omega)
          have e2 := nI_toInt (n := t) (by omega)
          have e3 := nI_toInt (n := t') (by omega)
          rw [← e', et, et', Bool.eq_iff_iff, decide_eq_true_eq, decide_eq_true_eq, fa_le, fa_lt, e1, e2, e3]
          omega
        have good : ∀ i, i < aShN (σm.1 1 0) → pr i = true → tt (σm.1 1 0) i c = sm.1 12 0 ((n - 1) / 2) := fun i hi hp => by
          rw [hpr] at hp
          simp only [Bool.and_eq_true, decide_eq_true_eq] at hp
          obtain ⟨-, p1, p2⟩ := hp
          rw [sub i hi] at p1
          rcases fa_three (tt (σm.1 1 0) i c) (sm.1 12 0 ((n - 1) / 2)) with q | q | q
          · have s1 := srt_lt srt hq
            have s2 : fb_ct (fun j => decide (sm.1 12 0 j ≤ tt (σm.1 1 0) i c)) n ≤ fb_ct (fun j => decide (sm.1 12 0 j < sm.1 12 0 ((n - 1) / 2))) n := fb_ct_sub fun j hj e => by
              rw [decide_eq_true_eq] at e ⊢
              rw [fa_le] at e
              rw [fa_lt] at q ⊢
              omega
            omega
          · exact q
          · have s1 := srt_le srt hq
            have s2 : fb_ct (fun j => decide (sm.1 12 0 j ≤ sm.1 12 0 ((n - 1) / 2))) n ≤ fb_ct (fun j => decide (sm.1 12 0 j < tt (σm.1 1 0) i c)) n := fb_ct_sub fun j hj e => by
              rw [decide_eq_true_eq] at e ⊢
              rw [fa_le] at e
              rw [fa_lt] at q ⊢
              omega
            omega
        have ex : fa_first pr (aShN (σm.1 1 0)) < aShN (σm.1 1 0) := by
          obtain ⟨i, hi, hs, et⟩ := row_src hrow hq
          refine Classical.byContradiction fun hno => ?_
          have hn1 : fa_first pr (aShN (σm.1 1 0)) = aShN (σm.1 1 0) := Nat.le_antisymm (fa_first_le _ _) (Nat.not_lt.mp hno)
          have hf := fa_first_no pr (aShN (σm.1 1 0)) i (by omega)
          have s1 := srt_lt srt hq
          have s2 := srt_le srt hq
          have s3 := sub i hi
          rw [et] at s3
          have : pr i = true := by
            rw [hpr]
            simp only [Bool.and_eq_true, decide_eq_true_eq]
            refine ⟨hs, ?_, ?_⟩
            · rw [et, s3]; omega
            · rw [et]; omega
          rw [this] at hf
          cases hf
        rw [src, if_pos ex, good _ ex (fa_first_yes _ _ ex)]
        have n0 : ¬ nI n = 0 := nI_ne0 (by omega) (by omega)
        have hd : (nI n - 1) / 2 = nI ((n - 1) / 2) := by
          have := pk_div (a := n - 1) (d := 2) (by omega) (by decide) (by decide)
          rw [pm1' (by omega), show (2 : Int32) = nI 2 from rfl, this]
        rw [if_neg n0, hd, zin_ok (show (n - 1) / 2 < 10 by omega) (by decide), zgT, nI_clamp (by omega)]
        exact ⟨_, _, rfl, rfl, rel_same (SmC.refl _) h5.m h⟩
    · rw [e1, e2, e3, e4]
      exact ⟨_, _, rfl, rfl, h⟩
  · rw [e1, e2]
    exact ⟨_, _, rfl, rfl, h⟩
end PURE
