/-! PURE LAYER: shoot -/
section PURE
variable {σ σ' σc σm σc' σm' : zG} {g g' : zGa}
def Tk (i : Nat) (σ s : zG) : Prop := ∀ f j, zcs f = false → ¬ ((f = 11 ∨ f = 29 ∨ f = 30) ∧ j = i) → s.1 f j = σ.1 f j ∧ s.2 f j = σ.2 f j
theorem Tk.trans {i : Nat} {a b c : zG} (h : Tk i a b) (h2 : Tk i b c) : Tk i a c := fun f j h1 h3 => ⟨((h2 f j h1 h3).1).trans (h f j h1 h3).1, ((h2 f j h1 h3).2).trans (h f j h1 h3).2⟩
theorem tk_w {i : Nat} {f k : Nat} {x : Int32} (hf : f = 11 ∨ f = 29 ∨ f = 30) : Tk i σ (zwI σ f i k x) := fun f' j _ h => ⟨zr_ne (by omega), rfl⟩
theorem tk_wL {i k : Nat} {x : Int64} : Tk i σ (zwL σ 11 i k x) := fun f' j _ h => ⟨rfl, by
  funext k'
  show (if f' = 11 ∧ j = i ∧ k' = k then x else σ.2 f' j k') = _
  rw [if_neg (fun z => h ⟨Or.inl z.1, z.2.1⟩)]⟩
theorem tk_c {i : Nat} (h : SmC σ σ') : Tk i σ σ' := fun f j hf _ => ⟨by rw [(h f hf).1], by rw [(h f hf).2]⟩
theorem tk_rb (hR : RB σ 0 g) (hI : Inv g) {i : Nat} (hN : aShN g = i) (hi : i < 10) {s : zG} (h : Tk i σ s) : RB s 0 g := by
  have row : ∀ f j, rws 0 f j = true → ¬ ((f = 11 ∨ f = 29 ∨ f = 30) ∧ j = i) → s.1 f j = σ.1 f j ∧ s.2 f j = σ.2 f j := fun f j hr hne => h f j (rws_sc 0 f j hr) hne
  refine rb_shot hR hN hi (fun f j hr => ?_) (fun _ _ _ => rfl) (by omega) ?_ ?_ (fun q => by omega) (iv_WN hI).2
  · unfold rwx rwt at hr
    simp only [Bool.and_eq_true, Bool.not_eq_true', Bool.and_eq_false_iff, Bool.or_eq_false_iff, beq_eq_false_iff_ne] at hr
    exact row f j hr.1.1 (by omega)
  · unfold RSc
    rw [(row 1 0 rfl (by omega)).1]
    exact hR.1
  · unfold RSt
    rw [(row 7 (7 * 0) rfl (by omega)).1, (row 12 (7 * 0) rfl (by omega)).1, (row 13 (7 * 0) rfl (by omega)).1, (row 14 (7 * 0) rfl (by omega)).1]
    exact hR.2.1
theorem b2b {x : Int32} (h1 : -128 ≤ x.toInt) (h2 : x.toInt < 128) : zi2b (zi2b x) = x := by
  have e : zi2b x = x := fb_byte h1 h2
  rw [e, e]
theorem who_b (hI : Inv g) (c : Int32) (m : Nat) : zi2b (zi2b (who g c m)) = who g c m := by
  have hN := iv_WN hI
  have hSN := tp_SN (iv_Top hI)
  rcases who_rng hI c m with e | ⟨k, hk, e⟩ | ⟨i, hi, e⟩
  · rw [e]; decide
  · rw [e]; exact b2b (by rw [nI_toInt (by omega)]; omega) (by rw [nI_toInt (by omega)]; omega)
  · rw [e]; exact b2b (by rw [nI_toInt (by omega)]; omega) (by rw [nI_toInt (by omega)]; omega)
theorem c_take (hI : Inv g) (hR : RB σ 0 g) {i : Nat} (hN : aShN g = i) (hi : i < 10) : ∃ s sc, f_X1_take 0 i σ = some (nI i, sc) ∧ sc = zwI s 1 0 9 (nI (i + 1)) ∧ Tk i σ s ∧ s.1 11 i 0 = g 0 ∧ s.1 11 i 1 = g 1 ∧ s.1 11 i 2 = g 32 ∧ (∀ c, c < 64 → lb (s.2 11 i 3) c = vw g c) ∧ (∀ c, c < 64 → lb (s.2 11 i 4) c = (covB g c (aMin g) && vw g c)) ∧ ∀ c, c < 56 → vw g c = true → s.1 29 i c = tn g c (aMin g) ∧ s.1 30 i c = who g (nI c) (aMin g) := by
  have hM := tp_Min (iv_Top hI)
  have hSh := tp_Sh (iv_Top hI)
  obtain ⟨b0, b1, b2, b3, b4, b5, b6, b7, b8, b9⟩ := hR.1
  unfold f_X1_take
  simp only [zb]
  generalize ht1 : zwI σ 11 i 0 (σ.1 1 0 3) = t1
  have k1 : Tk i σ t1 := by rw [← ht1]; exact tk_w (Or.inl rfl)
  have r1 : t1.1 1 0 = σ.1 1 0 := (k1 1 0 rfl (by omega)).1
  generalize ht2 : zwI t1 11 i 1 (t1.1 1 0 5) = t2
  have k2 : Tk i σ t2 := by rw [← ht2]; exact k1.trans (tk_w (Or.inl rfl))
  have r2 : t2.1 1 0 = σ.1 1 0 := (k2 1 0 rfl (by omega)).1
  generalize ht3 : zwI t2 11 i 2 (t2.1 1 0 4) = t3
  have k3 : Tk i σ t3 := by rw [← ht3]; exact k2.trans (tk_w (Or.inl rfl))
  have v0 : t3.1 11 i 0 = g 0 := by
    rw [← ht3, zw_at, if_neg (by omega), ← ht2, zw_at, if_neg (by omega), ← ht1, zw_at, if_pos ⟨rfl, rfl, rfl⟩]; exact b3
  have v1 : t3.1 11 i 1 = g 1 := by
    rw [← ht3, zw_at, if_neg (by omega), ← ht2, zw_at, if_pos ⟨rfl, rfl, rfl⟩, r1]; exact b5
  have v2 : t3.1 11 i 2 = g 32 := by
    rw [← ht3, zw_at, if_pos ⟨rfl, rfl, rfl⟩, r2]; exact b4
  have R3 := tk_rb hR hI hN hi k3
  rw [c_viewNow hI R3.1, Option.bind_some]
  generalize ht5 : zwL t3 11 i 3 (colX (aStep g) (aWide g) (aH g)) = t5
  have k5 : Tk i σ t5 := by rw [← ht5]; exact k3.trans tk_wL
  have R5 := tk_rb hR hI hN hi k5
  have m5 : t5.1 1 0 3 = nI (aMin g) := by rw [R5.1.2.2.2.1]; exact hM.1
  have w5 : t5.2 11 i 3 = colX (aStep g) (aWide g) (aH g) := by
    rw [← ht5]
    show (if 11 = 11 ∧ i = i ∧ 3 = 3 then _ else _) = _
    rw [if_pos ⟨rfl, rfl, rfl⟩]
  rw [m5, c_coverIn (iv_Top hI) R5.2.1 (show aMin g < 501 by omega), Option.bind_some, w5]
  generalize ht7 : zwL t5 11 i 4 (covX t5 0 g (aMin g) &&& colX (aStep g) (aWide g) (aH g)) = t7
  have k7 : Tk i σ t7 := by rw [← ht7]; exact k5.trans tk_wL
  have w7 : t7.2 11 i 3 = colX (aStep g) (aWide g) (aH g) := by
    rw [← ht7]
    show (if 11 = 11 ∧ i = i ∧ 3 = 4 then _ else t5.2 11 i 3) = _
    rw [if_neg (by omega), w5]
  have w7' : t7.2 11 i 4 = covX t5 0 g (aMin g) &&& colX (aStep g) (aWide g) (aH g) := by
    rw [← ht7]
    show (if 11 = 11 ∧ i = i ∧ 4 = 4 then _ else _) = _
    rw [if_pos ⟨rfl, rfl, rfl⟩]
  have u7 : t7.1 11 i = t3.1 11 i := by rw [← ht7, ← ht5]; rfl
  obtain ⟨s, e, s1, s2, s3, s4⟩ := zlp_run (f := fun q : Int32 × zG => b_X1_take_51 i 0 q.1 q.2) 56 (fun c q => q.1 = nI c ∧ Tk i σ q.2 ∧ q.2.1 11 i = t7.1 11 i ∧ q.2.2 11 i = t7.2 11 i ∧ ∀ d, d < c → vw g d = true → q.2.1 29 i d = tn g d (aMin g) ∧ q.2.1 30 i d = who g (nI d) (aMin g)) (fun s => Tk i σ s ∧ s.1 11 i = t7.1 11 i ∧ s.2 11 i = t7.2 11 i ∧ ∀ d, d < 56 → vw g d = true → s.1 29 i d = tn g d (aMin g) ∧ s.1 30 i d = who g (nI d) (aMin g)) (a := ((0 : Int32), t7)) ⟨rfl, k7, rfl, rfl, fun d hd => absurd hd (Nat.not_lt_zero d)⟩ (by
    rintro c hc ⟨_, s⟩ ⟨rfl, s1, s2, s3, s4⟩
    right
    have s1' : Tk i σ s := s1
    have s3' : s.2 11 i = t7.2 11 i := s3
    have Rs := tk_rb hR hI hN hi s1'
    have ms : s.1 1 0 3 = nI (aMin g) := by rw [Rs.1.2.2.2.1]; exact hM.1
    have l56 : nI c < 56 := nI_lt (b := 56) hc (by decide)
    unfold b_X1_take_51
    rw [if_pos l56, s3', w7, holds_lb _ (show c < 64 by omega), lb_view hI (show c < 64 by omega)]
    simp only [zt_0]
    by_cases hv : vw g c = true
    · rw [if_neg (by rw [hv]; decide), ms]
      obtain ⟨t, e1, h1⟩ := c_tone (σ := s) hI Rs (m := aMin g) (show c < 64 by omega) (by omega)
      obtain ⟨τ, hτ, eτ⟩ := tn_rng hI c (aMin g)
      have eb : zi2b (zi2b (tn g c (aMin g))) = tn g c (aMin g) := by rw [eτ]; exact b2b (by rw [nI_toInt (by omega)]; omega) (by rw [nI_toInt (by omega)]; omega)
      rw [e1, Option.bind_some, zin_ok hc (by decide), zgT, nI_clamp (by omega), eb]
      simp only [zb]
      generalize ht' : zwI t 29 i c (tn g c (aMin g)) = t'
      have kt' : Tk i σ t' := by rw [← ht']; exact (s1'.trans (tk_c h1.c)).trans (tk_w (Or.inr (Or.inl rfl)))
      have Rt := tk_rb hR hI hN hi kt'
      have mt : t'.1 1 0 3 = nI (aMin g) := by rw [Rt.1.2.2.2.1]; exact hM.1
      rw [mt, c_who hI Rt.2.2.1 Rt.2.2.2.1 Rt.2.1 _ (show aMin g < 501 by omega), Option.bind_some, zgT, who_b hI]
      simp only [nI_1]
      refine ⟨_, rfl, rfl, kt'.trans (tk_w (Or.inr (Or.inr rfl))), ?_, ?_, fun d hd hvd => ?_⟩
      · show (zwI t' 30 i c _).1 11 i = _
        rw [zr_ne (Or.inl (by decide)), ← ht', zr_ne (Or.inl (by decide)), h1.1 11 (by decide) (by decide)]
        exact s2
      · show (zwI t' 30 i c _).2 11 i = _
        rw [← ht']
        show t.2 11 i = _
        rw [h1.2]
        exact s3
      · show (zwI t' 30 i c (who g (nI c) (aMin g))).1 29 i d = _ ∧ (zwI t' 30 i c (who g (nI c) (aMin g))).1 30 i d = _
        rw [zf_ne (by decide), zw_at, ← ht', zw_at, zf_ne (by decide), h1.1 29 (by decide) (by decide), h1.1 30 (by decide) (by decide)]
        by_cases q : d = c
        · rw [if_pos ⟨rfl, rfl, q⟩, if_pos ⟨rfl, rfl, q⟩, q]
          exact ⟨rfl, rfl⟩
        · rw [if_neg (fun z => q z.2.2), if_neg (fun z => q z.2.2)]
          exact s4 d (by omega) hvd
    · rw [if_pos (Bool.eq_false_iff.mpr hv), nI_1]
      refine ⟨_, rfl, rfl, s1, s2, s3, fun d hd hvd => ?_⟩
      by_cases q : d = c
      · rw [q] at hvd; exact absurd hvd hv
      · exact s4 d (by omega) hvd) (by
    rintro ⟨_, s⟩ ⟨rfl, s1, s2, s3, s4⟩
    unfold b_X1_take_51
    rw [if_neg (show ¬ (nI 56 : Int32) < 56 by decide)]
    exact ⟨_, rfl, s1, s2, s3, s4⟩)
  rw [e, Option.bind_some]
  have Rs := tk_rb hR hI hN hi s1
  have n9 : s.1 1 0 9 = nI i := by rw [Rs.1.2.2.2.2.2.2.2.2.2, hSh.1, hN]
  rw [n9, nI_1]
  have f9 : (zwI s 1 0 9 (nI (i + 1))).1 1 0 9 = nI (i + 1) := by rw [zw_at, if_pos ⟨rfl, rfl, rfl⟩]
  rw [f9, pm1' (by omega), Nat.add_sub_cancel]
  refine ⟨s, _, rfl, rfl, s1, ?_, ?_, ?_, fun c hc => ?_, fun c hc => ?_, s4⟩
  · rw [s2, u7]; exact v0
  · rw [s2, u7]; exact v1
  · rw [s2, u7]; exact v2
  · rw [s3, w7]; exact lb_view hI hc
  · rw [s3, w7', lb_and, lb_covX hI R5.2.2.2.1 hc (by omega), lb_view hI hc]
/-- the model's page -/
noncomputable def pgW (g : zGa) (c : Nat) : Int32 := if vw g c then who g (nI c) (aMin g) else -2
noncomputable def pgT (g : zGa) (c : Nat) : Int32 := if vw g c then tn g c (aMin g) else 0
def Mk (i c : Nat) (q : zG) (g : zGa) (s : zG) : Prop := (∀ f, f ≠ 1 → f ≠ 9 → f ≠ 10 → s.1 f = q.1 f) ∧ (∀ k, ¬ rgn i k → s.1 1 0 k = g k) ∧ (s.1 1 0 (152 + 134 * i) = g 0 ∧ s.1 1 0 (152 + 134 * i + 1) = g 1 ∧ s.1 1 0 (152 + 134 * i + 2) = g 32) ∧ ∀ d, d < c → s.1 1 0 (152 + 134 * i + 4 + d) = pgW g d ∧ s.1 1 0 (152 + 134 * i + 68 + d) = pgT g d
theorem mk_inv (hI : Inv g) {i : Nat} (hN : aShN g = i) (hi : i < 10) {s : zG} (h : ∀ k, ¬ rgn i k → s.1 1 0 k = g k) : Inv (s.1 1 0) ∧ vw (s.1 1 0) = vw g ∧ (∀ c m, who (s.1 1 0) c m = who g c m) ∧ (∀ c m, tn (s.1 1 0) c m = tn g c m) ∧ s.1 1 0 0 = nI (aMin g) := by
  have hSh := tp_Sh (iv_Top hI)
  have hSN := tp_SN (iv_Top hI)
  have hM := tp_Min (iv_Top hI)
  have h4 : s.1 1 0 4 = g 4 := h 4 (by unfold rgn; omega)
  have e4 : aShN (s.1 1 0) = i := by unfold aShN; rw [h4]; exact hN
  have hg : ∀ k, k ≠ 4 → ¬ rgn i k → s.1 1 0 k = g k := fun k _ hk => h k hk
  have hl := shp_lt hi hg
  refine ⟨inv_shot hI hN hi hg ⟨by rw [e4, h4, hSh.1, hN], by omega, by omega⟩ (fun q => by omega), (shp_num hl).2.2.2.2.2.2.2.2.1, fun c m => shp_who hl hSN.2 c m, fun c m => shp_tn hl hI c m, by rw [h 0 (by unfold rgn; omega)]; exact hM.1⟩
theorem m_page (hI : Inv g) {i : Nat} (hN : aShN g = i) (hi : i < 10) {q s : zG} (hq : q.1 1 0 4 = nI i) (h : Mk i 0 q g s) : ∃ s', zlp (fun x : Int32 × zG => b_X12_shoot_77 q x.1 x.2) ((0 : Int32), s) = some s' ∧ Mk i 64 q g s' := by
  have hM := tp_Min (iv_Top hI)
  obtain ⟨s', e, h'⟩ := zlp_run (f := fun x : Int32 × zG => b_X12_shoot_77 q x.1 x.2) 64 (fun c x => x.1 = nI c ∧ Mk i c q g x.2) (fun s' => Mk i 64 q g s') (a := ((0 : Int32), s)) ⟨rfl, h⟩ (by
    rintro c hc ⟨_, t⟩ ⟨rfl, ht⟩
    right
    have ht' : Mk i c q g t := ht
    obtain ⟨m1, m2, m3, m4⟩ := ht'
    obtain ⟨It, vt, wt, nt, zt0⟩ := mk_inv hI hN hi m2
    have l64 : nI c < 64 := nI_lt (b := 64) hc (by decide)
    have i4 : (152 : Int32) + 134 * nI i + 4 + nI c = nI (152 + 134 * i + 4 + c) := by simp only [zlit, nI_add, pk_mul]
    have i68 : (152 : Int32) + 134 * nI i + 68 + nI c = nI (152 + 134 * i + 68 + c) := by simp only [zlit, nI_add, pk_mul]
    -- with who it is
    have key : ∀ w, w = pgW g c → ∃ x', j_X12_shoot_116_77 q (nI c) w (nI (152 + 134 * i + 4 + c)) 0 t = some (Sum.inl x') ∧ x'.1 = nI (c + 1) ∧ Mk i (c + 1) q g x'.2 := fun w hw => by
      unfold j_X12_shoot_116_77
      rw [zin_ok (show 152 + 134 * i + 4 + c < 9248 by omega) (by decide), zgT, nI_clamp (show 152 + 134 * i + 4 + c < 2 ^ 31 by omega), hq, i68, zin_ok (show 152 + 134 * i + 68 + c < 9248 by omega) (by decide), nI_clamp (show 152 + 134 * i + 68 + c < 2 ^ 31 by omega)]
      simp only [zb, zgT, nI_1]
      generalize hu : zwI t 1 0 (152 + 134 * i + 4 + c) w = u
      have ug : u.1 1 0 = upd (t.1 1 0) (152 + 134 * i + 4 + c) w := by rw [← hu, zw_row]
      have u2 : ∀ k, ¬ rgn i k → u.1 1 0 k = g k := fun k hk => by
        rw [ug, pk_un (by unfold rgn at hk; omega)]
        exact m2 k hk
      have uf : ∀ f, f ≠ 1 → u.1 f = t.1 f := fun f hf => by rw [← hu, zf_ne hf]
      obtain ⟨Iu, vu, wu, nu, zu0⟩ := mk_inv hI hN hi u2
      have fin : ∀ s16 : zG, (∀ f, f ≠ 9 → f ≠ 10 → s16.1 f = u.1 f) → Mk i (c + 1) q g (zwI s16 1 0 (152 + 134 * i + 68 + c) (pgT g c)) := fun s16 h16 => by
        have e1 : (zwI s16 1 0 (152 + 134 * i + 68 + c) (pgT g c)).1 1 0 = upd (upd (t.1 1 0) (152 + 134 * i + 4 + c) w) (152 + 134 * i + 68 + c) (pgT g c) := by rw [zw_row, h16 1 (by decide) (by decide), ug]
        refine ⟨fun f f1 f9 f10 => ?_, fun k hk => ?_, ⟨?_, ?_, ?_⟩, fun d hd => ?_⟩
        · rw [zf_ne f1, h16 f f9 f10, uf f f1]
          exact m1 f f1 f9 f10
        · rw [e1, pk_un (by unfold rgn at hk; omega), pk_un (by unfold rgn at hk; omega)]
          exact m2 k hk
        · rw [e1, pk_un (by omega), pk_un (by omega)]; exact m3.1
        · rw [e1, pk_un (by omega), pk_un (by omega)]; exact m3.2.1
        · rw [e1, pk_un (by omega), pk_un (by omega)]; exact m3.2.2
        · rw [e1]
          by_cases z : d = c
          · rw [z, pk_un (by omega), pk_us, pk_us]
            exact ⟨hw, rfl⟩
          · rw [pk_un (by omega), pk_un (by omega), pk_un (by omega), pk_un (by omega)]
            exact m4 d (by omega)
      rw [m_isInView Iu hc, Option.bind_some, vu]
      simp only [zt_0]
      by_cases hv : vw g c = true
      · rw [if_neg (by rw [hv]; decide), zu0]
        obtain ⟨s16, e1, h1⟩ := m_tone (σ := u) Iu (m := aMin g) hc (by omega)
        rw [e1, Option.bind_some, nu]
        have eT : tn g c (aMin g) = pgT g c := by unfold pgT; rw [if_pos hv]
        rw [eT]
        exact ⟨_, rfl, rfl, fin s16 (fun f f9 f10 => h1.1 f f9 f10)⟩
      · rw [if_pos (Bool.eq_false_iff.mpr hv)]
        have eT : (0 : Int32) = pgT g c := by unfold pgT; rw [if_neg hv]
        rw [eT]
        exact ⟨_, rfl, rfl, fin u (fun _ _ _ => rfl)⟩
    unfold b_X12_shoot_77
    rw [if_pos l64, m_isInView It hc, Option.bind_some, vt, hq, i4]
    simp only [zt_0]
    by_cases hv : vw g c = true
    · rw [if_neg (by rw [hv]; decide), zt0, m_who It _ (show aMin g < 501 by omega), Option.bind_some, wt]
      exact key _ (by unfold pgW; rw [if_pos hv])
    · rw [if_pos (Bool.eq_false_iff.mpr hv)]
      exact key _ (by unfold pgW; rw [if_neg hv])) (by
    rintro ⟨_, t⟩ ⟨rfl, ht⟩
    unfold b_X12_shoot_77
    rw [if_neg (show ¬ (nI 64 : Int32) < 64 by decide)]
    exact ⟨_, rfl, ht⟩)
  exact ⟨s', e, h'⟩
theorem pr_shoot [Inhabited BFT] : PR_shoot Rel := fun σc σm h => by
  have hSh := tp_Sh (iv_Top (rI h))
  have c9 : σc.1 1 0 9 = nI (aShN (σm.1 1 0)) := by rw [rN (rB h)]; exact hSh.1
  unfold f_X11_shoot f_X12_shoot f_X1_nextShot
  rw [c9, hSh.1]
  by_cases q : aShN (σm.1 1 0) = 10
  · have l1 : ¬ nI (aShN (σm.1 1 0)) < 10 := by rw [q]; decide
    have l2 : nI (aShN (σm.1 1 0)) = 10 := by rw [q]; rfl
    rw [if_neg l1, if_pos l2]
    exact ⟨_, _, _, rfl, rfl, h⟩
  · have l1 : nI (aShN (σm.1 1 0)) < 10 := nI_lt (b := 10) (by omega) (by decide)
    have l2 : ¬ nI (aShN (σm.1 1 0)) = 10 := fun e => q ((nI_eq (b := 10) (by omega) (by decide)).mp e)
    rw [if_pos l1, if_neg l2]
    obtain ⟨i, hi⟩ : ∃ i, aShN (σm.1 1 0) = i := ⟨_, rfl⟩
    have i10 : i < 10 := by omega
    rw [hi]
    simp (disch := omega) only [zin_nI, i10, decide_true, zgT, nI_clamp, Option.bind_some, zoc, Nat.mul_zero, Nat.zero_add]
    obtain ⟨sc0, sm0, e1, e2, hK, em, -⟩ := keep_two h
    rw [e1, e2, Option.bind_some, Option.bind_some]
    have eg0 : sm0.1 1 0 = σm.1 1 0 := by rw [em]
    have hI := rI hK
    have hN : aShN (sm0.1 1 0) = i := by rw [eg0]; exact hi
    have hSh0 := tp_Sh (iv_Top hI)
    have hSN0 := tp_SN (iv_Top hI)
    have hM0 := tp_Min (iv_Top hI)
    obtain ⟨s, sc, a0, asc, aT, a1, a2, a3, a4, a5, a6⟩ := c_take hI (rB hK) hN i10
    rw [a0, Option.bind_some]
    have q4 : sm0.1 1 0 4 = nI i := by rw [hSh0.1, hN]
    have j0 : (152 : Int32) + 134 * nI i + 0 = nI (152 + 134 * i) := by simp only [zlit, nI_add, pk_mul]; rfl
    have j1 : (152 : Int32) + 134 * nI i + 1 = nI (152 + 134 * i + 1) := by simp only [zlit, nI_add, pk_mul]
    have j2 : (152 : Int32) + 134 * nI i + 2 = nI (152 + 134 * i + 2) := by simp only [zlit, nI_add, pk_mul]
    rw [q4, j0, j1, j2, zin_ok (show 152 + 134 * i < 9248 by omega) (by decide), zin_ok (show 152 + 134 * i + 1 < 9248 by omega) (by decide), zin_ok (show 152 + 134 * i + 2 < 9248 by omega) (by decide), nI_clamp (show 152 + 134 * i < 2 ^ 31 by omega), nI_clamp (show 152 + 134 * i + 1 < 2 ^ 31 by omega), nI_clamp (show 152 + 134 * i + 2 < 2 ^ 31 by omega)]
    simp only [zgT, zb]
    generalize ht2 : zwI sm0 1 0 (152 + 134 * i) (sm0.1 1 0 0) = t2
    have g2 : t2.1 1 0 = upd (sm0.1 1 0) (152 + 134 * i) (sm0.1 1 0 0) := by rw [← ht2, zw_row]
    generalize ht3 : zwI t2 1 0 (152 + 134 * i + 1) (t2.1 1 0 1) = t3
    have g3 : t3.1 1 0 = upd (t2.1 1 0) (152 + 134 * i + 1) (t2.1 1 0 1) := by rw [← ht3, zw_row]
    generalize ht4 : zwI t3 1 0 (152 + 134 * i + 2) (t3.1 1 0 32) = t4
    have g4 : t4.1 1 0 = upd (t3.1 1 0) (152 + 134 * i + 2) (t3.1 1 0 32) := by rw [← ht4, zw_row]
    have b21 : t2.1 1 0 1 = sm0.1 1 0 1 := by rw [g2, pk_un (by omega)]
    have b332 : t3.1 1 0 32 = sm0.1 1 0 32 := by rw [g3, pk_un (by omega), g2, pk_un (by omega)]
    have hMk : Mk i 0 sm0 (sm0.1 1 0) t4 := by
      refine ⟨fun f f1 _ _ => by rw [← ht4, zf_ne f1, ← ht3, zf_ne f1, ← ht2, zf_ne f1], fun k hk => ?_, ⟨?_, ?_, ?_⟩, fun d hd => absurd hd (Nat.not_lt_zero d)⟩
      · unfold rgn at hk
        rw [g4, pk_un (by omega), g3, pk_un (by omega), g2, pk_un (by omega)]
      · rw [g4, pk_un (by omega), g3, pk_un (by omega), g2, pk_us]
      · rw [g4, pk_un (by omega), g3, pk_us, b21]
      · rw [g4, pk_us, b332]
    obtain ⟨s', e3, m1, m2, m3, m4⟩ := m_page hI hN i10 q4 hMk
    rw [e3, Option.bind_some]
    have n4 : s'.1 1 0 4 = nI i := by rw [m2 4 (by unfold rgn; omega)]; exact q4
    rw [n4, nI_1]
    have f4 : (zwI s' 1 0 4 (nI (i + 1))).1 1 0 4 = nI (i + 1) := by rw [zw_at, if_pos ⟨rfl, rfl, rfl⟩]
    rw [f4, pm1' (by omega), Nat.add_sub_cancel]
    refine ⟨_, _, _, rfl, rfl, ?_⟩
    generalize hsm : zwI s' 1 0 4 (nI (i + 1)) = sm
    have hgm : ∀ k, k ≠ 4 → sm.1 1 0 k = s'.1 1 0 k := fun k hk => by rw [← hsm, zw_at, if_neg (fun z => hk z.2.2)]
    have hg : ∀ k, k ≠ 4 → ¬ rgn i k → sm.1 1 0 k = sm0.1 1 0 k := fun k h1 h2 => by rw [hgm k h1]; exact m2 k h2
    have v4 : sm.1 1 0 4 = nI (i + 1) := by rw [← hsm]; exact f4
    have eS : aShN (sm.1 1 0) = i + 1 := by unfold aShN; rw [v4, nI_clamp (by omega)]
    have pW : ∀ c, c < 64 → sm.1 1 0 (152 + 134 * i + 4 + c) = pgW (sm0.1 1 0) c := fun c hc => by rw [hgm _ (by omega)]; exact (m4 c hc).1
    have pT : ∀ c, c < 64 → sm.1 1 0 (152 + 134 * i + 68 + c) = pgT (sm0.1 1 0) c := fun c hc => by rw [hgm _ (by omega)]; exact (m4 c hc).2
    have wn : ∀ c, c < 64 → (vw (sm0.1 1 0) c = true ∧ pgW (sm0.1 1 0) c = who (sm0.1 1 0) (nI c) (aMin (sm0.1 1 0)) ∧ ¬ pgW (sm0.1 1 0) c = -2) ∨ (vw (sm0.1 1 0) c = false ∧ pgW (sm0.1 1 0) c = -2) := fun c hc => by
      unfold pgW
      cases hv : vw (sm0.1 1 0) c
      · exact Or.inr ⟨rfl, by rw [if_neg Bool.false_ne_true]⟩
      · refine Or.inl ⟨rfl, by rw [if_pos rfl], ?_⟩
        rw [if_pos rfl]
        have hWN := iv_WN hI
        rcases who_rng hI (nI c) (aMin (sm0.1 1 0)) with e | ⟨k, hk, e⟩ | ⟨j, hj, e⟩
        · rw [e]; decide
        · rw [e]; intro z
          have := nI_toInt (n := k) (by omega)
          rw [z, show (-2 : Int32).toInt = -2 from rfl] at this
          omega
        · rw [e]; intro z
          have := nI_toInt (n := 12 + j) (by omega)
          rw [z, show (-2 : Int32).toInt = -2 from rfl] at this
          omega
    have hI' : Inv (sm.1 1 0) := by
      refine inv_shot hI hN i10 hg ⟨by rw [eS]; exact v4, by omega, by omega⟩ (fun _ => ⟨fun c hc => ⟨?_, ?_, fun hne => ?_⟩, fun c h1 h2 => ?_⟩)
      · rw [pW c (by omega)]
        rcases wn c (by omega) with ⟨-, e, -⟩ | ⟨-, e⟩
        · rw [e]
          have hWN := iv_WN hI
          rcases who_rng hI (nI c) (aMin (sm0.1 1 0)) with e | ⟨k, hk, e⟩ | ⟨j, hj, e⟩
          · exact Or.inr (Or.inl e)
          · exact Or.inr (Or.inr ⟨k, by omega, e⟩)
          · exact Or.inr (Or.inr ⟨12 + j, by omega, e⟩)
        · exact Or.inl e
      · rw [pT c (by omega)]
        unfold pgT
        split
        · exact tn_rng hI c _
        · exact ⟨0, by decide, rfl⟩
      · rw [pW c (by omega)] at hne
        rcases wn c (by omega) with ⟨hv, -, -⟩ | ⟨-, e⟩
        · exact vw_sp hv
        · exact absurd e hne
      · rw [pW c h2]
        rcases wn c h2 with ⟨hv, -, -⟩ | ⟨-, e⟩
        · have := sp_56 hI (vw_sp hv)
          omega
        · exact e
    have rowc : ∀ f j, zcs f = false → ¬ ((f = 11 ∨ f = 29 ∨ f = 30) ∧ j = i) → ¬ (f = 1 ∧ j = 0) → sc.1 f j = sc0.1 f j ∧ sc.2 f j = sc0.2 f j := fun f j h1 h2 h3 => by
      rw [asc]
      exact ⟨by rw [zr_ne (by omega)]; exact (aT f j h1 h2).1, (aT f j h1 h2).2⟩
    have rr : ∀ p : Nat → Nat → Bool, (∀ f j, p f j = true → zcs f = false ∧ ¬ ((f = 11 ∨ f = 29 ∨ f = 30) ∧ j = i) ∧ ¬ (f = 1 ∧ j = 0)) → REq p sc0 sc := fun p hp f j hf => rowc f j (hp f j hf).1 (hp f j hf).2.1 (hp f j hf).2.2
    have r1 : REq (rws 1) sc0 sc := rr _ fun f j hf => ⟨rws_sc 1 f j hf, by
      unfold rws at hf
      simp only [Bool.or_eq_true, Bool.and_eq_true, beq_iff_eq, decide_eq_true_eq] at hf
      omega⟩
    have rk : REq rwk sc0 sc := rr _ fun f j hf => ⟨rwk_sc f j hf, by
      unfold rwk at hf
      simp only [Bool.or_eq_true, Bool.and_eq_true, beq_iff_eq, decide_eq_true_eq] at hf
      omega⟩
    have rx : REq (rwx i) sc0 sc := rr _ fun f j hf => by
      unfold rwx rwt at hf
      simp only [Bool.and_eq_true, Bool.not_eq_true', Bool.and_eq_false_iff, Bool.or_eq_false_iff, beq_eq_false_iff_ne] at hf
      exact ⟨rws_sc 0 f j hf.1.1, by omega⟩
    have fne : ∀ f, f = 0 ∨ f = 3 ∨ f = 4 ∨ f = 38 → zcs f = false → sc.1 f = sc0.1 f := fun f hf hz => funext fun j => (rowc f j hz (by omega) (by omega)).1
    have smf : ∀ f, f ≠ 1 → f ≠ 9 → f ≠ 10 → sm.1 f = sm0.1 f := fun f h1 h9 h10 => by rw [← hsm, zf_ne h1]; exact m1 f h1 h9 h10
    obtain ⟨q1, q2, q3⟩ := rest_ok hK (σc' := sc) (σm' := sm) ⟨r1, by rw [fne 0 (by simp) rfl], fne 3 (by simp) rfl, fne 38 (by simp) rfl, fne 4 (by simp) rfl⟩ ⟨smf 2 (by decide) (by decide) (by decide), smf 8 (by decide) (by decide) (by decide), by rw [smf 0 (by decide) (by decide) (by decide)], by rw [smf 0 (by decide) (by decide) (by decide)], by rw [smf 0 (by decide) (by decide) (by decide)], by rw [smf 0 (by decide) (by decide) (by decide)]⟩
    have hl := shp_lt i10 hg
    obtain ⟨-, -, -, -, -, z6, -, -, -, -⟩ := shp_num hl
    have sc1 : sc.1 1 0 = upd (sc0.1 1 0) 9 (nI (i + 1)) := by rw [asc, zw_row, (aT 1 0 rfl (by omega)).1]
    refine ⟨rb_shot (rB hK) hN i10 rx hg (by omega) ?_ ?_ (fun _ => ?_) (iv_WN hI).2, hI', kp_same2 hK.2.2.1 rk (by rw [smf 0 (by decide) (by decide) (by decide)]) (smf 3 (by decide) (by decide) (by decide)) (fun k h1 h2 => hg k (by omega) (by unfold rgn; omega)) (by omega), q1, q2, q3⟩
    · obtain ⟨b0, b1, b2, b3, b4, b5, b6, b7, b8, b9⟩ := (rB hK).1
      unfold RSc
      rw [sc1, hl 30 (by decide) (by decide), hl 31 (by decide) (by decide), hl 2 (by decide) (by decide), hl 0 (by decide) (by decide), hl 32 (by decide) (by decide), hl 1 (by decide) (by decide), hl 33 (by decide) (by decide), hl 34 (by decide) (by decide), hl 35 (by decide) (by decide), v4]
      exact ⟨b0, b1, b2, b3, b4, b5, b6, b7, b8, rfl⟩
    · have hst := (rB hK).2.1
      unfold RSt at hst ⊢
      rw [z6, hl 3 (by decide) (by decide), (rowc 7 (7 * 0) rfl (by omega) (by omega)).1, (rowc 12 (7 * 0) rfl (by omega) (by omega)).1, (rowc 13 (7 * 0) rfl (by omega) (by omega)).1, (rowc 14 (7 * 0) rfl (by omega) (by omega)).1]
      refine ⟨hst.1, fun j hj => ?_⟩
      rw [hl (5 + 3 * j) (by omega) (by omega), hl (5 + 3 * j + 1) (by omega) (by omega), hl (5 + 3 * j + 2) (by omega) (by omega)]
      exact hst.2 j hj
    · have s11 : sc.1 11 i = s.1 11 i := by rw [asc, zr_ne (Or.inl (by decide))]
      have s29 : sc.1 29 i = s.1 29 i := by rw [asc, zr_ne (Or.inl (by decide))]
      have s30 : sc.1 30 i = s.1 30 i := by rw [asc, zr_ne (Or.inl (by decide))]
      have s2 : sc.2 11 i = s.2 11 i := by rw [asc]; rfl
      unfold RSh
      rw [s11, s29, s30, s2, hgm (152 + 134 * i) (by omega), hgm (152 + 134 * i + 1) (by omega), hgm (152 + 134 * i + 2) (by omega), m3.1, m3.2.1, m3.2.2]
      refine ⟨a1, a2, a3, fun c hc => ?_, fun c hc => ?_, fun c hc hne => ?_⟩
      · rw [a4 c hc, pW c hc]
        rcases wn c hc with ⟨hv, -, e⟩ | ⟨hv, e⟩
        · rw [hv, decide_eq_false e]; rfl
        · rw [hv, e]; rfl
      · rw [a5 c hc, pW c hc]
        rcases wn c hc with ⟨hv, e, -⟩ | ⟨hv, e⟩
        · rw [hv, Bool.and_true, e]
          unfold covB
          rcases who_rng hI (nI c) (aMin (sm0.1 1 0)) with z | ⟨k, hk, z⟩ | ⟨j, hj, z⟩
          · rw [z]; decide
          · have hWN := iv_WN hI
            rw [z, decide_eq_true (show (0 : Int32) ≤ nI k from nI_pos' (by omega)), decide_eq_false (by rw [nI_nm1 (by omega)]; exact id)]; rfl
          · rw [z, decide_eq_true (show (0 : Int32) ≤ nI (12 + j) from nI_pos' (by omega)), decide_eq_false (by rw [nI_nm1 (by omega)]; exact id)]; rfl
        · rw [hv, Bool.and_false, e]; decide
      · rw [pW c (by omega)] at hne ⊢
        rw [pT c (by omega)]
        rcases wn c (by omega) with ⟨hv, e, -⟩ | ⟨-, e⟩
        · obtain ⟨x1, x2⟩ := a6 c hc hv
          rw [x1, x2, e]
          unfold pgT
          rw [if_pos hv]
          exact ⟨rfl, rfl⟩
        · exact absurd e hne
end PURE
