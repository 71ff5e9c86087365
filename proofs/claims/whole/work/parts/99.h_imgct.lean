/-! IMAGE: its contracts -/
def nB1 : List (Nat × Nat) := [(7, 7), (12, 7), (13, 7), (14, 7), (8, 2), (15, 2), (16, 2), (17, 2), (18, 2), (19, 2), (20, 2), (9, 1), (21, 1), (22, 1), (10, 3), (23, 3), (24, 3), (25, 3), (26, 3), (27, 3), (28, 3), (10, 4), (23, 4), (24, 4), (25, 4), (26, 4), (27, 4), (28, 4), (31, 1), (32, 1), (11, 10), (29, 10), (30, 10), (11, 11), (29, 11), (30, 11), (11, 12), (29, 12), (30, 12), (11, 13), (29, 13), (30, 13), (11, 14), (29, 14), (30, 14), (11, 15), (29, 15), (30, 15), (11, 16), (29, 16), (30, 16), (11, 17), (29, 17), (30, 17), (11, 18), (29, 18), (30, 18), (11, 19), (29, 19), (30, 19)]
theorem wk_575 : Cond.fieldLink RX11 371 "NobodyThere" "saved" "LNobodyThere$Bridge;" ∈ zTB := zW_at wC_2 222 rfl rfl
theorem wk_1366 : Cond.methodLink RX11 374 yX1_copyFrom ∈ zTB := zW_at wC_6 53 rfl rfl
theorem wk_1363 : Cond.instanceMethod yX11_image ∈ zTB := zW_at wC_6 50 rfl rfl
theorem wk_1364 : Cond.selects RX11 yX11_image yX11_image ∈ zTB := zW_at wC_6 51 rfl rfl
theorem wk_1365 : Cond.code yX11_image cX11_image 2 (some .boolean) ∈ zTB := zW_at wC_6 52 rfl rfl
abbrev mJ_image : zMT := (RX11, cX11_image, 2, 10, some .boolean)
theorem zv_image : zcV yX11_image mJ_image 1 := ⟨⟨wk_114, wk_1365, by decide +kernel, by decide +kernel, by decide +kernel⟩, wk_1363, wk_1364⟩
theorem lf_saved : zfl RX11 371 11 6 := ⟨RX11, TX11, 7, rfl, ix_X11, Nat.le_of_ble_eq_true rfl, wk_575⟩
theorem lw_saved : zfw RX11 371 11 6 (tyX11 6) := ⟨RX11, TX11, 7, tyX11, rfl, ix_X11, Nat.le_of_ble_eq_true rfl, wk_575, tyX11_ok, nmX11, rfl, by decide +kernel⟩
def L_image : List (Nat × Instr × Nat) := [(0, .iload_n 1, 1), (1, .ifCond .eq 34, 3), (4, .aload_n 0, 1), (5, .getfield 371, 3), (8, .ifnonnull 14, 3), (11, .aload_n 0, 1), (12, .new 9, 3), (15, .dup, 1), (16, .invokespecial 11, 3), (19, .putfield 371, 3), (22, .aload_n 0, 1), (23, .getfield 371, 3), (26, .aload_n 0, 1), (27, .getfield 12, 3), (30, .invokevirtual 374, 3), (33, .iconst 1, 1), (34, .ireturn, 1), (35, .aload_n 0, 1), (36, .getfield 371, 3), (39, .ifnonnull 5, 3), (42, .iconst 0, 1), (43, .ireturn, 1), (44, .aload_n 0, 1), (45, .getfield 12, 3), (48, .aload_n 0, 1), (49, .getfield 371, 3), (52, .invokevirtual 374, 3), (55, .aload_n 0, 1), (56, .getfield 19, 3), (59, .invokevirtual 59, 3), (62, .iconst 1, 1), (63, .ireturn, 1)]
set_option maxRecDepth 100000 in
theorem D_image : zdecs cX11_image L_image = true := by decide +kernel
/-- slots that hold references keep their flags -/
def FrT (σ σ' : zG) : Prop := ∀ g j k, zlyCK.2.1 g k ≠ 0 → zlyCK.2.1 g k ≠ 1 → σ'.1 g j k = σ.1 g j k
theorem FrT.refl (σ : zG) : FrT σ σ := fun _ _ _ _ _ => rfl
theorem FrT.trans {a b c : zG} (h : FrT a b) (h2 : FrT b c) : FrT a c := fun g j k h0 h1 => (h2 g j k h0 h1).trans (h g j k h0 h1)
def SmF (σ : zG) : Prop := ∀ g j, zSame zlyCK zlyC σ g j
theorem SmF.fr {σ σ' : zG} (h : SmF σ) (hf : FrT σ σ') : SmF σ' := fun g j => by
  rcases h g j with h | ⟨h0, h⟩
  · exact Or.inl h
  · refine Or.inr ⟨h0, fun k hk => ?_⟩
    rcases h k hk with e | ⟨e1, e2, e3⟩
    · exact Or.inl e
    · exact Or.inr ⟨e1, e2, by rw [hf g j k (by rw [e2]; decide) (by rw [e2]; decide)]; exact e3⟩
theorem okp {w : zW} {f i : Nat} (h : zok w (zR f i)) : zok (zpart w (fun _ _ => True)) (zR f i) := ⟨h, trivial⟩
section IMG
variable {σ s : zG}
set_option maxRecDepth 100000 in
set_option maxHeartbeats 4000000 in
theorem cj_no (l : Launch) (h6 : σ.1 0 0 6 = 0) : zCj l zsyCK mJ_image yX11_image 0 0 [zI 0] [] σ σ (.int 0) 0 0 := by
  refine jEnter (al := [(0, zR 0 0), (1, zI 0)]) (by decide +kernel) rfl (fun _ => Nat.le_of_ble_eq_true rfl) (fun _ => rfl) (fun w hav q hq => by
    simp at hq
    rcases hq with rfl | rfl
    · exact hav _ (by simp)
    · trivial) (fun K w hRm hQ => ?_)
  refine j9_iload_n (pc := 0) 1 (zdg D_image 0 (0, .iload_n 1, 1) rfl) rfl rfl ?_
  refine j9_ifeqT (pc := 1) 35 (zdg D_image 1 (1, .ifCond .eq 34, 3) rfl) rfl rfl ?_
  refine j9_aload_n (pc := 35) 0 (zdg D_image 17 (35, .aload_n 0, 1) rfl) rfl rfl ?_
  refine j9_getN (pc := 36) (k := 6) (g := 1) lf_saved rfl rfl h6 (zdg D_image 18 (36, .getfield 371, 3) rfl) ?_
  refine j9_nnN (pc := 39) (zdg D_image 19 (39, .ifnonnull 5, 3) rfl) ?_
  refine j9_iconst (pc := 42) (v := 0) (zdg D_image 20 (42, .iconst 0, 1) rfl) rfl ?_
  exact j9_iret (pc := 43) rfl rfl hQ (zdg D_image 21 (43, .ireturn, 1) rfl)
set_option maxRecDepth 100000 in
set_option maxHeartbeats 4000000 in
theorem cj_take (l : Launch) {x : Int32} (hx : x ≠ 0) (h0 : σ.1 0 0 0 ≠ 0) (h6 : σ.1 0 0 6 ≠ 0) (hS : SmF σ) (hc : f_X1_copyFrom 1 0 σ = some s) (hk : FrT σ s) : zCj l zsyCK mJ_image yX11_image 0 0 [zI x] [] σ s (.int 1) 0 0 := by
  refine jEnter (al := [(0, zR 0 0), (1, zI x)]) (by decide +kernel) rfl (fun _ => Nat.le_of_ble_eq_true rfl) (fun _ => rfl) (fun w hav q hq => by
    simp at hq
    rcases hq with rfl | rfl
    · exact hav _ (by simp)
    · trivial) (fun K w hRm hQ => ?_)
  refine j9_iload_n (pc := 0) 1 (zdg D_image 0 (0, .iload_n 1, 1) rfl) rfl rfl ?_
  refine j9_ifeqF (pc := 1) 35 (zdg D_image 1 (1, .ifCond .eq 34, 3) rfl) rfl hx ?_
  refine j9_aload_n (pc := 4) 0 (zdg D_image 2 (4, .aload_n 0, 1) rfl) rfl rfl ?_
  refine j9_getR (pc := 5) (k := 6) (g := 1) (j := 1) lf_saved rfl rfl rfl h6 (zdg D_image 3 (5, .getfield 371, 3) rfl) ?_
  refine j9_nnR (pc := 8) 22 (zdg D_image 4 (8, .ifnonnull 14, 3) rfl) rfl ?_
  refine j9_aload_n (pc := 22) 0 (zdg D_image 10 (22, .aload_n 0, 1) rfl) rfl rfl ?_
  refine j9_getR (pc := 23) (k := 6) (g := 1) (j := 1) lf_saved rfl rfl rfl h6 (zdg D_image 11 (23, .getfield 371, 3) rfl) ?_
  refine j9_aload_n (pc := 26) 0 (zdg D_image 12 (26, .aload_n 0, 1) rfl) rfl rfl ?_
  refine j9_getR (pc := 27) (k := 0) (g := 1) (j := 0) lf_X11_12 rfl rfl rfl h0 (zdg D_image 13 (27, .getfield 12, 3) rfl) ?_
  refine j9_callX (pc := 30) (av := [zR 1 0]) (rest := []) (f := 1) (i := 1) (syN := zsyC) (fun _ _ => True) (fun l => c_X1_copyFrom l 1 0 σ s hc) zv_X1_copyFrom wk_1366 rfl rfl rfl rfl rfl (Nat.le_of_ble_eq_true rfl) rfl rfl rfl rfl rfl trivial (fun a ha w h => by simp at ha; subst ha; exact okp h) (fun g j _ => hS g j) (fun g j _ => hS.fr hk g j) zlyC_sz (fun _ _ _ _ _ _ _ => trivial) (fun _ _ h => absurd trivial h) (fun x hx => by cases hx) (fun g j k _ a b => hk g j k a b) (fun _ _ _ _ _ _ _ _ _ _ _ _ h => by rw [hRm _ _ _ _ _ _ _ _ _ _ _ _ h]; exact ⟨⟨by decide, by decide⟩, by decide, by decide⟩) (zdg D_image 14 (30, .invokevirtual 374, 3) rfl) ?_
  refine j9_iconst (pc := 33) (v := 1) (zdg D_image 15 (33, .iconst 1, 1) rfl) rfl ?_
  exact j9_iret (pc := 34) rfl rfl hQ (zdg D_image 16 (34, .ireturn, 1) rfl)
set_option maxRecDepth 100000 in
set_option maxHeartbeats 4000000 in
theorem cj_back (l : Launch) (h0 : σ.1 0 0 0 ≠ 0) (h1 : σ.1 0 0 1 ≠ 0) (h6 : σ.1 0 0 6 ≠ 0) (hS : SmF σ) (hc : f_X1_copyFrom 0 1 σ = some s) (hk : FrT σ s) (hk2 : FrT s (f_X2_forget s)) : zCj l zsyCK mJ_image yX11_image 0 0 [zI 0] [] σ (f_X2_forget s) (.int 1) 0 0 := by
  refine jEnter (al := [(0, zR 0 0), (1, zI 0)]) (by decide +kernel) rfl (fun _ => Nat.le_of_ble_eq_true rfl) (fun _ => rfl) (fun w hav q hq => by
    simp at hq
    rcases hq with rfl | rfl
    · exact hav _ (by simp)
    · trivial) (fun K w hRm hQ => ?_)
  have s1 : s.1 0 0 1 ≠ 0 := by rw [hk 0 0 1 (by decide) (by decide)]; exact h1
  refine j9_iload_n (pc := 0) 1 (zdg D_image 0 (0, .iload_n 1, 1) rfl) rfl rfl ?_
  refine j9_ifeqT (pc := 1) 35 (zdg D_image 1 (1, .ifCond .eq 34, 3) rfl) rfl rfl ?_
  refine j9_aload_n (pc := 35) 0 (zdg D_image 17 (35, .aload_n 0, 1) rfl) rfl rfl ?_
  refine j9_getR (pc := 36) (k := 6) (g := 1) (j := 1) lf_saved rfl rfl rfl h6 (zdg D_image 18 (36, .getfield 371, 3) rfl) ?_
  refine j9_nnR (pc := 39) 44 (zdg D_image 19 (39, .ifnonnull 5, 3) rfl) rfl ?_
  refine j9_aload_n (pc := 44) 0 (zdg D_image 22 (44, .aload_n 0, 1) rfl) rfl rfl ?_
  refine j9_getR (pc := 45) (k := 0) (g := 1) (j := 0) lf_X11_12 rfl rfl rfl h0 (zdg D_image 23 (45, .getfield 12, 3) rfl) ?_
  refine j9_aload_n (pc := 48) 0 (zdg D_image 24 (48, .aload_n 0, 1) rfl) rfl rfl ?_
  refine j9_getR (pc := 49) (k := 6) (g := 1) (j := 1) lf_saved rfl rfl rfl h6 (zdg D_image 25 (49, .getfield 371, 3) rfl) ?_
  refine j9_callX (pc := 52) (av := [zR 1 1]) (rest := []) (f := 1) (i := 0) (syN := zsyC) (fun _ _ => True) (fun l => c_X1_copyFrom l 0 1 σ s hc) zv_X1_copyFrom wk_1366 rfl rfl rfl rfl rfl (Nat.le_of_ble_eq_true rfl) rfl rfl rfl rfl rfl trivial (fun a ha w h => by simp at ha; subst ha; exact okp h) (fun g j _ => hS g j) (fun g j _ => hS.fr hk g j) zlyC_sz (fun _ _ _ _ _ _ _ => trivial) (fun _ _ h => absurd trivial h) (fun x hx => by cases hx) (fun g j k _ a b => hk g j k a b) (fun _ _ _ _ _ _ _ _ _ _ _ _ h => by rw [hRm _ _ _ _ _ _ _ _ _ _ _ _ h]; exact ⟨⟨by decide, by decide⟩, by decide, by decide⟩) (zdg D_image 26 (52, .invokevirtual 374, 3) rfl) ?_
  refine j9_aload_n (pc := 55) 0 (zdg D_image 27 (55, .aload_n 0, 1) rfl) rfl rfl ?_
  refine j9_getR (pc := 56) (k := 1) (g := 2) (j := 0) lf_X11_19 rfl rfl rfl s1 (zdg D_image 28 (56, .getfield 19, 3) rfl) ?_
  refine j9_callX (pc := 59) (av := []) (rest := []) (f := 2) (i := 0) (syN := zsyC) (fun _ _ => True) (fun l => c_X2_forget l s) zv_X2_forget lm_X11_59 rfl rfl rfl rfl rfl (Nat.le_of_ble_eq_true rfl) rfl rfl rfl rfl rfl trivial (fun a ha w h => by cases ha) (fun g j _ => hS.fr hk g j) (fun g j _ => (hS.fr hk).fr hk2 g j) zlyC_sz (fun _ _ _ _ _ _ _ => trivial) (fun _ _ h => absurd trivial h) (fun x hx => by cases hx) (fun g j k _ a b => hk2 g j k a b) (fun _ _ _ _ _ _ _ _ _ _ _ _ h => by rw [hRm _ _ _ _ _ _ _ _ _ _ _ _ h]; exact ⟨⟨by decide, by decide⟩, by decide, by decide⟩) (zdg D_image 29 (59, .invokevirtual 59, 3) rfl) ?_
  refine j9_iconst (pc := 62) (v := 1) (zdg D_image 30 (62, .iconst 1, 1) rfl) rfl ?_
  exact j9_iret (pc := 63) rfl rfl hQ (zdg D_image 31 (63, .ireturn, 1) rfl)
set_option maxRecDepth 100000 in
set_option maxHeartbeats 4000000 in
theorem cj_new (l : Launch) {x : Int32} (hx : x ≠ 0) (h0 : (k_X1_1 σ).1 0 0 0 ≠ 0) (h6 : σ.1 0 0 6 = 0) (hS : SmF (zwI (k_X1_1 σ) 0 0 6 1)) (hc : f_X1_copyFrom 1 0 (zwI (k_X1_1 σ) 0 0 6 1) = some s) (hk : FrT (zwI (k_X1_1 σ) 0 0 6 1) s) : zCj l zsyCK mJ_image yX11_image 0 0 [zI x] ((1, 1) :: nB1) σ s (.int 1) 61 9071 := by
  refine jEnter (al := [(0, zR 0 0), (1, zI x)]) (by decide +kernel) rfl (fun _ => Nat.le_of_ble_eq_true rfl) (fun _ => rfl) (fun w hav q hq => by
    simp at hq
    rcases hq with rfl | rfl
    · exact hav _ (by simp)
    · trivial) (fun K w hRm hQ => ?_)
  refine j9_iload_n (pc := 0) 1 (zdg D_image 0 (0, .iload_n 1, 1) rfl) rfl rfl ?_
  refine j9_ifeqF (pc := 1) 35 (zdg D_image 1 (1, .ifCond .eq 34, 3) rfl) rfl hx ?_
  refine j9_aload_n (pc := 4) 0 (zdg D_image 2 (4, .aload_n 0, 1) rfl) rfl rfl ?_
  refine j9_getN (pc := 5) (k := 6) (g := 1) lf_saved rfl rfl h6 (zdg D_image 3 (5, .getfield 371, 3) rfl) ?_
  refine j9_nnN (pc := 8) (zdg D_image 4 (8, .ifnonnull 14, 3) rfl) ?_
  refine j9_aload_n (pc := 11) 0 (zdg D_image 5 (11, .aload_n 0, 1) rfl) rfl rfl ?_
  refine j9_new (pc := 12) (f := 1) (i := 1) (C := "NobodyThere$Bridge") (T := TX1) (N := 17) tyX1 rfl (no2C 1) rfl ix_X1 tyX1_ok (by decide) ⟨wk_144, wk_145, wk_115⟩ (fun _ _ _ _ _ _ _ _ _ _ _ _ h => by rw [hRm _ _ _ _ _ _ _ _ _ _ _ _ h]; exact ⟨by decide, by decide⟩) (zdg D_image 6 (12, .new 9, 3) rfl) (fun w => ?_)
  refine j9_dup (pc := 15) rfl (zdg D_image 7 (15, .dup, 1) rfl) ?_
  refine j9_ctor (pc := 16) (rest := [zR 1 1, zR 0 0]) (fr := []) (host := "NobodyThere") (fun l => ct_X1_1 l _) zi_X1 (Or.inl wk_146) rfl rfl (Nat.le_of_ble_eq_true rfl) (k_X1_1_keep _) (fun _ _ _ _ _ _ _ _ _ _ _ _ h => by rw [hRm _ _ _ _ _ _ _ _ _ _ _ _ h]; exact ⟨⟨by decide, by decide⟩, by decide, by decide⟩) (zdg D_image 8 (16, .invokespecial 11, 3) rfl) (fun w => ?_)
  refine j9_putR (pc := 19) (k := 6) (ty := tyX11 6) lw_saved rfl rfl rfl (fun _ => ⟨rfl, rfl⟩) (zdg D_image 9 (19, .putfield 371, 3) rfl) ?_
  have g0 : (zwI (k_X1_1 σ) 0 0 6 1).1 0 0 0 ≠ 0 := by rw [zw_at, if_neg (by decide)]; exact h0
  have g6 : (zwI (k_X1_1 σ) 0 0 6 1).1 0 0 6 ≠ 0 := by rw [zw_at, if_pos ⟨rfl, rfl, rfl⟩]; decide
  generalize zwI (k_X1_1 σ) 0 0 6 1 = σ1 at hS hc hk g0 g6 ⊢
  refine j9_aload_n (pc := 22) 0 (zdg D_image 10 (22, .aload_n 0, 1) rfl) rfl rfl ?_
  refine j9_getR (pc := 23) (k := 6) (g := 1) (j := 1) lf_saved rfl rfl rfl g6 (zdg D_image 11 (23, .getfield 371, 3) rfl) ?_
  refine j9_aload_n (pc := 26) 0 (zdg D_image 12 (26, .aload_n 0, 1) rfl) rfl rfl ?_
  refine j9_getR (pc := 27) (k := 0) (g := 1) (j := 0) lf_X11_12 rfl rfl rfl g0 (zdg D_image 13 (27, .getfield 12, 3) rfl) ?_
  refine j9_callX (pc := 30) (av := [zR 1 0]) (rest := []) (f := 1) (i := 1) (syN := zsyC) (fun _ _ => True) (fun l => c_X1_copyFrom l 1 0 σ1 s hc) zv_X1_copyFrom wk_1366 rfl rfl rfl rfl rfl (Nat.le_of_ble_eq_true rfl) rfl rfl rfl rfl rfl trivial (fun a ha w h => by simp at ha; subst ha; exact okp h) (fun g j _ => hS g j) (fun g j _ => hS.fr hk g j) zlyC_sz (fun _ _ _ _ _ _ _ => trivial) (fun _ _ h => absurd trivial h) (fun x hx => by cases hx) (fun g j k _ a b => hk g j k a b) (fun _ _ _ _ _ _ _ _ _ _ _ _ h => by rw [hRm _ _ _ _ _ _ _ _ _ _ _ _ h]; exact ⟨⟨by decide, by decide⟩, by decide, by decide⟩) (zdg D_image 14 (30, .invokevirtual 374, 3) rfl) ?_
  refine j9_iconst (pc := 33) (v := 1) (zdg D_image 15 (33, .iconst 1, 1) rfl) rfl ?_
  exact j9_iret (pc := 34) rfl rfl hQ (zdg D_image 16 (34, .ireturn, 1) rfl)
end IMG
