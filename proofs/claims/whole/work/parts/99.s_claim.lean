/-! THE CLAIM: the start relates, the law is walked -/
theorem wl_136 : Cond.classLink R_law 7 RX11 ∈ zTB := zW_at wC_1 23 rfl rfl
theorem wl_137 : Cond.instantiable RX11 7 ∈ zTB := zW_at wC_1 24 rfl rfl
theorem wl_138 : Cond.methodLink R_law 9 yX11_init ∈ zTB := zW_at wC_1 25 rfl rfl
theorem wl_1392 : Cond.classLink R_law 10 RX12 ∈ zTB := zW_at wC_6 79 rfl rfl
theorem wl_1393 : Cond.instantiable RX12 36 ∈ zTB := zW_at wC_6 80 rfl rfl
theorem wl_127 : Cond.initialized RX12 ∈ zTB := zW_at wC_1 14 rfl rfl
theorem wl_114 : Cond.initialized RX11 ∈ zTB := zW_at wC_1 1 rfl rfl
theorem wl_1394 : Cond.methodLink R_law 12 yX12_init ∈ zTB := zW_at wC_6 81 rfl rfl
set_option maxRecDepth 100000 in
theorem start_rel : ∃ σM, f_X12_begins 6 4 (kp_X12 zz) = some σM ∧ @Rel iF (k_X11 zz) σM := by
  obtain ⟨sm, e, h1, h2, h3, h4, h5⟩ := m_begins (kp_X12 zz) 6 4
  obtain ⟨f1, f2, -⟩ := c_anew (kp_X1_0 zz) 6 4
  have ek : k_X1_0 zz = f_X1_startAnew 0 (nI 6) (nI 4) (kp_X1_0 zz) := rfl
  have r1 : ∀ q, (k_X11 zz).1 1 0 q = (k_X1_0 zz).1 1 0 q := fun q => rfl
  have r7 : ∀ q, (k_X11 zz).1 7 0 q = (k_X1_0 zz).1 7 0 q := fun q => rfl
  have r8 : ∀ q, (k_X11 zz).1 8 0 q = (k_X1_0 zz).1 8 0 q := fun q => rfl
  have r10 : ∀ q, (k_X11 zz).1 10 0 q = (k_X1_0 zz).1 10 0 q := fun q => rfl
  have r11 : ∀ q, (k_X11 zz).1 10 1 q = (k_X1_0 zz).1 10 1 q := fun q => rfl
  have r22 : ∀ q, (k_X11 zz).2 22 0 q = (k_X1_0 zz).2 22 0 q := fun q => rfl
  have r32 : ∀ q, (k_X11 zz).1 32 0 q = (k_X1_0 zz).1 32 0 q := fun q => rfl
  have hF : Frs (k_X11 zz) 6 4 := by
    unfold Frs at f1 ⊢
    rw [← ek] at f1
    simp only [r1, r7, r8, r10, r11, r22, r32]
    exact f1
  have g2 : (k_X11 zz).1 1 0 2 = sm.1 1 0 2 := by
    rw [r1, ek, f2, h4]
    rfl
  have hI := inv_fresh (g := sm.1 1 0) (w := 6) (h := 4) (by decide) (by decide) h5
  refine ⟨sm, e, rb_fresh (by decide) (by decide) h5 hF g2, hI, ⟨0, 0, by decide, by decide, rfl, rfl, h3, fun j hj => absurd hj (Nat.not_lt_zero j), fun j j' _ hj => absurd hj (Nat.not_lt_zero j')⟩, ⟨0, by decide, rfl, (h2 16 (by decide)).trans rfl, fun k hk => absurd hk (Nat.not_lt_zero k)⟩, ⟨?_, ?_⟩, ?_, ?_, fun z => absurd z (by rw [bfI_F]; decide)⟩
  · rw [h2 23 (by decide)]; rfl
  · rw [h2 25 (by decide)]; rfl
  · rfl
  · rw [h2 4 (by decide)]; rfl
theorem zAllM {s : State} {w' : zW} {σ1 : zG} (hSt : zSt zsyMK w' s) (hEn : zEn zsyMK w' (fun q => s.heap.size ≤ q) s s.heap) (hI : zInj w') (hFl : zFl zlyMK w' σ1) (hS : ∀ g j, w'.2.2.2.2 g j → zSame zlyMK zlyM σ1 g j) (hA : ∀ q, zA w' q → s.heap.size ≤ q) : zAll zsyM w' s := by
  refine ⟨⟨hSt.1, fun g j ty nn hk hg => hSt.2.1 g ty nn hk, hSt.2.2.1⟩, ⟨hI, fun g j k t hg ht hrf => ?_⟩, ?_⟩
  · obtain ⟨b1, b2⟩ := hFl g j k hg
    have hkk : zlyM.2.1 g k = zlyMK.2.1 g k ∨ (zlyM.2.1 g k = 2 ∧ zlyMK.2.1 g k = 3 ∧ σ1.1 g j k ≠ 0) := by
      rcases hS g j hg with h | ⟨-, h⟩
      · exact Or.inl (h k)
      · exact h k (zlyM_sz g j k t ht hrf)
    rcases hkk with e | ⟨-, e2, e3⟩
    · exact absurd (e.symm.trans ht) b1
    · rcases b2 with b | b | b | b
      · omega
      · omega
      · exact absurd b e3
      · exact b t hrf
  · have hn : zEn zsyMK w' (zA w') s s.heap := zEn.narrow (fun q hq => hA q hq) hEn
    exact zEn.all (sy := zsyM) hn
theorem zGW_KM {w : zW} {σ : zG} {H : Heap} (hS : ∀ g j, w.2.2.2.2 g j → zSame zlyMK zlyM σ g j) (h : zGW zlyMK w σ H) : zGW zlyM w σ H := fun f i hw => (zAt_same (lyK := zlyMK) (lyN := zlyM) (w := w) (w' := w) rfl rfl ⟨rfl, rfl, rfl⟩ (hS f i hw)).mpr (h f i hw)
theorem zSt_eq {sy : zSy} {w w' : zW} {s : State} (h : zSt sy w s) (h1 : w'.2.2.1 = w.2.2.1) (h2 : w'.2.2.2.1 = w.2.2.2.1) : zSt sy w' s := by
  unfold zSt
  rw [h1, h2]
  exact h
theorem zEn_eq {sy : zSy} {w w' : zW} {A : Nat → Prop} {s : State} (h : zEn sy w A s s.heap) (h1 : w'.2.1 = w.2.1) : zEn sy w' A s s.heap := by
  unfold zEn zLdc
  rw [h1]
  exact h
set_option maxHeartbeats 4000000 in
/-- from the entry, for every script of at most 3072 ints, the law comes to its end with true -/
theorem whole_start {p : Program} {e : Env} {s : State} {m : MethodId} {below : List Frame} {meth : Method} {c : Code} (l : Launch) {b L : Nat} {xs : Nat → Int32} (hL : L ≤ 3072) (C0 : lw_At p s m meth c b L xs) : W p l e room_1 s m #[Value.ref b] below meth c s.heap [] 0 0 (lw_Z below #[Value.ref b] s) (entryFrame m ([Value.ref b] : List Value).toArray 4) := by
  obtain ⟨hx, hb, hr, hml, hown, hts, hX, hbl, hlocks, hgv⟩ := id C0
  obtain ⟨wC0, eC, sC, nCn⟩ := start_C hts hgv
  obtain ⟨wM0, eM, sM, nMn⟩ := start_M hts hgv
  obtain ⟨σM, eB, hRel⟩ := start_rel
  have hl := lv_entry ([.ref b]) (n := 4) (Nat.le_of_ble_eq_true rfl)
  rw [lg_entry_eq]
  generalize (lg_sl ([.ref b]) ++ List.replicate (4 - (lg_sl ([.ref b])).length) Slot.unset).toArray = ls at hl ⊢
  have hl : lv_has ls 4 [(0, .ref b)] := hl
  refine l_mk (sy := zsyCK) (mt' := mc_X11) (y := yX11_init) (w := wC0) (news := nC) (σ1 := k_X11 zz) (mc := 116) (ms := 11788) (N := 7) (ci := 11) (i1 := 7) (i2 := 9) (pc := 0) (C := RX11) (T := TX11) C0 tyX11 rfl (no2C 0) rfl ix_X11 tyX11_ok (by decide) ⟨wl_136, wl_137, wl_114⟩ eC sC nCn (fun l => ct_X11 l zz) zi_X11 wl_138 nC_nd ⟨by decide, by decide⟩ ⟨by decide, by decide⟩ (zdg DLh_law 0 (0, .new 7, 3) rfl) (zdg DLh_law 1 (3, .dup, 1) rfl) (zdg DLh_law 2 (4, .invokespecial 9, 3) rfl) va_S.rf hl.1 (fun wC HC locsC hC1 hC2 hC3 hC4 hCG hCFl hCI hCA hCk hCS => ?_)
  refine lv_astore_n (lv' := [(1, .ref (wC.1 0 0)), (0, .ref b)]) hx hb (zdg DLh_law 3 (7, .astore_n 1, 1) rfl) rfl hl (by decide) rfl (fun ls hl => ?_)
  refine l_mk (sy := zsyMK) (mt' := mc_X12) (y := yX12_init) (w := wM0) (news := nM) (σ1 := σM) (mc := 14) (ms := 26531) (N := 36) (ci := 12) (i1 := 10) (i2 := 12) (pc := 8) (C := RX12) (T := TX12) C0 tyX12 rfl (no2M 0) rfl ix_X12 tyX12_ok (by decide) ⟨wl_1392, wl_1393, wl_127⟩ eM sM nMn (fun l => ct_X12 l eB) zi_X12 wl_1394 nM_nd ⟨by decide, by decide⟩ ⟨by decide, by decide⟩ (zdg DLh_law 4 (8, .new 10, 3) rfl) (zdg DLh_law 5 (11, .dup, 1) rfl) (zdg DLh_law 6 (12, .invokespecial 12, 3) rfl) hCS hl.1 (fun wM HM locsM hM1 hM2 hM3 hM4 hMG hMFl hMI hMA hMk hMS => ?_)
  refine lv_astore_n (lv' := [(2, .ref (wM.1 0 0)), (1, .ref (wC.1 0 0)), (0, .ref b)]) hx hb (zdg DLh_law 7 (15, .astore_n 2, 1) rfl) rfl hl (by decide) rfl (fun ls hl => ?_)
  refine lv_iconst (v := 0) hx hb (zdg DLh_law 8 (16, .iconst 0, 1) rfl) rfl ?_
  refine lv_istore_n (lv' := [(3, .int 0), (2, .ref (wM.1 0 0)), (1, .ref (wC.1 0 0)), (0, .ref b)]) hx hb (zdg DLh_law 9 (17, .istore_n 3, 1) rfl) rfl hl (by decide) rfl (fun ls hl => ?_)
  have hsC : ∀ g j, wC.2.2.2.2 g j → zSame zlyCK zlyC (k_X11 zz) g j := fun g j hw => hb_X11 zz (g, j) ((hC1 g j).mp hw)
  have hsM : ∀ g j, wM.2.2.2.2 g j → zSame zlyMK zlyM σM g j := fun g j hw => hm2 eB g j ((hM1 g j).mp hw)
  have hStC : zSt zsyCK wC s := zSt_eq sC hC3 hC4
  have hEnC : zEn zsyCK wC (fun q => s.heap.size ≤ q) s s.heap := zEn_eq nCn hC2
  have hStM : zSt zsyMK wM s := zSt_eq sM hM3 hM4
  have hEnM : zEn zsyMK wM (fun q => s.heap.size ≤ q) s s.heap := zEn_eq nMn hM2
  have hAC : ∀ q, zA wC q → s.heap.size ≤ q := hCA
  have hAM : ∀ q, zA wM q → s.heap.size ≤ q := fun q hq => Nat.le_trans hCS.1 (hMA q hq)
  have hF : zLF (l, p, e, s, m, below, meth, c, b, L, xs) wM := ⟨C0, hL, zAllM hStM hEnM hMI hMFl hsM hAM, (hM1 0 0).mpr List.mem_cons_self, hAM⟩
  have hCF : zLC (l, p, e, s, m, below, meth, c, b, L, xs) wM wC := ⟨zAllC hStC hEnC hCI hCFl hsC hAC, (hC1 0 0).mpr List.mem_cons_self, hAC, fun q hq hm => absurd (hCG.lt hq) (Nat.not_lt.mpr (hMA q hm))⟩
  have hLX : zLX (l, p, e, s, m, below, meth, c, b, L, xs) wC := ⟨hStC, hEnC⟩
  have hRW : RW wC (k_X11 zz) σM := Or.inl ⟨⟨fun x hx z => nC_cX x hx ((hC1 _ _).mp z), fun i z => nC_0 (0, i) ((hC1 0 i).mp z) rfl⟩, hRel⟩
  have hz1 : zCI = 100 := rfl
  have hz2 : zSI = 12000 := rfl
  have lp := law_loop2 hF (L / 6 + 1) 0 wC (0 + 1 + 116 + 1 + 14) (0 + 7 + 11788 + 36 + 26531) (k_X11 zz) σM (by show (L - 0) / 6 < L / 6 + 1; omega) (by decide) (by show _ + (L - 0) / 6 * zCI ≤ _; rw [hz1]; omega) (by show _ + (L - 0) / 6 * zSI ≤ _; rw [hz2]; omega) hCF hLX hRW
  exact lp HM locsM ls ((zGW_K hsC).mpr (hCG.kept (fun q hq => hMk q (hCG.lt hq)))) (zGW_KM hsM hMG) hMS (lv_sub hl [3, 2, 1, 0] rfl)
set_option maxHeartbeats 4000000 in
theorem lw_walk (l : Launch) (b : Addr) (xs : List Int32) : MetFree l x (headSpec (Jvm.Cond.code x code maxLocals ret :: tables_1) room_1) (lw_P b xs) (fun _ _ _ _ _ => True) lw_Q := by
  refine MetFree.of_bodyS (code := code) (maxLocals := maxLocals) (ret := ret) (by decide) ?_ ?_
  · intro args s m h hn
    obtain ⟨meth, c, h1, h2, h3, h4, h5, h6, -, -⟩ := Cond.code_spec hn (atoms_spec (ws := Jvm.Cond.code x code maxLocals ret :: tables_1) h _ List.mem_cons_self)
    exact ⟨meth, c, h1, h2, h3, h4, h5, h6⟩
  · intro p e s m args below meth c s₁ B hml0 hP _
    obtain ⟨rfl, hx, hbd, hgv⟩ := hP
    obtain ⟨scr, harrAt, hlist, hof, hsmall⟩ := hx
    obtain ⟨hcb, hkn, -, -⟩ := State.arrayAt?_spec harrAt
    have hown : s.vm.findClass R_law = some m.cls := findClass_of_methodNamed B.named
    have hts0 : ∀ c ∈ (Jvm.Cond.code x code maxLocals ret :: tables_1), c.before #[Value.ref b] s = true := atoms_spec (ws := Jvm.Cond.code x code maxLocals ret :: tables_1) B.pre
    have hts : ∀ w ∈ lw_tbl, w.before #[Value.ref b] s = true := k2_hts_sels lw_privs (fun w hw => hts0 w (List.mem_cons_of_mem _ hw)) lw_privs_ok
    have hml : c.maxLocals = 4 := B.maxLocals_eq (hts0 _ List.mem_cons_self)
    have X₀ : Stand p l e room_1 s m #[Value.ref b] below meth c s₁ [] 0 0 := Stand.of_body B
    have hh0 : s₁.heap = s.heap := by rw [B.state]; rfl
    have hsz : scr.slots.size = xs.length := by rw [← Array.length_toList, hlist, List.length_map]
    have hval : ∀ j : Nat, j < xs.length → scr.slots[j]? = some (.int (xs.getD j 0)) := fun j hj => by
      rw [← Array.getElem?_toList, hlist]
      simp [hj]
    have hbl : b < s.heap.size := (Array.getElem?_eq_some_iff.mp hcb).1
    have hX : va_X b xs.length (fun j => xs.getD j 0) s s.heap := ⟨scr, hcb, hof, hkn, hsz, hval⟩
    have K : W p l e room_1 s m #[Value.ref b] below meth c s₁.heap [] 0 0 (lw_Z below #[Value.ref b] s) (entryFrame m ([Value.ref b] : List Value).toArray 4) := by
      rw [hh0]
      exact whole_start l hbd ⟨B.exec, B.bytes, B.returns, hml, hown, hts, hX, hbl, B.notSynchronized, hgv⟩
    obtain ⟨t, a1, o, b1, b2, b3⟩ := K s₁ rfl X₀
    exact ⟨t, o, a1, b1, b2, b3⟩
theorem lw_pre_spec {args : Array Value} {s : State} (h : (Jvm.Cond.and given_1 narrow_1).before args s = true) (hr : rest_1_c.before args s = true) : ∃ (b : Addr) (xs : List Int32), lw_P b xs args s := by
  have hs := flat_of_before _ h
  have hq := flat_of_before _ hr
  have hc : (Cond.count 1).before args s = true := hs _ (by decide +kernel)
  have harr : (Cond.arrayOf (.arg 0) .int).before args s = true := hs _ (by decide +kernel)
  have hle : (Cond.le (.length (.arg 0)) (.int 3072)).before args s = true := hs _ (by decide +kernel)
  have hlen : (Cond.isInt (.length (.arg 0))).before args s = true := hq _ (by decide +kernel)
  have hall : (Cond.all (.arg 0) (.isInt (.elem (.arg 0) (.index 0)))).before args s = true := hq _ (by decide +kernel)
  obtain ⟨b, xs, hb, hx⟩ := State.ints_of_pre rfl harr hlen hall
  have hsm : xs.length < 2 ^ 31 := hx.choose_spec.2.2.2
  have hev : (Term.length (.arg 0)).eval args s none [] s = some (.int xs.length.toInt32) := hx.length_eval hb
  have hv := Cond.le_ints hev (show (Term.int 3072).eval args s none [] s = some (.int 3072) from rfl)
  have hd : xs.length.toInt32 ≤ 3072 := by
    simpa [Cond.before, Cond.holds, hv] using hle
  have hN : xs.length ≤ 3072 := (Int32.ofNat_le_ofNat hsm (by decide)).mp (show Int32.ofNat xs.length ≤ Int32.ofNat 3072 from hd)
  exact ⟨b, xs, Cond.one_arg hc (show args[0]? = some (.ref b) from hb), hx, hN, h⟩
theorem lw_comes (l : Launch) : Comes l x (Jvm.Cond.code x code maxLocals ret :: tables_1) room_1 (fun tb e args s => Calls_1 tb e args s ∧ rest_1 tb e args s ∧ Pre_1 tb e args s)
    (fun _ _ args s o t => lw_Q args s o t) := by
  intro p e ha hc hk s m args below hf hfit hheap happ hpre
  obtain ⟨b, xs, hP⟩ := lw_pre_spec hpre.2.2 hpre.2.1
  obtain ⟨k, o, h1, h2, h3, hQ⟩ := lw_walk l b xs p e ha hc hk s m args below hf ((Spec.applies_iff_loose hf).mp happ).1 hP trivial
  exact ⟨k, o, h1, h2, h3, hQ⟩
theorem lw_frame {s t : State} {o : Outcome} {args : Array Value} (h : Framed s o t [] 600000 7302250) :
    Framed s o t (fieldLocs frame_1_writes args s ++ arrayLocs frame_1_arrays args s ++ staticLocs frame_1_statics s) 600000 7302250 := h
theorem lw_limb (L : Cond) (hL : ∀ (args : Array Value) (s t : State), L.after args s (.returned (some (.int 1))) t = true) :
    ArmFor flags0 classFile x code maxLocals ret World_1 tables_1 room_1 Calls_1 rest_1 Pre_1
      (fun tb e a s o t => postC L tb e a s o t ∧ Framed s o t (fieldLocs frame_1_writes a s ++ arrayLocs frame_1_arrays a s ++ staticLocs frame_1_statics s) 600000 7302250) := by
  intro l _ _ _ p e ha hc hk s m args below hf hfit hheap happ hpre
  obtain ⟨k, o, h1, h2, h3, rfl, hF⟩ := lw_comes l p e ha hc hk s m args below hf hfit hheap happ hpre
  exact ⟨k, _, h1, h2, h3, hL args s _, lw_frame hF⟩
theorem i_vc : Claimed_1_1 ∧ Claimed_1_2 := ⟨lw_limb limb_1_1 (fun args s t => by simp [limb_1_1, Cond.after, Cond.holds, Cond.value]), lw_limb limb_1_2 (fun args s t => Cond.after_iff.mpr (by
  first | (rw [show limb_1_2 = Cond.eq .result (.int 1) from rfl, Cond.eq_ints (x := 1) (y := 1) rfl rfl]; simp; done) | (simp [limb_1_2, Cond.value, Term.eval]; done)))⟩
