/-! IMAGE: a method that may make a Bridge: the judgement of constructors, without the name -/
def zFJ (mt : zMT) (K : zKY) : Prop := match K with
  | (_, _, p, _, _, s, m, args, _, meth, c, _) => p.tables.exec = Jvm.exec ∧ c.code = mt.2.1 ∧ c.maxLocals = mt.2.2.1 ∧ s.vm.findClass mt.1 = some m.cls ∧ (∀ q ∈ zTB, q.before args s = true) ∧ meth.sig.returnType = mt.2.2.2.2 ∧ meth.locks = false
def zJ (sy : zSy) (mt : zMT) (K : zKY) (w : zW) (dn fr : List (Nat × Nat)) (cs ss pc : Nat) (al : List (Nat × zV)) (as : List zV) (σ : zG) : Prop := zFJ mt K → match K with
  | (w0, l, p, e, R, s, m, args, below, meth, c, Q) => zSt sy w s → zEn sy w (fun q => zA w0 q ∨ s.heap.size ≤ q) s s.heap → zInj w → zFl sy.1 w σ → zFr w σ fr → zExt w0 w dn → (∀ q, zA w q → zA w0 q ∨ s.heap.size ≤ q) → (∀ q ∈ al, zok w q.2) → (∀ a ∈ as, zok w a) → ∀ (H : Heap) (locs : List Loc) (ls : Array Slot), zGW sy.1 w σ H → va_S (fun q => zA w0 q ∨ s.heap.size ≤ q) s.heap H locs → lv_has ls mt.2.2.1 (al.map fun q => (q.1, zc w q.2)) →
    W p l e R s m args below meth c H locs cs ss Q (F0 m pc ls (as.map (zc w)))
/-- what it leaves -/
def zPostJ (sy : zSy) (w : zW) (news : List (Nat × Nat)) (v : Value) (σ' : zG) (sz : Nat) : Array Value → State → Outcome → State → Prop := fun _ st oc t => (oc = .returned (some v) ∧ ∃ w', zExt w w' news ∧ zGW sy.1 w' σ' t.heap ∧ zFl sy.1 w' σ' ∧ zInj w' ∧ ∀ q, zA w' q → zA w q ∨ sz ≤ q) ∧ va_F (fun q => zA w q ∨ sz ≤ q) st t
def zCj (l : Launch) (sy : zSy) (mt : zMT) (y : MethodName) (f i : Nat) (av : List zV) (news : List (Nat × Nat)) (σ σ' : zG) (v : Value) (mc ms : Nat) : Prop :=
  ∀ (w : zW) (sz : Nat), w.2.2.2.2 f i → (∀ a ∈ av, zok w a) → zInj w → zFl sy.1 w σ → zFr w σ news → Met l y (.code y mt.2.1 mt.2.2.1 mt.2.2.2.2 :: zTB) (zrmC mt.2.2.2.1 mc ms) (va_Pc ((zR f i :: av).map (zc w)) (fun U => U.heap.size = sz ∧ zGW sy.1 w σ U.heap ∧ zSt sy w U ∧ zEn sy w (fun q => zA w q ∨ sz ≤ q) U U.heap)) (zPostJ sy w news v σ' sz) mc ms (fun q => zA w q ∨ sz ≤ q)
section ZJR
variable {sy : zSy} {mt : zMT} {K : zKY} {w : zW} {dn fr : List (Nat × Nat)} {cs ss pc : Nat} {al al' : List (Nat × zV)} {as : List zV} {σ : zG}
theorem j9_iconst {n : Int} {v : Int32} (hd : decode mt.2.1 pc = .ok (.iconst n, 1)) (hv : Int32.ofInt n = v) (k : zJ sy mt K w dn fr cs ss (pc + 1) al (zI v :: as) σ) : zJ sy mt K w dn fr cs ss pc al as σ := by
  obtain ⟨w0, l, p, e, R, s, m, args, below, meth, c, Q⟩ := K
  intro F hSt hEn hI hFl hFr hE hA h1 h2 H locs ls hG hS hl
  obtain ⟨hx, hb, hml, hown, hts, hr, hlk⟩ := id F
  exact lv_iconst hx hb hd hv (k F hSt hEn hI hFl hFr hE hA h1 (zp trivial h2) H locs ls hG hS hl)
theorem j9_aload_n (j : Nat) {k0 : Fin 4} {i f x : Nat} (hd : decode mt.2.1 pc = .ok (.aload_n k0, 1)) (hi : (k0 : Nat) = i) (hj : al[j]? = some (i, zR f x)) (k : zJ sy mt K w dn fr cs ss (pc + 1) al (zR f x :: as) σ) : zJ sy mt K w dn fr cs ss pc al as σ := by
  obtain ⟨w0, l, p, e, R, s, m, args, below, meth, c, Q⟩ := K
  intro F hSt hEn hI hFl hFr hE hA h1 h2 H locs ls hG hS hl
  obtain ⟨hx, hb, hml, hown, hts, hr, hlk⟩ := id F
  exact lv_aload_n hx hb hd hi (zlv hl j hj) (k F hSt hEn hI hFl hFr hE hA h1 (zp (zmem h1 hj) h2) H locs ls hG hS hl)
theorem j9_iload_n (j : Nat) {k0 : Fin 4} {i : Nat} {x : Int32} (hd : decode mt.2.1 pc = .ok (.iload_n k0, 1)) (hi : (k0 : Nat) = i) (hj : al[j]? = some (i, zI x)) (k : zJ sy mt K w dn fr cs ss (pc + 1) al (zI x :: as) σ) : zJ sy mt K w dn fr cs ss pc al as σ := by
  obtain ⟨w0, l, p, e, R, s, m, args, below, meth, c, Q⟩ := K
  intro F hSt hEn hI hFl hFr hE hA h1 h2 H locs ls hG hS hl
  obtain ⟨hx, hb, hml, hown, hts, hr, hlk⟩ := id F
  exact lv_iload_n hx hb hd hi (zlv hl j hj) (k F hSt hEn hI hFl hFr hE hA h1 (zp trivial h2) H locs ls hG hS hl)
theorem j9_dup {a : zV} (hc : zcat a = 1) (hd : decode mt.2.1 pc = .ok (.dup, 1)) (k : zJ sy mt K w dn fr cs ss (pc + 1) al (a :: a :: as) σ) : zJ sy mt K w dn fr cs ss pc al (a :: as) σ := by
  obtain ⟨w0, l, p, e, R, s, m, args, below, meth, c, Q⟩ := K
  intro F hSt hEn hI hFl hFr hE hA h1 h2 H locs ls hG hS hl
  obtain ⟨hx, hb, hml, hown, hts, hr, hlk⟩ := id F
  exact lv_dup hx hb hd (by rw [zc_cat]; exact hc) (k F hSt hEn hI hFl hFr hE hA h1 (zp (zh h2) h2) H locs ls hG hS hl)
theorem j9_new {f i ci idx N : Nat} {C : String} {T : u_T} (ty : Nat → FieldType) (hf0 : sy.1.1 f = .inl ci) (h2t : ∀ k, sy.1.2.1 f k ≠ 2) (hcl : vwCl[ci]? = some (C, T, N)) (hin : ∀ q ∈ u_ws C T N, q ∈ zTB) (hty : ∀ k, k < N → parseFieldDescriptor (T k).2.2.1 = some (ty k)) (hdef : ∀ k, k < N → defaultValue (ty k) = (match sy.1.2.1 f k with | 0 => Value.int 0 | 1 => Value.long 0 | _ => Value.null)) (hw : Cond.classLink mt.1 idx C ∈ zTB ∧ Cond.instantiable C N ∈ zTB ∧ Cond.initialized C ∈ zTB) (hroom : ∀ l p e R s m args below meth c Q w0, K = (w0, l, p, e, R, s, m, args, below, meth, c, Q) → cs + 1 ≤ R.cells ∧ ss + N ≤ R.slots) (hd : decode mt.2.1 pc = .ok (.new idx, 3))
    (k : ∀ w', zJ sy mt K w' (dn ++ [(f, i)]) fr (cs + 1) (ss + N) (pc + 3) al (zR f i :: as) σ) : zJ sy mt K w dn ((f, i) :: fr) cs ss pc al as σ := by
  obtain ⟨w0, l, p, e, R, s, m, args, below, meth, c, Q⟩ := K
  intro F hSt hEn hI hFl hFr hE hA h1 h2 H locs ls hG hS hl
  obtain ⟨hx, hb, hml, hown, hts, hr, hlk⟩ := id F
  obtain ⟨r1, r2⟩ := hroom l p e R s m args below meth c Q w0 rfl
  obtain ⟨hn, hz⟩ := hFr.2 (f, i) List.mem_cons_self
  have hKn := hSt.1 ci _ hcl
  refine W.newcK hx hb hown (hts _ hw.1) (hts _ hw.2.1) (hts _ hw.2.2) rfl hd r1 r2 hKn.2.1 rfl fun H1 kC hkC e1 z1 o1 => ?_
  have hx1 := zadd_ext (a := H.size) hn
  have q := k (zadd w f i H.size) F hSt hEn (zInj_add hG hI hn) (zFl_add h2t hFl hz) (zFr_add hFr) (hE.trans hx1) (fun q hq => (zA_add hn hq).elim (hA q) (fun e => Or.inr (by rw [e]; exact hS.1))) (fun a ha => hx1.ok (h1 a ha)) (zp (Or.inl ⟨rfl, rfl⟩) (fun a ha => hx1.ok (h2 a ha))) H1 locs ls (zGW_add hG hFl hn o1 ?_) ⟨Nat.le_trans hS.1 (by omega), fun x g1 g2 => (o1 x (Nat.lt_of_lt_of_le g1 hS.1)).trans (hS.2.1 x g1 g2), hS.2.2⟩ (by rw [hx1.mapl h1]; exact hl)
  · rw [List.map_cons, hx1.map h2] at q
    rw [show zc (zadd w f i H.size) (zR f i) = Value.ref H.size from (by show Value.ref ((zadd w f i H.size).1 f i) = _; rw [zadd_new])] at q
    exact q
  · unfold zAt
    rw [hf0, zadd_new]
    refine ⟨_, hcl, (u_born ty hts hin hKn hkC e1 hty).to (fun j hj => ?_)⟩
    rw [hdef j hj]
    unfold zgv
    match hm : sy.1.2.1 f j with
    | 0 => simp [(hz j).1]
    | 1 => simp [(hz j).2]
    | 2 => exact absurd hm (h2t j)
    | n + 3 => simp [(hz j).1]
theorem j9_getR {f i ci k idx g j : Nat} (hl0 : zfl mt.1 idx ci k) (hf0 : sy.1.1 f = .inl ci) (ht : sy.1.2.1 f k = 3) (hrf : sy.1.2.2 f i k = some (g, j)) (hfl : σ.1 f i k ≠ 0) (hd : decode mt.2.1 pc = .ok (.getfield idx, 3)) (kk : zJ sy mt K w dn fr cs ss (pc + 3) al (zR g j :: as) σ) : zJ sy mt K w dn fr cs ss pc al (zR f i :: as) σ := by
  obtain ⟨w0, l, p, e, R, s, m, args, below, meth, c, Q⟩ := K
  intro F hSt hEn hI hFl hFr hE hA h1 h2 H locs ls hG hS hl
  obtain ⟨hx, hb, hml, hown, hts, hr, hlk⟩ := id F
  obtain ⟨C, T, N, hc, hin, hk, hlink⟩ := hl0
  have hlv : w.2.2.2.2 f i := zh h2
  have hat := hG f i hlv
  unfold zAt at hat
  rw [hf0] at hat
  obtain ⟨r, h3, cell, q1, q2, q3, q4⟩ := hat
  have hr' : r = (C, T, N) := Option.some.inj (h3.symm.trans hc)
  subst hr'
  obtain ⟨hSl, hfc, kC, hkC, hkind⟩ := hSt.1 ci _ hc
  obtain ⟨cf, kf, fi, fd, hi, hsl⟩ := hSl k hk
  have hlg : w.2.2.2.2 g j := by
    obtain ⟨-, b⟩ := hFl f i k hlv
    rcases b with b | b | b | b
    · omega
    · omega
    · exact absurd b hfl
    · exact b (g, j) hrf
  refine W.getf hx hb hown (hts _ hlink) hi (u_facts hfc hkC (u_lays hts hin hk) hi).1 q1 (by rw [q3]; intro h; cases h) (v := zc w (zR g j)) ?_ rfl rfl hd (kk F hSt hEn hI hFl hFr hE hA h1 (zp hlg (zd h2)) H locs ls hG hS hl)
  rw [hsl, q4 k hk]
  unfold zgv
  rw [ht, hrf]
  simp only [if_neg hfl]
  rfl
theorem j9_ctor {idx n f i mc ms : Nat} {y : MethodName} {host : String} {mt' : zMT} {av rest st : List zV} {news : List (Nat × Nat)} {σ1 : zG} (hM : ∀ l, zCt l sy mt' y f i av news σ σ1 mc ms) (hc : zcI y mt' n) (hlk0 : Cond.methodLink mt.1 idx y ∈ zTB ∨ (mt.1, idx, y, host) ∈ sy.2.1) (hlen : av.length = n) (hst : st = av.reverse ++ zR f i :: rest) (hroom : (rest.map zcat).sum ≤ 8) (hkeep : ∀ g j, (g, j) ≠ (f, i) → (g, j) ∉ news → ∀ k, σ1.1 g j k = σ.1 g j k ∧ σ1.2 g j k = σ.2 g j k) (hR : ∀ l p e R s m args below meth c Q w0, K = (w0, l, p, e, R, s, m, args, below, meth, c, Q) → (mt'.2.2.2.1 + 1 ≤ R.frames ∧ 8 + (mt'.2.2.1 + 11) + 64 * mt'.2.2.2.1 ≤ R.locals) ∧ cs + mc ≤ R.cells ∧ ss + ms ≤ R.slots)
    (hd : decode mt.2.1 pc = .ok (.invokespecial idx, 3)) (kk : ∀ w', zJ sy mt K w' (dn ++ news) fr (cs + mc) (ss + ms) (pc + 3) al rest σ1) : zJ sy mt K w dn (news ++ fr) cs ss pc al st σ := by
  subst hst
  obtain ⟨w0, l, p, e, R, s, m, args, below, meth, c, Q⟩ := K
  intro F hSt hEn hI hFl hFr hE hA h1 h2 H locs ls hG hS hl
  obtain ⟨hx, hb, hml, hown, hts, hr, hlk⟩ := id F
  obtain ⟨⟨hini, hcode, hy1, hy2, hlenY⟩, hinst, hyn, hret⟩ := hc
  obtain ⟨r1, r2, r3⟩ := hR l p e R s m args below meth c Q w0 rfl
  have hlv : w.2.2.2.2 f i := h2 (zR f i) (List.mem_append_right _ List.mem_cons_self)
  have hav : ∀ a ∈ av, zok w a := fun a ha => h2 a (List.mem_append_left _ (List.mem_reverse.mpr ha))
  have hrest : ∀ a ∈ rest, zok w a := fun a ha => h2 a (List.mem_append_right _ (List.mem_cons_of_mem _ ha))
  have hFr1 : zFr w σ news := ⟨(List.nodup_append.mp hFr.1).1, fun x hx => hFr.2 x (List.mem_append_left _ hx)⟩
  have hA2 : ∀ q, (zA w q ∨ H.size ≤ q) → (zA w0 q ∨ s.heap.size ≤ q) := fun q h => h.elim (hA q) (fun h => Or.inr (Nat.le_trans hS.1 h))
  have hMet := hM l w H.size hlv hav hI hFl hFr1
  rw [hret] at hMet hcode
  have hpre : PreS s H (va_Pc ((zR f i :: av).map (zc w)) (fun U => U.heap.size = H.size ∧ zGW sy.1 w σ U.heap ∧ zSt sy w U ∧ zEn sy w (fun q => zA w q ∨ H.size ≤ q) U U.heap)) (Value.ref (w.1 f i) :: av.map (zc w)) := ⟨yblind, fun U hU hW => ⟨rfl, by rw [hU], by rw [hU]; exact hG, hSt.warm hW, zEn.narrow hA2 (hEn.move hW (fun q g1 g2 => by rw [hU]; exact hS.2.1 q g1 g2))⟩⟩
  have hrun : va_Run p l e R s m args below meth c H locs cs ss mc ms (F0 m pc ls ((av.reverse ++ zR f i :: rest).map (zc w))) (rest.map (zc w)) (zPost sy w news σ1 H.size (Value.ref (w.1 f i) :: av.map (zc w)).toArray) (fun q => zA w q ∨ H.size ≤ q) := by
    have hstk : (av.reverse ++ zR f i :: rest).map (zc w) = (av.map (zc w)).reverse ++ .ref (w.1 f i) :: rest.map (zc w) := by rw [List.map_append, List.map_reverse]; rfl
    rcases hlk0 with hl1 | hl1
    · exact va_runI (g := F0 m pc ls ((av.reverse ++ zR f i :: rest).map (zc w))) (rest := rest.map (zc w)) (As := av.map (zc w)) (b := w.1 f i) ⟨hx, hb, hml, hown, hts⟩ hMet ⟨callB_of n hts (zGood hcode) rfl rfl rfl (hts _ hini) (hts _ hl1) ⟨hy1, hy2, hlenY⟩ r1, hyn, hts _ hinst⟩ hpre rfl (by rw [List.length_map]; exact hlen) hl.1 hstk (lv_room (zroom hroom)) hd ⟨r2, r3⟩
    · have hnest : zNestOk s (mt.1, idx, y, host) := hSt.2.2.1 _ hl1
      exact va_runIN (g := F0 m pc ls ((av.reverse ++ zR f i :: rest).map (zc w))) (rest := rest.map (zc w)) (As := av.map (zc w)) (b := w.1 f i) (host := host) ⟨hx, hb, hml, hown, hts⟩ hMet ⟨va_cnB n hts (zGood hcode) rfl rfl rfl hnest (hts _ hini) ⟨hy1, hy2, hlenY⟩ r1, hyn, hts _ hinst⟩ hpre rfl (by rw [List.length_map]; exact hlen) hl.1 hstk (lv_room (zroom hroom)) hd ⟨r2, r3⟩
  intro T hT X
  obtain ⟨v, st₀, t, T', L, g0, X', hL, e1, e2, ⟨⟨hv, w', hE', hG', hFl', hI', hA'⟩, hz, hk⟩, step⟩ := hrun T hT X
  cases hv
  rw [g0] at hz hk
  have hSt' : zSt sy w' s := by
    obtain ⟨-, -, -, x1, x2⟩ := hE'
    unfold zSt
    rw [x1, x2]
    exact hSt
  have hEn' : zEn sy w' (fun q => zA w0 q ∨ s.heap.size ≤ q) s s.heap := by
    obtain ⟨-, -, x1, -, -⟩ := hE'
    unfold zEn zLdc
    rw [x1]
    exact hEn
  have hFr' : zFr w' σ1 fr := by
    obtain ⟨n1, n2, n3⟩ := List.nodup_append.mp hFr.1
    refine ⟨n2, fun x hx => ⟨fun hl' => ?_, fun k => ?_⟩⟩
    · rcases (hE'.1 x.1 x.2).mp hl' with h | h
      · exact n3 _ h _ hx rfl
      · exact (hFr.2 x (List.mem_append_right _ hx)).1 h
    · have hne : (x.1, x.2) ≠ (f, i) := fun e => (hFr.2 x (List.mem_append_right _ hx)).1 (by cases e; exact hlv)
      have hnn : (x.1, x.2) ∉ news := fun h => n3 _ h _ hx rfl
      rw [(hkeep x.1 x.2 hne hnn k).1, (hkeep x.1 x.2 hne hnn k).2]
      exact (hFr.2 x (List.mem_append_right _ hx)).2 k
  have q := kk w' F hSt' hEn' hI' hFl' hFr' (hE.trans hE') (fun q hq => hA2 q (hA' q hq)) (fun a ha => hE'.ok (h1 a ha)) (fun a ha => hE'.ok (hrest a ha)) T'.heap (locs ++ L) ls (by rw [e1]; exact hG')
    ⟨Nat.le_trans hS.1 (by rw [e1]; exact hz), fun q g1 g2 => by rw [e1, hk q (Nat.lt_of_lt_of_le g1 hS.1) (fun z => g2 (hA2 q z))]; exact hS.2.1 q g1 g2, fun q hq => by
      rcases List.mem_append.mp hq with h | h
      · exact hS.2.2 q h
      · exact hA2 _ (hL q h)⟩ (by rw [hE'.mapl h1]; exact hl)
  rw [hE'.map hrest] at q
  obtain ⟨t2, a1, b1⟩ := q T' rfl X'
  exact ⟨t2, step t2 a1, b1⟩
theorem j9_callX {idx n f i ci : Nat} {r : vw_C} {y : MethodName} {mt' : zMT} {av rest st : List zV} {σ1 : zG} {syN : zSy} (B : Nat → Nat → Prop) (hM : ∀ l, zMet l syN mt' y (zR f i :: av) σ none σ1) (hc : zcV y mt' n) (hlk0 : Cond.methodLink mt.1 idx y ∈ zTB) (hf0 : sy.1.1 f = .inl ci) (hcl : vwCl[ci]? = some r) (hry : r.1 = y.cls) (hlen : av.length = n) (hst : st = av.reverse ++ zR f i :: rest) (hroom : (rest.map zcat).sum ≤ 8)
    (hl1 : syN.1.1 = sy.1.1) (hl3 : syN.1.2.2 = sy.1.2.2) (hl4 : syN.2.1 = sy.2.1) (hl5 : syN.2.2.1 = sy.2.2.1) (hl6 : syN.2.2.2 = sy.2.2.2) (hBf : B f i) (hBav : ∀ a ∈ av, ∀ w : zW, zok w a → zok (zpart w B) a) (hB1 : ∀ g j, B g j → zSame sy.1 syN.1 σ g j) (hB2 : ∀ g j, B g j → zSame sy.1 syN.1 σ1 g j) (hB0 : ∀ g j k t, syN.1.2.1 g k = 2 → syN.1.2.2 g j k = some t → k < zsz sy.1 g) (hB3 : ∀ g j k t, B g j → syN.1.2.1 g k = 2 → syN.1.2.2 g j k = some t → B t.1 t.2) (hBn : ∀ g j, ¬ B g j → ∀ k, σ1.1 g j k = σ.1 g j k ∧ σ1.2 g j k = σ.2 g j k) (hBfr : ∀ x ∈ fr, ¬ B x.1 x.2) (hBk : ∀ g j k, B g j → sy.1.2.1 g k ≠ 0 → sy.1.2.1 g k ≠ 1 → σ1.1 g j k = σ.1 g j k)
    (hR : ∀ l p e R s m args below meth c Q w0, K = (w0, l, p, e, R, s, m, args, below, meth, c, Q) → (mt'.2.2.2.1 + 1 ≤ R.frames ∧ 8 + (mt'.2.2.1 + 11) + 64 * mt'.2.2.2.1 ≤ R.locals) ∧ cs ≤ R.cells ∧ ss ≤ R.slots)
    (hd : decode mt.2.1 pc = .ok (.invokevirtual idx, 3)) (kk : zJ sy mt K w dn fr cs ss (pc + 3) al rest σ1) : zJ sy mt K w dn fr cs ss pc al st σ := by
  subst hst
  obtain ⟨w0, l, p, e, R, s, m, args, below, meth, c, Q⟩ := K
  intro F hSt hEn hI hFl hFr hE hA h1 h2 H locs ls hG hS hl
  obtain ⟨hx, hb, hml, hown, hts, hr, hlk⟩ := id F
  obtain ⟨⟨hini, hcode, hy1, hy2, hlenY⟩, hinst, hsel⟩ := hc
  obtain ⟨r1, r2, r3⟩ := hR l p e R s m args below meth c Q w0 rfl
  have hlv : w.2.2.2.2 f i := h2 (zR f i) (List.mem_append_right _ List.mem_cons_self)
  have hrest : ∀ a ∈ rest, zok w a := fun a ha => h2 a (List.mem_append_right _ (List.mem_cons_of_mem _ ha))
  have hwp : (zpart w B).1 = w.1 ∧ (zpart w B).2.2.1 = w.2.2.1 ∧ (zpart w B).2.2.2.1 = w.2.2.2.1 := ⟨rfl, rfl, rfl⟩
  have hGp : zGW syN.1 (zpart w B) σ H := fun g j hg => (zAt_same hl1 hl3 hwp (hB1 g j hg.2)).mpr (hG g j hg.1)
  have hsubA : ∀ q, zA (zpart w B) q → zA w q := fun q h => by
    obtain ⟨g, j, hg, e⟩ := h
    exact ⟨g, j, hg.1, e⟩
  have hAllp : zAll syN (zpart w B) s := by
    refine ⟨⟨hSt.1, fun g j ty nn hk hg => hSt.2.1 g ty nn (by rw [← hl1]; exact hk), by rw [hl4]; exact hSt.2.2.1⟩, ⟨fun g1 j1 g2 j2 a1 a2 e => hI g1 j1 g2 j2 a1.1 a2.1 e, fun g j k t hg ht hrf => ⟨?_, hB3 g j k t hg.2 ht hrf⟩⟩, ?_⟩
    · obtain ⟨b1, b2⟩ := hFl g j k hg.1
      have hkk : syN.1.2.1 g k = sy.1.2.1 g k ∨ (syN.1.2.1 g k = 2 ∧ sy.1.2.1 g k = 3 ∧ σ.1 g j k ≠ 0) := by
        rcases hB1 g j hg.2 with h | ⟨-, h⟩
        · exact Or.inl (h k)
        · exact h k (hB0 g j k t ht hrf)
      rcases hkk with e | ⟨-, e2, e3⟩
      · exact absurd (e.symm.trans ht) b1
      · rcases b2 with b | b | b | b
        · omega
        · omega
        · exact absurd b e3
        · exact b t (by rw [← hl3]; exact hrf)
    · have hn := zEn.narrow (B := zA (zpart w B)) (fun q hq => hA q (hsubA q hq)) hEn
      have hn2 : zEn syN (zpart w B) (zA (zpart w B)) s s.heap := by
        unfold zEn
        rw [hl5, hl6]
        exact hn
      exact hn2.all
  have hat := hG f i hlv
  unfold zAt at hat
  rw [hf0] at hat
  obtain ⟨r', h3, cell, q1, q2, q3, q4⟩ := hat
  obtain ⟨-, hfc, -⟩ := hSt.1 ci _ hcl
  rw [hry] at hfc
  have hav2 : ∀ a ∈ zR f i :: av, zok (zpart w B) a := fun a ha => by
    rcases List.mem_cons.mp ha with h | h
    · rw [h]; exact ⟨hlv, hBf⟩
    · exact hBav a h _ (h2 a (List.mem_append_left _ (List.mem_reverse.mpr h)))
  have hSp : ∀ q, s.heap.size ≤ q → (zA w0 q ∨ s.heap.size ≤ q) := fun q h => Or.inr h
  have emap : ∀ l0 : List zV, l0.map (zc (zpart w B)) = l0.map (zc w) := fun l0 => List.map_congr_left fun a _ => zc_part w B a
  have hpre : ∀ U : State, U.heap = H → s.WarmedH U.vm → va_Pc ((zR f i :: av).map (zc (zpart w B))) (fun U => zGW syN.1 (zpart w B) σ U.heap ∧ zAll syN (zpart w B) U) ((zR f i :: av).map (zc (zpart w B))).toArray U := fun U hU hW => ⟨rfl, by rw [hU]; exact hGp, by
    refine ⟨hAllp.1.warm hW, hAllp.2.1, ?_⟩
    have hn := zEn.narrow (B := zA (zpart w B)) (fun q hq => hA q (hsubA q hq)) (hEn.move hW (U := U) (fun q g1 g2 => by rw [hU]; exact hS.2.1 q g1 g2))
    have hn2 : zEn syN (zpart w B) (zA (zpart w B)) U U.heap := by
      unfold zEn
      rw [hl5, hl6]
      exact hn
    exact hn2.all⟩
  have hMet := hM l (zpart w B) hav2
  rw [List.map_append, List.map_reverse, List.map_cons]
  have hrun := va_runV (g := F0 m pc ls ((av.map (zc w)).reverse ++ zc w (zR f i) :: rest.map (zc w))) (rest := rest.map (zc w)) (As := av.map (zc w)) (b := w.1 f i) (C := y.cls) (H := H) (locs := locs) (cells := cs) (slots := ss) (R := R) (e := e) (below := below) (meth := meth) ⟨hx, hb, hml, hown, hts⟩ hMet ⟨callB_of n hts (zGood hcode) rfl rfl rfl (hts _ hini) (hts _ hlk0) ⟨hy1, hy2, hlenY⟩ r1, hts _ hinst, hts _ hsel⟩ ⟨zblind, ⟨cell, q1, by rw [q3]; rfl, by rw [q2]; exact hfc⟩, by have := hpre; rw [List.map_cons, emap av] at this; exact this⟩ rfl (by rw [List.length_map]; exact hlen) hl.1 rfl (lv_room (zroom hroom)) hd ⟨r2, r3⟩
  intro T hT X
  obtain ⟨v, st₀, t, T', L, g0, X', hL, e1, e2, ⟨⟨hv, hG', -⟩, hz, hk⟩, step⟩ := hrun T hT X
  cases hv
  rw [g0] at hz hk
  have hG2 : zGW sy.1 w σ1 T'.heap := fun g j hg => by
    by_cases hb0 : B g j
    · have := hG' g j ⟨hg, hb0⟩
      rw [e1]
      exact (zAt_same hl1 hl3 hwp (hB2 g j hb0)).mp this
    · have h0 := hG g j hg
      have hlt := hG.lt (zA_in hg)
      have hnA : ¬ zA (zpart w B) (w.1 g j) := by
        rintro ⟨g', j', hg', e⟩
        obtain ⟨rfl, rfl⟩ := hI _ _ _ _ hg'.1 hg e
        exact hb0 hg'.2
      have eq : T'.heap[w.1 g j]? = H[w.1 g j]? := by rw [e1]; exact hk _ hlt hnA
      have ez : zgv sy.1 w σ1 g j = zgv sy.1 w σ g j := by
        funext k
        unfold zgv
        rw [(hBn g j hb0 k).1, (hBn g j hb0 k).2]
      unfold zAt at h0 ⊢
      rw [ez]
      cases hkk : sy.1.1 g with
      | inl c0 =>
        rw [hkk] at h0
        obtain ⟨rr, x1, x2⟩ := h0
        exact ⟨rr, x1, x2.kept eq⟩
      | inr t0 =>
        rw [hkk] at h0
        exact ⟨eq.trans h0.1, h0.2⟩
  have hFl2 : zFl sy.1 w σ1 := fun g j k hg => by
    obtain ⟨b1, b2⟩ := hFl g j k hg
    refine ⟨b1, ?_⟩
    rcases b2 with b | b | b | b
    · exact Or.inl b
    · exact Or.inr (Or.inl b)
    · by_cases hb0 : B g j
      · by_cases z0 : sy.1.2.1 g k = 0
        · exact Or.inl z0
        · by_cases z1 : sy.1.2.1 g k = 1
          · exact Or.inr (Or.inl z1)
          · exact Or.inr (Or.inr (Or.inl (by rw [hBk g j k hb0 z0 z1]; exact b)))
      · exact Or.inr (Or.inr (Or.inl (by rw [(hBn g j hb0 k).1]; exact b)))
    · exact Or.inr (Or.inr (Or.inr b))
  have hFr2 : zFr w σ1 fr := ⟨hFr.1, fun x hx => ⟨(hFr.2 x hx).1, fun k => by rw [(hBn _ _ (hBfr x hx) k).1, (hBn _ _ (hBfr x hx) k).2]; exact (hFr.2 x hx).2 k⟩⟩
  obtain ⟨t2, a1, b1⟩ := kk F hSt hEn hI hFl2 hFr2 hE hA h1 hrest T'.heap (locs ++ L) ls hG2
    ⟨Nat.le_trans hS.1 (by rw [e1]; exact hz), fun q g1 g2 => by rw [e1, hk q (Nat.lt_of_lt_of_le g1 hS.1) (fun z => g2 (hA q (hsubA q z)))]; exact hS.2.1 q g1 g2, fun q hq => by
      rcases List.mem_append.mp hq with h | h
      · exact hS.2.2 q h
      · exact hA _ (hsubA _ (hL q h))⟩ hl T' rfl X'
  exact ⟨t2, step t2 a1, b1⟩
theorem j9_ifeqT {a : Int32} {off : Int} (tgt : Nat) (hd : decode mt.2.1 pc = .ok (.ifCond .eq off, 3)) (ht : (pc : Int) + off = (tgt : Int)) (hc : a = 0) (k : zJ sy mt K w dn fr cs ss tgt al as σ) : zJ sy mt K w dn fr cs ss pc al (zI a :: as) σ := by
  obtain ⟨w0, l, p, e, R, s, m, args, below, meth, c, Q⟩ := K
  intro F hSt hEn hI hFl hFr hE hA h1 h2 H locs ls hG hS hl
  obtain ⟨hx, hb, hml, hown, hts, hr, hlk⟩ := id F
  exact lv_if_eq hx hb hd ht (fun _ => k F hSt hEn hI hFl hFr hE hA h1 (zd h2) H locs ls hG hS hl) (fun h => absurd hc h)
theorem j9_ifeqF {a : Int32} {off : Int} (tgt : Nat) (hd : decode mt.2.1 pc = .ok (.ifCond .eq off, 3)) (ht : (pc : Int) + off = (tgt : Int)) (hc : a ≠ 0) (k : zJ sy mt K w dn fr cs ss (pc + 3) al as σ) : zJ sy mt K w dn fr cs ss pc al (zI a :: as) σ := by
  obtain ⟨w0, l, p, e, R, s, m, args, below, meth, c, Q⟩ := K
  intro F hSt hEn hI hFl hFr hE hA h1 h2 H locs ls hG hS hl
  obtain ⟨hx, hb, hml, hown, hts, hr, hlk⟩ := id F
  exact lv_if_eq hx hb hd ht (fun h => absurd h hc) (fun _ => k F hSt hEn hI hFl hFr hE hA h1 (zd h2) H locs ls hG hS hl)
theorem j9_nnN {f : Nat} {off : Int} (hd : decode mt.2.1 pc = .ok (.ifnonnull off, 3)) (k : zJ sy mt K w dn fr cs ss (pc + 3) al as σ) : zJ sy mt K w dn fr cs ss pc al (zN f :: as) σ := by
  obtain ⟨w0, l, p, e, R, s, m, args, below, meth, c, Q⟩ := K
  intro F hSt hEn hI hFl hFr hE hA h1 h2 H locs ls hG hS hl
  obtain ⟨hx, hb, hml, hown, hts, hr, hlk⟩ := id F
  exact lv_ifnonnullN hx hb hd (k F hSt hEn hI hFl hFr hE hA h1 (zd h2) H locs ls hG hS hl)
theorem j9_nnR {f i : Nat} {off : Int} (tgt : Nat) (hd : decode mt.2.1 pc = .ok (.ifnonnull off, 3)) (ht : (pc : Int) + off = (tgt : Int)) (k : zJ sy mt K w dn fr cs ss tgt al as σ) : zJ sy mt K w dn fr cs ss pc al (zR f i :: as) σ := by
  obtain ⟨w0, l, p, e, R, s, m, args, below, meth, c, Q⟩ := K
  intro F hSt hEn hI hFl hFr hE hA h1 h2 H locs ls hG hS hl
  obtain ⟨hx, hb, hml, hown, hts, hr, hlk⟩ := id F
  exact lv_ifnonnull hx hb hd ht (k F hSt hEn hI hFl hFr hE hA h1 (zd h2) H locs ls hG hS hl)
/-- a field that is null -/
theorem j9_getN {f i ci k idx g : Nat} (hl0 : zfl mt.1 idx ci k) (hf0 : sy.1.1 f = .inl ci) (ht : sy.1.2.1 f k = 3) (hfl : σ.1 f i k = 0) (hd : decode mt.2.1 pc = .ok (.getfield idx, 3)) (kk : zJ sy mt K w dn fr cs ss (pc + 3) al (zN g :: as) σ) : zJ sy mt K w dn fr cs ss pc al (zR f i :: as) σ := by
  obtain ⟨w0, l, p, e, R, s, m, args, below, meth, c, Q⟩ := K
  intro F hSt hEn hI hFl hFr hE hA h1 h2 H locs ls hG hS hl
  obtain ⟨hx, hb, hml, hown, hts, hr, hlk⟩ := id F
  obtain ⟨C, T, N, hc, hin, hk, hlink⟩ := hl0
  have hlv : w.2.2.2.2 f i := zh h2
  have hat := hG f i hlv
  unfold zAt at hat
  rw [hf0] at hat
  obtain ⟨r, h3, cell, q1, q2, q3, q4⟩ := hat
  have hr' : r = (C, T, N) := Option.some.inj (h3.symm.trans hc)
  subst hr'
  obtain ⟨hSl, hfc, kC, hkC, hkind⟩ := hSt.1 ci _ hc
  obtain ⟨cf, kf, fi, fd, hi, hsl⟩ := hSl k hk
  refine W.getf hx hb hown (hts _ hlink) hi (u_facts hfc hkC (u_lays hts hin hk) hi).1 q1 (by rw [q3]; intro h; cases h) (v := zc w (zN g)) ?_ rfl rfl hd (kk F hSt hEn hI hFl hFr hE hA h1 (zp trivial (zd h2)) H locs ls hG hS hl)
  rw [hsl, q4 k hk]
  unfold zgv
  rw [ht]
  simp only [if_pos hfl]
  rfl
/-- a reference into a field that is not final -/
theorem j9_putR {f i ci k idx g j : Nat} {ty : FieldType} (hl0 : zfw mt.1 idx ci k ty) (hf0 : sy.1.1 f = .inl ci) (ht : sy.1.2.1 f k = 3) (hrf : sy.1.2.2 f i k = some (g, j)) (hR : zIsR ty) (hd : decode mt.2.1 pc = .ok (.putfield idx, 3)) (kk : zJ sy mt K w dn fr cs ss (pc + 3) al as (zwI σ f i k 1)) : zJ sy mt K w dn fr cs ss pc al (zR g j :: zR f i :: as) σ := by
  obtain ⟨w0, l, p, e, R, s, m, args, below, meth, c, Q⟩ := K
  intro F hSt hEn hI hFl hFr hE hA h1 h2 H locs ls hG hS hl
  obtain ⟨hx, hb, hml, hown, hts, hr, hlk⟩ := id F
  obtain ⟨C, T, N, ty0, hc, hin, hk, hlink, hty, hnm2, hfin, hpd⟩ := hl0
  have hlg : w.2.2.2.2 g j := zh h2
  have hlv : w.2.2.2.2 f i := zh (zd h2)
  have hat := hG f i hlv
  unfold zAt at hat
  rw [hf0] at hat
  obtain ⟨r, h3, cell, q1, q2, q3, q4⟩ := hat
  have hr' : r = (C, T, N) := Option.some.inj (h3.symm.trans hc)
  subst hr'
  have hap := va_apart (D := w.2.2.1) (cl := vwCl) (tys := []) (own := mt.1) hts hin ty0 hty hnm2 ⟨hSt.1, fun k q h => by simp at h⟩ hc
  obtain ⟨hSl, hfc, kC, hkC, hkind⟩ := hSt.1 ci _ hc
  obtain ⟨cf, kf, fi, fd, hi, hsl⟩ := hSl k hk
  have hlay := hts _ (hin _ (u_in_lay hk))
  unfold u_lay at hlay
  rw [if_neg (by rw [hfin]; decide)] at hlay
  have hst := (u_facts hfc hkC (u_lays hts hin hk) hi).1
  have h6 := u_store hfc hkC hkind hlay hi hpd (hR (w.1 g j)).1 (hR (w.1 g j)).2
  refine W.putK hx hb (f := fd) ⟨hown, hts _ hlink, ⟨_, _, _, hi⟩, hst⟩ (by rw [q2]; exact h6) q1 q3 (by rw [hsl]; exact k2_hasslot (q4 k hk)) rfl rfl hd fun H' e1 e2 e3 => ?_
  rw [hsl] at e1 ⊢
  refine kk F hSt hEn hI (zFl_w hFl (Or.inr (Or.inr (fun t htt => by rw [hrf] at htt; cases htt; exact hlg)))) (zFr_w hlv hFr) hE hA h1 (zd (zd h2)) H' _ ls (hG.upd hI hlv (fun g j h => zgv_wI_ne h) e3 ?_) (hS.put e2 e3 (hA _ (zA_in hlv))) hl
  unfold zAt
  rw [hf0, zgv_wR ht hrf]
  exact ⟨_, hc, _, e1, q2, q3, t_set q4 hap hk (.ref (w.1 g j))⟩
theorem j9_iret {x : Int32} {ty : FieldType} (hrt : mt.2.2.2.2 = some ty) (hn : narrow ty (.int x) = .int x) (hQ : ∀ below s args w0 Q, zKm K = (below, s, args, w0, Q) → Q = MQ below (zPostJ sy w0 dn (.int x) σ s.heap.size) args s cs ss (fun q => zA w0 q ∨ s.heap.size ≤ q)) (hd : decode mt.2.1 pc = .ok (.ireturn, 1)) : zJ sy mt K w dn fr cs ss pc al [zI x] σ := by
  obtain ⟨w0, l, p, e, R, s, m, args, below, meth, c, Q⟩ := K
  intro F hSt hEn hI hFl hFr hE hA h1 h2 H locs ls hG hS hl
  obtain ⟨hx, hb, hml, hown, hts, hr, hlk⟩ := id F
  have e := hQ below s args w0 Q rfl
  subst e
  exact W.zret hx hb (hr.trans hrt) hn (fun t ht hW => ⟨⟨rfl, w, hE, by rw [ht]; exact hG, hFl, hI, hA⟩, hS.F ht⟩) hS.2.2 hd hlk
end ZJR
theorem jEnter {l : Launch} {sy : zSy} {mt : zMT} {y : MethodName} {f i : Nat} {av : List zV} {news : List (Nat × Nat)} {σ σ' : zG} {v : Value} {mc ms : Nat} (al : List (Nat × zV)) (hy : plainName y.cls = true) (hyc : y.cls = mt.1) (hsz : ∀ w, (lg_sl ((zR f i :: av).map (zc w))).length ≤ mt.2.2.1) (hal : ∀ w, lv_args 0 ((zR f i :: av).map (zc w)) = al.map fun q => (q.1, zc w q.2)) (hmem : ∀ w : zW, (∀ a ∈ zR f i :: av, zok w a) → ∀ q ∈ al, zok w q.2)
    (k : ∀ (K : zKY) (w : zW), (∀ l p e R s m args below meth c Q w0, K = (w0, l, p, e, R, s, m, args, below, meth, c, Q) → R = zrmC mt.2.2.2.1 mc ms) → (∀ below s args w0 Q, zKm K = (below, s, args, w0, Q) → Q = MQ below (zPostJ sy w0 news v σ' s.heap.size) args s mc ms (fun q => zA w0 q ∨ s.heap.size ≤ q)) → zJ sy mt K w [] news 0 0 0 al [] σ) : zCj l sy mt y f i av news σ σ' v mc ms := by
  intro w sz hlv hav hI hFl hFr
  refine Met.ofW (cc := mt.2.1) (maxL := mt.2.2.1) (ret := mt.2.2.2.2) hy rfl ?_
  intro p e s m args below meth c s₁ B hml hv
  obtain ⟨rfl, hsz2, hG, hSt, hEn⟩ := hv
  subst hsz2
  have hx := B.exec
  have hb := B.bytes
  have hr := B.returns
  have hts := atoms_spec (ws := .code y mt.2.1 mt.2.2.1 mt.2.2.2.2 :: zTB) B.pre
  have hown : s.vm.findClass y.cls = some m.cls := findClass_of_methodNamed B.named
  have hlocks := B.notSynchronized
  have hl := lv_entry ((zR f i :: av).map (zc w)) (n := mt.2.2.1) (hsz w)
  rw [lg_entry_eq]
  generalize (lg_sl ((zR f i :: av).map (zc w)) ++ List.replicate (mt.2.2.1 - (lg_sl ((zR f i :: av).map (zc w))).length) Slot.unset).toArray = ls at hl ⊢
  rw [hal w] at hl
  refine k (w, l, p, e, zrmC mt.2.2.2.1 mc ms, s, m, ((zR f i :: av).map (zc w)).toArray, below, meth, c, _) w (fun _ _ _ _ _ _ _ _ _ _ _ _ h => by cases h; rfl) (fun _ _ _ _ _ h => by cases h; rfl) ⟨hx, hb, hml, by rw [← hyc]; exact hown, fun q hq => hts q (List.mem_cons_of_mem _ hq), hr, hlocks⟩ hSt hEn hI hFl hFr (zExt.refl w) (fun q h => Or.inl h) (hmem w (zp hlv hav)) (fun a ha => by cases ha) s.heap [] ls hG va_S.rf hl
