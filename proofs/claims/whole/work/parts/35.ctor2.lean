/-! CONSTRUCTORS, second part: references, calls, the entry and the end -/
theorem zgv_wR {ly : zLy} {w : zW} {σ : zG} {f i k g j : Nat} (ht : ly.2.1 f k = 3) (hr : ly.2.2 f i k = some (g, j)) : zgv ly w (zwI σ f i k 1) f i = updV (zgv ly w σ f i) k (.ref (w.1 g j)) := by
  funext q
  by_cases hq : q = k
  · subst hq
    simp [zgv, zwI, updV, ht, hr, zrf]
  · simp [zgv, zwI, updV, hq]
theorem zFl_w {ly : zLy} {w : zW} {σ : zG} {f i k : Nat} {x : Int32} (hFl : zFl ly w σ) (hk : ly.2.1 f k = 0 ∨ ly.2.1 f k = 1 ∨ ∀ t, ly.2.2 f i k = some t → w.2.2.2.2 t.1 t.2) : zFl ly w (zwI σ f i k x) := by
  intro f' i' k' h
  obtain ⟨b1, b2⟩ := hFl f' i' k' h
  refine ⟨b1, ?_⟩
  by_cases hx : f' = f ∧ i' = i ∧ k' = k
  · obtain ⟨rfl, rfl, rfl⟩ := hx
    rcases hk with a | a | a
    · exact Or.inl a
    · exact Or.inr (Or.inl a)
    · exact Or.inr (Or.inr (Or.inr a))
  · rcases b2 with a | a | a | a
    · exact Or.inl a
    · exact Or.inr (Or.inl a)
    · exact Or.inr (Or.inr (Or.inl (by show (if f' = f ∧ i' = i ∧ k' = k then x else σ.1 f' i' k') = 0; rw [if_neg hx]; exact a)))
    · exact Or.inr (Or.inr (Or.inr a))
/-- a final field that a constructor sets -/
def zfF (own : String) (idx ci k : Nat) (ty : FieldType) : Prop := ∃ (C : String) (T : u_T) (N : Nat) (ty0 : Nat → FieldType), vwCl[ci]? = some (C, T, N) ∧ (∀ q ∈ u_ws C T N, q ∈ zTB) ∧ k < N ∧ Cond.fieldLink own idx (T k).1 (T k).2.1 (T k).2.2.1 ∈ zTB ∧ (∀ k, k < N → parseFieldDescriptor (T k).2.2.1 = some (ty0 k)) ∧ (∀ a, a < N → ∀ b, b < N → a ≠ b → (T a).2.1 ≠ (T b).2.1) ∧ (T k).2.2.2 = true ∧ (T k).1 = own ∧ parseFieldDescriptor (T k).2.2.1 = some ty
def zIsR (ty : FieldType) : Prop := ∀ a : Nat, narrow ty (.ref a) = .ref a ∧ fits ty (.ref a) = true
def zKm (K : zKY) : List Frame × State × Array Value × zW × (State → Prop) := match K with
  | (w0, _, _, _, _, s, _, args, below, _, _, Q) => (below, s, args, w0, Q)
/-- what a constructor leaves -/
def zPost (sy : zSy) (w : zW) (news : List (Nat × Nat)) (σ' : zG) (sz : Nat) : Array Value → State → Outcome → State → Prop := fun _ st oc t => (oc = .returned none ∧ ∃ w', zExt w w' news ∧ zGW sy.1 w' σ' t.heap ∧ zFl sy.1 w' σ' ∧ zInj w' ∧ ∀ q, zA w' q → zA w q ∨ sz ≤ q) ∧ va_F (fun q => zA w q ∨ sz ≤ q) st t
section ZYS
variable {sy : zSy} {mt : zMT} {K : zKY} {w : zW} {dn fr : List (Nat × Nat)} {cs ss pc : Nat} {al al' : List (Nat × zV)} {as : List zV} {σ : zG}
theorem y_putR {f i ci k idx g j : Nat} {ty : FieldType} (hl0 : zfF mt.1 idx ci k ty) (hf0 : sy.1.1 f = .inl ci) (ht : sy.1.2.1 f k = 3) (hrf : sy.1.2.2 f i k = some (g, j)) (hR : zIsR ty) (hd : decode mt.2.1 pc = .ok (.putfield idx, 3)) (kk : zY sy mt K w dn fr cs ss (pc + 3) al as (zwI σ f i k 1)) : zY sy mt K w dn fr cs ss pc al (zR g j :: zR f i :: as) σ := by
  obtain ⟨w0, l, p, e, R, s, m, args, below, meth, c, Q⟩ := K
  intro F hSt hEn hI hFl hFr hE hA h1 h2 H locs ls hG hS hl
  obtain ⟨hx, hb, hml, hown, hts, hr, hlk, hnm⟩ := id F
  obtain ⟨C, T, N, ty0, hc, hin, hk, hlink, hty, hnm2, hfin, hdecl, hpd⟩ := hl0
  have hlv : w.2.2.2.2 f i := zh (zd h2)
  have hat := hG f i hlv
  unfold zAt at hat
  rw [hf0] at hat
  obtain ⟨r, h3, cell, q1, q2, q3, q4⟩ := hat
  have hr' : r = (C, T, N) := Option.some.inj (h3.symm.trans hc)
  subst hr'
  have hap := va_apart (D := w.2.2.1) (cl := vwCl) (tys := []) (own := mt.1) hts hin ty0 hty hnm2 ⟨hSt.1, fun k q h => by simp at h⟩ hc
  obtain ⟨hSl, hfc, kC, hkC, hkind⟩ := hSt.1 ci _ hc
  obtain ⟨cf, kf, fi, fd, hi, hsl⟩ := hSl k hk
  have hlay := hts _ (hin _ (u_in_lay hk))
  unfold u_lay at hlay
  rw [if_pos hfin] at hlay
  have hst := (u_facts hfc hkC (u_lays hts hin hk) hi).1
  have hcf : m.cls = cf := by
    obtain ⟨_, _, c', _, _, _, -, -, hf', -, -, -, hown2, -⟩ := Cond.laysFinal_spec hlay
    have e1 : c' = cf := by have := hi.symm.trans hf'; simp at this; exact this.1.symm
    rw [hdecl] at hown2
    rw [← e1]; exact Option.some.inj (hown.symm.trans hown2)
  have h6 := u_fits (v := .ref (w.1 g j)) hfc hkC hkind (Or.inr hlay) hi hpd (hR _).1 (hR _).2
  refine W.putFinK hx hb hown (hts _ hlink) hi hst hcf hnm (by rw [q2]; exact h6) q1 q3 (by rw [hsl]; exact k2_hasslot (q4 k hk)) rfl rfl hd fun H' e1 e2 e3 => ?_
  rw [hsl] at e1 ⊢
  have hlg : w.2.2.2.2 g j := zh h2
  refine kk F hSt hEn hI (zFl_w hFl (Or.inr (Or.inr (fun t htt => by rw [hrf] at htt; cases htt; exact hlg)))) (zFr_w hlv hFr) hE hA h1 (zd (zd h2)) H' _ ls (hG.upd hI hlv (fun g j h => zgv_wI_ne h) e3 ?_) (hS.put e2 e3 (hA _ (zA_in hlv))) hl
  unfold zAt
  rw [hf0, zgv_wR ht hrf]
  exact ⟨_, hc, _, e1, q2, q3, t_set q4 hap hk (.ref (w.1 g j))⟩
theorem y_putI {f i ci k idx : Nat} {x : Int32} {ty : FieldType} (hl0 : zfw mt.1 idx ci k ty) (hf0 : sy.1.1 f = .inl ci) (ht : sy.1.2.1 f k = 0) (hn : narrow ty (.int x) = .int x) (hfit : fits ty (.int x) = true) (hd : decode mt.2.1 pc = .ok (.putfield idx, 3)) (kk : zY sy mt K w dn fr cs ss (pc + 3) al as (zwI σ f i k x)) : zY sy mt K w dn fr cs ss pc al (zI x :: zR f i :: as) σ := by
  obtain ⟨w0, l, p, e, R, s, m, args, below, meth, c, Q⟩ := K
  intro F hSt hEn hI hFl hFr hE hA h1 h2 H locs ls hG hS hl
  obtain ⟨hx, hb, hml, hown, hts, hr, hlk, hnm⟩ := id F
  obtain ⟨C, T, N, ty0, hc, hin, hk, hlink, hty, hnm2, hfin, hpd⟩ := hl0
  have hlv : w.2.2.2.2 f i := zh (zd h2)
  have hat := hG f i hlv
  unfold zAt at hat
  rw [hf0] at hat
  obtain ⟨r, h3, cell, q1, q2, q3, q4⟩ := hat
  have hr' : r = (C, T, N) := Option.some.inj (h3.symm.trans hc)
  subst hr'
  have hap := va_apart (D := w.2.2.1) (cl := vwCl) (tys := []) (own := mt.1) hts hin ty0 hty hnm2 ⟨hSt.1, fun k q h => by simp at h⟩ hc
  obtain ⟨hSl, hfc, kC, hkC, hkind⟩ := hSt.1 ci _ hc
  obtain ⟨cf, kf, fi, fd, hi, hsl⟩ := hSl k hk
  have hlay := hts _ (hin _ (u_in_lay hk))
  unfold u_lay at hlay
  rw [if_neg (by rw [hfin]; decide)] at hlay
  have hst := (u_facts hfc hkC (u_lays hts hin hk) hi).1
  have h6 := u_store hfc hkC hkind hlay hi hpd hn hfit
  refine W.putK hx hb (f := fd) ⟨hown, hts _ hlink, ⟨_, _, _, hi⟩, hst⟩ (by rw [q2]; exact h6) q1 q3 (by rw [hsl]; exact k2_hasslot (q4 k hk)) rfl rfl hd fun H' e1 e2 e3 => ?_
  rw [hsl] at e1 ⊢
  refine kk F hSt hEn hI (zFl_w hFl (Or.inl ht)) (zFr_w hlv hFr) hE hA h1 (zd (zd h2)) H' _ ls (hG.upd hI hlv (fun g j h => zgv_wI_ne h) e3 ?_) (hS.put e2 e3 (hA _ (zA_in hlv))) hl
  unfold zAt
  rw [hf0, zgv_wI ht]
  exact ⟨_, hc, _, e1, q2, q3, t_set q4 hap hk (.int x)⟩
theorem y_getR {f i ci k idx g j : Nat} (hl0 : zfl mt.1 idx ci k) (hf0 : sy.1.1 f = .inl ci) (ht : sy.1.2.1 f k = 3) (hrf : sy.1.2.2 f i k = some (g, j)) (hfl : σ.1 f i k ≠ 0) (hd : decode mt.2.1 pc = .ok (.getfield idx, 3)) (kk : zY sy mt K w dn fr cs ss (pc + 3) al (zR g j :: as) σ) : zY sy mt K w dn fr cs ss pc al (zR f i :: as) σ := by
  obtain ⟨w0, l, p, e, R, s, m, args, below, meth, c, Q⟩ := K
  intro F hSt hEn hI hFl hFr hE hA h1 h2 H locs ls hG hS hl
  obtain ⟨hx, hb, hml, hown, hts, hr, hlk, hnm⟩ := id F
  obtain ⟨C, T, N, hc, hin, hk, hlink⟩ := hl0
  have hlv : w.2.2.2.2 f i := zh h2
  have hat := hG f i hlv
  unfold zAt at hat
  rw [hf0] at hat
  obtain ⟨r, h3, cell, q1, q2, q3, q4⟩ := hat
  have hr' : r = (C, T, N) := Option.some.inj (h3.symm.trans hc)
  subst hr'
  obtain ⟨hSl, hfc, kC, hkC, hkind⟩ := hSt.1 ci _ hc
  obtain ⟨cf, kf, fi, fd, hi, hsl⟩ := hSl k hk
  have hlg : w.2.2.2.2 g j := by
    obtain ⟨-, b⟩ := hFl f i k hlv
    rcases b with b | b | b | b
    · omega
    · omega
    · exact absurd b hfl
    · exact b (g, j) hrf
  refine W.getf hx hb hown (hts _ hlink) hi (u_facts hfc hkC (u_lays hts hin hk) hi).1 q1 (by rw [q3]; intro h; cases h) (v := zc w (zR g j)) ?_ rfl rfl hd (kk F hSt hEn hI hFl hFr hE hA h1 (zp hlg (zd h2)) H locs ls hG hS hl)
  rw [hsl, q4 k hk]
  unfold zgv
  rw [ht, hrf]
  simp only [if_neg hfl]
  rfl
theorem y_aast {f i n g j ci : Nat} {C : String} {x : Int32} {rc : vw_C} (hf0 : sy.1.1 f = .inr (.object C, n)) (ht : ∀ k, sy.1.2.1 f k = 3) (hrf : sy.1.2.2 f i x.toNatClampNeg = some (g, j)) (hg0 : sy.1.1 g = .inl ci) (hcl : vwCl[ci]? = some rc) (hrc : rc.1 = C) (h0 : zin x n = true) (hd : decode mt.2.1 pc = .ok (.aastore, 1)) (kk : zY sy mt K w dn fr cs ss (pc + 1) al as (zwI σ f i x.toNatClampNeg 1)) : zY sy mt K w dn fr cs ss pc al (zR g j :: zI x :: zR f i :: as) σ := by
  obtain ⟨w0, l, p, e, R, s, m, args, below, meth, c, Q⟩ := K
  intro F hSt hEn hI hFl hFr hE hA h1 h2 H locs ls hG hS hl
  obtain ⟨hx, hb, hml, hown, hts, hr, hlk, hnm⟩ := id F
  have hlv : w.2.2.2.2 f i := zh (zd (zd h2))
  have hlg : w.2.2.2.2 g j := zh h2
  have hat := hG f i hlv
  unfold zAt at hat
  rw [hf0] at hat
  have hatg := hG g j hlg
  unfold zAt at hatg
  rw [hg0] at hatg
  obtain ⟨r', hr', cellV, g1, g2, g3, -⟩ := hatg
  have hin := zin_in h0
  have hlt : x.toNatClampNeg < n := Nat.not_le.mp fun q => hin (Or.inr q)
  have hx0 : ¬ x < 0 := fun q => hin (Or.inl q)
  have hcls := (hSt.1 ci rc hcl).2
  rw [hrc] at hcls
  obtain ⟨kA, comp, k1, k2, k3, -⟩ := (hSt.2.1 f _ n hf0).2
  have hcomp : comp = w.2.2.1.1 ci := Option.some.inj (k3.symm.trans hcls.1)
  subst hcomp
  obtain ⟨kC, hkC, hkk⟩ := hcls.2
  refine W.aast hx hb hat.1 (fun q h => by cases h) (fun h => by cases h) k1 k2 rfl hkC ⟨hx0, by rw [arrV_size]; exact hlt⟩ g1 (fun q h => by rw [g3] at h; cases h) (by rw [g2]; exact hkC) (by rw [g2]; exact va_assign (C := C) ⟨hcls.1, kC, hkC, hkk⟩) rfl rfl hd fun H1 e1 z oq => ?_
  refine kk F hSt hEn hI (zFl_w hFl (Or.inr (Or.inr (fun t htt => by rw [hrf] at htt; cases htt; exact hlg)))) (zFr_w hlv hFr) hE hA h1 (zd (zd (zd h2))) H1 _ ls (hG.upd hI hlv (fun g j h => zgv_wI_ne h) oq ?_) (hS.put z oq (hA _ (zA_in hlv))) hl
  unfold zAt
  rw [hf0, zgv_wR (ht _) hrf]
  exact ⟨by rw [e1, arrV_store], fun h => by cases h⟩
theorem y_vret (hrt : mt.2.2.2.2 = none) (hQ : ∀ below s args w0 Q, zKm K = (below, s, args, w0, Q) → Q = MQ below (zPost sy w0 dn σ s.heap.size) args s cs ss (fun q => zA w0 q ∨ s.heap.size ≤ q)) (hd : decode mt.2.1 pc = .ok (.return_, 1)) : zY sy mt K w dn fr cs ss pc al [] σ := by
  obtain ⟨w0, l, p, e, R, s, m, args, below, meth, c, Q⟩ := K
  intro F hSt hEn hI hFl hFr hE hA h1 h2 H locs ls hG hS hl
  obtain ⟨hx, hb, hml, hown, hts, hr, hlk, hnm⟩ := id F
  have e := hQ below s args w0 Q rfl
  subst e
  exact W.vret hx hb (hr.trans hrt) (fun t ht hW => ⟨⟨rfl, w, hE, by rw [ht]; exact hG, hFl, hI, hA⟩, hS.F ht⟩) hS.2.2 hd hlk
end ZYS
def zrmC (k mc ms : Nat) : Room := { frames := k, cells := mc, slots := ms, locals := 64 * k }
/-- a constructor's contract: on the object (f, i), which is there and blank, it makes the cells news and leaves σ' -/
def zCt (l : Launch) (sy : zSy) (mt : zMT) (y : MethodName) (f i : Nat) (av : List zV) (news : List (Nat × Nat)) (σ σ' : zG) (mc ms : Nat) : Prop :=
  ∀ (w : zW) (sz : Nat), w.2.2.2.2 f i → (∀ a ∈ av, zok w a) → zInj w → zFl sy.1 w σ → zFr w σ news → Met l y (.code y mt.2.1 mt.2.2.1 mt.2.2.2.2 :: zTB) (zrmC mt.2.2.2.1 mc ms) (va_Pc ((zR f i :: av).map (zc w)) (fun U => U.heap.size = sz ∧ zGW sy.1 w σ U.heap ∧ zSt sy w U ∧ zEn sy w (fun q => zA w q ∨ sz ≤ q) U U.heap)) (zPost sy w news σ' sz) mc ms (fun q => zA w q ∨ sz ≤ q)
theorem yEnter {l : Launch} {sy : zSy} {mt : zMT} {y : MethodName} {f i : Nat} {av : List zV} {news : List (Nat × Nat)} {σ σ' : zG} {mc ms : Nat} (al : List (Nat × zV)) (hy : plainName y.cls = true) (hyc : y.cls = mt.1) (hyn : y.name = "<init>") (hsz : ∀ w, (lg_sl ((zR f i :: av).map (zc w))).length ≤ mt.2.2.1) (hal : ∀ w, lv_args 0 ((zR f i :: av).map (zc w)) = al.map fun q => (q.1, zc w q.2)) (hmem : ∀ w : zW, (∀ a ∈ zR f i :: av, zok w a) → ∀ q ∈ al, zok w q.2)
    (k : ∀ (K : zKY) (w : zW), (∀ l p e R s m args below meth c Q w0, K = (w0, l, p, e, R, s, m, args, below, meth, c, Q) → R = zrmC mt.2.2.2.1 mc ms) → (∀ below s args w0 Q, zKm K = (below, s, args, w0, Q) → Q = MQ below (zPost sy w0 news σ' s.heap.size) args s mc ms (fun q => zA w0 q ∨ s.heap.size ≤ q)) → zY sy mt K w [] news 0 0 0 al [] σ) : zCt l sy mt y f i av news σ σ' mc ms := by
  intro w sz hlv hav hI hFl hFr
  refine Met.ofW (cc := mt.2.1) (maxL := mt.2.2.1) (ret := mt.2.2.2.2) hy rfl ?_
  intro p e s m args below meth c s₁ B hml hv
  obtain ⟨rfl, hsz2, hG, hSt, hEn⟩ := hv
  subst hsz2
  have hx := B.exec
  have hb := B.bytes
  have hr := B.returns
  have hts := atoms_spec (ws := .code y mt.2.1 mt.2.2.1 mt.2.2.2.2 :: zTB) B.pre
  have hown : s.vm.findClass y.cls = some m.cls := findClass_of_methodNamed B.named
  have hlocks := B.notSynchronized
  have hnm : meth.name = "<init>" := by rw [← hyn]; exact (name_of_methodNamed B.named B.method).1
  have hl := lv_entry ((zR f i :: av).map (zc w)) (n := mt.2.2.1) (hsz w)
  rw [lg_entry_eq]
  generalize (lg_sl ((zR f i :: av).map (zc w)) ++ List.replicate (mt.2.2.1 - (lg_sl ((zR f i :: av).map (zc w))).length) Slot.unset).toArray = ls at hl ⊢
  rw [hal w] at hl
  refine k (w, l, p, e, zrmC mt.2.2.2.1 mc ms, s, m, ((zR f i :: av).map (zc w)).toArray, below, meth, c, _) w (fun _ _ _ _ _ _ _ _ _ _ _ _ h => by cases h; rfl) (fun _ _ _ _ _ h => by cases h; rfl) ⟨hx, hb, hml, by rw [← hyc]; exact hown, fun q hq => hts q (List.mem_cons_of_mem _ hq), hr, hlocks, hnm⟩ hSt hEn hI hFl hFr (zExt.refl w) (fun q h => Or.inl h) (hmem w (zp hlv hav)) (fun a ha => by cases ha) s.heap [] ls hG va_S.rf hl
/-- a call of a constructor -/
def zcI (y : MethodName) (mt' : zMT) (n : Nat) : Prop := zcB y mt' n ∧ Cond.instanceMethod y ∈ zTB ∧ y.name = "<init>" ∧ mt'.2.2.2.2 = none
section ZYC
variable {sy : zSy} {mt : zMT} {K : zKY} {w : zW} {dn fr : List (Nat × Nat)} {cs ss pc : Nat} {al al' : List (Nat × zV)} {as : List zV} {σ : zG}
theorem yblind {w : zW} {sz : Nat} {av : List zV} : FrameBlind (va_Pc (av.map (zc w)) (fun U => U.heap.size = sz ∧ zGW sy.1 w σ U.heap ∧ zSt sy w U ∧ zEn sy w (fun q => zA w q ∨ sz ≤ q) U U.heap)) := fun a U g mk h => ⟨h.1, h.2.1, h.2.2.1, zSt.same (s := U) rfl h.2.2.2.1, zEn.same (s := U) rfl rfl h.2.2.2.2⟩
theorem y_ctor {idx n f i mc ms : Nat} {y : MethodName} {host : String} {mt' : zMT} {av rest st : List zV} {news : List (Nat × Nat)} {σ1 : zG} (hM : ∀ l, zCt l sy mt' y f i av news σ σ1 mc ms) (hc : zcI y mt' n) (hlk0 : Cond.methodLink mt.1 idx y ∈ zTB ∨ (mt.1, idx, y, host) ∈ sy.2.1) (hlen : av.length = n) (hst : st = av.reverse ++ zR f i :: rest) (hroom : (rest.map zcat).sum ≤ 8) (hkeep : ∀ g j, (g, j) ≠ (f, i) → (g, j) ∉ news → ∀ k, σ1.1 g j k = σ.1 g j k ∧ σ1.2 g j k = σ.2 g j k) (hR : ∀ l p e R s m args below meth c Q w0, K = (w0, l, p, e, R, s, m, args, below, meth, c, Q) → (mt'.2.2.2.1 + 1 ≤ R.frames ∧ 8 + (mt'.2.2.1 + 11) + 64 * mt'.2.2.2.1 ≤ R.locals) ∧ cs + mc ≤ R.cells ∧ ss + ms ≤ R.slots)
    (hd : decode mt.2.1 pc = .ok (.invokespecial idx, 3)) (kk : ∀ w', zY sy mt K w' (dn ++ news) fr (cs + mc) (ss + ms) (pc + 3) al rest σ1) : zY sy mt K w dn (news ++ fr) cs ss pc al st σ := by
  subst hst
  obtain ⟨w0, l, p, e, R, s, m, args, below, meth, c, Q⟩ := K
  intro F hSt hEn hI hFl hFr hE hA h1 h2 H locs ls hG hS hl
  obtain ⟨hx, hb, hml, hown, hts, hr, hlk, hnm⟩ := id F
  obtain ⟨⟨hini, hcode, hy1, hy2, hlenY⟩, hinst, hyn, hret⟩ := hc
  obtain ⟨r1, r2, r3⟩ := hR l p e R s m args below meth c Q w0 rfl
  have hlv : w.2.2.2.2 f i := h2 (zR f i) (List.mem_append_right _ List.mem_cons_self)
  have hav : ∀ a ∈ av, zok w a := fun a ha => h2 a (List.mem_append_left _ (List.mem_reverse.mpr ha))
  have hrest : ∀ a ∈ rest, zok w a := fun a ha => h2 a (List.mem_append_right _ (List.mem_cons_of_mem _ ha))
  have hFr1 : zFr w σ news := ⟨(List.nodup_append.mp hFr.1).1, fun x hx => hFr.2 x (List.mem_append_left _ hx)⟩
  have hA2 : ∀ q, (zA w q ∨ H.size ≤ q) → (zA w0 q ∨ s.heap.size ≤ q) := fun q h => h.elim (hA q) (fun h => Or.inr (Nat.le_trans hS.1 h))
  have hMet := hM l w H.size hlv hav hI hFl hFr1
  rw [hret] at hMet hcode
  have hpre : PreS s H (va_Pc ((zR f i :: av).map (zc w)) (fun U => U.heap.size = H.size ∧ zGW sy.1 w σ U.heap ∧ zSt sy w U ∧ zEn sy w (fun q => zA w q ∨ H.size ≤ q) U U.heap)) (Value.ref (w.1 f i) :: av.map (zc w)) := ⟨yblind, fun U hU hW => ⟨rfl, by rw [hU], by rw [hU]; exact hG, hSt.warm hW, zEn.narrow hA2 (hEn.move hW (fun q g1 g2 => by rw [hU]; exact hS.2.1 q g1 g2))⟩⟩
  have hrun : va_Run p l e R s m args below meth c H locs cs ss mc ms (F0 m pc ls ((av.reverse ++ zR f i :: rest).map (zc w))) (rest.map (zc w)) (zPost sy w news σ1 H.size (Value.ref (w.1 f i) :: av.map (zc w)).toArray) (fun q => zA w q ∨ H.size ≤ q) := by
    have hstk : (av.reverse ++ zR f i :: rest).map (zc w) = (av.map (zc w)).reverse ++ .ref (w.1 f i) :: rest.map (zc w) := by rw [List.map_append, List.map_reverse]; rfl
    rcases hlk0 with hl1 | hl1
    · exact va_runI (g := F0 m pc ls ((av.reverse ++ zR f i :: rest).map (zc w))) (rest := rest.map (zc w)) (As := av.map (zc w)) (b := w.1 f i) ⟨hx, hb, hml, hown, hts⟩ hMet ⟨callB_of n hts (zGood hcode) rfl rfl rfl (hts _ hini) (hts _ hl1) ⟨hy1, hy2, hlenY⟩ r1, hyn, hts _ hinst⟩ hpre rfl (by rw [List.length_map]; exact hlen) hl.1 hstk (lv_room (zroom hroom)) hd ⟨r2, r3⟩
    · have hnest : zNestOk s (mt.1, idx, y, host) := hSt.2.2.1 _ hl1
      exact va_runIN (g := F0 m pc ls ((av.reverse ++ zR f i :: rest).map (zc w))) (rest := rest.map (zc w)) (As := av.map (zc w)) (b := w.1 f i) (host := host) ⟨hx, hb, hml, hown, hts⟩ hMet ⟨va_cnB n hts (zGood hcode) rfl rfl rfl hnest (hts _ hini) ⟨hy1, hy2, hlenY⟩ r1, hyn, hts _ hinst⟩ hpre rfl (by rw [List.length_map]; exact hlen) hl.1 hstk (lv_room (zroom hroom)) hd ⟨r2, r3⟩
  intro T hT X
  obtain ⟨v, st₀, t, T', L, g0, X', hL, e1, e2, ⟨⟨hv, w', hE', hG', hFl', hI', hA'⟩, hz, hk⟩, step⟩ := hrun T hT X
  cases hv
  rw [g0] at hz hk
  have hSt' : zSt sy w' s := by
    obtain ⟨-, -, -, x1, x2⟩ := hE'
    unfold zSt
    rw [x1, x2]
    exact hSt
  have hEn' : zEn sy w' (fun q => zA w0 q ∨ s.heap.size ≤ q) s s.heap := by
    obtain ⟨-, -, x1, -, -⟩ := hE'
    unfold zEn zLdc
    rw [x1]
    exact hEn
  have hFr' : zFr w' σ1 fr := by
    obtain ⟨n1, n2, n3⟩ := List.nodup_append.mp hFr.1
    refine ⟨n2, fun x hx => ⟨fun hl' => ?_, fun k => ?_⟩⟩
    · rcases (hE'.1 x.1 x.2).mp hl' with h | h
      · exact n3 _ h _ hx rfl
      · exact (hFr.2 x (List.mem_append_right _ hx)).1 h
    · have hne : (x.1, x.2) ≠ (f, i) := fun e => (hFr.2 x (List.mem_append_right _ hx)).1 (by cases e; exact hlv)
      have hnn : (x.1, x.2) ∉ news := fun h => n3 _ h _ hx rfl
      rw [(hkeep x.1 x.2 hne hnn k).1, (hkeep x.1 x.2 hne hnn k).2]
      exact (hFr.2 x (List.mem_append_right _ hx)).2 k
  have q := kk w' F hSt' hEn' hI' hFl' hFr' (hE.trans hE') (fun q hq => hA2 q (hA' q hq)) (fun a ha => hE'.ok (h1 a ha)) (fun a ha => hE'.ok (hrest a ha)) T'.heap (locs ++ L) ls (by rw [e1]; exact hG')
    ⟨Nat.le_trans hS.1 (by rw [e1]; exact hz), fun q g1 g2 => by rw [e1, hk q (Nat.lt_of_lt_of_le g1 hS.1) (fun z => g2 (hA2 q z))]; exact hS.2.1 q g1 g2, fun q hq => by
      rcases List.mem_append.mp hq with h | h
      · exact hS.2.2 q h
      · exact hA2 _ (hL q h)⟩ (by rw [hE'.mapl h1]; exact hl)
  rw [hE'.map hrest] at q
  obtain ⟨t2, a1, b1⟩ := q T' rfl X'
  exact ⟨t2, step t2 a1, b1⟩
/-- a part of the world -/
def zpart (w : zW) (B : Nat → Nat → Prop) : zW := (w.1, w.2.1, w.2.2.1, w.2.2.2.1, fun f i => w.2.2.2.2 f i ∧ B f i)
theorem zc_part (w : zW) (B : Nat → Nat → Prop) : ∀ v : zV, zc (zpart w B) v = zc w v
  | .inl _ => rfl
  | .inr (.inl _) => rfl
  | .inr (.inr (.inl (_, some _))) => rfl
  | .inr (.inr (.inl (_, none))) => rfl
  | .inr (.inr (.inr (.inl _))) => rfl
  | .inr (.inr (.inr (.inr _))) => rfl
/-- how many slots a cell of a family has -/
def zsz (ly : zLy) (f : Nat) : Nat := match ly.1 f with
  | .inl ci => (match vwCl[ci]? with
    | some r => r.2.2
    | none => 0)
  | .inr t => t.2
/-- where both layouts tell the same of a cell -/
def zSame (lyK lyN : zLy) (σ : zG) (f i : Nat) : Prop := (∀ k, lyN.2.1 f k = lyK.2.1 f k) ∨ ((∀ ty n, lyK.1 f = .inr (ty, n) → refKind ty = true) ∧ ∀ k, k < zsz lyK f → lyN.2.1 f k = lyK.2.1 f k ∨ (lyN.2.1 f k = 2 ∧ lyK.2.1 f k = 3 ∧ σ.1 f i k ≠ 0))
theorem zgv_same {lyK lyN : zLy} {w : zW} {σ : zG} {f i k : Nat} (h3 : lyN.2.2 = lyK.2.2) (h : lyN.2.1 f k = lyK.2.1 f k ∨ (lyN.2.1 f k = 2 ∧ lyK.2.1 f k = 3 ∧ σ.1 f i k ≠ 0)) : zgv lyN w σ f i k = zgv lyK w σ f i k := by
  rcases h with e | ⟨e1, e2, e3⟩
  · unfold zgv
    rw [e, h3]
  · unfold zgv
    rw [e1, e2, h3]
    simp only [if_neg e3]
theorem arrV_cong {c : ClassId} {n : Nat} {f g : Nat → Value} (h : ∀ k, k < n → f k = g k) : arrV c n f = arrV c n g := by
  unfold arrV
  congr 2
  funext j
  exact h j.val j.isLt
theorem zAt_same {lyK lyN : zLy} {w w' : zW} {σ : zG} {H : Heap} {f i : Nat} (h1 : lyN.1 = lyK.1) (h3 : lyN.2.2 = lyK.2.2) (hw : w'.1 = w.1 ∧ w'.2.2.1 = w.2.2.1 ∧ w'.2.2.2.1 = w.2.2.2.1) (h : zSame lyK lyN σ f i) : zAt lyN w' σ H f i ↔ zAt lyK w σ H f i := by
  have e : zgv lyN w' σ f i = zgv lyN w σ f i := by
    funext k
    unfold zgv zrf
    rw [hw.1]
  unfold zAt
  rw [e, h1, hw.1, hw.2.1, hw.2.2]
  rcases h with h | ⟨h, h'⟩
  · have e2 : zgv lyN w σ f i = zgv lyK w σ f i := funext fun k => zgv_same h3 (Or.inl (h k))
    rw [e2]
  · cases hk : lyK.1 f with
    | inl ci =>
      have hs : ∀ r : vw_C, vwCl[ci]? = some r → ∀ k, k < r.2.2 → zgv lyN w σ f i k = zgv lyK w σ f i k := fun r hr k hkk => zgv_same h3 (h' k (by unfold zsz; rw [hk]; simp only [hr]; exact hkk))
      constructor
      · rintro ⟨r, x1, x2⟩
        exact ⟨r, x1, x2.to (fun k hkk => hs r x1 k hkk)⟩
      · rintro ⟨r, x1, x2⟩
        exact ⟨r, x1, x2.to (fun k hkk => (hs r x1 k hkk).symm)⟩
    | inr t =>
      obtain ⟨ty, n⟩ := t
      have hrk := h ty n hk
      have e3 : arrV (w.2.2.2.1 f) n (zgv lyN w σ f i) = arrV (w.2.2.2.1 f) n (zgv lyK w σ f i) := arrV_cong (fun k hkk => zgv_same h3 (h' k (by unfold zsz; rw [hk]; exact hkk)))
      show (_ ∧ (refKind ty = false → _)) ↔ (_ ∧ (refKind ty = false → _))
      rw [e3, hrk]
      simp
theorem y_callX {idx n f i ci : Nat} {r : vw_C} {y : MethodName} {mt' : zMT} {av rest st : List zV} {σ1 : zG} {syN : zSy} (B : Nat → Nat → Prop) (hM : ∀ l, zMet l syN mt' y (zR f i :: av) σ none σ1) (hc : zcV y mt' n) (hlk0 : Cond.methodLink mt.1 idx y ∈ zTB) (hf0 : sy.1.1 f = .inl ci) (hcl : vwCl[ci]? = some r) (hry : r.1 = y.cls) (hlen : av.length = n) (hst : st = av.reverse ++ zR f i :: rest) (hroom : (rest.map zcat).sum ≤ 8)
    (hl1 : syN.1.1 = sy.1.1) (hl3 : syN.1.2.2 = sy.1.2.2) (hl4 : syN.2.1 = sy.2.1) (hl5 : syN.2.2.1 = sy.2.2.1) (hl6 : syN.2.2.2 = sy.2.2.2) (hBf : B f i) (hBav : ∀ a ∈ av, ∀ w : zW, zok w a) (hB1 : ∀ g j, B g j → zSame sy.1 syN.1 σ g j) (hB2 : ∀ g j, B g j → zSame sy.1 syN.1 σ1 g j) (hB0 : ∀ g j k t, syN.1.2.1 g k = 2 → syN.1.2.2 g j k = some t → k < zsz sy.1 g) (hB3 : ∀ g j k t, B g j → syN.1.2.1 g k = 2 → syN.1.2.2 g j k = some t → B t.1 t.2) (hBn : ∀ g j, ¬ B g j → ∀ k, σ1.1 g j k = σ.1 g j k ∧ σ1.2 g j k = σ.2 g j k) (hBfr : ∀ x ∈ fr, ¬ B x.1 x.2) (hBk : ∀ g j k, B g j → sy.1.2.1 g k ≠ 0 → sy.1.2.1 g k ≠ 1 → σ1.1 g j k = σ.1 g j k)
    (hR : ∀ l p e R s m args below meth c Q w0, K = (w0, l, p, e, R, s, m, args, below, meth, c, Q) → (mt'.2.2.2.1 + 1 ≤ R.frames ∧ 8 + (mt'.2.2.1 + 11) + 64 * mt'.2.2.2.1 ≤ R.locals) ∧ cs ≤ R.cells ∧ ss ≤ R.slots)
    (hd : decode mt.2.1 pc = .ok (.invokevirtual idx, 3)) (kk : zY sy mt K w dn fr cs ss (pc + 3) al rest σ1) : zY sy mt K w dn fr cs ss pc al st σ := by
  subst hst
  obtain ⟨w0, l, p, e, R, s, m, args, below, meth, c, Q⟩ := K
  intro F hSt hEn hI hFl hFr hE hA h1 h2 H locs ls hG hS hl
  obtain ⟨hx, hb, hml, hown, hts, hr, hlk, hnm⟩ := id F
  obtain ⟨⟨hini, hcode, hy1, hy2, hlenY⟩, hinst, hsel⟩ := hc
  obtain ⟨r1, r2, r3⟩ := hR l p e R s m args below meth c Q w0 rfl
  have hlv : w.2.2.2.2 f i := h2 (zR f i) (List.mem_append_right _ List.mem_cons_self)
  have hrest : ∀ a ∈ rest, zok w a := fun a ha => h2 a (List.mem_append_right _ (List.mem_cons_of_mem _ ha))
  have hwp : (zpart w B).1 = w.1 ∧ (zpart w B).2.2.1 = w.2.2.1 ∧ (zpart w B).2.2.2.1 = w.2.2.2.1 := ⟨rfl, rfl, rfl⟩
  have hGp : zGW syN.1 (zpart w B) σ H := fun g j hg => (zAt_same hl1 hl3 hwp (hB1 g j hg.2)).mpr (hG g j hg.1)
  have hsubA : ∀ q, zA (zpart w B) q → zA w q := fun q h => by
    obtain ⟨g, j, hg, e⟩ := h
    exact ⟨g, j, hg.1, e⟩
  have hAllp : zAll syN (zpart w B) s := by
    refine ⟨⟨hSt.1, fun g j ty nn hk hg => hSt.2.1 g ty nn (by rw [← hl1]; exact hk), by rw [hl4]; exact hSt.2.2.1⟩, ⟨fun g1 j1 g2 j2 a1 a2 e => hI g1 j1 g2 j2 a1.1 a2.1 e, fun g j k t hg ht hrf => ⟨?_, hB3 g j k t hg.2 ht hrf⟩⟩, ?_⟩
    · obtain ⟨b1, b2⟩ := hFl g j k hg.1
      have hkk : syN.1.2.1 g k = sy.1.2.1 g k ∨ (syN.1.2.1 g k = 2 ∧ sy.1.2.1 g k = 3 ∧ σ.1 g j k ≠ 0) := by
        rcases hB1 g j hg.2 with h | ⟨-, h⟩
        · exact Or.inl (h k)
        · exact h k (hB0 g j k t ht hrf)
      rcases hkk with e | ⟨-, e2, e3⟩
      · exact absurd (e.symm.trans ht) b1
      · rcases b2 with b | b | b | b
        · omega
        · omega
        · exact absurd b e3
        · exact b t (by rw [← hl3]; exact hrf)
    · have hn := zEn.narrow (B := zA (zpart w B)) (fun q hq => hA q (hsubA q hq)) hEn
      have hn2 : zEn syN (zpart w B) (zA (zpart w B)) s s.heap := by
        unfold zEn
        rw [hl5, hl6]
        exact hn
      exact hn2.all
  have hat := hG f i hlv
  unfold zAt at hat
  rw [hf0] at hat
  obtain ⟨r', h3, cell, q1, q2, q3, q4⟩ := hat
  obtain ⟨-, hfc, -⟩ := hSt.1 ci _ hcl
  rw [hry] at hfc
  have hav2 : ∀ a ∈ zR f i :: av, zok (zpart w B) a := fun a ha => by
    rcases List.mem_cons.mp ha with h | h
    · rw [h]; exact ⟨hlv, hBf⟩
    · exact hBav a h _
  have hSp : ∀ q, s.heap.size ≤ q → (zA w0 q ∨ s.heap.size ≤ q) := fun q h => Or.inr h
  have emap : ∀ l0 : List zV, l0.map (zc (zpart w B)) = l0.map (zc w) := fun l0 => List.map_congr_left fun a _ => zc_part w B a
  have hpre : ∀ U : State, U.heap = H → s.WarmedH U.vm → va_Pc ((zR f i :: av).map (zc (zpart w B))) (fun U => zGW syN.1 (zpart w B) σ U.heap ∧ zAll syN (zpart w B) U) ((zR f i :: av).map (zc (zpart w B))).toArray U := fun U hU hW => ⟨rfl, by rw [hU]; exact hGp, by
    refine ⟨hAllp.1.warm hW, hAllp.2.1, ?_⟩
    have hn := zEn.narrow (B := zA (zpart w B)) (fun q hq => hA q (hsubA q hq)) (hEn.move hW (U := U) (fun q g1 g2 => by rw [hU]; exact hS.2.1 q g1 g2))
    have hn2 : zEn syN (zpart w B) (zA (zpart w B)) U U.heap := by
      unfold zEn
      rw [hl5, hl6]
      exact hn
    exact hn2.all⟩
  have hMet := hM l (zpart w B) hav2
  rw [List.map_append, List.map_reverse, List.map_cons]
  have hrun := va_runV (g := F0 m pc ls ((av.map (zc w)).reverse ++ zc w (zR f i) :: rest.map (zc w))) (rest := rest.map (zc w)) (As := av.map (zc w)) (b := w.1 f i) (C := y.cls) (H := H) (locs := locs) (cells := cs) (slots := ss) (R := R) (e := e) (below := below) (meth := meth) ⟨hx, hb, hml, hown, hts⟩ hMet ⟨callB_of n hts (zGood hcode) rfl rfl rfl (hts _ hini) (hts _ hlk0) ⟨hy1, hy2, hlenY⟩ r1, hts _ hinst, hts _ hsel⟩ ⟨zblind, ⟨cell, q1, by rw [q3]; rfl, by rw [q2]; exact hfc⟩, by have := hpre; rw [List.map_cons, emap av] at this; exact this⟩ rfl (by rw [List.length_map]; exact hlen) hl.1 rfl (lv_room (zroom hroom)) hd ⟨r2, r3⟩
  intro T hT X
  obtain ⟨v, st₀, t, T', L, g0, X', hL, e1, e2, ⟨⟨hv, hG', -⟩, hz, hk⟩, step⟩ := hrun T hT X
  cases hv
  rw [g0] at hz hk
  have hG2 : zGW sy.1 w σ1 T'.heap := fun g j hg => by
    by_cases hb0 : B g j
    · have := hG' g j ⟨hg, hb0⟩
      rw [e1]
      exact (zAt_same hl1 hl3 hwp (hB2 g j hb0)).mp this
    · have h0 := hG g j hg
      have hlt := hG.lt (zA_in hg)
      have hnA : ¬ zA (zpart w B) (w.1 g j) := by
        rintro ⟨g', j', hg', e⟩
        obtain ⟨rfl, rfl⟩ := hI _ _ _ _ hg'.1 hg e
        exact hb0 hg'.2
      have eq : T'.heap[w.1 g j]? = H[w.1 g j]? := by rw [e1]; exact hk _ hlt hnA
      have ez : zgv sy.1 w σ1 g j = zgv sy.1 w σ g j := by
        funext k
        unfold zgv
        rw [(hBn g j hb0 k).1, (hBn g j hb0 k).2]
      unfold zAt at h0 ⊢
      rw [ez]
      cases hkk : sy.1.1 g with
      | inl c0 =>
        rw [hkk] at h0
        obtain ⟨rr, x1, x2⟩ := h0
        exact ⟨rr, x1, x2.kept eq⟩
      | inr t0 =>
        rw [hkk] at h0
        exact ⟨eq.trans h0.1, h0.2⟩
  have hFl2 : zFl sy.1 w σ1 := fun g j k hg => by
    obtain ⟨b1, b2⟩ := hFl g j k hg
    refine ⟨b1, ?_⟩
    rcases b2 with b | b | b | b
    · exact Or.inl b
    · exact Or.inr (Or.inl b)
    · by_cases hb0 : B g j
      · by_cases z0 : sy.1.2.1 g k = 0
        · exact Or.inl z0
        · by_cases z1 : sy.1.2.1 g k = 1
          · exact Or.inr (Or.inl z1)
          · exact Or.inr (Or.inr (Or.inl (by rw [hBk g j k hb0 z0 z1]; exact b)))
      · exact Or.inr (Or.inr (Or.inl (by rw [(hBn g j hb0 k).1]; exact b)))
    · exact Or.inr (Or.inr (Or.inr b))
  have hFr2 : zFr w σ1 fr := ⟨hFr.1, fun x hx => ⟨(hFr.2 x hx).1, fun k => by rw [(hBn _ _ (hBfr x hx) k).1, (hBn _ _ (hBfr x hx) k).2]; exact (hFr.2 x hx).2 k⟩⟩
  obtain ⟨t2, a1, b1⟩ := kk F hSt hEn hI hFl2 hFr2 hE hA h1 hrest T'.heap (locs ++ L) ls hG2
    ⟨Nat.le_trans hS.1 (by rw [e1]; exact hz), fun q g1 g2 => by rw [e1, hk q (Nat.lt_of_lt_of_le g1 hS.1) (fun z => g2 (hA q (hsubA q z)))]; exact hS.2.1 q g1 g2, fun q hq => by
      rcases List.mem_append.mp hq with h | h
      · exact hS.2.2 q h
      · exact hA _ (hsubA _ (hL q h))⟩ hl T' rfl X'
  exact ⟨t2, step t2 a1, b1⟩
end ZYC
