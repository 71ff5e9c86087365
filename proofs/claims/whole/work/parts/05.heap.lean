/-! ROWS of the heap: fields, arrays, calls, returns, entry, loops -/
theorem zgv_wI_ne {ly : zLy} {w : zW} {σ : zG} {f i k g j : Nat} {x : Int32} (h : ¬ (g = f ∧ j = i)) : zgv ly w (zwI σ f i k x) g j = zgv ly w σ g j := by
  funext q
  have e : ¬ (g = f ∧ j = i ∧ q = k) := fun z => h ⟨z.1, z.2.1⟩
  simp only [zgv, zwI, if_neg e]
theorem zgv_wL_ne {ly : zLy} {w : zW} {σ : zG} {f i k g j : Nat} {x : Int64} (h : ¬ (g = f ∧ j = i)) : zgv ly w (zwL σ f i k x) g j = zgv ly w σ g j := by
  funext q
  have e : ¬ (g = f ∧ j = i ∧ q = k) := fun z => h ⟨z.1, z.2.1⟩
  simp only [zgv, zwL, if_neg e]
  rfl
theorem zgv_wI {ly : zLy} {w : zW} {σ : zG} {f i k : Nat} {x : Int32} (ht : ly.2.1 f k = 0) : zgv ly w (zwI σ f i k x) f i = updV (zgv ly w σ f i) k (.int x) := by
  funext q
  by_cases hq : q = k
  · subst hq
    simp [zgv, zwI, updV, ht]
  · simp [zgv, zwI, updV, hq]
theorem zgv_wL {ly : zLy} {w : zW} {σ : zG} {f i k : Nat} {x : Int64} (ht : ly.2.1 f k = 1) : zgv ly w (zwL σ f i k x) f i = updV (zgv ly w σ f i) k (.long x) := by
  funext q
  by_cases hq : q = k
  · subst hq
    simp [zgv, zwL, updV, ht]
  · simp [zgv, zwL, updV, hq]
    rfl
theorem zGW.upd {ly : zLy} {w : zW} {σ σ1 : zG} {H H1 : Heap} {f i : Nat} (hinj : ∀ f i g j, w.2.2.2.2 f i → w.2.2.2.2 g j → w.1 f i = w.1 g j → f = g ∧ i = j) (hG : zGW ly w σ H) (hlv : w.2.2.2.2 f i) (hne : ∀ g j, ¬ (g = f ∧ j = i) → zgv ly w σ1 g j = zgv ly w σ g j) (oq : ∀ q, q ≠ w.1 f i → H1[q]? = H[q]?) (hat : zAt ly w σ1 H1 f i) : zGW ly w σ1 H1 := by
  intro g j hg
  by_cases h : g = f ∧ j = i
  · obtain ⟨rfl, rfl⟩ := h
    exact hat
  · have ha : w.1 g j ≠ w.1 f i := fun e => h (hinj g j f i hg hlv e)
    have h0 := hG g j hg
    unfold zAt at h0 ⊢
    rw [hne g j h]
    cases hk : ly.1 g with
    | inl ci =>
      rw [hk] at h0
      obtain ⟨r, h1, h2⟩ := h0
      exact ⟨r, h1, h2.kept (oq _ ha)⟩
    | inr t =>
      rw [hk] at h0
      exact ⟨(oq _ ha).trans h0.1, h0.2⟩
theorem zA_in {w : zW} {f i : Nat} (h : w.2.2.2.2 f i) : zA w (w.1 f i) := ⟨f, i, h, rfl⟩
/-- a field's link: own class, entry; the number of the class that has it, the field's number -/
def zfl (own : String) (idx ci k : Nat) : Prop := ∃ (C : String) (T : u_T) (N : Nat), vwCl[ci]? = some (C, T, N) ∧ (∀ q ∈ u_ws C T N, q ∈ zTB) ∧ k < N ∧ Cond.fieldLink own idx (T k).1 (T k).2.1 (T k).2.2.1 ∈ zTB
/-- the same of a field that is written -/
def zfw (own : String) (idx ci k : Nat) (ty : FieldType) : Prop := ∃ (C : String) (T : u_T) (N : Nat) (ty0 : Nat → FieldType), vwCl[ci]? = some (C, T, N) ∧ (∀ q ∈ u_ws C T N, q ∈ zTB) ∧ k < N ∧ Cond.fieldLink own idx (T k).1 (T k).2.1 (T k).2.2.1 ∈ zTB ∧ (∀ k, k < N → parseFieldDescriptor (T k).2.2.1 = some (ty0 k)) ∧ (∀ a, a < N → ∀ b, b < N → a ≠ b → (T a).2.1 ≠ (T b).2.1) ∧ (T k).2.2.2 = false ∧ parseFieldDescriptor (T k).2.2.1 = some ty
theorem zi2c_eq (x : Int32) : x.toUInt32.toUInt16.toUInt32.toInt32 = zi2c x := by
  unfold zi2c
  congr 1
section ZH
variable {sy : zSy} {mt : zMT} {K : zK} {pc : Nat} {al al' : List (Nat × zV)} {as : List zV} {σ : zG}
theorem z_getV {f i ci k idx : Nat} (x : zV) (hl : zfl mt.1 idx ci k) (hf : sy.1.1 f = .inl ci) (hv : ∀ w, zc w x = zgv sy.1 w σ f i k) (hok : ∀ w, zWF sy.1 w → w.2.2.2.2 f i → zok w x) (hd : decode mt.2.1 pc = .ok (.getfield idx, 3)) (kk : zX sy mt K (pc + 3) al (x :: as) σ) : zX sy mt K pc al (zR f i :: as) σ := by
  obtain ⟨w, l, p, e, s, m, args, below, meth, c, v, σ'⟩ := K
  intro F h1 h2 H locs ls hG hS hl2
  obtain ⟨hx, hb, hml, hown, hts, hr, hlk, hAll⟩ := id F
  obtain ⟨C, T, N, hc, hin, hk, hlink⟩ := hl
  have hlv : w.2.2.2.2 f i := zh h2
  have hat := hG f i hlv
  unfold zAt at hat
  rw [hf] at hat
  obtain ⟨r, h3, cell, q1, q2, q3, q4⟩ := hat
  have hr' : r = (C, T, N) := Option.some.inj (h3.symm.trans hc)
  subst hr'
  obtain ⟨hSl, hfc, kC, hkC, hkind⟩ := hAll.1.1 ci _ hc
  obtain ⟨cf, kf, fi, fd, hi, hsl⟩ := hSl k hk
  refine W.getf hx hb hown (hts _ hlink) hi (u_facts hfc hkC (u_lays hts hin hk) hi).1 q1 (by rw [q3]; intro h; cases h) (v := zc w x) ?_ rfl rfl hd (kk F h1 (zp (hok w hAll.2.1 hlv) (zd h2)) H locs ls hG hS hl2)
  rw [hsl, q4 k hk, hv]
theorem z_getI {f i ci k idx : Nat} (hl : zfl mt.1 idx ci k) (hf : sy.1.1 f = .inl ci) (ht : sy.1.2.1 f k = 0) (hd : decode mt.2.1 pc = .ok (.getfield idx, 3)) (kk : zX sy mt K (pc + 3) al (zI (σ.1 f i k) :: as) σ) : zX sy mt K pc al (zR f i :: as) σ :=
  z_getV (zI (σ.1 f i k)) hl hf (fun w => by unfold zgv; rw [ht]; rfl) (fun _ _ _ => trivial) hd kk
theorem z_getL {f i ci k idx : Nat} (hl : zfl mt.1 idx ci k) (hf : sy.1.1 f = .inl ci) (ht : sy.1.2.1 f k = 1) (hd : decode mt.2.1 pc = .ok (.getfield idx, 3)) (kk : zX sy mt K (pc + 3) al (zL (σ.2 f i k) :: as) σ) : zX sy mt K pc al (zR f i :: as) σ :=
  z_getV (zL (σ.2 f i k)) hl hf (fun w => by unfold zgv; rw [ht]; rfl) (fun _ _ _ => trivial) hd kk
theorem z_getR {f i ci k idx g j : Nat} (hl : zfl mt.1 idx ci k) (hf : sy.1.1 f = .inl ci) (ht : sy.1.2.1 f k = 2) (hr : sy.1.2.2 f i k = some (g, j)) (hd : decode mt.2.1 pc = .ok (.getfield idx, 3)) (kk : zX sy mt K (pc + 3) al (zR g j :: as) σ) : zX sy mt K pc al (zR f i :: as) σ :=
  z_getV (zR g j) hl hf (fun w => by unfold zgv; rw [ht, hr]; rfl) (fun w hW hlv => hW.2 f i k (g, j) hlv ht hr) hd kk
theorem z_putI {f i ci k idx : Nat} {x : Int32} {ty : FieldType} (hl : zfw mt.1 idx ci k ty) (hf : sy.1.1 f = .inl ci) (ht : sy.1.2.1 f k = 0) (hn : narrow ty (.int x) = .int x) (hfit : fits ty (.int x) = true) (hd : decode mt.2.1 pc = .ok (.putfield idx, 3)) (kk : zX sy mt K (pc + 3) al as (zwI σ f i k x)) : zX sy mt K pc al (zI x :: zR f i :: as) σ := by
  obtain ⟨w, l, p, e, s, m, args, below, meth, c, v, σ'⟩ := K
  intro F h1 h2 H locs ls hG hS hl2
  obtain ⟨hx, hb, hml, hown, hts, hr, hlk, hAll⟩ := id F
  obtain ⟨C, T, N, ty0, hc, hin, hk, hlink, hty, hnm, hfin, hpd⟩ := hl
  have hlv : w.2.2.2.2 f i := zh (zd h2)
  have hat := hG f i hlv
  unfold zAt at hat
  rw [hf] at hat
  obtain ⟨r, h3, cell, q1, q2, q3, q4⟩ := hat
  have hr' : r = (C, T, N) := Option.some.inj (h3.symm.trans hc)
  subst hr'
  have hap := va_apart (D := w.2.2.1) (cl := vwCl) (tys := []) (own := mt.1) hts hin ty0 hty hnm ⟨hAll.1.1, fun k q h => by simp at h⟩ hc
  obtain ⟨hSl, hfc, kC, hkC, hkind⟩ := hAll.1.1 ci _ hc
  obtain ⟨cf, kf, fi, fd, hi, hsl⟩ := hSl k hk
  have hlay := hts _ (hin _ (u_in_lay hk))
  unfold u_lay at hlay
  rw [if_neg (by rw [hfin]; decide)] at hlay
  have hst := (u_facts hfc hkC (u_lays hts hin hk) hi).1
  have h6 := u_store hfc hkC hkind hlay hi hpd hn hfit
  refine W.putK hx hb (f := fd) ⟨hown, hts _ hlink, ⟨_, _, _, hi⟩, hst⟩ (by rw [q2]; exact h6) q1 q3 (by rw [hsl]; exact k2_hasslot (q4 k hk)) rfl rfl hd fun H' e1 e2 e3 => ?_
  rw [hsl] at e1 ⊢
  refine kk F h1 (zd (zd h2)) H' _ ls (hG.upd hAll.2.1.1 hlv (fun g j h => zgv_wI_ne h) e3 ?_) (hS.put e2 e3 (zA_in hlv)) hl2
  unfold zAt
  rw [hf, zgv_wI ht]
  exact ⟨_, hc, _, e1, q2, q3, t_set q4 hap hk (.int x)⟩
theorem z_putL {f i ci k idx : Nat} {x : Int64} (hl : zfw mt.1 idx ci k .long) (hf : sy.1.1 f = .inl ci) (ht : sy.1.2.1 f k = 1) (hd : decode mt.2.1 pc = .ok (.putfield idx, 3)) (kk : zX sy mt K (pc + 3) al as (zwL σ f i k x)) : zX sy mt K pc al (zL x :: zR f i :: as) σ := by
  obtain ⟨w, l, p, e, s, m, args, below, meth, c, v, σ'⟩ := K
  intro F h1 h2 H locs ls hG hS hl2
  obtain ⟨hx, hb, hml, hown, hts, hr, hlk, hAll⟩ := id F
  obtain ⟨C, T, N, ty0, hc, hin, hk, hlink, hty, hnm, hfin, hpd⟩ := hl
  have hlv : w.2.2.2.2 f i := zh (zd h2)
  have hat := hG f i hlv
  unfold zAt at hat
  rw [hf] at hat
  obtain ⟨r, h3, cell, q1, q2, q3, q4⟩ := hat
  have hr' : r = (C, T, N) := Option.some.inj (h3.symm.trans hc)
  subst hr'
  have hap := va_apart (D := w.2.2.1) (cl := vwCl) (tys := []) (own := mt.1) hts hin ty0 hty hnm ⟨hAll.1.1, fun k q h => by simp at h⟩ hc
  obtain ⟨hSl, hfc, kC, hkC, hkind⟩ := hAll.1.1 ci _ hc
  obtain ⟨cf, kf, fi, fd, hi, hsl⟩ := hSl k hk
  have hlay := hts _ (hin _ (u_in_lay hk))
  unfold u_lay at hlay
  rw [if_neg (by rw [hfin]; decide)] at hlay
  have hst := (u_facts hfc hkC (u_lays hts hin hk) hi).1
  have h6 := u_store (v := .long x) hfc hkC hkind hlay hi hpd rfl rfl
  refine W.putK hx hb (f := fd) ⟨hown, hts _ hlink, ⟨_, _, _, hi⟩, hst⟩ (by rw [q2]; exact h6) q1 q3 (by rw [hsl]; exact k2_hasslot (q4 k hk)) rfl rfl hd fun H' e1 e2 e3 => ?_
  rw [hsl] at e1 ⊢
  refine kk F h1 (zd (zd h2)) H' _ ls (hG.upd hAll.2.1.1 hlv (fun g j h => zgv_wL_ne h) e3 ?_) (hS.put e2 e3 (zA_in hlv)) hl2
  unfold zAt
  rw [hf, zgv_wL ht]
  exact ⟨_, hc, _, e1, q2, q3, t_set q4 hap hk (.long x)⟩
/-- an array of the world at hand -/
theorem zarr {w : zW} {s : State} {H : Heap} {f i n : Nat} {ty : FieldType} (hG : zGW sy.1 w σ H) (hA : zAll sy w s) (hlv : w.2.2.2.2 f i) (hf : sy.1.1 f = .inr (ty, n)) : H[w.1 f i]? = some (arrV (w.2.2.2.1 f) n (zgv sy.1 w σ f i)) ∧ (refKind ty = false → ∀ j, fits ty (zgv sy.1 w σ f i j) = true) ∧ s.isArrayOf (arrV (w.2.2.2.1 f) n (zgv sy.1 w σ f i)) ty := by
  have hat := hG f i hlv
  unfold zAt at hat
  rw [hf] at hat
  exact ⟨hat.1, hat.2, (hA.1.2.1 f i ty n hf hlv).1 n _⟩
theorem z_ialdK {f i n : Nat} {x : Int32} (hf0 : sy.1.1 f = .inr (.int, n)) (ht : ∀ j, sy.1.2.1 f j = 0) (hd : decode mt.2.1 pc = .ok (.iaload, 1)) (h0 : zin x n = true) (kk : zX sy mt K (pc + 1) al (zI (σ.1 f i x.toNatClampNeg) :: as) σ) : zX sy mt K pc al (zI x :: zR f i :: as) σ := by
  obtain ⟨w, l, p, e, s, m, args, below, meth, c, v, σ'⟩ := K
  intro F h1 h2 H locs ls hG hS hl
  obtain ⟨hx, hb, hml, hown, hts, hr, hlk, hAll⟩ := id F
  have hlv : w.2.2.2.2 f i := zh (zd h2)
  obtain ⟨a1, a2, a3⟩ := zarr hG hAll hlv hf0
  have hin := zin_in h0
  have hlt : x.toNatClampNeg < n := Nat.not_le.mp fun q => hin (Or.inr q)
  refine W.iald (v := zc w (zI (σ.1 f i x.toNatClampNeg))) hx hb a1 a3 (fun q => by cases q) (by rw [arrV_size]; exact hin) ?_ rfl rfl hd (kk F h1 (zp trivial (zd (zd h2))) H locs ls hG hS hl)
  rw [arrV_read _ _ hlt]
  unfold zgv
  rw [ht]
  rfl
theorem z_iald {τ : Type} {res A : Option τ} {f i n : Nat} {x : Int32} (hf0 : sy.1.1 f = .inr (.int, n)) (ht : ∀ j, sy.1.2.1 f j = 0) (hd : decode mt.2.1 pc = .ok (.iaload, 1)) (hn : res ≠ none) (hf : res = zg (zin x n) A) (kk : res = A → zX sy mt K (pc + 1) al (zI (σ.1 f i x.toNatClampNeg) :: as) σ) : zX sy mt K pc al (zI x :: zR f i :: as) σ := z_ialdK hf0 ht hd (zg_t hn hf).1 (kk (zg_t hn hf).2)
theorem z_baldK {f i n : Nat} {x : Int32} (hf0 : sy.1.1 f = .inr (.byte, n)) (ht : ∀ j, sy.1.2.1 f j = 0) (hd : decode mt.2.1 pc = .ok (.baload, 1)) (h0 : zin x n = true) (kk : zX sy mt K (pc + 1) al (zI (σ.1 f i x.toNatClampNeg) :: as) σ) : zX sy mt K pc al (zI x :: zR f i :: as) σ := by
  obtain ⟨w, l, p, e, s, m, args, below, meth, c, v, σ'⟩ := K
  intro F h1 h2 H locs ls hG hS hl
  obtain ⟨hx, hb, hml, hown, hts, hr, hlk, hAll⟩ := id F
  have hlv : w.2.2.2.2 f i := zh (zd h2)
  obtain ⟨a1, a2, a3⟩ := zarr hG hAll hlv hf0
  have hin := zin_in h0
  have hlt : x.toNatClampNeg < n := Nat.not_le.mp fun q => hin (Or.inr q)
  refine W.bald (v := zc w (zI (σ.1 f i x.toNatClampNeg))) hx hb a1 a3 (fun q => by cases q) (by rw [arrV_size]; exact hin) ?_ rfl rfl hd (kk F h1 (zp trivial (zd (zd h2))) H locs ls hG hS hl)
  rw [arrV_read _ _ hlt]
  unfold zgv
  rw [ht]
  rfl
theorem z_bald {τ : Type} {res A : Option τ} {f i n : Nat} {x : Int32} (hf0 : sy.1.1 f = .inr (.byte, n)) (ht : ∀ j, sy.1.2.1 f j = 0) (hd : decode mt.2.1 pc = .ok (.baload, 1)) (hn : res ≠ none) (hf : res = zg (zin x n) A) (kk : res = A → zX sy mt K (pc + 1) al (zI (σ.1 f i x.toNatClampNeg) :: as) σ) : zX sy mt K pc al (zI x :: zR f i :: as) σ := z_baldK hf0 ht hd (zg_t hn hf).1 (kk (zg_t hn hf).2)
theorem z_caldK {f i n : Nat} {x : Int32} (hf0 : sy.1.1 f = .inr (.char, n)) (ht : ∀ j, sy.1.2.1 f j = 0) (hd : decode mt.2.1 pc = .ok (.caload, 1)) (h0 : zin x n = true) (kk : zX sy mt K (pc + 1) al (zI (σ.1 f i x.toNatClampNeg) :: as) σ) : zX sy mt K pc al (zI x :: zR f i :: as) σ := by
  obtain ⟨w, l, p, e, s, m, args, below, meth, c, v, σ'⟩ := K
  intro F h1 h2 H locs ls hG hS hl
  obtain ⟨hx, hb, hml, hown, hts, hr, hlk, hAll⟩ := id F
  have hlv : w.2.2.2.2 f i := zh (zd h2)
  obtain ⟨a1, a2, a3⟩ := zarr hG hAll hlv hf0
  have hin := zin_in h0
  have hlt : x.toNatClampNeg < n := Nat.not_le.mp fun q => hin (Or.inr q)
  refine W.cald (v := zc w (zI (σ.1 f i x.toNatClampNeg))) hx hb a1 a3 (fun q => by cases q) (by rw [arrV_size]; exact hin) ?_ rfl rfl hd (kk F h1 (zp trivial (zd (zd h2))) H locs ls hG hS hl)
  rw [arrV_read _ _ hlt]
  unfold zgv
  rw [ht]
  rfl
theorem z_cald {τ : Type} {res A : Option τ} {f i n : Nat} {x : Int32} (hf0 : sy.1.1 f = .inr (.char, n)) (ht : ∀ j, sy.1.2.1 f j = 0) (hd : decode mt.2.1 pc = .ok (.caload, 1)) (hn : res ≠ none) (hf : res = zg (zin x n) A) (kk : res = A → zX sy mt K (pc + 1) al (zI (σ.1 f i x.toNatClampNeg) :: as) σ) : zX sy mt K pc al (zI x :: zR f i :: as) σ := z_caldK hf0 ht hd (zg_t hn hf).1 (kk (zg_t hn hf).2)
theorem z_laldK {f i n : Nat} {x : Int32} (hf0 : sy.1.1 f = .inr (.long, n)) (ht : ∀ j, sy.1.2.1 f j = 1) (hd : decode mt.2.1 pc = .ok (.laload, 1)) (h0 : zin x n = true) (kk : zX sy mt K (pc + 1) al (zL (σ.2 f i x.toNatClampNeg) :: as) σ) : zX sy mt K pc al (zI x :: zR f i :: as) σ := by
  obtain ⟨w, l, p, e, s, m, args, below, meth, c, v, σ'⟩ := K
  intro F h1 h2 H locs ls hG hS hl
  obtain ⟨hx, hb, hml, hown, hts, hr, hlk, hAll⟩ := id F
  have hlv : w.2.2.2.2 f i := zh (zd h2)
  obtain ⟨a1, a2, a3⟩ := zarr hG hAll hlv hf0
  have hin := zin_in h0
  have hlt : x.toNatClampNeg < n := Nat.not_le.mp fun q => hin (Or.inr q)
  refine W.lald (v := zc w (zL (σ.2 f i x.toNatClampNeg))) hx hb a1 a3 (fun q => by cases q) (by rw [arrV_size]; exact hin) ?_ rfl rfl hd (kk F h1 (zp trivial (zd (zd h2))) H locs ls hG hS hl)
  rw [arrV_read _ _ hlt]
  unfold zgv
  rw [ht]
  rfl
theorem z_lald {τ : Type} {res A : Option τ} {f i n : Nat} {x : Int32} (hf0 : sy.1.1 f = .inr (.long, n)) (ht : ∀ j, sy.1.2.1 f j = 1) (hd : decode mt.2.1 pc = .ok (.laload, 1)) (hn : res ≠ none) (hf : res = zg (zin x n) A) (kk : res = A → zX sy mt K (pc + 1) al (zL (σ.2 f i x.toNatClampNeg) :: as) σ) : zX sy mt K pc al (zI x :: zR f i :: as) σ := z_laldK hf0 ht hd (zg_t hn hf).1 (kk (zg_t hn hf).2)
theorem z_aald {τ : Type} {res A : Option τ} {f i n g : Nat} {C : String} {x : Int32} {t : Nat → Nat} (hf0 : sy.1.1 f = .inr (.object C, n)) (ht : ∀ j, sy.1.2.1 f j = 2) (hr0 : ∀ j, j < n → sy.1.2.2 f i j = some (g, t j)) (hd : decode mt.2.1 pc = .ok (.aaload, 1)) (hn : res ≠ none) (hf : res = zg (zin x n) A) (kk : res = A → zX sy mt K (pc + 1) al (zR g (t x.toNatClampNeg) :: as) σ) : zX sy mt K pc al (zI x :: zR f i :: as) σ := by
  obtain ⟨h0, hf⟩ := zg_t hn hf
  obtain ⟨w, l, p, e, s, m, args, below, meth, c, v, σ'⟩ := K
  intro F h1 h2 H locs ls hG hS hl
  obtain ⟨hx, hb, hml, hown, hts, hr, hlk, hAll⟩ := id F
  have hlv : w.2.2.2.2 f i := zh (zd h2)
  obtain ⟨a1, a2, a3⟩ := zarr hG hAll hlv hf0
  have hin := zin_in h0
  have hlt : x.toNatClampNeg < n := Nat.not_le.mp fun q => hin (Or.inr q)
  refine W.aald (v := zc w (zR g (t x.toNatClampNeg))) hx hb a1 a3 rfl (fun q => by cases q) (by rw [arrV_size]; exact hin) ?_ rfl rfl hd (kk hf F h1 (zp (hAll.2.1.2 f i _ (g, t x.toNatClampNeg) hlv (ht _) (hr0 _ hlt)) (zd (zd h2))) H locs ls hG hS hl)
  rw [arrV_read _ _ hlt]
  unfold zgv
  rw [ht, hr0 _ hlt]
  rfl
theorem z_iastK {f i n : Nat} {x : Int32} {y : Int32} (hf0 : sy.1.1 f = .inr (.int, n)) (ht : ∀ j, sy.1.2.1 f j = 0) (hd : decode mt.2.1 pc = .ok (.iastore, 1)) (h0 : zin x n = true) (kk : zX sy mt K (pc + 1) al as (zwI σ f i x.toNatClampNeg (y))) : zX sy mt K pc al (zI y :: zI x :: zR f i :: as) σ := by
  obtain ⟨w, l, p, e, s, m, args, below, meth, c, v, σ'⟩ := K
  intro F h1 h2 H locs ls hG hS hl
  obtain ⟨hx, hb, hml, hown, hts, hr, hlk, hAll⟩ := id F
  have hlv : w.2.2.2.2 f i := zh (zd (zd h2))
  obtain ⟨a1, a2, a3⟩ := zarr hG hAll hlv hf0
  have hin := zin_in h0
  refine W.iast hx hb a1 a3 (fun q => by cases q) (by rw [arrV_size]; exact hin) rfl rfl hd fun H1 e1 z oq => ?_
  refine kk F h1 (zd (zd (zd h2))) H1 _ ls (hG.upd hAll.2.1.1 hlv (fun g j h => zgv_wI_ne h) oq ?_) (hS.put z oq (zA_in hlv)) hl
  unfold zAt
  rw [hf0, zgv_wI (ht _)]
  refine ⟨by rw [e1, arrV_store], fun hk j => ?_⟩
  by_cases hj : j = x.toNatClampNeg
  · subst hj
    simp only [updV, if_true]
    exact rfl
  · simp only [updV, if_neg hj]
    exact a2 hk j
theorem z_iast {τ : Type} {res A : Option τ} {f i n : Nat} {x : Int32} {y : Int32} (hf0 : sy.1.1 f = .inr (.int, n)) (ht : ∀ j, sy.1.2.1 f j = 0) (hd : decode mt.2.1 pc = .ok (.iastore, 1)) (hn : res ≠ none) (hf : res = zg (zin x n) A) (kk : res = A → zX sy mt K (pc + 1) al as (zwI σ f i x.toNatClampNeg (y))) : zX sy mt K pc al (zI y :: zI x :: zR f i :: as) σ := z_iastK hf0 ht hd (zg_t hn hf).1 (kk (zg_t hn hf).2)
theorem z_bastK {f i n : Nat} {x : Int32} {y : Int32} (hf0 : sy.1.1 f = .inr (.byte, n)) (ht : ∀ j, sy.1.2.1 f j = 0) (hd : decode mt.2.1 pc = .ok (.bastore, 1)) (h0 : zin x n = true) (kk : zX sy mt K (pc + 1) al as (zwI σ f i x.toNatClampNeg (zi2b y))) : zX sy mt K pc al (zI y :: zI x :: zR f i :: as) σ := by
  obtain ⟨w, l, p, e, s, m, args, below, meth, c, v, σ'⟩ := K
  intro F h1 h2 H locs ls hG hS hl
  obtain ⟨hx, hb, hml, hown, hts, hr, hlk, hAll⟩ := id F
  have hlv : w.2.2.2.2 f i := zh (zd (zd h2))
  obtain ⟨a1, a2, a3⟩ := zarr hG hAll hlv hf0
  have hin := zin_in h0
  refine W.bast hx hb a1 a3 (fun q => by cases q) (by rw [arrV_size]; exact hin) rfl rfl hd fun H1 e1 z oq => ?_
  rw [show narrow .byte (.int y) = .int (zi2b y) from rfl] at e1
  refine kk F h1 (zd (zd (zd h2))) H1 _ ls (hG.upd hAll.2.1.1 hlv (fun g j h => zgv_wI_ne h) oq ?_) (hS.put z oq (zA_in hlv)) hl
  unfold zAt
  rw [hf0, zgv_wI (ht _)]
  refine ⟨by rw [e1, arrV_store], fun hk j => ?_⟩
  by_cases hj : j = x.toNatClampNeg
  · subst hj
    simp only [updV, if_true]
    exact pk_fb y
  · simp only [updV, if_neg hj]
    exact a2 hk j
theorem z_bast {τ : Type} {res A : Option τ} {f i n : Nat} {x : Int32} {y : Int32} (hf0 : sy.1.1 f = .inr (.byte, n)) (ht : ∀ j, sy.1.2.1 f j = 0) (hd : decode mt.2.1 pc = .ok (.bastore, 1)) (hn : res ≠ none) (hf : res = zg (zin x n) A) (kk : res = A → zX sy mt K (pc + 1) al as (zwI σ f i x.toNatClampNeg (zi2b y))) : zX sy mt K pc al (zI y :: zI x :: zR f i :: as) σ := z_bastK hf0 ht hd (zg_t hn hf).1 (kk (zg_t hn hf).2)
theorem z_castK {f i n : Nat} {x : Int32} {y : Int32} (hf0 : sy.1.1 f = .inr (.char, n)) (ht : ∀ j, sy.1.2.1 f j = 0) (hd : decode mt.2.1 pc = .ok (.castore, 1)) (h0 : zin x n = true) (kk : zX sy mt K (pc + 1) al as (zwI σ f i x.toNatClampNeg (zi2c y))) : zX sy mt K pc al (zI y :: zI x :: zR f i :: as) σ := by
  obtain ⟨w, l, p, e, s, m, args, below, meth, c, v, σ'⟩ := K
  intro F h1 h2 H locs ls hG hS hl
  obtain ⟨hx, hb, hml, hown, hts, hr, hlk, hAll⟩ := id F
  have hlv : w.2.2.2.2 f i := zh (zd (zd h2))
  obtain ⟨a1, a2, a3⟩ := zarr hG hAll hlv hf0
  have hin := zin_in h0
  refine W.cast hx hb a1 a3 (fun q => by cases q) (by rw [arrV_size]; exact hin) rfl rfl hd fun H1 e1 z oq => ?_
  rw [show narrow .char (.int y) = .int (zi2c y) from (by show Value.int (vp_nar .char y) = _; rw [vp_nar_char]; rfl)] at e1
  refine kk F h1 (zd (zd (zd h2))) H1 _ ls (hG.upd hAll.2.1.1 hlv (fun g j h => zgv_wI_ne h) oq ?_) (hS.put z oq (zA_in hlv)) hl
  unfold zAt
  rw [hf0, zgv_wI (ht _)]
  refine ⟨by rw [e1, arrV_store], fun hk j => ?_⟩
  by_cases hj : j = x.toNatClampNeg
  · subst hj
    simp only [updV, if_true]
    exact pk_fc y
  · simp only [updV, if_neg hj]
    exact a2 hk j
theorem z_cast {τ : Type} {res A : Option τ} {f i n : Nat} {x : Int32} {y : Int32} (hf0 : sy.1.1 f = .inr (.char, n)) (ht : ∀ j, sy.1.2.1 f j = 0) (hd : decode mt.2.1 pc = .ok (.castore, 1)) (hn : res ≠ none) (hf : res = zg (zin x n) A) (kk : res = A → zX sy mt K (pc + 1) al as (zwI σ f i x.toNatClampNeg (zi2c y))) : zX sy mt K pc al (zI y :: zI x :: zR f i :: as) σ := z_castK hf0 ht hd (zg_t hn hf).1 (kk (zg_t hn hf).2)
theorem z_lastK {f i n : Nat} {x : Int32} {y : Int64} (hf0 : sy.1.1 f = .inr (.long, n)) (ht : ∀ j, sy.1.2.1 f j = 1) (hd : decode mt.2.1 pc = .ok (.lastore, 1)) (h0 : zin x n = true) (kk : zX sy mt K (pc + 1) al as (zwL σ f i x.toNatClampNeg (y))) : zX sy mt K pc al (zL y :: zI x :: zR f i :: as) σ := by
  obtain ⟨w, l, p, e, s, m, args, below, meth, c, v, σ'⟩ := K
  intro F h1 h2 H locs ls hG hS hl
  obtain ⟨hx, hb, hml, hown, hts, hr, hlk, hAll⟩ := id F
  have hlv : w.2.2.2.2 f i := zh (zd (zd h2))
  obtain ⟨a1, a2, a3⟩ := zarr hG hAll hlv hf0
  have hin := zin_in h0
  refine W.last hx hb a1 a3 (fun q => by cases q) (by rw [arrV_size]; exact hin) rfl rfl hd fun H1 e1 z oq => ?_
  refine kk F h1 (zd (zd (zd h2))) H1 _ ls (hG.upd hAll.2.1.1 hlv (fun g j h => zgv_wL_ne h) oq ?_) (hS.put z oq (zA_in hlv)) hl
  unfold zAt
  rw [hf0, zgv_wL (ht _)]
  refine ⟨by rw [e1, arrV_store], fun hk j => ?_⟩
  by_cases hj : j = x.toNatClampNeg
  · subst hj
    simp only [updV, if_true]
    exact rfl
  · simp only [updV, if_neg hj]
    exact a2 hk j
theorem z_last {τ : Type} {res A : Option τ} {f i n : Nat} {x : Int32} {y : Int64} (hf0 : sy.1.1 f = .inr (.long, n)) (ht : ∀ j, sy.1.2.1 f j = 1) (hd : decode mt.2.1 pc = .ok (.lastore, 1)) (hn : res ≠ none) (hf : res = zg (zin x n) A) (kk : res = A → zX sy mt K (pc + 1) al as (zwL σ f i x.toNatClampNeg (y))) : zX sy mt K pc al (zL y :: zI x :: zR f i :: as) σ := z_lastK hf0 ht hd (zg_t hn hf).1 (kk (zg_t hn hf).2)
theorem z_alen {f i n : Nat} {ty : FieldType} (hf0 : sy.1.1 f = .inr (ty, n)) (hd : decode mt.2.1 pc = .ok (.arraylength, 1)) (kk : zX sy mt K (pc + 1) al (zI (nI n) :: as) σ) : zX sy mt K pc al (zR f i :: as) σ := by
  obtain ⟨w, l, p, e, s, m, args, below, meth, c, v, σ'⟩ := K
  intro F h1 h2 H locs ls hG hS hl
  obtain ⟨hx, hb, hml, hown, hts, hr, hlk, hAll⟩ := id F
  have hlv : w.2.2.2.2 f i := zh h2
  obtain ⟨a1, a2, a3⟩ := zarr hG hAll hlv hf0
  exact W.alen (n := nI n) hx hb a1 a3 (by rw [arrV_size]; rfl) rfl rfl hd (kk F h1 (zp trivial (zd h2)) H locs ls hG hS hl)
def zKv (K : zK) : Option zV := K.2.2.2.2.2.2.2.2.2.2.1
def zKs (K : zK) : zG := K.2.2.2.2.2.2.2.2.2.2.2
theorem z_iret {x : Int32} {ty : FieldType} (hrt : mt.2.2.2.2 = some ty) (hn : narrow ty (.int x) = .int x) (hd : decode mt.2.1 pc = .ok (.ireturn, 1)) (hv : zKv K = some (zI x) ∧ zKs K = σ) : zX sy mt K pc al [zI x] σ := by
  obtain ⟨w, l, p, e, s, m, args, below, meth, c, v, σ'⟩ := K
  intro F h1 h2 H locs ls hG hS hl
  obtain ⟨hx, hb, hml, hown, hts, hr, hlk, hAll⟩ := id F
  obtain ⟨e1, e2⟩ := hv
  change v = _ at e1
  change σ' = _ at e2
  subst e1
  subst e2
  exact W.zret hx hb (hr.trans hrt) hn (fun t ht hW => ⟨⟨rfl, by rw [ht]; exact hG, fun a ha => by cases ha; trivial⟩, hS.F ht⟩) hS.2.2 hd hlk
theorem z_lret {x : Int64} (hrt : mt.2.2.2.2 = some .long) (hd : decode mt.2.1 pc = .ok (.lreturn, 1)) (hv : zKv K = some (zL x) ∧ zKs K = σ) : zX sy mt K pc al [zL x] σ := by
  obtain ⟨w, l, p, e, s, m, args, below, meth, c, v, σ'⟩ := K
  intro F h1 h2 H locs ls hG hS hl
  obtain ⟨hx, hb, hml, hown, hts, hr, hlk, hAll⟩ := id F
  obtain ⟨e1, e2⟩ := hv
  change v = _ at e1
  change σ' = _ at e2
  subst e1
  subst e2
  exact W.lret hx hb (hr.trans hrt) (fun t ht hW => ⟨⟨rfl, by rw [ht]; exact hG, fun a ha => by cases ha; trivial⟩, hS.F ht⟩) hS.2.2 hd hlk
theorem z_vret (hrt : mt.2.2.2.2 = none) (hd : decode mt.2.1 pc = .ok (.return_, 1)) (hv : zKv K = none ∧ zKs K = σ) : zX sy mt K pc al [] σ := by
  obtain ⟨w, l, p, e, s, m, args, below, meth, c, v, σ'⟩ := K
  intro F h1 h2 H locs ls hG hS hl
  obtain ⟨hx, hb, hml, hown, hts, hr, hlk, hAll⟩ := id F
  obtain ⟨e1, e2⟩ := hv
  change v = _ at e1
  change σ' = _ at e2
  subst e1
  subst e2
  exact W.vret hx hb (hr.trans hrt) (fun t ht hW => ⟨⟨rfl, by rw [ht]; exact hG, fun a ha => by cases ha⟩, hS.F ht⟩) hS.2.2 hd hlk
theorem z_aret {f : Nat} {o : Option Nat} {C : String} (hrt : mt.2.2.2.2 = some (.object C)) (hd : decode mt.2.1 pc = .ok (.areturn, 1)) (hv : zKv K = some (zQ f o) ∧ zKs K = σ) : zX sy mt K pc al [zQ f o] σ := by
  obtain ⟨w, l, p, e, s, m, args, below, meth, c, v, σ'⟩ := K
  intro F h1 h2 H locs ls hG hS hl
  obtain ⟨hx, hb, hml, hown, hts, hr, hlk, hAll⟩ := id F
  obtain ⟨e1, e2⟩ := hv
  change v = _ at e1
  change σ' = _ at e2
  subst e1
  subst e2
  have hz : zc w (zQ f o) = .null ∨ ∃ a, zc w (zQ f o) = .ref a := by cases o <;> simp [zc]
  exact W.aret hx hb (hr.trans hrt) (Or.inl ⟨C, rfl⟩) hz (fun t ht hW => ⟨⟨rfl, by rw [ht]; exact hG, fun a ha => by cases ha; exact zh h2⟩, hS.F ht⟩) hS.2.2 hd hlk
theorem z_sret {k : Nat} {C : String} (hrt : mt.2.2.2.2 = some (.object C)) (hd : decode mt.2.1 pc = .ok (.areturn, 1)) (hv : zKv K = some (zS k) ∧ zKs K = σ) : zX sy mt K pc al [zS k] σ := by
  obtain ⟨w, l, p, e, s, m, args, below, meth, c, v, σ'⟩ := K
  intro F h1 h2 H locs ls hG hS hl
  obtain ⟨hx, hb, hml, hown, hts, hr, hlk, hAll⟩ := id F
  obtain ⟨e1, e2⟩ := hv
  change v = _ at e1
  change σ' = _ at e2
  subst e1
  subst e2
  exact W.aret hx hb (hr.trans hrt) (Or.inl ⟨C, rfl⟩) (Or.inr ⟨_, rfl⟩) (fun t ht hW => ⟨⟨rfl, by rw [ht]; exact hG, fun a ha => by cases ha; trivial⟩, hS.F ht⟩) hS.2.2 hd hlk
end ZH
