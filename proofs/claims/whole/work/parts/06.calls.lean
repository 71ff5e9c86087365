/-! CALLS, the method's entry, loops -/
theorem z_bind {τ α : Type} {res : Option τ} {e : Option α} {k : α → Option τ} {P : Prop} (hn : res ≠ none) (hf : res = e.bind k) (kk : ∀ q, e = some q → res = k q → P) : P := by
  cases e with
  | none => exact absurd hf hn
  | some q => exact kk q rfl hf
def zcB (y : MethodName) (mt' : zMT) (n : Nat) : Prop := Cond.initialized y.cls ∈ zTB ∧ Cond.code y mt'.2.1 mt'.2.2.1 mt'.2.2.2.2 ∈ zTB ∧ y.cls ≠ "java/lang/invoke/MethodHandle" ∧ y.cls ≠ "java/lang/invoke/VarHandle" ∧ (parseMethodDescriptor y.desc).map (fun d => d.parameters.length) = some n
def zcS (y : MethodName) (mt' : zMT) (n : Nat) : Prop := zcB y mt' n ∧ Cond.static y ∈ zTB
def zcV (y : MethodName) (mt' : zMT) (n : Nat) : Prop := zcB y mt' n ∧ Cond.instanceMethod y ∈ zTB ∧ Cond.selects y.cls y y ∈ zTB
theorem zGood {c : Cond} (h : c ∈ zTB) : GoodIn zTB (c :: zTB) := fun q hq => by
  have hm : q ∈ zTB := by
    rcases List.mem_cons.mp hq with e | e
    · rw [e]; exact h
    · exact e
  exact ⟨hm, good_of_word (zTB_good q hm)⟩
section ZC
variable {sy : zSy} {mt : zMT} {K : zK} {pc : Nat} {al al' : List (Nat × zV)} {as : List zV} {σ : zG}
theorem zblind {w : zW} {av : List zV} : FrameBlind (va_Pc (av.map (zc w)) (fun U => zGW sy.1 w σ U.heap ∧ zAll sy w U)) := fun a U g mk h => ⟨h.1, h.2.1, zAll.same (s := U) rfl rfl h.2.2⟩
theorem zpre {w : zW} {s : State} {H : Heap} {locs : List Loc} {av : List zV} (hAll : zAll sy w s) (hG : zGW sy.1 w σ H) (hS : va_S (zA w) s.heap H locs) : ∀ U : State, U.heap = H → s.WarmedH U.vm → va_Pc (av.map (zc w)) (fun U => zGW sy.1 w σ U.heap ∧ zAll sy w U) (av.map (zc w)).toArray U := fun U hU hW => ⟨rfl, by rw [hU]; exact hG, hAll.warm hW (fun q h1 h2 => by rw [hU]; exact hS.2.1 q h1 h2)⟩
theorem zrun {p : Program} {l : Launch} {e : Env} {R : Room} {s : State} {m : MethodId} {args : Array Value} {below : List Frame} {meth : Method} {c : Code} {H H0 : Heap} {locs : List Loc} {Q : State → Prop} {ls : Array Slot} {st0 rest : List Value} {ly : zLy} {w : zW} {v1 : Option zV} {σ1 : zG}
    (hr : va_Run p l e R s m args below meth c H locs 0 0 0 0 (F0 m pc ls st0) rest (fun st oc t => (oc = .returned (v1.map (zc w)) ∧ zGW ly w σ1 t.heap ∧ ∀ a, v1 = some a → zok w a) ∧ va_F (zA w) st t) (zA w)) (hS : va_S (zA w) H0 H locs)
    (kk : ∀ (H1 : Heap) (locs1 : List Loc), zGW ly w σ1 H1 → (∀ a, v1 = some a → zok w a) → va_S (zA w) H0 H1 locs1 → W p l e R s m args below meth c H1 locs1 0 0 Q (F0 m (pc + 3) ls ((v1.map (zc w)).toList ++ rest))) : W p l e R s m args below meth c H locs 0 0 Q (F0 m pc ls st0) := by
  intro T hT X
  obtain ⟨v, st₀, t, T', L, h0, X', hL, e1, e2, ⟨⟨hv, hG, hok⟩, hz, hk⟩, st⟩ := hr T hT X
  cases hv
  rw [h0] at hz hk
  obtain ⟨t2, a1, b1⟩ := kk T'.heap (locs ++ L) (by rw [e1]; exact hG) hok
    ⟨Nat.le_trans hS.1 (by rw [e1]; exact hz), fun q h1 h2 => by rw [e1, hk q (Nat.lt_of_lt_of_le h1 hS.1) h2]; exact hS.2.1 q h1 h2, fun q hq => by
      rcases List.mem_append.mp hq with h | h
      · exact hS.2.2 q h
      · exact hL q h⟩ T' rfl X'
  exact ⟨t2, st t2 a1, b1⟩
theorem zroom {w : zW} {rest : List zV} (h : (rest.map zcat).sum ≤ 8) : ((rest.map (zc w)).map fun v => v.category).sum ≤ 8 := by
  rw [List.map_map]
  rw [show ((fun v : Value => v.category) ∘ zc w) = zcat from funext (zc_cat w)]
  exact h
theorem z_callS {idx n : Nat} {y : MethodName} {mt' : zMT} {av rest st st2 : List zV} {v1 : Option zV} {σ1 : zG} (hM : ∀ l, zMet l sy mt' y av σ v1 σ1) (hc : zcS y mt' n) (hlk0 : Cond.methodLink mt.1 idx y ∈ zTB) (hlen : av.length = n) (hst : st = av.reverse ++ rest) (hst2 : st2 = v1.toList ++ rest) (hroom : (rest.map zcat).sum ≤ 8) (hR : mt'.2.2.2.1 + 1 ≤ mt.2.2.2.1 ∧ 8 + (mt'.2.2.1 + 11) + 64 * mt'.2.2.2.1 ≤ 64 * mt.2.2.2.1)
    (hd : decode mt.2.1 pc = .ok (.invokestatic idx, 3)) (kk : zX sy mt K (pc + 3) al st2 σ1) : zX sy mt K pc al st σ := by
  subst hst
  subst hst2
  obtain ⟨w, l, p, e, s, m, args, below, meth, c, v, σ'⟩ := K
  intro F h1 h2 H locs ls hG hS hl
  obtain ⟨hx, hb, hml, hown, hts, hr, hlk, hAll⟩ := id F
  obtain ⟨⟨hini, hcode, hy1, hy2, hlenY⟩, hstat⟩ := hc
  have hav : ∀ a ∈ av, zok w a := fun a ha => h2 a (List.mem_append_left _ (List.mem_reverse.mpr ha))
  have hrest : ∀ a ∈ rest, zok w a := fun a ha => h2 a (List.mem_append_right _ ha)
  refine zrun (va_runS (g := F0 m pc ls ((av.reverse ++ rest).map (zc w))) (rest := rest.map (zc w)) (As := av.map (zc w)) ⟨hx, hb, hml, hown, hts⟩ (hM l w hav) ⟨callB_of n hts (zGood hcode) rfl rfl rfl (hts _ hini) (hts _ hlk0) ⟨hy1, hy2, hlenY⟩ hR, hts _ hstat⟩ ⟨zblind, zpre hAll hG hS⟩ rfl (by rw [List.length_map]; exact hlen) hl.1 ?_ (lv_room (zroom hroom)) hd ⟨Nat.zero_le _, Nat.zero_le _⟩) hS (fun H1 locs1 hG1 hok hS1 => ?_)
  · show (av.reverse ++ rest).map (zc w) = (av.map (zc w)).reverse ++ rest.map (zc w)
    rw [List.map_append, List.map_reverse]
  · have k := kk F h1 (fun a ha => ?_) H1 locs1 ls hG1 hS1 hl
    · cases v1 <;> exact k
    · rcases List.mem_append.mp ha with h | h
      · cases v1 with
        | none => simp at h
        | some z => exact hok a (by simp at h; rw [h])
      · exact hrest a h
theorem z_callSN {idx n : Nat} {y : MethodName} {host : String} {mt' : zMT} {av rest st st2 : List zV} {v1 : Option zV} {σ1 : zG} (hM : ∀ l, zMet l sy mt' y av σ v1 σ1) (hc : zcS y mt' n) (hlk0 : (mt.1, idx, y, host) ∈ sy.2.1) (hlen : av.length = n) (hst : st = av.reverse ++ rest) (hst2 : st2 = v1.toList ++ rest) (hroom : (rest.map zcat).sum ≤ 8) (hR : mt'.2.2.2.1 + 1 ≤ mt.2.2.2.1 ∧ 8 + (mt'.2.2.1 + 11) + 64 * mt'.2.2.2.1 ≤ 64 * mt.2.2.2.1)
    (hd : decode mt.2.1 pc = .ok (.invokestatic idx, 3)) (kk : zX sy mt K (pc + 3) al st2 σ1) : zX sy mt K pc al st σ := by
  subst hst
  subst hst2
  obtain ⟨w, l, p, e, s, m, args, below, meth, c, v, σ'⟩ := K
  intro F h1 h2 H locs ls hG hS hl
  obtain ⟨hx, hb, hml, hown, hts, hr, hlk, hAll⟩ := id F
  obtain ⟨⟨hini, hcode, hy1, hy2, hlenY⟩, hstat⟩ := hc
  have hav : ∀ a ∈ av, zok w a := fun a ha => h2 a (List.mem_append_left _ (List.mem_reverse.mpr ha))
  have hrest : ∀ a ∈ rest, zok w a := fun a ha => h2 a (List.mem_append_right _ ha)
  have hnest : zNestOk s (mt.1, idx, y, host) := hAll.1.2.2 _ hlk0
  refine zrun (va_runSN (g := F0 m pc ls ((av.reverse ++ rest).map (zc w))) (rest := rest.map (zc w)) (As := av.map (zc w)) (host := host) ⟨hx, hb, hml, hown, hts⟩ (hM l w hav) ⟨va_cnB n hts (zGood hcode) rfl rfl rfl hnest (hts _ hini) ⟨hy1, hy2, hlenY⟩ hR, hts _ hstat, trivial⟩ ⟨zblind, zpre hAll hG hS⟩ rfl (by rw [List.length_map]; exact hlen) hl.1 ?_ (lv_room (zroom hroom)) hd ⟨Nat.zero_le _, Nat.zero_le _⟩) hS (fun H1 locs1 hG1 hok hS1 => ?_)
  · show (av.reverse ++ rest).map (zc w) = (av.map (zc w)).reverse ++ rest.map (zc w)
    rw [List.map_append, List.map_reverse]
  · have k := kk F h1 (fun a ha => ?_) H1 locs1 ls hG1 hS1 hl
    · cases v1 <;> exact k
    · rcases List.mem_append.mp ha with h | h
      · cases v1 with
        | none => simp at h
        | some z => exact hok a (by simp at h; rw [h])
      · exact hrest a h
theorem z_callV {idx n f i ci : Nat} {r : vw_C} {y : MethodName} {mt' : zMT} {av rest st st2 : List zV} {v1 : Option zV} {σ1 : zG} (hM : ∀ l, zMet l sy mt' y (zR f i :: av) σ v1 σ1) (hc : zcV y mt' n) (hlk0 : Cond.methodLink mt.1 idx y ∈ zTB) (hf0 : sy.1.1 f = .inl ci) (hcl : vwCl[ci]? = some r) (hry : r.1 = y.cls) (hlen : av.length = n) (hst : st = av.reverse ++ zR f i :: rest) (hst2 : st2 = v1.toList ++ rest) (hroom : (rest.map zcat).sum ≤ 8) (hR : mt'.2.2.2.1 + 1 ≤ mt.2.2.2.1 ∧ 8 + (mt'.2.2.1 + 11) + 64 * mt'.2.2.2.1 ≤ 64 * mt.2.2.2.1)
    (hd : decode mt.2.1 pc = .ok (.invokevirtual idx, 3)) (kk : zX sy mt K (pc + 3) al st2 σ1) : zX sy mt K pc al st σ := by
  subst hst
  subst hst2
  obtain ⟨w, l, p, e, s, m, args, below, meth, c, v, σ'⟩ := K
  intro F h1 h2 H locs ls hG hS hl
  obtain ⟨hx, hb, hml, hown, hts, hr, hlk, hAll⟩ := id F
  obtain ⟨⟨hini, hcode, hy1, hy2, hlenY⟩, hinst, hsel⟩ := hc
  have hlv : w.2.2.2.2 f i := h2 (zR f i) (List.mem_append_right _ List.mem_cons_self)
  have hav : ∀ a ∈ zR f i :: av, zok w a := fun a ha => by
    rcases List.mem_cons.mp ha with h | h
    · rw [h]; exact hlv
    · exact h2 a (List.mem_append_left _ (List.mem_reverse.mpr h))
  have hrest : ∀ a ∈ rest, zok w a := fun a ha => h2 a (List.mem_append_right _ (List.mem_cons_of_mem _ ha))
  have hat := hG f i hlv
  unfold zAt at hat
  rw [hf0] at hat
  obtain ⟨r', h3, cell, q1, q2, q3, q4⟩ := hat
  obtain ⟨-, hfc, -⟩ := hAll.1.1 ci _ hcl
  rw [hry] at hfc
  refine zrun (va_runV (g := F0 m pc ls ((av.reverse ++ zR f i :: rest).map (zc w))) (rest := rest.map (zc w)) (As := av.map (zc w)) (b := w.1 f i) (C := y.cls) ⟨hx, hb, hml, hown, hts⟩ (hM l w hav) ⟨callB_of n hts (zGood hcode) rfl rfl rfl (hts _ hini) (hts _ hlk0) ⟨hy1, hy2, hlenY⟩ hR, hts _ hinst, hts _ hsel⟩ ⟨zblind, ⟨cell, q1, by rw [q3]; rfl, by rw [q2]; exact hfc⟩, zpre (av := zR f i :: av) hAll hG hS⟩ rfl (by rw [List.length_map]; exact hlen) hl.1 ?_ (lv_room (zroom hroom)) hd ⟨Nat.zero_le _, Nat.zero_le _⟩) hS (fun H1 locs1 hG1 hok hS1 => ?_)
  · show (av.reverse ++ zR f i :: rest).map (zc w) = (av.map (zc w)).reverse ++ .ref (w.1 f i) :: rest.map (zc w)
    rw [List.map_append, List.map_reverse]
    rfl
  · have k := kk F h1 (fun a ha => ?_) H1 locs1 ls hG1 hS1 hl
    · cases v1 <;> exact k
    · rcases List.mem_append.mp ha with h | h
      · cases v1 with
        | none => simp at h
        | some z => exact hok a (by simp at h; rw [h])
      · exact hrest a h
end ZC
/-- the entry -/
theorem zEnter {l : Launch} {sy : zSy} {mt : zMT} {y : MethodName} {av : List zV} {σ : zG} {v : Option zV} {σ' : zG} (al : List (Nat × zV)) (hy : plainName y.cls = true) (hyc : y.cls = mt.1) (hsz : ∀ w, (lg_sl (av.map (zc w))).length ≤ mt.2.2.1) (hal : ∀ w, lv_args 0 (av.map (zc w)) = al.map fun q => (q.1, zc w q.2)) (hmem : ∀ w : zW, (∀ a ∈ av, zok w a) → ∀ q ∈ al, zok w q.2)
    (k : ∀ K : zK, zKv K = v → zKs K = σ' → zX sy mt K 0 al [] σ) : zMet l sy mt y av σ v σ' := by
  intro w hav
  refine Met.ofW (cc := mt.2.1) (maxL := mt.2.2.1) (ret := mt.2.2.2.2) hy rfl ?_
  intro p e s m args below meth c s₁ B hml hv
  obtain ⟨rfl, hG, hAll⟩ := hv
  have hx := B.exec
  have hb := B.bytes
  have hr := B.returns
  have hts := atoms_spec (ws := .code y mt.2.1 mt.2.2.1 mt.2.2.2.2 :: zTB) B.pre
  have hown : s.vm.findClass y.cls = some m.cls := findClass_of_methodNamed B.named
  have hlocks := B.notSynchronized
  have hl := lv_entry (av.map (zc w)) (n := mt.2.2.1) (hsz w)
  rw [lg_entry_eq]
  generalize (lg_sl (av.map (zc w)) ++ List.replicate (mt.2.2.1 - (lg_sl (av.map (zc w))).length) Slot.unset).toArray = ls at hl ⊢
  rw [hal w] at hl
  exact k (w, l, p, e, s, m, (av.map (zc w)).toArray, below, meth, c, v, σ') rfl rfl ⟨hx, hb, hml, by rw [← hyc]; exact hown, fun q hq => hts q (List.mem_cons_of_mem _ hq), hr, hlocks, hAll⟩ (hmem w hav) (fun a ha => by cases ha) s.heap [] ls hG va_S.rf hl
/-- loops: a body answers none (it goes wrong), a new state, or a way out -/
def zlpn {α β : Type} (f : α → Option (α ⊕ β)) : Nat → α → Option β
  | 0, _ => none
  | n + 1, a => match f a with
    | none => none
    | some (.inl a') => zlpn f n a'
    | some (.inr b) => some b

noncomputable def zlp {α β : Type} (f : α → Option (α ⊕ β)) (a : α) : Option β := @dite _ (∃ b, ∃ n, zlpn f n a = some b) (Classical.propDecidable _) (fun h => some (Classical.choose h)) (fun _ => none)
theorem zlp_some {α β : Type} {f : α → Option (α ⊕ β)} {a : α} {b : β} (h : zlp f a = some b) : ∃ n, zlpn f n a = some b := by
  unfold zlp at h
  split at h
  · rename_i hx
    cases h
    exact Classical.choose_spec hx
  · cases h
theorem zlpn_mono {α β : Type} {f : α → Option (α ⊕ β)} {b : β} : ∀ (n : Nat) (a : α), zlpn f n a = some b → zlpn f (n + 1) a = some b := by
  intro n
  induction n with
  | zero => intro a h; cases h
  | succ n ih =>
    intro a h
    rw [zlpn] at h ⊢
    cases hq : f a with
    | none => rw [hq] at h; cases h
    | some z =>
      rw [hq] at h
      cases z with
      | inl a' => exact ih a' h
      | inr b' => exact h
theorem zlpn_le {α β : Type} {f : α → Option (α ⊕ β)} {b : β} {a : α} {n : Nat} (h : zlpn f n a = some b) : ∀ k, zlpn f (n + k) a = some b
  | 0 => h
  | k + 1 => zlpn_mono _ _ (zlpn_le h k)
theorem zlp_eq {α β : Type} {f : α → Option (α ⊕ β)} {a : α} {b : β} {n : Nat} (h : zlpn f n a = some b) : zlp f a = some b := by
  have hx : ∃ b, ∃ n, zlpn f n a = some b := ⟨b, n, h⟩
  unfold zlp
  rw [dif_pos hx]
  obtain ⟨m, hm⟩ := Classical.choose_spec hx
  have h1 := zlpn_le hm n
  have h2 := zlpn_le h m
  rw [Nat.add_comm] at h2
  rw [h1] at h2
  exact h2
theorem zlp_step {α β : Type} {f : α → Option (α ⊕ β)} {a a' : α} (h : f a = some (.inl a')) : zlp f a = zlp f a' := by
  cases hb : zlp f a' with
  | some b =>
    obtain ⟨n, hn⟩ := zlp_some hb
    exact zlp_eq (n := n + 1) (by rw [zlpn, h]; exact hn)
  | none =>
    cases ha : zlp f a with
    | none => rfl
    | some b =>
      obtain ⟨n, hn⟩ := zlp_some ha
      cases n with
      | zero => cases hn
      | succ n =>
        rw [zlpn, h] at hn
        rw [zlp_eq hn] at hb
        cases hb
theorem zlp_done {α β : Type} {f : α → Option (α ⊕ β)} {a : α} {b : β} (h : f a = some (.inr b)) : zlp f a = some b := zlp_eq (n := 1) (by rw [zlpn, h])
/-- a loop, walked: P at its head for any state, E at its way out -/
theorem z_loop {α β τ : Type} {f : α → Option (α ⊕ β)} {a : α} {res : Option τ} {k : β → Option τ} (P : α → Prop) (E : β → Prop) (hn : res ≠ none) (hf : res = (zlp f a).bind k) (hE : ∀ b, res = k b → E b) (hs : ∀ q, f q ≠ none → (∀ q', f q = some (.inl q') → P q') → (∀ b, f q = some (.inr b) → E b) → P q) : P a := by
  refine z_bind hn hf (fun b hb hk => ?_)
  obtain ⟨n, h⟩ := zlp_some hb
  clear hb hf
  induction n generalizing a with
  | zero => cases h
  | succ n ih =>
    rw [zlpn] at h
    cases hq : f a with
    | none => rw [hq] at h; cases h
    | some z =>
      rw [hq] at h
      refine hs a (by rw [hq]; intro z; cases z) (fun q' hq' => ?_) (fun b' hb' => ?_)
      · rw [hq] at hq'
        cases hq'
        exact ih h
      · rw [hq] at hb'
        cases hb'
        cases h
        exact hE b hk
