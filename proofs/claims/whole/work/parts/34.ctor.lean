/-! CONSTRUCTORS: a world that grows. References are null until they are set: a flag in σ at their slot tells (tag 3) -/
def zSt (sy : zSy) (w : zW) (U : State) : Prop :=
  (∀ (c : Nat) (q : vw_C), vwCl[c]? = some q → u_Kn U q.1 q.2.1 q.2.2 (w.2.2.1.1 c) (w.2.2.1.2 c)) ∧
  (∀ f ty n, sy.1.1 f = .inr (ty, n) → ArrOfT U (w.2.2.2.1 f) ty ∧ va_RA U (w.2.2.2.1 f) ty) ∧
  (∀ q ∈ sy.2.1, zNestOk U q) ∧ (∀ f C n, sy.1.1 f = .inr (.object C, n) → va_AO C U)
theorem zSt.warm {sy : zSy} {w : zW} {s U : State} (hW : s.WarmedH U.vm) (h : zSt sy w s) : zSt sy w U :=
  ⟨fun c q hq => u_Kn_moved hW.alike (h.1 c q hq), fun f ty n h1 => ⟨arrOfT_moved hW.alike (h.2.1 f ty n h1).1, (h.2.1 f ty n h1).2.moved hW.alike⟩, fun q hq => va_Nw.warmM hW (h.2.2.1 q hq), fun f C n h1 => va_AO.moved hW.alike (h.2.2.2 f C n h1)⟩
theorem zSt.same {sy : zSy} {w : zW} {s U : State} (hv : s.vm = U.vm) (h : zSt sy w s) : zSt sy w U := by
  have ha : s.vm.Alike U.vm := by rw [hv]; exact Vm.Alike.refl _
  exact ⟨fun c q hq => u_Kn_moved ha (h.1 c q hq), fun f ty n h1 => ⟨arrOfT_moved ha (h.2.1 f ty n h1).1, (h.2.1 f ty n h1).2.moved ha⟩, fun q hq => va_Nw.same rfl hv (h.2.2.1 q hq), fun f C n h1 => va_AO.moved ha (h.2.2.2 f C n h1)⟩
/-- String constants and the JDK's two statics, with what may change set apart -/
def zEn (sy : zSy) (w : zW) (A : Nat → Prop) (U : State) (H : Heap) : Prop :=
  (∀ (i : Nat) (b : List Int32), sy.2.2.1[i]? = some b → va_O "java/lang/String" (w.2.1.1 i) A U H ∧ va_OF "java/lang/String" "coder" "B" (.int 0) (w.2.1.1 i) A U H ∧ va_OF "java/lang/String" "value" "[B" (.ref (w.2.1.2 i)) (w.2.1.1 i) A U H ∧ va_T .byte (w.2.1.2 i) b.length (fun j => .int (b.getD j 0)) A U H) ∧
  zLdc w sy.2.2.2 U ∧ zCmp A U H ∧ (va_Z "jdk/internal/util/Preconditions" "SIOOBE_FORMATTER" "Ljava/util/function/BiFunction;" .null A U H ∨ va_Z "jdk/internal/util/Preconditions" "SIOOBE_FORMATTER" "Ljava/util/function/BiFunction;" (.ref (w.2.1.2 999)) A U H)
theorem zEn.narrow {sy : zSy} {w : zW} {A B : Nat → Prop} {U : State} {H : Heap} (hAB : ∀ q, B q → A q) (h : zEn sy w A U H) : zEn sy w B U H := by
  obtain ⟨h1, h2, h3, h4⟩ := h
  refine ⟨fun i b hb => ?_, h2, va_Z.narrow h3 hAB, ?_⟩
  · obtain ⟨a1, a2, a3, a4⟩ := h1 i b hb
    exact ⟨a1.narrow hAB, a2.narrow hAB, a3.narrow hAB, a4.narrow hAB⟩
  · rcases h4 with h | h
    · exact Or.inl (va_Z.narrow h hAB)
    · exact Or.inr (va_Z.narrow h hAB)
theorem zEn.move {sy : zSy} {w : zW} {A : Nat → Prop} {s U : State} (hW : s.WarmedH U.vm) (hz : ∀ q : Nat, q < s.heap.size → ¬ A q → U.heap[q]? = s.heap[q]?) (h : zEn sy w A s s.heap) : zEn sy w A U U.heap := by
  obtain ⟨h1, h2, h3, h4⟩ := h
  refine ⟨fun i b hb => ?_, fun q hq => (h2 q hq).warm hW, (va_Z.moved hW.alike h3).kept hz, ?_⟩
  · obtain ⟨a1, a2, a3, a4⟩ := h1 i b hb
    exact ⟨(va_O.moved hW.alike a1).kept hz, (va_OF.moved hW.alike a2).kept hz, (va_OF.moved hW.alike a3).kept hz, (va_T.moved hW.alike a4).kept hz⟩
  · rcases h4 with h | h
    · exact Or.inl ((va_Z.moved hW.alike h).kept hz)
    · exact Or.inr ((va_Z.moved hW.alike h).kept hz)
theorem zEn.same {sy : zSy} {w : zW} {A : Nat → Prop} {s U : State} (hv : s.vm = U.vm) (hh : s.heap = U.heap) (h : zEn sy w A s s.heap) : zEn sy w A U U.heap := by
  obtain ⟨h1, h2, h3, h4⟩ := h
  have ha : s.vm.Alike U.vm := by rw [hv]; exact Vm.Alike.refl _
  rw [← hh]
  refine ⟨fun i b hb => ?_, fun q hq => (h2 q hq).same hv.symm, va_Z.moved ha h3, ?_⟩
  · obtain ⟨a1, a2, a3, a4⟩ := h1 i b hb
    exact ⟨va_O.moved ha a1, va_OF.moved ha a2, va_OF.moved ha a3, va_T.moved ha a4⟩
  · rcases h4 with h | h
    · exact Or.inl (va_Z.moved ha h)
    · exact Or.inr (va_Z.moved ha h)
theorem zEn.all {sy : zSy} {w : zW} {U : State} {H : Heap} (h : zEn sy w (zA w) U H) : zStr w sy.2.2.1 U H ∧ zLdc w sy.2.2.2 U ∧ zCmp (zA w) U H ∧ zSio w U H := h
def zInj (w : zW) : Prop := ∀ f i g j, w.2.2.2.2 f i → w.2.2.2.2 g j → w.1 f i = w.1 g j → f = g ∧ i = j
def zFl (ly : zLy) (w : zW) (σ : zG) : Prop := ∀ f i k, w.2.2.2.2 f i → ly.2.1 f k ≠ 2 ∧ (ly.2.1 f k = 0 ∨ ly.2.1 f k = 1 ∨ σ.1 f i k = 0 ∨ ∀ t, ly.2.2 f i k = some t → w.2.2.2.2 t.1 t.2)
def zExt (w w' : zW) (dn : List (Nat × Nat)) : Prop := (∀ f i, w'.2.2.2.2 f i ↔ (f, i) ∈ dn ∨ w.2.2.2.2 f i) ∧ (∀ f i, w.2.2.2.2 f i → w'.1 f i = w.1 f i) ∧ w'.2.1 = w.2.1 ∧ w'.2.2.1 = w.2.2.1 ∧ w'.2.2.2.1 = w.2.2.2.1
def zFr (w : zW) (σ : zG) (fr : List (Nat × Nat)) : Prop := fr.Nodup ∧ ∀ x ∈ fr, ¬ w.2.2.2.2 x.1 x.2 ∧ ∀ k, σ.1 x.1 x.2 k = 0 ∧ σ.2 x.1 x.2 k = 0
def zadd (w : zW) (f i a : Nat) : zW := (fun f' i' => if f' = f ∧ i' = i then a else w.1 f' i', w.2.1, w.2.2.1, w.2.2.2.1, fun f' i' => (f' = f ∧ i' = i) ∨ w.2.2.2.2 f' i')
theorem zadd_ad {w : zW} {f i a f' i' : Nat} (hn : ¬ w.2.2.2.2 f i) (h : w.2.2.2.2 f' i') : (zadd w f i a).1 f' i' = w.1 f' i' := by
  show (if f' = f ∧ i' = i then a else w.1 f' i') = _
  rw [if_neg]
  rintro ⟨rfl, rfl⟩
  exact hn h
theorem zadd_new {w : zW} {f i a : Nat} : (zadd w f i a).1 f i = a := by
  show (if f = f ∧ i = i then a else w.1 f i) = a
  rw [if_pos ⟨rfl, rfl⟩]
theorem zExt.refl (w : zW) : zExt w w [] := ⟨fun f i => by simp, fun _ _ _ => rfl, rfl, rfl, rfl⟩
theorem zExt.zcv {w w' : zW} {dn : List (Nat × Nat)} (h : zExt w w' dn) : ∀ {v : zV}, zok w v → zc w' v = zc w v
  | .inl _, _ => rfl
  | .inr (.inl _), _ => rfl
  | .inr (.inr (.inl (f, some i))), hv => by show Value.ref (w'.1 f i) = Value.ref (w.1 f i); rw [h.2.1 f i hv]
  | .inr (.inr (.inl (_, none))), _ => rfl
  | .inr (.inr (.inr (.inl k))), _ => by show Value.ref (w'.2.1.1 k) = Value.ref (w.2.1.1 k); rw [h.2.2.1]
  | .inr (.inr (.inr (.inr k))), _ => by show Value.ref (w'.2.1.2 k) = Value.ref (w.2.1.2 k); rw [h.2.2.1]
theorem zExt.ok {w w' : zW} {dn : List (Nat × Nat)} (h : zExt w w' dn) : ∀ {v : zV}, zok w v → zok w' v
  | .inl _, _ => trivial
  | .inr (.inl _), _ => trivial
  | .inr (.inr (.inl (f, some i))), hv => (h.1 f i).mpr (Or.inr hv)
  | .inr (.inr (.inl (_, none))), _ => trivial
  | .inr (.inr (.inr (.inl _))), _ => trivial
  | .inr (.inr (.inr (.inr _))), _ => trivial
theorem zExt.map {w w' : zW} {dn : List (Nat × Nat)} (h : zExt w w' dn) {as : List zV} (hok : ∀ a ∈ as, zok w a) : as.map (zc w') = as.map (zc w) := List.map_congr_left fun a ha => h.zcv (hok a ha)
theorem zExt.mapl {w w' : zW} {dn : List (Nat × Nat)} (h : zExt w w' dn) {al : List (Nat × zV)} (hok : ∀ q ∈ al, zok w q.2) : (al.map fun q => (q.1, zc w' q.2)) = al.map fun q => (q.1, zc w q.2) := List.map_congr_left fun a ha => by rw [h.zcv (hok a ha)]
theorem zExt.trans {w w1 w2 : zW} {d1 d2 : List (Nat × Nat)} (h1 : zExt w w1 d1) (h2 : zExt w1 w2 d2) : zExt w w2 (d1 ++ d2) :=
  ⟨fun f i => by rw [h2.1, h1.1, List.mem_append]; constructor
                 · rintro (h | h | h)
                   · exact Or.inl (Or.inr h)
                   · exact Or.inl (Or.inl h)
                   · exact Or.inr h
                 · rintro ((h | h) | h)
                   · exact Or.inr (Or.inl h)
                   · exact Or.inl h
                   · exact Or.inr (Or.inr h),
   fun f i h => by rw [h2.2.1 f i ((h1.1 f i).mpr (Or.inr h)), h1.2.1 f i h], h2.2.2.1.trans h1.2.2.1, h2.2.2.2.1.trans h1.2.2.2.1, h2.2.2.2.2.trans h1.2.2.2.2⟩
theorem zadd_ext {w : zW} {f i a : Nat} (hn : ¬ w.2.2.2.2 f i) : zExt w (zadd w f i a) [(f, i)] :=
  ⟨fun f' i' => by
    show (f' = f ∧ i' = i) ∨ w.2.2.2.2 f' i' ↔ _
    simp [Prod.ext_iff], fun f' i' h => zadd_ad hn h, rfl, rfl, rfl⟩
theorem zgv_ext {ly : zLy} {w w' : zW} {dn : List (Nat × Nat)} {σ : zG} (hE : zExt w w' dn) (hFl : zFl ly w σ) {f i : Nat} (h : w.2.2.2.2 f i) : zgv ly w' σ f i = zgv ly w σ f i := by
  funext k
  obtain ⟨h2, h3⟩ := hFl f i k h
  have key : (σ.1 f i k = 0 ∨ ∀ t, ly.2.2 f i k = some t → w.2.2.2.2 t.1 t.2) → ∀ A B : Value, (if σ.1 f i k = 0 then Value.null else zrf w' (ly.2.2 f i k)) = (if σ.1 f i k = 0 then Value.null else zrf w (ly.2.2 f i k)) := by
    intro hq _ _
    by_cases h0 : σ.1 f i k = 0
    · rw [if_pos h0, if_pos h0]
    · rw [if_neg h0, if_neg h0]
      rcases hq with hq | hq
      · exact absurd hq h0
      · cases ht : ly.2.2 f i k with
        | none => rfl
        | some t => show Value.ref (w'.1 t.1 t.2) = Value.ref (w.1 t.1 t.2); rw [hE.2.1 _ _ (hq t ht)]
  unfold zgv
  match hm : ly.2.1 f k with
  | 0 => rfl
  | 1 => rfl
  | 2 => exact absurd hm h2
  | n + 3 =>
    have hq : σ.1 f i k = 0 ∨ ∀ t, ly.2.2 f i k = some t → w.2.2.2.2 t.1 t.2 := by
      rcases h3 with h3 | h3 | h3
      · omega
      · omega
      · exact h3
    exact key hq .null .null
theorem zGW_add {ly : zLy} {w : zW} {σ : zG} {H H1 : Heap} {f i : Nat} (hG : zGW ly w σ H) (hFl : zFl ly w σ) (hn : ¬ w.2.2.2.2 f i) (o1 : ∀ q, q < H.size → H1[q]? = H[q]?) (hat : zAt ly (zadd w f i H.size) σ H1 f i) : zGW ly (zadd w f i H.size) σ H1 := by
  intro f' i' h
  by_cases hx : f' = f ∧ i' = i
  · obtain ⟨rfl, rfl⟩ := hx
    exact hat
  · have hlv : w.2.2.2.2 f' i' := by
      rcases h with h | h
      · exact absurd h hx
      · exact h
    have h0 := hG f' i' hlv
    have hlt := hG.lt (zA_in hlv)
    unfold zAt at h0 ⊢
    rw [zgv_ext (zadd_ext hn) hFl hlv, zadd_ad hn hlv]
    cases hk : ly.1 f' with
    | inl ci =>
      rw [hk] at h0
      obtain ⟨r, h1, h2⟩ := h0
      exact ⟨r, h1, h2.kept (o1 _ hlt)⟩
    | inr t =>
      rw [hk] at h0
      exact ⟨(o1 _ hlt).trans h0.1, h0.2⟩
theorem zInj_add {ly : zLy} {w : zW} {σ : zG} {H : Heap} {f i : Nat} (hG : zGW ly w σ H) (hI : zInj w) (hn : ¬ w.2.2.2.2 f i) : zInj (zadd w f i H.size) := by
  intro f1 i1 f2 i2 h1 h2 e
  by_cases a1 : f1 = f ∧ i1 = i <;> by_cases a2 : f2 = f ∧ i2 = i
  · obtain ⟨rfl, rfl⟩ := a1
    obtain ⟨rfl, rfl⟩ := a2
    exact ⟨rfl, rfl⟩
  · have l2 := h2.resolve_left a2
    obtain ⟨rfl, rfl⟩ := a1
    rw [zadd_new, zadd_ad hn l2] at e
    have := hG.lt (zA_in l2)
    omega
  · have l1 := h1.resolve_left a1
    obtain ⟨rfl, rfl⟩ := a2
    rw [zadd_new, zadd_ad hn l1] at e
    have := hG.lt (zA_in l1)
    omega
  · have l1 := h1.resolve_left a1
    have l2 := h2.resolve_left a2
    rw [zadd_ad hn l1, zadd_ad hn l2] at e
    exact hI _ _ _ _ l1 l2 e
theorem zFl_add {ly : zLy} {w : zW} {σ : zG} {f i a : Nat} (h2 : ∀ k, ly.2.1 f k ≠ 2) (hFl : zFl ly w σ) (hz : ∀ k, σ.1 f i k = 0 ∧ σ.2 f i k = 0) : zFl ly (zadd w f i a) σ := by
  intro f' i' k h
  rcases h with ⟨rfl, rfl⟩ | h
  · exact ⟨h2 k, Or.inr (Or.inr (Or.inl (hz k).1))⟩
  · obtain ⟨b1, b2⟩ := hFl f' i' k h
    refine ⟨b1, ?_⟩
    rcases b2 with b | b | b | b
    · exact Or.inl b
    · exact Or.inr (Or.inl b)
    · exact Or.inr (Or.inr (Or.inl b))
    · exact Or.inr (Or.inr (Or.inr (fun t ht => Or.inr (b t ht))))
theorem zFr_add {w : zW} {σ : zG} {f i a : Nat} {fr : List (Nat × Nat)} (h : zFr w σ ((f, i) :: fr)) : zFr (zadd w f i a) σ fr := by
  obtain ⟨h1, h2⟩ := h
  refine ⟨(List.nodup_cons.mp h1).2, fun x hx => ⟨?_, (h2 x (List.mem_cons_of_mem _ hx)).2⟩⟩
  rintro (⟨e1, e2⟩ | hl)
  · exact (List.nodup_cons.mp h1).1 (by rw [← e1, ← e2]; exact hx)
  · exact (h2 x (List.mem_cons_of_mem _ hx)).1 hl
theorem zA_add {w : zW} {f i a q : Nat} (hn : ¬ w.2.2.2.2 f i) (h : zA (zadd w f i a) q) : zA w q ∨ q = a := by
  obtain ⟨f', i', hl, e⟩ := h
  by_cases hx : f' = f ∧ i' = i
  · obtain ⟨rfl, rfl⟩ := hx
    rw [zadd_new] at e
    exact Or.inr e.symm
  · have l1 := hl.resolve_left hx
    rw [zadd_ad hn l1] at e
    exact Or.inl ⟨f', i', l1, e⟩
/-- writing at a cell that is there leaves the fresh ones as they were -/
theorem zFr_w {w : zW} {σ : zG} {f i k : Nat} {x : Int32} {fr : List (Nat × Nat)} (hlv : w.2.2.2.2 f i) (h : zFr w σ fr) : zFr w (zwI σ f i k x) fr := by
  refine ⟨h.1, fun y hy => ⟨(h.2 y hy).1, fun j => ⟨?_, ((h.2 y hy).2 j).2⟩⟩⟩
  show (if y.1 = f ∧ y.2 = i ∧ j = k then x else σ.1 y.1 y.2 j) = 0
  rw [if_neg]
  · exact ((h.2 y hy).2 j).1
  · rintro ⟨e1, e2, -⟩
    exact (h.2 y hy).1 (by rw [e1, e2]; exact hlv)
abbrev zKY : Type := zW × Launch × Program × Env × Room × State × MethodId × Array Value × List Frame × Method × Code × (State → Prop)
def zFY (mt : zMT) (K : zKY) : Prop := match K with
  | (_, _, p, _, _, s, m, args, _, meth, c, _) => p.tables.exec = Jvm.exec ∧ c.code = mt.2.1 ∧ c.maxLocals = mt.2.2.1 ∧ s.vm.findClass mt.1 = some m.cls ∧ (∀ q ∈ zTB, q.before args s = true) ∧ meth.sig.returnType = mt.2.2.2.2 ∧ meth.locks = false ∧ meth.name = "<init>"
def zY (sy : zSy) (mt : zMT) (K : zKY) (w : zW) (dn fr : List (Nat × Nat)) (cs ss pc : Nat) (al : List (Nat × zV)) (as : List zV) (σ : zG) : Prop := zFY mt K → match K with
  | (w0, l, p, e, R, s, m, args, below, meth, c, Q) => zSt sy w s → zEn sy w (fun q => zA w0 q ∨ s.heap.size ≤ q) s s.heap → zInj w → zFl sy.1 w σ → zFr w σ fr → zExt w0 w dn → (∀ q, zA w q → zA w0 q ∨ s.heap.size ≤ q) → (∀ q ∈ al, zok w q.2) → (∀ a ∈ as, zok w a) → ∀ (H : Heap) (locs : List Loc) (ls : Array Slot), zGW sy.1 w σ H → va_S (fun q => zA w0 q ∨ s.heap.size ≤ q) s.heap H locs → lv_has ls mt.2.2.1 (al.map fun q => (q.1, zc w q.2)) →
    W p l e R s m args below meth c H locs cs ss Q (F0 m pc ls (as.map (zc w)))
section ZYR
variable {sy : zSy} {mt : zMT} {K : zKY} {w : zW} {dn fr : List (Nat × Nat)} {cs ss pc : Nat} {al al' : List (Nat × zV)} {as : List zV} {σ : zG}
theorem y_iconst {n : Int} {v : Int32} (hd : decode mt.2.1 pc = .ok (.iconst n, 1)) (hv : Int32.ofInt n = v) (k : zY sy mt K w dn fr cs ss (pc + 1) al (zI v :: as) σ) : zY sy mt K w dn fr cs ss pc al as σ := by
  obtain ⟨w0, l, p, e, R, s, m, args, below, meth, c, Q⟩ := K
  intro F hSt hEn hI hFl hFr hE hA h1 h2 H locs ls hG hS hl
  obtain ⟨hx, hb, hml, hown, hts, hr, hlk, hnm⟩ := id F
  exact lv_iconst hx hb hd hv (k F hSt hEn hI hFl hFr hE hA h1 (zp trivial h2) H locs ls hG hS hl)
theorem y_bipush {n : Int} {v : Int32} (hd : decode mt.2.1 pc = .ok (.bipush n, 2)) (hv : (Int8.ofInt n).toInt32 = v) (k : zY sy mt K w dn fr cs ss (pc + 2) al (zI v :: as) σ) : zY sy mt K w dn fr cs ss pc al as σ := by
  obtain ⟨w0, l, p, e, R, s, m, args, below, meth, c, Q⟩ := K
  intro F hSt hEn hI hFl hFr hE hA h1 h2 H locs ls hG hS hl
  obtain ⟨hx, hb, hml, hown, hts, hr, hlk, hnm⟩ := id F
  exact lv_bipush hx hb hd hv (k F hSt hEn hI hFl hFr hE hA h1 (zp trivial h2) H locs ls hG hS hl)
theorem y_sipush {n : Int} {v : Int32} (hd : decode mt.2.1 pc = .ok (.sipush n, 3)) (hv : (Int16.ofInt n).toInt32 = v) (k : zY sy mt K w dn fr cs ss (pc + 3) al (zI v :: as) σ) : zY sy mt K w dn fr cs ss pc al as σ := by
  obtain ⟨w0, l, p, e, R, s, m, args, below, meth, c, Q⟩ := K
  intro F hSt hEn hI hFl hFr hE hA h1 h2 H locs ls hG hS hl
  obtain ⟨hx, hb, hml, hown, hts, hr, hlk, hnm⟩ := id F
  exact lv_sipush hx hb hd hv (k F hSt hEn hI hFl hFr hE hA h1 (zp trivial h2) H locs ls hG hS hl)
theorem y_aload_n (j : Nat) {k0 : Fin 4} {i f x : Nat} (hd : decode mt.2.1 pc = .ok (.aload_n k0, 1)) (hi : (k0 : Nat) = i) (hj : al[j]? = some (i, zR f x)) (k : zY sy mt K w dn fr cs ss (pc + 1) al (zR f x :: as) σ) : zY sy mt K w dn fr cs ss pc al as σ := by
  obtain ⟨w0, l, p, e, R, s, m, args, below, meth, c, Q⟩ := K
  intro F hSt hEn hI hFl hFr hE hA h1 h2 H locs ls hG hS hl
  obtain ⟨hx, hb, hml, hown, hts, hr, hlk, hnm⟩ := id F
  exact lv_aload_n hx hb hd hi (zlv hl j hj) (k F hSt hEn hI hFl hFr hE hA h1 (zp (zmem h1 hj) h2) H locs ls hG hS hl)
theorem y_iload_n (j : Nat) {k0 : Fin 4} {i : Nat} {x : Int32} (hd : decode mt.2.1 pc = .ok (.iload_n k0, 1)) (hi : (k0 : Nat) = i) (hj : al[j]? = some (i, zI x)) (k : zY sy mt K w dn fr cs ss (pc + 1) al (zI x :: as) σ) : zY sy mt K w dn fr cs ss pc al as σ := by
  obtain ⟨w0, l, p, e, R, s, m, args, below, meth, c, Q⟩ := K
  intro F hSt hEn hI hFl hFr hE hA h1 h2 H locs ls hG hS hl
  obtain ⟨hx, hb, hml, hown, hts, hr, hlk, hnm⟩ := id F
  exact lv_iload_n hx hb hd hi (zlv hl j hj) (k F hSt hEn hI hFl hFr hE hA h1 (zp trivial h2) H locs ls hG hS hl)
theorem y_istore_n {k0 : Fin 4} {i : Nat} {x : Int32} (hd : decode mt.2.1 pc = .ok (.istore_n k0, 1)) (hi : (k0 : Nat) = i) (hn : i < mt.2.2.1) (ha : zst1 al i (zI x) = al') (k : zY sy mt K w dn fr cs ss (pc + 1) al' as σ) : zY sy mt K w dn fr cs ss pc al (zI x :: as) σ := by
  subst ha
  obtain ⟨w0, l, p, e, R, s, m, args, below, meth, c, Q⟩ := K
  intro F hSt hEn hI hFl hFr hE hA h1 h2 H locs ls hG hS hl
  obtain ⟨hx, hb, hml, hown, hts, hr, hlk, hnm⟩ := id F
  exact lv_istore_n hx hb hd hi hl hn (zst1_map w al i (zI x)) (fun ls' hl' => k F hSt hEn hI hFl hFr hE hA (zst1_ok h1 trivial) (zd h2) H locs ls' hG hS hl')
theorem y_iinc (j : Nat) {i : Nat} {n : Int} {x v0 : Int32} (hd : decode mt.2.1 pc = .ok (.iinc i n, 3)) (hj : al[j]? = some (i, zI x)) (hv : x + Int32.ofInt n = v0) (hn : i < mt.2.2.1) (ha : zst1 al i (zI v0) = al') (k : zY sy mt K w dn fr cs ss (pc + 3) al' as σ) : zY sy mt K w dn fr cs ss pc al as σ := by
  subst ha
  obtain ⟨w0, l, p, e, R, s, m, args, below, meth, c, Q⟩ := K
  intro F hSt hEn hI hFl hFr hE hA h1 h2 H locs ls hG hS hl
  obtain ⟨hx, hb, hml, hown, hts, hr, hlk, hnm⟩ := id F
  exact lv_iinc hx hb hd hl (k := j) (by rw [List.getElem?_map, hj]; rfl) hv hn (zst1_map w al i (zI v0)) (fun ls' hl' => k F hSt hEn hI hFl hFr hE hA (zst1_ok h1 trivial) h2 H locs ls' hG hS hl')
theorem y_goto {off : Int} (tgt : Nat) (hd : decode mt.2.1 pc = .ok (.goto off, 3)) (ht : (pc : Int) + off = (tgt : Int)) (k : zY sy mt K w dn fr cs ss tgt al as σ) : zY sy mt K w dn fr cs ss pc al as σ := by
  obtain ⟨w0, l, p, e, R, s, m, args, below, meth, c, Q⟩ := K
  intro F hSt hEn hI hFl hFr hE hA h1 h2 H locs ls hG hS hl
  obtain ⟨hx, hb, hml, hown, hts, hr, hlk, hnm⟩ := id F
  exact lv_goto hx hb hd ht (k F hSt hEn hI hFl hFr hE hA h1 h2 H locs ls hG hS hl)
theorem y_dup {a : zV} (hc : zcat a = 1) (hd : decode mt.2.1 pc = .ok (.dup, 1)) (k : zY sy mt K w dn fr cs ss (pc + 1) al (a :: a :: as) σ) : zY sy mt K w dn fr cs ss pc al (a :: as) σ := by
  obtain ⟨w0, l, p, e, R, s, m, args, below, meth, c, Q⟩ := K
  intro F hSt hEn hI hFl hFr hE hA h1 h2 H locs ls hG hS hl
  obtain ⟨hx, hb, hml, hown, hts, hr, hlk, hnm⟩ := id F
  exact lv_dup hx hb hd (by rw [zc_cat]; exact hc) (k F hSt hEn hI hFl hFr hE hA h1 (zp (zh h2) h2) H locs ls hG hS hl)
theorem y_geT {a b : Int32} {off : Int} (tgt : Nat) (hd : decode mt.2.1 pc = .ok (.if_icmp .ge off, 3)) (ht : (pc : Int) + off = (tgt : Int)) (hc : b ≤ a) (k : zY sy mt K w dn fr cs ss tgt al as σ) : zY sy mt K w dn fr cs ss pc al (zI b :: zI a :: as) σ := by
  obtain ⟨w0, l, p, e, R, s, m, args, below, meth, c, Q⟩ := K
  intro F hSt hEn hI hFl hFr hE hA h1 h2 H locs ls hG hS hl
  obtain ⟨hx, hb, hml, hown, hts, hr, hlk, hnm⟩ := id F
  exact lv_icmp_ge hx hb hd ht (fun _ => k F hSt hEn hI hFl hFr hE hA h1 (zd (zd h2)) H locs ls hG hS hl) (fun h => absurd hc h)
theorem y_geF {a b : Int32} {off : Int} (tgt : Nat) (hd : decode mt.2.1 pc = .ok (.if_icmp .ge off, 3)) (ht : (pc : Int) + off = (tgt : Int)) (hc : ¬ b ≤ a) (k : zY sy mt K w dn fr cs ss (pc + 3) al as σ) : zY sy mt K w dn fr cs ss pc al (zI b :: zI a :: as) σ := by
  obtain ⟨w0, l, p, e, R, s, m, args, below, meth, c, Q⟩ := K
  intro F hSt hEn hI hFl hFr hE hA h1 h2 H locs ls hG hS hl
  obtain ⟨hx, hb, hml, hown, hts, hr, hlk, hnm⟩ := id F
  exact lv_icmp_ge hx hb hd ht (fun h => absurd h hc) (fun _ => k F hSt hEn hI hFl hFr hE hA h1 (zd (zd h2)) H locs ls hG hS hl)
theorem y_obj {idx f i : Nat} (hw : Cond.methodLink mt.1 idx Lib.objectInit ∈ zTB ∧ Cond.instanceMethod Lib.objectInit ∈ zTB ∧ Cond.code Lib.objectInit ⟨#[0xb1]⟩ 1 none ∈ zTB) (hfr : ∀ l p e R s m args below meth c Q w0, K = (w0, l, p, e, R, s, m, args, below, meth, c, Q) → 1 ≤ R.frames ∧ (as.map zcat).sum + 12 ≤ R.locals) (hd : decode mt.2.1 pc = .ok (.invokespecial idx, 3)) (k : zY sy mt K w dn fr cs ss (pc + 3) al as σ) : zY sy mt K w dn fr cs ss pc al (zR f i :: as) σ := by
  obtain ⟨w0, l, p, e, R, s, m, args, below, meth, c, Q⟩ := K
  intro F hSt hEn hI hFl hFr hE hA h1 h2 H locs ls hG hS hl
  obtain ⟨hx, hb, hml, hown, hts, hr, hlk, hnm⟩ := id F
  obtain ⟨f1, f2⟩ := hfr l p e R s m args below meth c Q w0 rfl
  refine W.objInit hx hb hown (hts _ hw.1) (hts _ hw.2.1) (hts _ hw.2.2) rfl (hl.1.trans hml.symm) rfl hd f1 ?_ (k F hSt hEn hI hFl hFr hE hA h1 (zd h2) H locs ls hG hS hl)
  show 2 * 0 + _ + 12 ≤ _
  rw [List.map_map, show ((fun v : Value => v.category) ∘ zc w) = zcat from funext (zc_cat w)]
  omega
/-- a new object, of the first of the fresh cells -/
theorem y_new {f i ci idx N : Nat} {C : String} {T : u_T} (ty : Nat → FieldType) (hf0 : sy.1.1 f = .inl ci) (h2t : ∀ k, sy.1.2.1 f k ≠ 2) (hcl : vwCl[ci]? = some (C, T, N)) (hin : ∀ q ∈ u_ws C T N, q ∈ zTB) (hty : ∀ k, k < N → parseFieldDescriptor (T k).2.2.1 = some (ty k)) (hdef : ∀ k, k < N → defaultValue (ty k) = (match sy.1.2.1 f k with | 0 => Value.int 0 | 1 => Value.long 0 | _ => Value.null)) (hw : Cond.classLink mt.1 idx C ∈ zTB ∧ Cond.instantiable C N ∈ zTB ∧ Cond.initialized C ∈ zTB) (hroom : ∀ l p e R s m args below meth c Q w0, K = (w0, l, p, e, R, s, m, args, below, meth, c, Q) → cs + 1 ≤ R.cells ∧ ss + N ≤ R.slots) (hd : decode mt.2.1 pc = .ok (.new idx, 3))
    (k : ∀ w', zY sy mt K w' (dn ++ [(f, i)]) fr (cs + 1) (ss + N) (pc + 3) al (zR f i :: as) σ) : zY sy mt K w dn ((f, i) :: fr) cs ss pc al as σ := by
  obtain ⟨w0, l, p, e, R, s, m, args, below, meth, c, Q⟩ := K
  intro F hSt hEn hI hFl hFr hE hA h1 h2 H locs ls hG hS hl
  obtain ⟨hx, hb, hml, hown, hts, hr, hlk, hnm⟩ := id F
  obtain ⟨r1, r2⟩ := hroom l p e R s m args below meth c Q w0 rfl
  obtain ⟨hn, hz⟩ := hFr.2 (f, i) List.mem_cons_self
  have hKn := hSt.1 ci _ hcl
  refine W.newcK hx hb hown (hts _ hw.1) (hts _ hw.2.1) (hts _ hw.2.2) rfl hd r1 r2 hKn.2.1 rfl fun H1 kC hkC e1 z1 o1 => ?_
  have hx1 := zadd_ext (a := H.size) hn
  have q := k (zadd w f i H.size) F hSt hEn (zInj_add hG hI hn) (zFl_add h2t hFl hz) (zFr_add hFr) (hE.trans hx1) (fun q hq => (zA_add hn hq).elim (hA q) (fun e => Or.inr (by rw [e]; exact hS.1))) (fun a ha => hx1.ok (h1 a ha)) (zp (Or.inl ⟨rfl, rfl⟩) (fun a ha => hx1.ok (h2 a ha))) H1 locs ls (zGW_add hG hFl hn o1 ?_) ⟨Nat.le_trans hS.1 (by omega), fun x g1 g2 => (o1 x (Nat.lt_of_lt_of_le g1 hS.1)).trans (hS.2.1 x g1 g2), hS.2.2⟩ (by rw [hx1.mapl h1]; exact hl)
  · rw [List.map_cons, hx1.map h2] at q
    rw [show zc (zadd w f i H.size) (zR f i) = Value.ref H.size from (by show Value.ref ((zadd w f i H.size).1 f i) = _; rw [zadd_new])] at q
    exact q
  · unfold zAt
    rw [hf0, zadd_new]
    refine ⟨_, hcl, (u_born ty hts hin hKn hkC e1 hty).to (fun j hj => ?_)⟩
    rw [hdef j hj]
    unfold zgv
    match hm : sy.1.2.1 f j with
    | 0 => simp [(hz j).1]
    | 1 => simp [(hz j).2]
    | 2 => exact absurd hm (h2t j)
    | n + 3 => simp [(hz j).1]
theorem y_newa {f i n : Nat} {ty : FieldType} {x : Int32} {atype : ArrayType} (hf0 : sy.1.1 f = .inr (ty, n)) (h2t : ∀ k, sy.1.2.1 f k = 0 ∨ sy.1.2.1 f k = 1) (hat : newarray.typeOf atype = ty) (hdef : ∀ k, defaultValue ty = (match sy.1.2.1 f k with | 0 => Value.int 0 | _ => Value.long 0)) (hfit : ∀ k, fits ty (match sy.1.2.1 f k with | 0 => Value.int 0 | _ => Value.long 0) = true) (hnm : ∀ (U : State) (cA : ClassId), va_RA U cA ty → U.vm.findClass ("[" ++ ty.toString) = some cA) (hx0 : decide (¬ x < 0) = true) (hxn : x.toNatClampNeg = n) (hbytes : n * componentBytes ty ≤ 536870912) (hw : Cond.arrayClass ty ∈ zTB) (hroom : ∀ l p e R s m args below meth c Q w0, K = (w0, l, p, e, R, s, m, args, below, meth, c, Q) → cs + 1 ≤ R.cells ∧ ss + n ≤ R.slots) (hd : decode mt.2.1 pc = .ok (.newarray atype, 2))
    (k : ∀ w', zY sy mt K w' (dn ++ [(f, i)]) fr (cs + 1) (ss + n) (pc + 2) al (zR f i :: as) σ) : zY sy mt K w dn ((f, i) :: fr) cs ss pc al (zI x :: as) σ := by
  obtain ⟨w0, l, p, e, R, s, m, args, below, meth, c, Q⟩ := K
  intro F hSt hEn hI hFl hFr hE hA h1 h2 H locs ls hG hS hl
  obtain ⟨hx, hb, hml, hown, hts, hr, hlk, hnm⟩ := id F
  obtain ⟨r1, r2⟩ := hroom l p e R s m args below meth c Q w0 rfl
  obtain ⟨hn, hz⟩ := hFr.2 (f, i) List.mem_cons_self
  subst hat
  refine va_newaK hx hb (hts _ hw) rfl hd rfl (of_decide_eq_true hx0) hxn hbytes r1 r2 rfl fun H1 cA e1 z1 o1 hAr hNm => ?_
  have hcA : cA = w.2.2.2.1 f := Option.some.inj (hNm.symm.trans (hnm _ _ (hSt.2.1 f _ n hf0).2))
  have hx1 := zadd_ext (a := H.size) hn
  have h2t' : ∀ k, sy.1.2.1 f k ≠ 2 := fun k => by rcases h2t k with h | h <;> omega
  have q := k (zadd w f i H.size) F hSt hEn (zInj_add hG hI hn) (zFl_add h2t' hFl hz) (zFr_add hFr) (hE.trans hx1) (fun q hq => (zA_add hn hq).elim (hA q) (fun e => Or.inr (by rw [e]; exact hS.1))) (fun a ha => hx1.ok (h1 a ha)) (zp (Or.inl ⟨rfl, rfl⟩) (fun a ha => hx1.ok (zd h2 a ha))) H1 locs ls (zGW_add hG hFl hn o1 ?_) ⟨Nat.le_trans hS.1 (by omega), fun x g1 g2 => (o1 x (Nat.lt_of_lt_of_le g1 hS.1)).trans (hS.2.1 x g1 g2), hS.2.2⟩ (by rw [hx1.mapl h1]; exact hl)
  · rw [List.map_cons, hx1.map (zd h2)] at q
    rw [show zc (zadd w f i H.size) (zR f i) = Value.ref H.size from (by show Value.ref ((zadd w f i H.size).1 f i) = _; rw [zadd_new])] at q
    exact q
  · have hv : zgv sy.1 (zadd w f i H.size) σ f i = fun _ => defaultValue (newarray.typeOf atype) := by
      funext j
      rw [hdef j]
      unfold zgv
      rcases h2t j with h | h
      · rw [h]; simp [(hz j).1]
      · rw [h]; simp [(hz j).2]
    unfold zAt
    rw [hf0, zadd_new, hv]
    refine ⟨by rw [e1, hcA]; rfl, fun _ j => ?_⟩
    show fits _ (defaultValue (newarray.typeOf atype)) = true
    rw [hdef j]
    exact hfit j
theorem y_newq {f i n idx : Nat} {C : String} {x : Int32} (hf0 : sy.1.1 f = .inr (.object C, n)) (h2t : ∀ k, sy.1.2.1 f k = 3) (hx0 : decide (¬ x < 0) = true) (hxn : x.toNatClampNeg = n) (hbytes : n * 4 ≤ 536870912) (hw : Cond.classLink mt.1 idx C ∈ zTB) (hroom : ∀ l p e R s m args below meth c Q w0, K = (w0, l, p, e, R, s, m, args, below, meth, c, Q) → cs + 1 ≤ R.cells ∧ ss + n ≤ R.slots) (hd : decode mt.2.1 pc = .ok (.anewarray idx, 3))
    (k : ∀ w', zY sy mt K w' (dn ++ [(f, i)]) fr (cs + 1) (ss + n) (pc + 3) al (zR f i :: as) σ) : zY sy mt K w dn ((f, i) :: fr) cs ss pc al (zI x :: as) σ := by
  obtain ⟨w0, l, p, e, R, s, m, args, below, meth, c, Q⟩ := K
  intro F hSt hEn hI hFl hFr hE hA h1 h2 H locs ls hG hS hl
  obtain ⟨hx, hb, hml, hown, hts, hr, hlk, hnm⟩ := id F
  obtain ⟨r1, r2⟩ := hroom l p e R s m args below meth c Q w0 rfl
  obtain ⟨hn, hz⟩ := hFr.2 (f, i) List.mem_cons_self
  subst hxn
  refine W.anew hx hb hown (hts _ hw) (va_AO.use (hSt.2.2.2 f C _ hf0)) rfl hd rfl (of_decide_eq_true hx0) hbytes r1 r2 fun cA kA comp f1 f2 f3 f4 => ?_
  generalize hH1 : H.push ({ cls := cA, slots := Array.replicate x.toNatClampNeg .null, vm := .none } : Cell) = H1
  have z1 : H1.size = H.size + 1 := by rw [← hH1, Array.size_push]
  have e1 : H1[H.size]? = some (arrV cA x.toNatClampNeg (fun _ => .null)) := by rw [← hH1, Array.getElem?_push_size, ← arrV_new]
  have o1 : ∀ q : Nat, q < H.size → H1[q]? = H[q]? := fun q hq => by rw [← hH1, Array.getElem?_push, if_neg (Nat.ne_of_lt hq)]
  have hcA : cA = w.2.2.2.1 f := by
    obtain ⟨kA', comp', k1, k2, k3, k4⟩ := (hSt.2.1 f _ _ hf0).2
    exact Option.some.inj (f1.symm.trans k4)
  have hx1 := zadd_ext (a := H.size) hn
  have h2t' : ∀ k, sy.1.2.1 f k ≠ 2 := fun k => by rw [h2t k]; decide
  have q := k (zadd w f i H.size) F hSt hEn (zInj_add hG hI hn) (zFl_add h2t' hFl hz) (zFr_add hFr) (hE.trans hx1) (fun q hq => (zA_add hn hq).elim (hA q) (fun e => Or.inr (by rw [e]; exact hS.1))) (fun a ha => hx1.ok (h1 a ha)) (zp (Or.inl ⟨rfl, rfl⟩) (fun a ha => hx1.ok (zd h2 a ha))) H1 locs ls (zGW_add hG hFl hn o1 ?_) ⟨Nat.le_trans hS.1 (by omega), fun x g1 g2 => (o1 x (Nat.lt_of_lt_of_le g1 hS.1)).trans (hS.2.1 x g1 g2), hS.2.2⟩ (by rw [hx1.mapl h1]; exact hl)
  · rw [List.map_cons, hx1.map (zd h2)] at q
    rw [show zc (zadd w f i H.size) (zR f i) = Value.ref H.size from (by show Value.ref ((zadd w f i H.size).1 f i) = _; rw [zadd_new])] at q
    exact q
  · have hv : zgv sy.1 (zadd w f i H.size) σ f i = fun _ => Value.null := by
      funext j
      unfold zgv
      rw [h2t j]
      simp [(hz j).1]
    unfold zAt
    rw [hf0, zadd_new, hv]
    exact ⟨by rw [e1, hcA]; rfl, fun h => by cases h⟩
end ZYR
