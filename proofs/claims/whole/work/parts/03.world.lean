/-! THE WORLD BY FAMILIES: a cell is (family, index); its contents are two functions (ints, longs); references are laid out once and for all -/
abbrev zV : Type := Int32 ⊕ (Int64 ⊕ ((Nat × Option Nat) ⊕ (Nat ⊕ Nat)))
abbrev zI (x : Int32) : zV := Sum.inl x
abbrev zL (x : Int64) : zV := Sum.inr (Sum.inl x)
abbrev zQ (f : Nat) (o : Option Nat) : zV := Sum.inr (Sum.inr (Sum.inl (f, o)))
abbrev zR (f i : Nat) : zV := zQ f (some i)
abbrev zN (f : Nat) : zV := zQ f none
abbrev zS (k : Nat) : zV := Sum.inr (Sum.inr (Sum.inr (Sum.inl k)))
abbrev zB (k : Nat) : zV := Sum.inr (Sum.inr (Sum.inr (Sum.inr k)))
abbrev zG : Type := (Nat → Nat → Nat → Int32) × (Nat → Nat → Nat → Int64)
/-- a family's kind (the number of its class, or an array's type and length); a slot's tag (0 int, 1 long, 2 reference, 3 reference or null); where a reference leads -/
abbrev zLy : Type := (Nat → Nat ⊕ (FieldType × Nat)) × (Nat → Nat → Nat) × (Nat → Nat → Nat → Option (Nat × Nat))
/-- addresses of cells, addresses of String constants (object, bytes), classes and slots, the arrays' classes, which cells there are -/
abbrev zW : Type := (Nat → Nat → Nat) × ((Nat → Nat) × (Nat → Nat)) × va_G × (Nat → ClassId) × (Nat → Nat → Prop)
def zc (w : zW) : zV → Value
  | .inl x => .int x
  | .inr (.inl x) => .long x
  | .inr (.inr (.inl (f, some i))) => .ref (w.1 f i)
  | .inr (.inr (.inl (_, none))) => .null
  | .inr (.inr (.inr (.inl k))) => .ref (w.2.1.1 k)
  | .inr (.inr (.inr (.inr k))) => .ref (w.2.1.2 k)
def zrf (w : zW) (t : Option (Nat × Nat)) : Value := match t with
  | none => .null
  | some t => .ref (w.1 t.1 t.2)
def zgv (ly : zLy) (w : zW) (σ : zG) (f i k : Nat) : Value := match ly.2.1 f k with
  | 0 => .int (σ.1 f i k)
  | 1 => .long (σ.2 f i k)
  | 2 => zrf w (ly.2.2 f i k)
  | _ => if σ.1 f i k = 0 then .null else zrf w (ly.2.2 f i k)
def zAt (ly : zLy) (w : zW) (σ : zG) (H : Heap) (f i : Nat) : Prop := match ly.1 f with
  | .inl ci => ∃ r : vw_C, vwCl[ci]? = some r ∧ t_OB (w.1 f i) (w.2.2.1.1 ci) r.2.2 (w.2.2.1.2 ci) H (zgv ly w σ f i)
  | .inr (ty, n) => H[w.1 f i]? = some (arrV (w.2.2.2.1 f) n (zgv ly w σ f i)) ∧ (refKind ty = false → ∀ j, fits ty (zgv ly w σ f i j) = true)
def zGW (ly : zLy) (w : zW) (σ : zG) (H : Heap) : Prop := ∀ f i, w.2.2.2.2 f i → zAt ly w σ H f i
def zA (w : zW) (q : Nat) : Prop := ∃ f i, w.2.2.2.2 f i ∧ w.1 f i = q
/-- a value's cell is there -/
def zok (w : zW) : zV → Prop
  | .inr (.inr (.inl (f, some i))) => w.2.2.2.2 f i
  | _ => True
def zTB : List Cond := lw_tbl.filter goodWord
theorem zTB_at {c : Cond} (i : Nat) (h : lw_tbl[i]? = some c) (g : goodWord c = true) : c ∈ zTB := List.mem_filter.mpr ⟨List.mem_of_getElem? h, g⟩
theorem zTB_good : ∀ c ∈ zTB, goodWord c = true := fun _ h => (List.mem_filter.mp h).2
/-- an instance call's four words: link, instance method, selection, the class is initialized; a static one's: link, static, initialized -/
def zrm (k : Nat) : Room := { frames := k, cells := 0, slots := 0, locals := 64 * k }
abbrev zMT : Type := String × ByteArray × Nat × Nat × Option FieldType
/-- what is said of the tables at a state: classes, arrays' classes, links to nest mates, String constants -/
def zNestOk (U : State) (q : String × Nat × MethodName × String) : Prop := va_Nw (.methodLinkNest q.1 q.2.1 q.2.2.1 q.2.2.2) U
def zKF (ly : zLy) (w : zW) (nests : List (String × Nat × MethodName × String)) (U : State) : Prop :=
  (∀ (c : Nat) (q : vw_C), vwCl[c]? = some q → u_Kn U q.1 q.2.1 q.2.2 (w.2.2.1.1 c) (w.2.2.1.2 c)) ∧
  (∀ f i ty n, ly.1 f = .inr (ty, n) → w.2.2.2.2 f i → ArrOfT U (w.2.2.2.1 f) ty ∧ va_RA U (w.2.2.2.1 f) ty) ∧
  (∀ q ∈ nests, zNestOk U q)
/-- what holds of the addresses: apart, closed under references -/
def zWF (ly : zLy) (w : zW) : Prop :=
  (∀ f i g j, w.2.2.2.2 f i → w.2.2.2.2 g j → w.1 f i = w.1 g j → f = g ∧ i = j) ∧
  (∀ f i k t, w.2.2.2.2 f i → ly.2.1 f k = 2 → ly.2.2 f i k = some t → w.2.2.2.2 t.1 t.2)
theorem zKF.warm {ly : zLy} {w : zW} {ns : List (String × Nat × MethodName × String)} {s U : State} (hW : s.WarmedH U.vm) (h : zKF ly w ns s) : zKF ly w ns U :=
  ⟨fun c q hq => u_Kn_moved hW.alike (h.1 c q hq), fun f i ty n h1 h2 => ⟨arrOfT_moved hW.alike (h.2.1 f i ty n h1 h2).1, (h.2.1 f i ty n h1 h2).2.moved hW.alike⟩, fun q hq => va_Nw.warmM hW (h.2.2 q hq)⟩
theorem zKF.same {ly : zLy} {w : zW} {ns : List (String × Nat × MethodName × String)} {s U : State} (hv : s.vm = U.vm) (h : zKF ly w ns s) : zKF ly w ns U :=
  ⟨fun c q hq => u_Kn_moved (by rw [hv]; exact Vm.Alike.refl _) (h.1 c q hq), fun f i ty n h1 h2 => ⟨arrOfT_moved (by rw [hv]; exact Vm.Alike.refl _) (h.2.1 f i ty n h1 h2).1, (h.2.1 f i ty n h1 h2).2.moved (by rw [hv]; exact Vm.Alike.refl _)⟩, fun q hq => va_Nw.same rfl hv (h.2.2 q hq)⟩
/-- String constants: the object's class, its coder, its bytes -/
def zStr (w : zW) (strs : List (List Int32)) (U : State) (H : Heap) : Prop :=
  ∀ (i : Nat) (b : List Int32), strs[i]? = some b → va_O "java/lang/String" (w.2.1.1 i) (zA w) U H ∧ va_OF "java/lang/String" "coder" "B" (.int 0) (w.2.1.1 i) (zA w) U H ∧ va_OF "java/lang/String" "value" "[B" (.ref (w.2.1.2 i)) (w.2.1.1 i) (zA w) U H ∧ va_T .byte (w.2.1.2 i) b.length (fun j => .int (b.getD j 0)) (zA w) U H
def zLdc (w : zW) (ld : List (String × Nat × String × Nat)) (U : State) : Prop := ∀ q ∈ ld, vk_R q.1 q.2.1 q.2.2.1 (w.2.1.1 q.2.2.2) U
def zCmp (A : Nat → Prop) (U : State) (H : Heap) : Prop := va_Z "java/lang/String" "COMPACT_STRINGS" "Z" (.int 1) A U H
/-- the formatter that nobody calls: null, or one reference -/
def zSio (w : zW) (U : State) (H : Heap) : Prop := va_Z "jdk/internal/util/Preconditions" "SIOOBE_FORMATTER" "Ljava/util/function/BiFunction;" .null (zA w) U H ∨ va_Z "jdk/internal/util/Preconditions" "SIOOBE_FORMATTER" "Ljava/util/function/BiFunction;" (.ref (w.2.1.2 999)) (zA w) U H
/-- a system: its layout, its links to nest mates, its String constants and where they are loaded -/
abbrev zSy : Type := zLy × List (String × Nat × MethodName × String) × List (List Int32) × List (String × Nat × String × Nat)
/-- all that is said at a state -/
def zAll (sy : zSy) (w : zW) (U : State) : Prop := zKF sy.1 w sy.2.1 U ∧ zWF sy.1 w ∧ zStr w sy.2.2.1 U U.heap ∧ zLdc w sy.2.2.2 U ∧ zCmp (zA w) U U.heap ∧ zSio w U U.heap
theorem zAll.warm {sy : zSy} {w : zW} {s U : State} (hW : s.WarmedH U.vm) (h : zAll sy w s) (hz : ∀ q : Nat, q < s.heap.size → ¬ zA w q → U.heap[q]? = s.heap[q]?) : zAll sy w U := by
  obtain ⟨h1, h2, h3, h4, h5, h6⟩ := h
  refine ⟨h1.warm hW, h2, fun i b hb => ?_, fun q hq => (h4 q hq).warm hW, ?_, ?_⟩
  · obtain ⟨a1, a2, a3, a4⟩ := h3 i b hb
    exact ⟨(va_O.moved hW.alike a1).kept hz, (va_OF.moved hW.alike a2).kept hz, (va_OF.moved hW.alike a3).kept hz, (va_T.moved hW.alike a4).kept hz⟩
  · exact (va_Z.moved hW.alike h5).kept hz
  · rcases h6 with h | h
    · exact Or.inl ((va_Z.moved hW.alike h).kept hz)
    · exact Or.inr ((va_Z.moved hW.alike h).kept hz)
theorem zAll.same {sy : zSy} {w : zW} {s U : State} (hv : s.vm = U.vm) (hh : s.heap = U.heap) (h : zAll sy w s) : zAll sy w U := by
  obtain ⟨h1, h2, h3, h4, h5, h6⟩ := h
  have ha : s.vm.Alike U.vm := by rw [hv]; exact Vm.Alike.refl _
  refine ⟨h1.same hv, h2, fun i b hb => ?_, fun q hq => (h4 q hq).same hv.symm, ?_, ?_⟩
  · obtain ⟨a1, a2, a3, a4⟩ := h3 i b hb
    rw [← hh]
    exact ⟨va_O.moved ha a1, va_OF.moved ha a2, va_OF.moved ha a3, va_T.moved ha a4⟩
  · rw [← hh]
    exact va_Z.moved ha h5
  · rw [← hh]
    rcases h6 with h | h
    · exact Or.inl (va_Z.moved ha h)
    · exact Or.inr (va_Z.moved ha h)
/-- a method's contract: from the values av and the state σ it answers v and leaves the state σ' -/
def zMet (l : Launch) (sy : zSy) (mt : zMT) (y : MethodName) (av : List zV) (σ : zG) (v : Option zV) (σ' : zG) : Prop :=
  ∀ w : zW, (∀ a ∈ av, zok w a) → Met l y (.code y mt.2.1 mt.2.2.1 mt.2.2.2.2 :: zTB) (zrm mt.2.2.2.1) (va_Pc (av.map (zc w)) (fun U => zGW sy.1 w σ U.heap ∧ zAll sy w U))
    (fun _ st oc t => (oc = .returned (v.map (zc w)) ∧ zGW sy.1 w σ' t.heap ∧ ∀ a, v = some a → zok w a) ∧ va_F (zA w) st t) 0 0 (zA w)
abbrev zK : Type := zW × Launch × Program × Env × State × MethodId × Array Value × List Frame × Method × Code × Option zV × zG
def zFX (sy : zSy) (mt : zMT) (K : zK) : Prop := match K with
  | (w, _, p, _, s, m, args, _, meth, c, _, _) => p.tables.exec = Jvm.exec ∧ c.code = mt.2.1 ∧ c.maxLocals = mt.2.2.1 ∧ s.vm.findClass mt.1 = some m.cls ∧ (∀ q ∈ zTB, q.before args s = true) ∧ meth.sig.returnType = mt.2.2.2.2 ∧ meth.locks = false ∧ zAll sy w s
/-- THE JUDGEMENT: from this frame and this state the method comes to its end, as the contract says -/
def zX (sy : zSy) (mt : zMT) (K : zK) (pc : Nat) (al : List (Nat × zV)) (as : List zV) (σ : zG) : Prop := zFX sy mt K → match K with
  | (w, l, p, e, s, m, args, below, meth, c, v, σ') => (∀ q ∈ al, zok w q.2) → (∀ a ∈ as, zok w a) → ∀ (H : Heap) (locs : List Loc) (ls : Array Slot), zGW sy.1 w σ H → va_S (zA w) s.heap H locs → lv_has ls mt.2.2.1 (al.map fun q => (q.1, zc w q.2)) →
    W p l e (zrm mt.2.2.2.1) s m args below meth c H locs 0 0 (MQ below (fun _ st oc t => (oc = .returned (v.map (zc w)) ∧ zGW sy.1 w σ' t.heap ∧ ∀ a, v = some a → zok w a) ∧ va_F (zA w) st t) args s 0 0 (zA w)) (F0 m pc ls (as.map (zc w)))
