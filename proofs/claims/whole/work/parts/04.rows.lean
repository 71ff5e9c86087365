/-! ROWS: one instruction each, over zX -/
def zg {τ : Type} (b : Bool) (A : Option τ) : Option τ := match b with
  | true => A
  | false => none
def zb {α τ : Type} (v : α) (k : α → τ) : τ := k v
def zin (x : Int32) (n : Nat) : Bool := decide (¬ x < 0) && decide (x.toNatClampNeg < n)
def zbl (x : Int32) : Bool := x == 0 || x == 1
def zrem (x y : Int32) : Int32 := x - x / y * y
def zshl (x y : Int32) : Int32 := x <<< (y &&& 31)
def zshr (x y : Int32) : Int32 := x >>> (y &&& 31)
def zushr (x y : Int32) : Int32 := (x.toUInt32 >>> (y.toUInt32 &&& Int32.toUInt32 31)).toInt32
def zlushr (x : Int64) (y : Int32) : Int64 := (x.toUInt64 >>> (y.toInt64.toUInt64 &&& Int64.toUInt64 63)).toInt64
def zlshl (x : Int64) (y : Int32) : Int64 := x <<< (y.toInt64 &&& 63)
def zlshr (x : Int64) (y : Int32) : Int64 := x >>> (y.toInt64 &&& 63)
def zi2b (x : Int32) : Int32 := x.toInt8.toInt32
def zi2c (x : Int32) : Int32 := (x.toUInt32 % 65536).toInt32
def zwI (σ : zG) (f i k : Nat) (x : Int32) : zG := (fun f' i' k' => if f' = f ∧ i' = i ∧ k' = k then x else σ.1 f' i' k', σ.2)
def zwL (σ : zG) (f i k : Nat) (x : Int64) : zG := (σ.1, fun f' i' k' => if f' = f ∧ i' = i ∧ k' = k then x else σ.2 f' i' k')
theorem zg_t {τ : Type} {b : Bool} {A res : Option τ} (hn : res ≠ none) (hf : res = zg b A) : b = true ∧ res = A := by
  cases b with
  | true => exact ⟨rfl, hf⟩
  | false => exact absurd hf hn
theorem zin_in {x : Int32} {n : Nat} (h : zin x n = true) : vp_in x n := by
  simp only [zin, Bool.and_eq_true, decide_eq_true_eq] at h
  rintro (q | q)
  · exact h.1 q
  · omega
theorem zp {w : zW} {x : zV} {as : List zV} (hx : zok w x) (h : ∀ a ∈ as, zok w a) : ∀ a ∈ x :: as, zok w a := List.forall_mem_cons.mpr ⟨hx, h⟩
theorem zd {w : zW} {x : zV} {as : List zV} (h : ∀ a ∈ x :: as, zok w a) : ∀ a ∈ as, zok w a := (List.forall_mem_cons.mp h).2
theorem zh {w : zW} {x : zV} {as : List zV} (h : ∀ a ∈ x :: as, zok w a) : zok w x := (List.forall_mem_cons.mp h).1
def zcat : zV → Nat
  | .inr (.inl _) => 2
  | _ => 1
theorem zc_cat (w : zW) : ∀ v : zV, (zc w v).category = zcat v
  | .inl _ => rfl
  | .inr (.inl _) => rfl
  | .inr (.inr (.inl (_, some _))) => rfl
  | .inr (.inr (.inl (_, none))) => rfl
  | .inr (.inr (.inr (.inl _))) => rfl
  | .inr (.inr (.inr (.inr _))) => rfl
/-- locals -/
def zst1 (al : List (Nat × zV)) (i : Nat) (v : zV) : List (Nat × zV) := (i, v) :: al.filter (fun q => !(q.1 == i) && !(q.1 + 1 == i && zcat q.2 == 2))
def zst2 (al : List (Nat × zV)) (i : Nat) (v : zV) : List (Nat × zV) := (i, v) :: al.filter (fun q => !(q.1 == i) && (!(q.1 == i + 1) && !(q.1 + 1 == i && zcat q.2 == 2)))
theorem zst1_map (w : zW) (al : List (Nat × zV)) (i : Nat) (v : zV) : (i, zc w v) :: (al.map fun q => (q.1, zc w q.2)).filter (fun q => !(q.1 == i) && !(q.1 + 1 == i && q.2.category == 2)) = (zst1 al i v).map fun q => (q.1, zc w q.2) := by
  simp only [zst1, List.map_cons, List.filter_map, Function.comp_def, zc_cat]
theorem zst2_map (w : zW) (al : List (Nat × zV)) (i : Nat) (v : zV) : (i, zc w v) :: (al.map fun q => (q.1, zc w q.2)).filter (fun q => !(q.1 == i) && (!(q.1 == i + 1) && !(q.1 + 1 == i && q.2.category == 2))) = (zst2 al i v).map fun q => (q.1, zc w q.2) := by
  simp only [zst2, List.map_cons, List.filter_map, Function.comp_def, zc_cat]
theorem zst1_ok {w : zW} {al : List (Nat × zV)} {i : Nat} {v : zV} (h : ∀ q ∈ al, zok w q.2) (hv : zok w v) : ∀ q ∈ zst1 al i v, zok w q.2 := List.forall_mem_cons.mpr ⟨hv, fun q hq => h q (List.mem_filter.mp hq).1⟩
theorem zst2_ok {w : zW} {al : List (Nat × zV)} {i : Nat} {v : zV} (h : ∀ q ∈ al, zok w q.2) (hv : zok w v) : ∀ q ∈ zst2 al i v, zok w q.2 := List.forall_mem_cons.mpr ⟨hv, fun q hq => h q (List.mem_filter.mp hq).1⟩
theorem zlv {w : zW} {ls : Array Slot} {nL : Nat} {al : List (Nat × zV)} (h : lv_has ls nL (al.map fun q => (q.1, zc w q.2))) (k : Nat) {i : Nat} {v : zV} (hk : al[k]? = some (i, v)) : ls[i]? = some (.val (zc w v)) := lv_at h k (by rw [List.getElem?_map, hk]; rfl)
theorem zmem {al : List (Nat × zV)} {k i : Nat} {v : zV} {w : zW} (h : ∀ q ∈ al, zok w q.2) (hk : al[k]? = some (i, v)) : zok w v := h (i, v) (List.mem_of_getElem? hk)
section ZR
variable {sy : zSy} {mt : zMT} {K : zK} {pc : Nat} {al al' : List (Nat × zV)} {as : List zV} {σ : zG}
theorem z_iconst {n : Int} {v : Int32} (hd : decode mt.2.1 pc = .ok (.iconst n, 1)) (hv : Int32.ofInt n = v) (k : zX sy mt K (pc + 1) al (zI v :: as) σ) : zX sy mt K pc al as σ := by
  obtain ⟨w, l, p, e, s, m, args, below, meth, c, v, σ'⟩ := K
  intro F h1 h2 H locs ls hG hS hl
  obtain ⟨hx, hb, hml, hown, hts, hr, hlk, hAll⟩ := id F
  exact lv_iconst hx hb hd hv (k F h1 (zp trivial h2) H locs ls hG hS hl)
theorem z_bipush {n : Int} {v : Int32} (hd : decode mt.2.1 pc = .ok (.bipush n, 2)) (hv : (Int8.ofInt n).toInt32 = v) (k : zX sy mt K (pc + 2) al (zI v :: as) σ) : zX sy mt K pc al as σ := by
  obtain ⟨w, l, p, e, s, m, args, below, meth, c, v, σ'⟩ := K
  intro F h1 h2 H locs ls hG hS hl
  obtain ⟨hx, hb, hml, hown, hts, hr, hlk, hAll⟩ := id F
  exact lv_bipush hx hb hd hv (k F h1 (zp trivial h2) H locs ls hG hS hl)
theorem z_sipush {n : Int} {v : Int32} (hd : decode mt.2.1 pc = .ok (.sipush n, 3)) (hv : (Int16.ofInt n).toInt32 = v) (k : zX sy mt K (pc + 3) al (zI v :: as) σ) : zX sy mt K pc al as σ := by
  obtain ⟨w, l, p, e, s, m, args, below, meth, c, v, σ'⟩ := K
  intro F h1 h2 H locs ls hG hS hl
  obtain ⟨hx, hb, hml, hown, hts, hr, hlk, hAll⟩ := id F
  exact lv_sipush hx hb hd hv (k F h1 (zp trivial h2) H locs ls hG hS hl)
theorem z_lconst {n : Fin 2} {v : Int64} (hd : decode mt.2.1 pc = .ok (.lconst n, 1)) (hv : Int64.ofNat (n : Nat) = v) (k : zX sy mt K (pc + 1) al (zL v :: as) σ) : zX sy mt K pc al as σ := by
  obtain ⟨w, l, p, e, s, m, args, below, meth, c, v, σ'⟩ := K
  intro F h1 h2 H locs ls hG hS hl
  obtain ⟨hx, hb, hml, hown, hts, hr, hlk, hAll⟩ := id F
  exact lv_lconst hx hb hd hv (k F h1 (zp trivial h2) H locs ls hG hS hl)
theorem z_null (f : Nat) (hd : decode mt.2.1 pc = .ok (.aconst_null, 1)) (k : zX sy mt K (pc + 1) al (zN f :: as) σ) : zX sy mt K pc al as σ := by
  obtain ⟨w, l, p, e, s, m, args, below, meth, c, v, σ'⟩ := K
  intro F h1 h2 H locs ls hG hS hl
  obtain ⟨hx, hb, hml, hown, hts, hr, hlk, hAll⟩ := id F
  exact lv_null hx hb hd (k F h1 (zp trivial h2) H locs ls hG hS hl)
theorem z_ldc {i : Nat} {v : Int32} (hw : Cond.constant mt.1 i v ∈ zTB) (hd : decode mt.2.1 pc = .ok (.ldc i, 2)) (k : zX sy mt K (pc + 2) al (zI v :: as) σ) : zX sy mt K pc al as σ := by
  obtain ⟨w, l, p, e, s, m, args, below, meth, c, v, σ'⟩ := K
  intro F h1 h2 H locs ls hG hS hl
  obtain ⟨hx, hb, hml, hown, hts, hr, hlk, hAll⟩ := id F
  exact lv_ldc hx hb hown (hts _ hw) hd (k F h1 (zp trivial h2) H locs ls hG hS hl)
theorem z_ldcw {i : Nat} {v : Int32} (hw : Cond.constant mt.1 i v ∈ zTB) (hd : decode mt.2.1 pc = .ok (.ldc_w i, 3)) (k : zX sy mt K (pc + 3) al (zI v :: as) σ) : zX sy mt K pc al as σ := by
  obtain ⟨w, l, p, e, s, m, args, below, meth, c, v, σ'⟩ := K
  intro F h1 h2 H locs ls hG hS hl
  obtain ⟨hx, hb, hml, hown, hts, hr, hlk, hAll⟩ := id F
  exact lv_ldcw hx hb hown (hts _ hw) hd (k F h1 (zp trivial h2) H locs ls hG hS hl)
theorem z_ldc2 {i : Nat} {v : Int64} (hw : Cond.constantLong mt.1 i v ∈ zTB) (hd : decode mt.2.1 pc = .ok (.ldc2_w i, 3)) (k : zX sy mt K (pc + 3) al (zL v :: as) σ) : zX sy mt K pc al as σ := by
  obtain ⟨w, l, p, e, s, m, args, below, meth, c, v, σ'⟩ := K
  intro F h1 h2 H locs ls hG hS hl
  obtain ⟨hx, hb, hml, hown, hts, hr, hlk, hAll⟩ := id F
  exact lv_ldc2 hx hb hown (hts _ hw) hd (k F h1 (zp trivial h2) H locs ls hG hS hl)
theorem z_ldcS {i j : Nat} {tx : String} (hw : (mt.1, i, tx, j) ∈ sy.2.2.2) (hd : decode mt.2.1 pc = .ok (.ldc i, 2)) (k : zX sy mt K (pc + 2) al (zS j :: as) σ) : zX sy mt K pc al as σ := by
  obtain ⟨w, l, p, e, s, m, args, below, meth, c, v, σ'⟩ := K
  intro F h1 h2 H locs ls hG hS hl
  obtain ⟨hx, hb, hml, hown, hts, hr, hlk, hAll⟩ := id F
  exact va_ldcS hx hb hown (hAll.2.2.2.1 _ hw) hd (k F h1 (zp trivial h2) H locs ls hG hS hl)
theorem z_iload_n (j : Nat) {k0 : Fin 4} {i : Nat} {x : Int32} (hd : decode mt.2.1 pc = .ok (.iload_n k0, 1)) (hi : (k0 : Nat) = i) (hj : al[j]? = some (i, zI x)) (k : zX sy mt K (pc + 1) al (zI x :: as) σ) : zX sy mt K pc al as σ := by
  obtain ⟨w, l, p, e, s, m, args, below, meth, c, v, σ'⟩ := K
  intro F h1 h2 H locs ls hG hS hl
  obtain ⟨hx, hb, hml, hown, hts, hr, hlk, hAll⟩ := id F
  exact lv_iload_n hx hb hd hi (zlv hl j hj) (k F h1 (zp trivial h2) H locs ls hG hS hl)
theorem z_iload (j : Nat) {i : Nat} {x : Int32} (hd : decode mt.2.1 pc = .ok (.iload i, 2)) (hj : al[j]? = some (i, zI x)) (k : zX sy mt K (pc + 2) al (zI x :: as) σ) : zX sy mt K pc al as σ := by
  obtain ⟨w, l, p, e, s, m, args, below, meth, c, v, σ'⟩ := K
  intro F h1 h2 H locs ls hG hS hl
  obtain ⟨hx, hb, hml, hown, hts, hr, hlk, hAll⟩ := id F
  exact lv_iload hx hb hd (zlv hl j hj) (k F h1 (zp trivial h2) H locs ls hG hS hl)
theorem z_lload_n (j : Nat) {k0 : Fin 4} {i : Nat} {x : Int64} (hd : decode mt.2.1 pc = .ok (.lload_n k0, 1)) (hi : (k0 : Nat) = i) (hj : al[j]? = some (i, zL x)) (k : zX sy mt K (pc + 1) al (zL x :: as) σ) : zX sy mt K pc al as σ := by
  obtain ⟨w, l, p, e, s, m, args, below, meth, c, v, σ'⟩ := K
  intro F h1 h2 H locs ls hG hS hl
  obtain ⟨hx, hb, hml, hown, hts, hr, hlk, hAll⟩ := id F
  exact lv_lload_n hx hb hd hi (zlv hl j hj) (k F h1 (zp trivial h2) H locs ls hG hS hl)
theorem z_lload (j : Nat) {i : Nat} {x : Int64} (hd : decode mt.2.1 pc = .ok (.lload i, 2)) (hj : al[j]? = some (i, zL x)) (k : zX sy mt K (pc + 2) al (zL x :: as) σ) : zX sy mt K pc al as σ := by
  obtain ⟨w, l, p, e, s, m, args, below, meth, c, v, σ'⟩ := K
  intro F h1 h2 H locs ls hG hS hl
  obtain ⟨hx, hb, hml, hown, hts, hr, hlk, hAll⟩ := id F
  exact lv_lload hx hb hd (zlv hl j hj) (k F h1 (zp trivial h2) H locs ls hG hS hl)
theorem z_aload_n (j : Nat) {k0 : Fin 4} {i f : Nat} {o : Option Nat} (hd : decode mt.2.1 pc = .ok (.aload_n k0, 1)) (hi : (k0 : Nat) = i) (hj : al[j]? = some (i, zQ f o)) (k : zX sy mt K (pc + 1) al (zQ f o :: as) σ) : zX sy mt K pc al as σ := by
  obtain ⟨w, l, p, e, s, m, args, below, meth, c, v, σ'⟩ := K
  intro F h1 h2 H locs ls hG hS hl
  obtain ⟨hx, hb, hml, hown, hts, hr, hlk, hAll⟩ := id F
  have k := k F h1 (zp (zmem h1 hj) h2) H locs ls hG hS hl
  cases o with
  | none => exact lv_aload_nN hx hb hd hi (zlv hl j hj) k
  | some x => exact lv_aload_n hx hb hd hi (zlv hl j hj) k
theorem z_aload (j : Nat) {i f : Nat} {o : Option Nat} (hd : decode mt.2.1 pc = .ok (.aload i, 2)) (hj : al[j]? = some (i, zQ f o)) (k : zX sy mt K (pc + 2) al (zQ f o :: as) σ) : zX sy mt K pc al as σ := by
  obtain ⟨w, l, p, e, s, m, args, below, meth, c, v, σ'⟩ := K
  intro F h1 h2 H locs ls hG hS hl
  obtain ⟨hx, hb, hml, hown, hts, hr, hlk, hAll⟩ := id F
  have k := k F h1 (zp (zmem h1 hj) h2) H locs ls hG hS hl
  cases o with
  | none => exact lv_aloadN hx hb hd (zlv hl j hj) k
  | some x => exact lv_aload hx hb hd (zlv hl j hj) k
theorem z_sload_n (j : Nat) {k0 : Fin 4} {i x : Nat} (hd : decode mt.2.1 pc = .ok (.aload_n k0, 1)) (hi : (k0 : Nat) = i) (hj : al[j]? = some (i, zS x)) (k : zX sy mt K (pc + 1) al (zS x :: as) σ) : zX sy mt K pc al as σ := by
  obtain ⟨w, l, p, e, s, m, args, below, meth, c, v, σ'⟩ := K
  intro F h1 h2 H locs ls hG hS hl
  obtain ⟨hx, hb, hml, hown, hts, hr, hlk, hAll⟩ := id F
  exact lv_aload_n hx hb hd hi (zlv hl j hj) (k F h1 (zp trivial h2) H locs ls hG hS hl)
theorem z_istore_n {k0 : Fin 4} {i : Nat} {x : Int32} (hd : decode mt.2.1 pc = .ok (.istore_n k0, 1)) (hi : (k0 : Nat) = i) (hn : i < mt.2.2.1) (ha : zst1 al i (zI x) = al') (k : zX sy mt K (pc + 1) al' as σ) : zX sy mt K pc al (zI x :: as) σ := by
  subst ha
  obtain ⟨w, l, p, e, s, m, args, below, meth, c, v, σ'⟩ := K
  intro F h1 h2 H locs ls hG hS hl
  obtain ⟨hx, hb, hml, hown, hts, hr, hlk, hAll⟩ := id F
  exact lv_istore_n hx hb hd hi hl hn (zst1_map w al i (zI x)) (fun ls' hl' => k F (zst1_ok h1 trivial) (zd h2) H locs ls' hG hS hl')
theorem z_istore {i : Nat} {x : Int32} (hd : decode mt.2.1 pc = .ok (.istore i, 2)) (hn : i < mt.2.2.1) (ha : zst1 al i (zI x) = al') (k : zX sy mt K (pc + 2) al' as σ) : zX sy mt K pc al (zI x :: as) σ := by
  subst ha
  obtain ⟨w, l, p, e, s, m, args, below, meth, c, v, σ'⟩ := K
  intro F h1 h2 H locs ls hG hS hl
  obtain ⟨hx, hb, hml, hown, hts, hr, hlk, hAll⟩ := id F
  exact lv_istore hx hb hd hl hn (zst1_map w al i (zI x)) (fun ls' hl' => k F (zst1_ok h1 trivial) (zd h2) H locs ls' hG hS hl')
theorem z_lstore_n {k0 : Fin 4} {i : Nat} {x : Int64} (hd : decode mt.2.1 pc = .ok (.lstore_n k0, 1)) (hi : (k0 : Nat) = i) (hn : i + 1 < mt.2.2.1) (ha : zst2 al i (zL x) = al') (k : zX sy mt K (pc + 1) al' as σ) : zX sy mt K pc al (zL x :: as) σ := by
  subst ha
  obtain ⟨w, l, p, e, s, m, args, below, meth, c, v, σ'⟩ := K
  intro F h1 h2 H locs ls hG hS hl
  obtain ⟨hx, hb, hml, hown, hts, hr, hlk, hAll⟩ := id F
  exact lv_lstore_n hx hb hd hi hl hn (zst2_map w al i (zL x)) (fun ls' hl' => k F (zst2_ok h1 trivial) (zd h2) H locs ls' hG hS hl')
theorem z_lstore {i : Nat} {x : Int64} (hd : decode mt.2.1 pc = .ok (.lstore i, 2)) (hn : i + 1 < mt.2.2.1) (ha : zst2 al i (zL x) = al') (k : zX sy mt K (pc + 2) al' as σ) : zX sy mt K pc al (zL x :: as) σ := by
  subst ha
  obtain ⟨w, l, p, e, s, m, args, below, meth, c, v, σ'⟩ := K
  intro F h1 h2 H locs ls hG hS hl
  obtain ⟨hx, hb, hml, hown, hts, hr, hlk, hAll⟩ := id F
  exact lv_lstore hx hb hd hl hn (zst2_map w al i (zL x)) (fun ls' hl' => k F (zst2_ok h1 trivial) (zd h2) H locs ls' hG hS hl')
theorem z_astore_n {k0 : Fin 4} {i f : Nat} {o : Option Nat} (hd : decode mt.2.1 pc = .ok (.astore_n k0, 1)) (hi : (k0 : Nat) = i) (hn : i < mt.2.2.1) (ha : zst1 al i (zQ f o) = al') (k : zX sy mt K (pc + 1) al' as σ) : zX sy mt K pc al (zQ f o :: as) σ := by
  subst ha
  obtain ⟨w, l, p, e, s, m, args, below, meth, c, v, σ'⟩ := K
  intro F h1 h2 H locs ls hG hS hl
  obtain ⟨hx, hb, hml, hown, hts, hr, hlk, hAll⟩ := id F
  have k := fun ls' hl' => k F (zst1_ok h1 (zh h2)) (zd h2) H locs ls' hG hS hl'
  cases o with
  | none => exact lv_astore_nN hx hb hd hi hl hn (zst1_map w al i (zN f)) k
  | some x => exact lv_astore_n hx hb hd hi hl hn (zst1_map w al i (zR f x)) k
theorem z_astore {i f : Nat} {o : Option Nat} (hd : decode mt.2.1 pc = .ok (.astore i, 2)) (hn : i < mt.2.2.1) (ha : zst1 al i (zQ f o) = al') (k : zX sy mt K (pc + 2) al' as σ) : zX sy mt K pc al (zQ f o :: as) σ := by
  subst ha
  obtain ⟨w, l, p, e, s, m, args, below, meth, c, v, σ'⟩ := K
  intro F h1 h2 H locs ls hG hS hl
  obtain ⟨hx, hb, hml, hown, hts, hr, hlk, hAll⟩ := id F
  have k := fun ls' hl' => k F (zst1_ok h1 (zh h2)) (zd h2) H locs ls' hG hS hl'
  cases o with
  | none => exact lv_astoreN hx hb hd hl hn (zst1_map w al i (zN f)) k
  | some x => exact lv_astore hx hb hd hl hn (zst1_map w al i (zR f x)) k
theorem z_iinc (j : Nat) {i : Nat} {n : Int} {x v0 : Int32} (hd : decode mt.2.1 pc = .ok (.iinc i n, 3)) (hj : al[j]? = some (i, zI x)) (hv : x + Int32.ofInt n = v0) (hn : i < mt.2.2.1) (ha : zst1 al i (zI v0) = al') (k : zX sy mt K (pc + 3) al' as σ) : zX sy mt K pc al as σ := by
  subst ha
  obtain ⟨w, l, p, e, s, m, args, below, meth, c, v, σ'⟩ := K
  intro F h1 h2 H locs ls hG hS hl
  obtain ⟨hx, hb, hml, hown, hts, hr, hlk, hAll⟩ := id F
  exact lv_iinc hx hb hd hl (k := j) (by rw [List.getElem?_map, hj]; rfl) hv hn (zst1_map w al i (zI v0)) (fun ls' hl' => k F (zst1_ok h1 trivial) h2 H locs ls' hG hS hl')
theorem z_sub (ks : List Nat) (ha : ks.filterMap (fun k => al[k]?) = al') (k : zX sy mt K pc al' as σ) : zX sy mt K pc al as σ := by
  subst ha
  obtain ⟨w, l, p, e, s, m, args, below, meth, c, v, σ'⟩ := K
  intro F h1 h2 H locs ls hG hS hl
  obtain ⟨hx, hb, hml, hown, hts, hr, hlk, hAll⟩ := id F
  refine k F (fun q hq => ?_) h2 H locs ls hG hS (lv_sub hl ks ?_)
  · obtain ⟨j, -, hj⟩ := List.mem_filterMap.mp hq
    exact h1 q (List.mem_of_getElem? hj)
  · simp only [lv_pick, List.map_filterMap, List.getElem?_map]
theorem z_iadd {a b : Int32} (hd : decode mt.2.1 pc = .ok (.iadd, 1)) (k : zX sy mt K (pc + 1) al (zI (a + b) :: as) σ) : zX sy mt K pc al (zI b :: zI a :: as) σ := by
  obtain ⟨w, l, p, e, s, m, args, below, meth, c, v, σ'⟩ := K
  intro F h1 h2 H locs ls hG hS hl
  obtain ⟨hx, hb, hml, hown, hts, hr, hlk, hAll⟩ := id F
  exact lv_iadd hx hb hd (k F h1 (zp trivial (zd (zd h2))) H locs ls hG hS hl)
theorem z_isub {a b : Int32} (hd : decode mt.2.1 pc = .ok (.isub, 1)) (k : zX sy mt K (pc + 1) al (zI (a - b) :: as) σ) : zX sy mt K pc al (zI b :: zI a :: as) σ := by
  obtain ⟨w, l, p, e, s, m, args, below, meth, c, v, σ'⟩ := K
  intro F h1 h2 H locs ls hG hS hl
  obtain ⟨hx, hb, hml, hown, hts, hr, hlk, hAll⟩ := id F
  exact lv_isub hx hb hd (k F h1 (zp trivial (zd (zd h2))) H locs ls hG hS hl)
theorem z_imul {a b : Int32} (hd : decode mt.2.1 pc = .ok (.imul, 1)) (k : zX sy mt K (pc + 1) al (zI (a * b) :: as) σ) : zX sy mt K pc al (zI b :: zI a :: as) σ := by
  obtain ⟨w, l, p, e, s, m, args, below, meth, c, v, σ'⟩ := K
  intro F h1 h2 H locs ls hG hS hl
  obtain ⟨hx, hb, hml, hown, hts, hr, hlk, hAll⟩ := id F
  exact lv_imul hx hb hd (k F h1 (zp trivial (zd (zd h2))) H locs ls hG hS hl)
theorem z_iand {a b : Int32} (hd : decode mt.2.1 pc = .ok (.iand, 1)) (k : zX sy mt K (pc + 1) al (zI (a &&& b) :: as) σ) : zX sy mt K pc al (zI b :: zI a :: as) σ := by
  obtain ⟨w, l, p, e, s, m, args, below, meth, c, v, σ'⟩ := K
  intro F h1 h2 H locs ls hG hS hl
  obtain ⟨hx, hb, hml, hown, hts, hr, hlk, hAll⟩ := id F
  exact lv_iand hx hb hd (k F h1 (zp trivial (zd (zd h2))) H locs ls hG hS hl)
theorem z_ior {a b : Int32} (hd : decode mt.2.1 pc = .ok (.ior, 1)) (k : zX sy mt K (pc + 1) al (zI (a ||| b) :: as) σ) : zX sy mt K pc al (zI b :: zI a :: as) σ := by
  obtain ⟨w, l, p, e, s, m, args, below, meth, c, v, σ'⟩ := K
  intro F h1 h2 H locs ls hG hS hl
  obtain ⟨hx, hb, hml, hown, hts, hr, hlk, hAll⟩ := id F
  exact lv_ior hx hb hd (k F h1 (zp trivial (zd (zd h2))) H locs ls hG hS hl)
theorem z_ixor {a b : Int32} (hd : decode mt.2.1 pc = .ok (.ixor, 1)) (k : zX sy mt K (pc + 1) al (zI (a ^^^ b) :: as) σ) : zX sy mt K pc al (zI b :: zI a :: as) σ := by
  obtain ⟨w, l, p, e, s, m, args, below, meth, c, v, σ'⟩ := K
  intro F h1 h2 H locs ls hG hS hl
  obtain ⟨hx, hb, hml, hown, hts, hr, hlk, hAll⟩ := id F
  exact lv_ixor hx hb hd (k F h1 (zp trivial (zd (zd h2))) H locs ls hG hS hl)
theorem z_ishl {a b : Int32} (hd : decode mt.2.1 pc = .ok (.ishl, 1)) (k : zX sy mt K (pc + 1) al (zI (zshl a b) :: as) σ) : zX sy mt K pc al (zI b :: zI a :: as) σ := by
  obtain ⟨w, l, p, e, s, m, args, below, meth, c, v, σ'⟩ := K
  intro F h1 h2 H locs ls hG hS hl
  obtain ⟨hx, hb, hml, hown, hts, hr, hlk, hAll⟩ := id F
  exact lv_ishl hx hb hd (k F h1 (zp trivial (zd (zd h2))) H locs ls hG hS hl)
theorem z_ishr {a b : Int32} (hd : decode mt.2.1 pc = .ok (.ishr, 1)) (k : zX sy mt K (pc + 1) al (zI (zshr a b) :: as) σ) : zX sy mt K pc al (zI b :: zI a :: as) σ := by
  obtain ⟨w, l, p, e, s, m, args, below, meth, c, v, σ'⟩ := K
  intro F h1 h2 H locs ls hG hS hl
  obtain ⟨hx, hb, hml, hown, hts, hr, hlk, hAll⟩ := id F
  exact lv_ishr hx hb hd (k F h1 (zp trivial (zd (zd h2))) H locs ls hG hS hl)
theorem z_iushr {a b : Int32} (hd : decode mt.2.1 pc = .ok (.iushr, 1)) (k : zX sy mt K (pc + 1) al (zI (zushr a b) :: as) σ) : zX sy mt K pc al (zI b :: zI a :: as) σ := by
  obtain ⟨w, l, p, e, s, m, args, below, meth, c, v, σ'⟩ := K
  intro F h1 h2 H locs ls hG hS hl
  obtain ⟨hx, hb, hml, hown, hts, hr, hlk, hAll⟩ := id F
  exact lv_iushr hx hb hd rfl (k F h1 (zp trivial (zd (zd h2))) H locs ls hG hS hl)
theorem z_idiv {τ : Type} {res A : Option τ} {a b : Int32} (hd : decode mt.2.1 pc = .ok (.idiv, 1)) (hn : res ≠ none) (hf : res = zg (b != 0) A) (k : res = A → zX sy mt K (pc + 1) al (zI (a / b) :: as) σ) : zX sy mt K pc al (zI b :: zI a :: as) σ := by
  obtain ⟨hb0, hf⟩ := zg_t hn hf
  obtain ⟨w, l, p, e, s, m, args, below, meth, c, v, σ'⟩ := K
  intro F h1 h2 H locs ls hG hS hl
  obtain ⟨hx, hb, hml, hown, hts, hr, hlk, hAll⟩ := id F
  exact lv_idiv hx hb hd (by simpa using hb0) (k hf F h1 (zp trivial (zd (zd h2))) H locs ls hG hS hl)
theorem z_idivK {a b : Int32} (hd : decode mt.2.1 pc = .ok (.idiv, 1)) (h0 : (b != 0) = true) (k : zX sy mt K (pc + 1) al (zI (a / b) :: as) σ) : zX sy mt K pc al (zI b :: zI a :: as) σ := by
  obtain ⟨w, l, p, e, s, m, args, below, meth, c, v, σ'⟩ := K
  intro F h1 h2 H locs ls hG hS hl
  obtain ⟨hx, hb, hml, hown, hts, hr, hlk, hAll⟩ := id F
  exact lv_idiv hx hb hd (by simpa using h0) (k F h1 (zp trivial (zd (zd h2))) H locs ls hG hS hl)
theorem z_irem {τ : Type} {res A : Option τ} {a b : Int32} (hd : decode mt.2.1 pc = .ok (.irem, 1)) (hn : res ≠ none) (hf : res = zg (b != 0) A) (k : res = A → zX sy mt K (pc + 1) al (zI (zrem a b) :: as) σ) : zX sy mt K pc al (zI b :: zI a :: as) σ := by
  obtain ⟨hb0, hf⟩ := zg_t hn hf
  obtain ⟨w, l, p, e, s, m, args, below, meth, c, v, σ'⟩ := K
  intro F h1 h2 H locs ls hG hS hl
  obtain ⟨hx, hb, hml, hown, hts, hr, hlk, hAll⟩ := id F
  exact lv_irem hx hb hd (by simpa using hb0) (k hf F h1 (zp trivial (zd (zd h2))) H locs ls hG hS hl)
theorem z_iremK {a b : Int32} (hd : decode mt.2.1 pc = .ok (.irem, 1)) (h0 : (b != 0) = true) (k : zX sy mt K (pc + 1) al (zI (zrem a b) :: as) σ) : zX sy mt K pc al (zI b :: zI a :: as) σ := by
  obtain ⟨w, l, p, e, s, m, args, below, meth, c, v, σ'⟩ := K
  intro F h1 h2 H locs ls hG hS hl
  obtain ⟨hx, hb, hml, hown, hts, hr, hlk, hAll⟩ := id F
  exact lv_irem hx hb hd (by simpa using h0) (k F h1 (zp trivial (zd (zd h2))) H locs ls hG hS hl)
theorem z_ineg {a : Int32} (hd : decode mt.2.1 pc = .ok (.ineg, 1)) (k : zX sy mt K (pc + 1) al (zI (-a) :: as) σ) : zX sy mt K pc al (zI a :: as) σ := by
  obtain ⟨w, l, p, e, s, m, args, below, meth, c, v, σ'⟩ := K
  intro F h1 h2 H locs ls hG hS hl
  obtain ⟨hx, hb, hml, hown, hts, hr, hlk, hAll⟩ := id F
  exact lv_ineg hx hb hd (k F h1 (zp trivial (zd h2)) H locs ls hG hS hl)
theorem z_i2b {a : Int32} (hd : decode mt.2.1 pc = .ok (.i2b, 1)) (k : zX sy mt K (pc + 1) al (zI (zi2b a) :: as) σ) : zX sy mt K pc al (zI a :: as) σ := by
  obtain ⟨w, l, p, e, s, m, args, below, meth, c, v, σ'⟩ := K
  intro F h1 h2 H locs ls hG hS hl
  obtain ⟨hx, hb, hml, hown, hts, hr, hlk, hAll⟩ := id F
  exact lv_i2b hx hb hd rfl (k F h1 (zp trivial (zd h2)) H locs ls hG hS hl)
theorem z_i2c {a : Int32} (hd : decode mt.2.1 pc = .ok (.i2c, 1)) (k : zX sy mt K (pc + 1) al (zI (zi2c a) :: as) σ) : zX sy mt K pc al (zI a :: as) σ := by
  obtain ⟨w, l, p, e, s, m, args, below, meth, c, v, σ'⟩ := K
  intro F h1 h2 H locs ls hG hS hl
  obtain ⟨hx, hb, hml, hown, hts, hr, hlk, hAll⟩ := id F
  exact lv_i2c hx hb hd rfl (k F h1 (zp trivial (zd h2)) H locs ls hG hS hl)
theorem z_i2l {a : Int32} (hd : decode mt.2.1 pc = .ok (.i2l, 1)) (k : zX sy mt K (pc + 1) al (zL a.toInt64 :: as) σ) : zX sy mt K pc al (zI a :: as) σ := by
  obtain ⟨w, l, p, e, s, m, args, below, meth, c, v, σ'⟩ := K
  intro F h1 h2 H locs ls hG hS hl
  obtain ⟨hx, hb, hml, hown, hts, hr, hlk, hAll⟩ := id F
  exact lv_i2l hx hb hd rfl (k F h1 (zp trivial (zd h2)) H locs ls hG hS hl)
theorem z_l2i {a : Int64} (hd : decode mt.2.1 pc = .ok (.l2i, 1)) (k : zX sy mt K (pc + 1) al (zI a.toInt32 :: as) σ) : zX sy mt K pc al (zL a :: as) σ := by
  obtain ⟨w, l, p, e, s, m, args, below, meth, c, v, σ'⟩ := K
  intro F h1 h2 H locs ls hG hS hl
  obtain ⟨hx, hb, hml, hown, hts, hr, hlk, hAll⟩ := id F
  exact lv_l2i hx hb hd rfl (k F h1 (zp trivial (zd h2)) H locs ls hG hS hl)
theorem z_ladd {a b : Int64} (hd : decode mt.2.1 pc = .ok (.ladd, 1)) (k : zX sy mt K (pc + 1) al (zL (a + b) :: as) σ) : zX sy mt K pc al (zL b :: zL a :: as) σ := by
  obtain ⟨w, l, p, e, s, m, args, below, meth, c, v, σ'⟩ := K
  intro F h1 h2 H locs ls hG hS hl
  obtain ⟨hx, hb, hml, hown, hts, hr, hlk, hAll⟩ := id F
  exact lv_ladd hx hb hd (k F h1 (zp trivial (zd (zd h2))) H locs ls hG hS hl)
theorem z_lsub {a b : Int64} (hd : decode mt.2.1 pc = .ok (.lsub, 1)) (k : zX sy mt K (pc + 1) al (zL (a - b) :: as) σ) : zX sy mt K pc al (zL b :: zL a :: as) σ := by
  obtain ⟨w, l, p, e, s, m, args, below, meth, c, v, σ'⟩ := K
  intro F h1 h2 H locs ls hG hS hl
  obtain ⟨hx, hb, hml, hown, hts, hr, hlk, hAll⟩ := id F
  exact lv_lsub hx hb hd (k F h1 (zp trivial (zd (zd h2))) H locs ls hG hS hl)
theorem z_lmul {a b : Int64} (hd : decode mt.2.1 pc = .ok (.lmul, 1)) (k : zX sy mt K (pc + 1) al (zL (a * b) :: as) σ) : zX sy mt K pc al (zL b :: zL a :: as) σ := by
  obtain ⟨w, l, p, e, s, m, args, below, meth, c, v, σ'⟩ := K
  intro F h1 h2 H locs ls hG hS hl
  obtain ⟨hx, hb, hml, hown, hts, hr, hlk, hAll⟩ := id F
  exact lv_lmul hx hb hd (k F h1 (zp trivial (zd (zd h2))) H locs ls hG hS hl)
theorem z_land {a b : Int64} (hd : decode mt.2.1 pc = .ok (.land, 1)) (k : zX sy mt K (pc + 1) al (zL (a &&& b) :: as) σ) : zX sy mt K pc al (zL b :: zL a :: as) σ := by
  obtain ⟨w, l, p, e, s, m, args, below, meth, c, v, σ'⟩ := K
  intro F h1 h2 H locs ls hG hS hl
  obtain ⟨hx, hb, hml, hown, hts, hr, hlk, hAll⟩ := id F
  exact lv_land hx hb hd (k F h1 (zp trivial (zd (zd h2))) H locs ls hG hS hl)
theorem z_lor {a b : Int64} (hd : decode mt.2.1 pc = .ok (.lor, 1)) (k : zX sy mt K (pc + 1) al (zL (a ||| b) :: as) σ) : zX sy mt K pc al (zL b :: zL a :: as) σ := by
  obtain ⟨w, l, p, e, s, m, args, below, meth, c, v, σ'⟩ := K
  intro F h1 h2 H locs ls hG hS hl
  obtain ⟨hx, hb, hml, hown, hts, hr, hlk, hAll⟩ := id F
  exact lv_lor hx hb hd (k F h1 (zp trivial (zd (zd h2))) H locs ls hG hS hl)
theorem z_lxor {a b : Int64} (hd : decode mt.2.1 pc = .ok (.lxor, 1)) (k : zX sy mt K (pc + 1) al (zL (a ^^^ b) :: as) σ) : zX sy mt K pc al (zL b :: zL a :: as) σ := by
  obtain ⟨w, l, p, e, s, m, args, below, meth, c, v, σ'⟩ := K
  intro F h1 h2 H locs ls hG hS hl
  obtain ⟨hx, hb, hml, hown, hts, hr, hlk, hAll⟩ := id F
  exact lv_lxor hx hb hd (k F h1 (zp trivial (zd (zd h2))) H locs ls hG hS hl)
theorem z_lushr {a : Int64} {b : Int32} (hd : decode mt.2.1 pc = .ok (.lushr, 1)) (k : zX sy mt K (pc + 1) al (zL (zlushr a b) :: as) σ) : zX sy mt K pc al (zI b :: zL a :: as) σ := by
  obtain ⟨w, l, p, e, s, m, args, below, meth, c, v, σ'⟩ := K
  intro F h1 h2 H locs ls hG hS hl
  obtain ⟨hx, hb, hml, hown, hts, hr, hlk, hAll⟩ := id F
  exact lv_lushr hx hb hd rfl (k F h1 (zp trivial (zd (zd h2))) H locs ls hG hS hl)
theorem z_lshl {a : Int64} {b : Int32} (hd : decode mt.2.1 pc = .ok (.lshl, 1)) (k : zX sy mt K (pc + 1) al (zL (zlshl a b) :: as) σ) : zX sy mt K pc al (zI b :: zL a :: as) σ := by
  obtain ⟨w, l, p, e, s, m, args, below, meth, c, v, σ'⟩ := K
  intro F h1 h2 H locs ls hG hS hl
  obtain ⟨hx, hb, hml, hown, hts, hr, hlk, hAll⟩ := id F
  exact lv_lshl hx hb hd rfl (k F h1 (zp trivial (zd (zd h2))) H locs ls hG hS hl)
theorem z_lshr {a : Int64} {b : Int32} (hd : decode mt.2.1 pc = .ok (.lshr, 1)) (k : zX sy mt K (pc + 1) al (zL (zlshr a b) :: as) σ) : zX sy mt K pc al (zI b :: zL a :: as) σ := by
  obtain ⟨w, l, p, e, s, m, args, below, meth, c, v, σ'⟩ := K
  intro F h1 h2 H locs ls hG hS hl
  obtain ⟨hx, hb, hml, hown, hts, hr, hlk, hAll⟩ := id F
  exact lv_lshr hx hb hd rfl (k F h1 (zp trivial (zd (zd h2))) H locs ls hG hS hl)
theorem z_lcmp {a b : Int64} (hd : decode mt.2.1 pc = .ok (.lcmp, 1)) (k : zX sy mt K (pc + 1) al (zI (lg_cmp a b) :: as) σ) : zX sy mt K pc al (zL b :: zL a :: as) σ := by
  obtain ⟨w, l, p, e, s, m, args, below, meth, c, v, σ'⟩ := K
  intro F h1 h2 H locs ls hG hS hl
  obtain ⟨hx, hb, hml, hown, hts, hr, hlk, hAll⟩ := id F
  exact W.lcmp hx hb hd (k F h1 (zp trivial (zd (zd h2))) H locs ls hG hS hl)
theorem z_dup {a : zV} (hc : zcat a = 1) (hd : decode mt.2.1 pc = .ok (.dup, 1)) (k : zX sy mt K (pc + 1) al (a :: a :: as) σ) : zX sy mt K pc al (a :: as) σ := by
  obtain ⟨w, l, p, e, s, m, args, below, meth, c, v, σ'⟩ := K
  intro F h1 h2 H locs ls hG hS hl
  obtain ⟨hx, hb, hml, hown, hts, hr, hlk, hAll⟩ := id F
  exact lv_dup hx hb hd (by rw [zc_cat]; exact hc) (k F h1 (zp (zh h2) h2) H locs ls hG hS hl)
theorem z_pop {a : zV} (hc : zcat a = 1) (hd : decode mt.2.1 pc = .ok (.pop, 1)) (k : zX sy mt K (pc + 1) al as σ) : zX sy mt K pc al (a :: as) σ := by
  obtain ⟨w, l, p, e, s, m, args, below, meth, c, v, σ'⟩ := K
  intro F h1 h2 H locs ls hG hS hl
  obtain ⟨hx, hb, hml, hown, hts, hr, hlk, hAll⟩ := id F
  exact lv_pop hx hb hd (by rw [zc_cat]; exact hc) (k F h1 (zd h2) H locs ls hG hS hl)
theorem z_dup2 {a b : zV} (hc : zcat a = 1) (hc2 : zcat b = 1) (hd : decode mt.2.1 pc = .ok (.dup2, 1)) (k : zX sy mt K (pc + 1) al (a :: b :: a :: b :: as) σ) : zX sy mt K pc al (a :: b :: as) σ := by
  obtain ⟨w, l, p, e, s, m, args, below, meth, c, v, σ'⟩ := K
  intro F h1 h2 H locs ls hG hS hl
  obtain ⟨hx, hb, hml, hown, hts, hr, hlk, hAll⟩ := id F
  exact lv_dup2_11 hx hb hd (by rw [zc_cat]; exact hc) (by rw [zc_cat]; exact hc2) (k F h1 (zp (zh h2) (zp (zh (zd h2)) h2)) H locs ls hG hS hl)
theorem z_goto {off : Int} (tgt : Nat) (hd : decode mt.2.1 pc = .ok (.goto off, 3)) (ht : (pc : Int) + off = (tgt : Int)) (k : zX sy mt K tgt al as σ) : zX sy mt K pc al as σ := by
  obtain ⟨w, l, p, e, s, m, args, below, meth, c, v, σ'⟩ := K
  intro F h1 h2 H locs ls hG hS hl
  obtain ⟨hx, hb, hml, hown, hts, hr, hlk, hAll⟩ := id F
  exact lv_goto hx hb hd ht (k F h1 h2 H locs ls hG hS hl)
theorem z_icmp_eq {τ : Type} {res A B : τ} {a b : Int32} {off : Int} (tgt : Nat) (hd : decode mt.2.1 pc = .ok (.if_icmp .eq off, 3)) (ht : (pc : Int) + off = (tgt : Int)) (hf : res = if a = b then A else B) (kt : res = A → zX sy mt K tgt al as σ) (kf : res = B → zX sy mt K (pc + 3) al as σ) : zX sy mt K pc al (zI b :: zI a :: as) σ := by
  obtain ⟨w, l, p, e, s, m, args, below, meth, c, v, σ'⟩ := K
  intro F h1 h2 H locs ls hG hS hl
  obtain ⟨hx, hb, hml, hown, hts, hr, hlk, hAll⟩ := id F
  exact lv_icmp_eq hx hb hd ht (fun h => kt (hf.trans (if_pos h)) F h1 (zd (zd h2)) H locs ls hG hS hl) (fun h => kf (hf.trans (if_neg h)) F h1 (zd (zd h2)) H locs ls hG hS hl)
theorem z_icmp_ne {τ : Type} {res A B : τ} {a b : Int32} {off : Int} (tgt : Nat) (hd : decode mt.2.1 pc = .ok (.if_icmp .ne off, 3)) (ht : (pc : Int) + off = (tgt : Int)) (hf : res = if a = b then A else B) (kt : res = B → zX sy mt K tgt al as σ) (kf : res = A → zX sy mt K (pc + 3) al as σ) : zX sy mt K pc al (zI b :: zI a :: as) σ := by
  obtain ⟨w, l, p, e, s, m, args, below, meth, c, v, σ'⟩ := K
  intro F h1 h2 H locs ls hG hS hl
  obtain ⟨hx, hb, hml, hown, hts, hr, hlk, hAll⟩ := id F
  exact lv_icmp_ne hx hb hd ht (fun h => kt (hf.trans (if_neg h)) F h1 (zd (zd h2)) H locs ls hG hS hl) (fun h => kf (hf.trans (if_pos h)) F h1 (zd (zd h2)) H locs ls hG hS hl)
theorem z_icmp_lt {τ : Type} {res A B : τ} {a b : Int32} {off : Int} (tgt : Nat) (hd : decode mt.2.1 pc = .ok (.if_icmp .lt off, 3)) (ht : (pc : Int) + off = (tgt : Int)) (hf : res = if b ≤ a then A else B) (kt : res = B → zX sy mt K tgt al as σ) (kf : res = A → zX sy mt K (pc + 3) al as σ) : zX sy mt K pc al (zI b :: zI a :: as) σ := by
  obtain ⟨w, l, p, e, s, m, args, below, meth, c, v, σ'⟩ := K
  intro F h1 h2 H locs ls hG hS hl
  obtain ⟨hx, hb, hml, hown, hts, hr, hlk, hAll⟩ := id F
  exact lv_icmp_lt hx hb hd ht (fun h => kt (hf.trans (if_neg (Int32.not_le.mpr h))) F h1 (zd (zd h2)) H locs ls hG hS hl) (fun h => kf (hf.trans (if_pos (Int32.not_lt.mp h))) F h1 (zd (zd h2)) H locs ls hG hS hl)
theorem z_icmp_ge {τ : Type} {res A B : τ} {a b : Int32} {off : Int} (tgt : Nat) (hd : decode mt.2.1 pc = .ok (.if_icmp .ge off, 3)) (ht : (pc : Int) + off = (tgt : Int)) (hf : res = if a < b then A else B) (kt : res = B → zX sy mt K tgt al as σ) (kf : res = A → zX sy mt K (pc + 3) al as σ) : zX sy mt K pc al (zI b :: zI a :: as) σ := by
  obtain ⟨w, l, p, e, s, m, args, below, meth, c, v, σ'⟩ := K
  intro F h1 h2 H locs ls hG hS hl
  obtain ⟨hx, hb, hml, hown, hts, hr, hlk, hAll⟩ := id F
  exact lv_icmp_ge hx hb hd ht (fun h => kt (hf.trans (if_neg (Int32.not_lt.mpr h))) F h1 (zd (zd h2)) H locs ls hG hS hl) (fun h => kf (hf.trans (if_pos (Int32.not_le.mp h))) F h1 (zd (zd h2)) H locs ls hG hS hl)
theorem z_icmp_gt {τ : Type} {res A B : τ} {a b : Int32} {off : Int} (tgt : Nat) (hd : decode mt.2.1 pc = .ok (.if_icmp .gt off, 3)) (ht : (pc : Int) + off = (tgt : Int)) (hf : res = if a ≤ b then A else B) (kt : res = B → zX sy mt K tgt al as σ) (kf : res = A → zX sy mt K (pc + 3) al as σ) : zX sy mt K pc al (zI b :: zI a :: as) σ := by
  obtain ⟨w, l, p, e, s, m, args, below, meth, c, v, σ'⟩ := K
  intro F h1 h2 H locs ls hG hS hl
  obtain ⟨hx, hb, hml, hown, hts, hr, hlk, hAll⟩ := id F
  exact lv_icmp_gt hx hb hd ht (fun h => kt (hf.trans (if_neg (Int32.not_le.mpr h))) F h1 (zd (zd h2)) H locs ls hG hS hl) (fun h => kf (hf.trans (if_pos (Int32.not_lt.mp h))) F h1 (zd (zd h2)) H locs ls hG hS hl)
theorem z_icmp_le {τ : Type} {res A B : τ} {a b : Int32} {off : Int} (tgt : Nat) (hd : decode mt.2.1 pc = .ok (.if_icmp .le off, 3)) (ht : (pc : Int) + off = (tgt : Int)) (hf : res = if b < a then A else B) (kt : res = B → zX sy mt K tgt al as σ) (kf : res = A → zX sy mt K (pc + 3) al as σ) : zX sy mt K pc al (zI b :: zI a :: as) σ := by
  obtain ⟨w, l, p, e, s, m, args, below, meth, c, v, σ'⟩ := K
  intro F h1 h2 H locs ls hG hS hl
  obtain ⟨hx, hb, hml, hown, hts, hr, hlk, hAll⟩ := id F
  exact lv_icmp_le hx hb hd ht (fun h => kt (hf.trans (if_neg (Int32.not_lt.mpr h))) F h1 (zd (zd h2)) H locs ls hG hS hl) (fun h => kf (hf.trans (if_pos (Int32.not_le.mp h))) F h1 (zd (zd h2)) H locs ls hG hS hl)
theorem z_if_eq {τ : Type} {res A B : τ} {a : Int32} {off : Int} (tgt : Nat) (hd : decode mt.2.1 pc = .ok (.ifCond .eq off, 3)) (ht : (pc : Int) + off = (tgt : Int)) (hf : res = if a = 0 then A else B) (kt : res = A → zX sy mt K tgt al as σ) (kf : res = B → zX sy mt K (pc + 3) al as σ) : zX sy mt K pc al (zI a :: as) σ := by
  obtain ⟨w, l, p, e, s, m, args, below, meth, c, v, σ'⟩ := K
  intro F h1 h2 H locs ls hG hS hl
  obtain ⟨hx, hb, hml, hown, hts, hr, hlk, hAll⟩ := id F
  exact lv_if_eq hx hb hd ht (fun h => kt (hf.trans (if_pos h)) F h1 (zd h2) H locs ls hG hS hl) (fun h => kf (hf.trans (if_neg h)) F h1 (zd h2) H locs ls hG hS hl)
theorem z_if_ne {τ : Type} {res A B : τ} {a : Int32} {off : Int} (tgt : Nat) (hd : decode mt.2.1 pc = .ok (.ifCond .ne off, 3)) (ht : (pc : Int) + off = (tgt : Int)) (hf : res = if a = 0 then A else B) (kt : res = B → zX sy mt K tgt al as σ) (kf : res = A → zX sy mt K (pc + 3) al as σ) : zX sy mt K pc al (zI a :: as) σ := by
  obtain ⟨w, l, p, e, s, m, args, below, meth, c, v, σ'⟩ := K
  intro F h1 h2 H locs ls hG hS hl
  obtain ⟨hx, hb, hml, hown, hts, hr, hlk, hAll⟩ := id F
  exact lv_if_ne hx hb hd ht (fun h => kt (hf.trans (if_neg h)) F h1 (zd h2) H locs ls hG hS hl) (fun h => kf (hf.trans (if_pos h)) F h1 (zd h2) H locs ls hG hS hl)
theorem z_if_lt {τ : Type} {res A B : τ} {a : Int32} {off : Int} (tgt : Nat) (hd : decode mt.2.1 pc = .ok (.ifCond .lt off, 3)) (ht : (pc : Int) + off = (tgt : Int)) (hf : res = if 0 ≤ a then A else B) (kt : res = B → zX sy mt K tgt al as σ) (kf : res = A → zX sy mt K (pc + 3) al as σ) : zX sy mt K pc al (zI a :: as) σ := by
  obtain ⟨w, l, p, e, s, m, args, below, meth, c, v, σ'⟩ := K
  intro F h1 h2 H locs ls hG hS hl
  obtain ⟨hx, hb, hml, hown, hts, hr, hlk, hAll⟩ := id F
  exact lv_if_lt hx hb hd ht (fun h => kt (hf.trans (if_neg (Int32.not_le.mpr h))) F h1 (zd h2) H locs ls hG hS hl) (fun h => kf (hf.trans (if_pos (Int32.not_lt.mp h))) F h1 (zd h2) H locs ls hG hS hl)
theorem z_if_ge {τ : Type} {res A B : τ} {a : Int32} {off : Int} (tgt : Nat) (hd : decode mt.2.1 pc = .ok (.ifCond .ge off, 3)) (ht : (pc : Int) + off = (tgt : Int)) (hf : res = if a < 0 then A else B) (kt : res = B → zX sy mt K tgt al as σ) (kf : res = A → zX sy mt K (pc + 3) al as σ) : zX sy mt K pc al (zI a :: as) σ := by
  obtain ⟨w, l, p, e, s, m, args, below, meth, c, v, σ'⟩ := K
  intro F h1 h2 H locs ls hG hS hl
  obtain ⟨hx, hb, hml, hown, hts, hr, hlk, hAll⟩ := id F
  exact lv_if_ge hx hb hd ht (fun h => kt (hf.trans (if_neg (Int32.not_lt.mpr h))) F h1 (zd h2) H locs ls hG hS hl) (fun h => kf (hf.trans (if_pos (Int32.not_le.mp h))) F h1 (zd h2) H locs ls hG hS hl)
theorem z_if_gt {τ : Type} {res A B : τ} {a : Int32} {off : Int} (tgt : Nat) (hd : decode mt.2.1 pc = .ok (.ifCond .gt off, 3)) (ht : (pc : Int) + off = (tgt : Int)) (hf : res = if a ≤ 0 then A else B) (kt : res = B → zX sy mt K tgt al as σ) (kf : res = A → zX sy mt K (pc + 3) al as σ) : zX sy mt K pc al (zI a :: as) σ := by
  obtain ⟨w, l, p, e, s, m, args, below, meth, c, v, σ'⟩ := K
  intro F h1 h2 H locs ls hG hS hl
  obtain ⟨hx, hb, hml, hown, hts, hr, hlk, hAll⟩ := id F
  exact lv_if_gt hx hb hd ht (fun h => kt (hf.trans (if_neg (Int32.not_le.mpr h))) F h1 (zd h2) H locs ls hG hS hl) (fun h => kf (hf.trans (if_pos (Int32.not_lt.mp h))) F h1 (zd h2) H locs ls hG hS hl)
theorem z_if_le {τ : Type} {res A B : τ} {a : Int32} {off : Int} (tgt : Nat) (hd : decode mt.2.1 pc = .ok (.ifCond .le off, 3)) (ht : (pc : Int) + off = (tgt : Int)) (hf : res = if 0 < a then A else B) (kt : res = B → zX sy mt K tgt al as σ) (kf : res = A → zX sy mt K (pc + 3) al as σ) : zX sy mt K pc al (zI a :: as) σ := by
  obtain ⟨w, l, p, e, s, m, args, below, meth, c, v, σ'⟩ := K
  intro F h1 h2 H locs ls hG hS hl
  obtain ⟨hx, hb, hml, hown, hts, hr, hlk, hAll⟩ := id F
  exact lv_if_le hx hb hd ht (fun h => kt (hf.trans (if_neg (Int32.not_lt.mpr h))) F h1 (zd h2) H locs ls hG hS hl) (fun h => kf (hf.trans (if_pos (Int32.not_le.mp h))) F h1 (zd h2) H locs ls hG hS hl)
def zoc {τ : Type} (o : Option Nat) (A : τ) (B : Nat → τ) : τ := match o with
  | none => A
  | some i => B i
theorem z_ifnull {τ : Type} {res A : τ} {B : Nat → τ} {f : Nat} {off : Int} {al : Option Nat → List (Nat × zV)} {as : Option Nat → List zV} (tgt : Nat) (o : Option Nat) (hd : decode mt.2.1 pc = .ok (.ifnull off, 3)) (ht : (pc : Int) + off = (tgt : Int)) (hf : res = zoc o A B) (kn : res = A → zX sy mt K tgt (al none) (as none) σ) (ks : ∀ i, res = B i → zX sy mt K (pc + 3) (al (some i)) (as (some i)) σ) : zX sy mt K pc (al o) (zQ f o :: as o) σ := by
  obtain ⟨w, l, p, e, s, m, args, below, meth, c, v, σ'⟩ := K
  intro F h1 h2 H locs ls hG hS hl
  obtain ⟨hx, hb, hml, hown, hts, hr, hlk, hAll⟩ := id F
  cases o with
  | none => exact lv_ifnullN hx hb hd ht (kn hf F h1 (zd h2) H locs ls hG hS hl)
  | some i => exact lv_ifnull hx hb hd (ks i hf F h1 (zd h2) H locs ls hG hS hl)
theorem z_ifnonnull {τ : Type} {res A : τ} {B : Nat → τ} {f : Nat} {off : Int} {al : Option Nat → List (Nat × zV)} {as : Option Nat → List zV} (tgt : Nat) (o : Option Nat) (hd : decode mt.2.1 pc = .ok (.ifnonnull off, 3)) (ht : (pc : Int) + off = (tgt : Int)) (hf : res = zoc o A B) (kn : res = A → zX sy mt K (pc + 3) (al none) (as none) σ) (ks : ∀ i, res = B i → zX sy mt K tgt (al (some i)) (as (some i)) σ) : zX sy mt K pc (al o) (zQ f o :: as o) σ := by
  obtain ⟨w, l, p, e, s, m, args, below, meth, c, v, σ'⟩ := K
  intro F h1 h2 H locs ls hG hS hl
  obtain ⟨hx, hb, hml, hown, hts, hr, hlk, hAll⟩ := id F
  cases o with
  | none => exact lv_ifnonnullN hx hb hd (kn hf F h1 (zd h2) H locs ls hG hS hl)
  | some i => exact lv_ifnonnull hx hb hd ht (ks i hf F h1 (zd h2) H locs ls hG hS hl)
theorem z_nmI {τ : Type} {res : τ} {a : Int32} {k : Int32 → τ} (hf : res = zb a k) (kk : ∀ x, res = k x → zX sy mt K pc al (zI x :: as) σ) : zX sy mt K pc al (zI a :: as) σ := kk a hf
theorem z_nmL {τ : Type} {res : τ} {a : Int64} {k : Int64 → τ} (hf : res = zb a k) (kk : ∀ x, res = k x → zX sy mt K pc al (zL x :: as) σ) : zX sy mt K pc al (zL a :: as) σ := kk a hf
theorem z_nmS {τ : Type} {res : τ} {s1 : zG} {k : zG → τ} (hf : res = zb s1 k) (kk : ∀ x, res = k x → zX sy mt K pc al as x) : zX sy mt K pc al as s1 := kk s1 hf
end ZR
