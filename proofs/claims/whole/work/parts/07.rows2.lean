/-! more rows: decode lists, switches, constant places, copies -/
def zdecs (cc : ByteArray) (L : List (Nat × Instr × Nat)) : Bool := L.all fun q => decide (decode cc q.1 = .ok q.2)
theorem zdg {cc : ByteArray} {L : List (Nat × Instr × Nat)} (h : zdecs cc L = true) (k : Nat) (q : Nat × Instr × Nat) (hk : L[k]? = some q) : decode cc q.1 = .ok q.2 := of_decide_eq_true (List.all_eq_true.mp h q (List.mem_of_getElem? hk))
theorem zokm {al : List (Nat × zV)} {av : List zV} {w : zW} (h : al.map (fun q => q.2) = av) (h2 : ∀ a ∈ av, zok w a) : ∀ q ∈ al, zok w q.2 := fun q hq => h2 q.2 (by rw [← h]; exact List.mem_map_of_mem hq)
theorem zif {τ : Type} {c : Prop} [Decidable c] {res A B : τ} {P : Prop} (hf : res = if c then A else B) (kt : c → res = A → P) (kf : ¬ c → res = B → P) : P := by
  by_cases h : c
  · exact kt h (hf.trans (if_pos h))
  · exact kf h (hf.trans (if_neg h))
def zcpI (σ : zG) (f i g j n : Nat) : zG := (fun f' i' k' => if f' = g ∧ i' = j ∧ k' < n then σ.1 f i k' else σ.1 f' i' k', σ.2)
def zcpL (σ : zG) (f i g j n : Nat) : zG := (σ.1, fun f' i' k' => if f' = g ∧ i' = j ∧ k' < n then σ.2 f i k' else σ.2 f' i' k')
def zflI (σ : zG) (f i n : Nat) (x : Int32) : zG := (fun f' i' k' => if f' = f ∧ i' = i ∧ k' < n then x else σ.1 f' i' k', σ.2)
def zflB (σ : zG) (f i n : Nat) (x : Int32) : zG := zflI σ f i n x
def zflL (σ : zG) (f i n : Nat) (x : Int64) : zG := (σ.1, fun f' i' k' => if f' = f ∧ i' = i ∧ k' < n then x else σ.2 f' i' k')
def zac (own : String) (idx : Nat) : Prop := Cond.methodLink own idx arraycopyName ∈ zTB ∧ Cond.native arraycopyName ∈ zTB ∧ Cond.static arraycopyName ∈ zTB ∧ Cond.initialized "java/lang/System" ∈ zTB
section ZT
variable {sy : zSy} {mt : zMT} {K : zK} {pc : Nat} {al al' : List (Nat × zV)} {as : List zV} {σ : zG}
theorem z_tsIn {dflt lo hi : Int} {offs : Array Int} {len : Nat} {x c : Int32} {j : Nat} {off : Int} (tgt : Nat) (hd : decode mt.2.1 pc = .ok (.tableswitch dflt lo hi offs, len)) (hc : x = c) (hlo : ¬ c.toInt < lo) (hhi : ¬ hi < c.toInt) (hj : (c.toInt - lo).toNat = j) (ho : offs[j]? = some off) (ht : (pc : Int) + off = (tgt : Int)) (k : zX sy mt K tgt al as σ) : zX sy mt K pc al (zI x :: as) σ := by
  subst hc
  subst hj
  obtain ⟨w, l, p, e, s, m, args, below, meth, c, v, σ'⟩ := K
  intro F h1 h2 H locs ls hG hS hl
  obtain ⟨hx, hb, hml, hown, hts, hr, hlk, hAll⟩ := id F
  exact lv_tableIn hx hb hd hlo hhi ho ht (k F h1 (zd h2) H locs ls hG hS hl)
theorem z_tsOut {dflt lo hi : Int} {offs : Array Int} {len : Nat} {x : Int32} (tgt : Nat) (hd : decode mt.2.1 pc = .ok (.tableswitch dflt lo hi offs, len)) (h : x.toInt < lo ∨ hi < x.toInt) (ht : (pc : Int) + dflt = (tgt : Int)) (k : zX sy mt K tgt al as σ) : zX sy mt K pc al (zI x :: as) σ := by
  obtain ⟨w, l, p, e, s, m, args, below, meth, c, v, σ'⟩ := K
  intro F h1 h2 H locs ls hG hS hl
  obtain ⟨hx, hb, hml, hown, hts, hr, hlk, hAll⟩ := id F
  exact lv_tableOut hx hb hd h ht (k F h1 (zd h2) H locs ls hG hS hl)
theorem z_lsw {dflt : Int} {ps : Array (Int × Int)} {len : Nat} {x : Int32} {off : Int} (tgt : Nat) (hd : decode mt.2.1 pc = .ok (.lookupswitch dflt ps, len)) (hp : (ps.toList.zip (ps.toList.drop 1)).all (fun (a, next) => a.1 < next.1) = true) (ho : Op.lookupswitch.offset ps.toList dflt x.toInt = off) (ht : (pc : Int) + off = (tgt : Int)) (k : zX sy mt K tgt al as σ) : zX sy mt K pc al (zI x :: as) σ := by
  obtain ⟨w, l, p, e, s, m, args, below, meth, c, v, σ'⟩ := K
  intro F h1 h2 H locs ls hG hS hl
  obtain ⟨hx, hb, hml, hown, hts, hr, hlk, hAll⟩ := id F
  exact lv_lookup hx hb hd hp ho ht (k F h1 (zd h2) H locs ls hG hS hl)
theorem z_zret {τ : Type} {res A : Option τ} {x : Int32} (hrt : mt.2.2.2.2 = some .boolean) (hd : decode mt.2.1 pc = .ok (.ireturn, 1)) (hn : res ≠ none) (hf : res = zg (zbl x) A) (hv : res = A → zKv K = some (zI x) ∧ zKs K = σ) : zX sy mt K pc al [zI x] σ := by
  obtain ⟨h0, hf⟩ := zg_t hn hf
  refine z_iret hrt ?_ hd (hv hf)
  simp only [zbl, Bool.or_eq_true, beq_iff_eq] at h0
  rcases h0 with rfl | rfl <;> rfl
theorem z_nmQ {τ : Type} {res : τ} {f : Nat} {e : Option Nat} {k : Option Nat → τ} {al : Option Nat → List (Nat × zV)} {as : Option Nat → List zV} (hf : res = zb e k) (kk : ∀ o, res = k o → zX sy mt K pc (al o) (zQ f o :: as o) σ) : zX sy mt K pc (al e) (zQ f e :: as e) σ := kk e hf
theorem z_nmWI {τ : Type} {res : τ} {e : Int32 × zG} {k : Int32 × zG → τ} (hf : res = zb e k) (kk : ∀ q, res = k q → zX sy mt K pc al (zI q.1 :: as) q.2) : zX sy mt K pc al (zI e.1 :: as) e.2 := kk e hf
theorem z_nmWL {τ : Type} {res : τ} {e : Int64 × zG} {k : Int64 × zG → τ} (hf : res = zb e k) (kk : ∀ q, res = k q → zX sy mt K pc al (zL q.1 :: as) q.2) : zX sy mt K pc al (zL e.1 :: as) e.2 := kk e hf
theorem z_sstore_n {k0 : Fin 4} {i x : Nat} (hd : decode mt.2.1 pc = .ok (.astore_n k0, 1)) (hi : (k0 : Nat) = i) (hn : i < mt.2.2.1) (ha : zst1 al i (zS x) = al') (k : zX sy mt K (pc + 1) al' as σ) : zX sy mt K pc al (zS x :: as) σ := by
  subst ha
  obtain ⟨w, l, p, e, s, m, args, below, meth, c, v, σ'⟩ := K
  intro F h1 h2 H locs ls hG hS hl
  obtain ⟨hx, hb, hml, hown, hts, hr, hlk, hAll⟩ := id F
  exact lv_astore_n hx hb hd hi hl hn (zst1_map w al i (zS x)) (fun ls' hl' => k F (zst1_ok h1 trivial) (zd h2) H locs ls' hG hS hl')
theorem z_ialdC {f i n j : Nat} {x : Int32} (hf0 : sy.1.1 f = .inr (.int, n)) (ht : ∀ j, sy.1.2.1 f j = 0) (hd : decode mt.2.1 pc = .ok (.iaload, 1)) (h0 : zin x n = true) (hj : x.toNatClampNeg = j) (kk : zX sy mt K (pc + 1) al (zI (σ.1 f i j) :: as) σ) : zX sy mt K pc al (zI x :: zR f i :: as) σ := by
  subst hj
  exact z_ialdK hf0 ht hd h0 kk
theorem z_baldC {f i n j : Nat} {x : Int32} (hf0 : sy.1.1 f = .inr (.byte, n)) (ht : ∀ j, sy.1.2.1 f j = 0) (hd : decode mt.2.1 pc = .ok (.baload, 1)) (h0 : zin x n = true) (hj : x.toNatClampNeg = j) (kk : zX sy mt K (pc + 1) al (zI (σ.1 f i j) :: as) σ) : zX sy mt K pc al (zI x :: zR f i :: as) σ := by
  subst hj
  exact z_baldK hf0 ht hd h0 kk
theorem z_caldC {f i n j : Nat} {x : Int32} (hf0 : sy.1.1 f = .inr (.char, n)) (ht : ∀ j, sy.1.2.1 f j = 0) (hd : decode mt.2.1 pc = .ok (.caload, 1)) (h0 : zin x n = true) (hj : x.toNatClampNeg = j) (kk : zX sy mt K (pc + 1) al (zI (σ.1 f i j) :: as) σ) : zX sy mt K pc al (zI x :: zR f i :: as) σ := by
  subst hj
  exact z_caldK hf0 ht hd h0 kk
theorem z_laldC {f i n j : Nat} {x : Int32} (hf0 : sy.1.1 f = .inr (.long, n)) (ht : ∀ j, sy.1.2.1 f j = 1) (hd : decode mt.2.1 pc = .ok (.laload, 1)) (h0 : zin x n = true) (hj : x.toNatClampNeg = j) (kk : zX sy mt K (pc + 1) al (zL (σ.2 f i j) :: as) σ) : zX sy mt K pc al (zI x :: zR f i :: as) σ := by
  subst hj
  exact z_laldK hf0 ht hd h0 kk
theorem z_iastC {f i n j : Nat} {x : Int32} {y : Int32} (hf0 : sy.1.1 f = .inr (.int, n)) (ht : ∀ j, sy.1.2.1 f j = 0) (hd : decode mt.2.1 pc = .ok (.iastore, 1)) (h0 : zin x n = true) (hj : x.toNatClampNeg = j) (kk : zX sy mt K (pc + 1) al as (zwI σ f i j (y))) : zX sy mt K pc al (zI y :: zI x :: zR f i :: as) σ := by
  subst hj
  exact z_iastK hf0 ht hd h0 kk
theorem z_bastC {f i n j : Nat} {x : Int32} {y : Int32} (hf0 : sy.1.1 f = .inr (.byte, n)) (ht : ∀ j, sy.1.2.1 f j = 0) (hd : decode mt.2.1 pc = .ok (.bastore, 1)) (h0 : zin x n = true) (hj : x.toNatClampNeg = j) (kk : zX sy mt K (pc + 1) al as (zwI σ f i j (zi2b y))) : zX sy mt K pc al (zI y :: zI x :: zR f i :: as) σ := by
  subst hj
  exact z_bastK hf0 ht hd h0 kk
theorem z_castC {f i n j : Nat} {x : Int32} {y : Int32} (hf0 : sy.1.1 f = .inr (.char, n)) (ht : ∀ j, sy.1.2.1 f j = 0) (hd : decode mt.2.1 pc = .ok (.castore, 1)) (h0 : zin x n = true) (hj : x.toNatClampNeg = j) (kk : zX sy mt K (pc + 1) al as (zwI σ f i j (zi2c y))) : zX sy mt K pc al (zI y :: zI x :: zR f i :: as) σ := by
  subst hj
  exact z_castK hf0 ht hd h0 kk
theorem z_lastC {f i n j : Nat} {x : Int32} {y : Int64} (hf0 : sy.1.1 f = .inr (.long, n)) (ht : ∀ j, sy.1.2.1 f j = 1) (hd : decode mt.2.1 pc = .ok (.lastore, 1)) (h0 : zin x n = true) (hj : x.toNatClampNeg = j) (kk : zX sy mt K (pc + 1) al as (zwL σ f i j (y))) : zX sy mt K pc al (zL y :: zI x :: zR f i :: as) σ := by
  subst hj
  exact z_lastK hf0 ht hd h0 kk
theorem z_copyI {f i g j n idx : Nat} {ty : FieldType} {c : Int32} (hlk0 : zac mt.1 idx) (hf0 : sy.1.1 f = .inr (ty, n)) (hg0 : sy.1.1 g = .inr (ty, n)) (htf : ∀ k, sy.1.2.1 f k = 0) (htg : ∀ k, sy.1.2.1 g k = 0) (hprim : refKind ty = false) (hcn : c.toNatClampNeg = n) (hc0 : decide (¬ c < 0) = true) (hfr : 1 ≤ (zrm mt.2.2.2.1).frames) (hloc : (as.map zcat).sum + (nativeFrameWords "java/lang/System" "arraycopy" 5 + 11) ≤ (zrm mt.2.2.2.1).locals) (hd : decode mt.2.1 pc = .ok (.invokestatic idx, 3)) (kk : zX sy mt K (pc + 3) al as (zcpI σ f i g j n)) : zX sy mt K pc al (zI c :: zI 0 :: zR g j :: zI 0 :: zR f i :: as) σ := by
  subst hcn
  have hc1 : ¬ c < 0 := of_decide_eq_true hc0
  obtain ⟨w, l, p, e, s, m, args, below, meth, c1, v, σ'⟩ := K
  intro F h1 h2 H locs ls hG hS hl
  obtain ⟨hx, hb, hml, hown, hts, hr, hlk, hAll⟩ := id F
  obtain ⟨w1, w2, w3, w4⟩ := hlk0
  have hlg : w.2.2.2.2 g j := zh (zd (zd h2))
  have hlf : w.2.2.2.2 f i := zh (zd (zd (zd (zd h2))))
  obtain ⟨a1, a2, a3⟩ := zarr hG hAll hlf hf0
  obtain ⟨b1, b2, b3⟩ := zarr hG hAll hlg hg0
  have nn : c.toInt = (c.toNatClampNeg : Int) := by
    have hz0 : (0 : Int) ≤ c.toInt := by
      have := Int32.not_lt.mp hc1
      simpa using Int32.le_iff_toInt_le.mp this
    show c.toInt = ((c.toInt.toNat : Nat) : Int)
    omega
  intro T hT X
  obtain ⟨-, k0, hk0, cm0, hkk0⟩ := (hAll.1.2.1 f i ty _ hf0 hlf).1 c.toNatClampNeg (zgv sy.1 w σ f i)
  obtain ⟨-, k1, hk1, cm1, hkk1⟩ := (hAll.1.2.1 g j ty _ hg0 hlg).1 c.toNatClampNeg (zgv sy.1 w σ g j)
  obtain ⟨vm', X', step⟩ := X.arraycopy hx hown (hts _ w1) (hts _ w2) (hts _ w3) (hts _ w4) (src := w.1 f i) (dst := w.1 g j) (cs := arrV (w.2.2.2.1 f) c.toNatClampNeg (zgv sy.1 w σ f i)) (cd := arrV (w.2.2.2.1 g) c.toNatClampNeg (zgv sy.1 w σ g j)) (srcPos := 0) (destPos := 0) (n := c) (by rw [hT]; exact a1) (by rw [hT]; exact b1)
    (fun _ h => by cases h) (fun _ h => by cases h) (fun h => by cases h) (fun h => by cases h) hk0 hk1 hkk0 hkk1 (by simp [hprim]) (by decide) (by decide) hc1
    (by rw [nn, arrV_size]; simp) (by rw [nn, arrV_size]; simp)
    (fun vm₁ _ q hq => by
      have e : (arrV (w.2.2.2.1 f) c.toNatClampNeg (zgv sy.1 w σ f i)).slots.getD ((0 : Int32).toNatClampNeg + q) .null = zgv sy.1 w σ f i q := by
        rw [show (0 : Int32).toNatClampNeg + q = q by simp, Array.getD_eq_getD_getElem?, arrV_read _ _ hq]
        rfl
      refine ⟨?_, ?_⟩
      · rw [e]
        exact a2 hprim q
      · rw [e]
        unfold zgv
        rw [htf]
        exact trivial)
    (g := F0 m pc ls (.int c :: .int 0 :: .ref (w.1 g j) :: .int 0 :: .ref (w.1 f i) :: as.map (zc w))) rfl (by rw [hml]; exact hl.1) (rest := as.map (zc w)) rfl (by rw [hb]; exact hd) hfr (by
      show 2 * 0 + _ + _ ≤ _
      rw [List.map_map, show ((fun v : Value => v.category) ∘ zc w) = zcat from funext (zc_cat w)]
      omega)
  have e1 : copied (arrV (w.2.2.2.1 f) c.toNatClampNeg (zgv sy.1 w σ f i)) (arrV (w.2.2.2.1 g) c.toNatClampNeg (zgv sy.1 w σ g j)) 0 0 c = arrV (w.2.2.2.1 g) c.toNatClampNeg (zgv sy.1 w (zcpI σ f i g j c.toNatClampNeg) g j) := by
    refine (va_copied (fun z : Value => z) (w.2.2.2.1 f) (w.2.2.2.1 g) (zgv sy.1 w σ f i) (zgv sy.1 w σ g j) (sp := (0 : Int32).toNatClampNeg) (dp := (0 : Int32).toNatClampNeg) (by simp)).trans ?_
    congr 1
    funext k
    by_cases hk : k < c.toNatClampNeg
    · simp [va_cpy, hk, zgv, zcpI, htf, htg]
    · simp [va_cpy, hk, zgv, zcpI, htg]
  rw [e1] at X' step
  have hlt : w.1 g j < H.size := (Array.getElem?_eq_some_iff.mp b1).1
  have hheap : ((T.setVm vm').setCell (w.1 g j) (arrV (w.2.2.2.1 g) c.toNatClampNeg (zgv sy.1 w (zcpI σ f i g j c.toNatClampNeg) g j))).heap = H.setIfInBounds (w.1 g j) (arrV (w.2.2.2.1 g) c.toNatClampNeg (zgv sy.1 w (zcpI σ f i g j c.toNatClampNeg) g j)) := by rw [← hT]; rfl
  have oq : ∀ q : Nat, q ≠ w.1 g j → (H.setIfInBounds (w.1 g j) (arrV (w.2.2.2.1 g) c.toNatClampNeg (zgv sy.1 w (zcpI σ f i g j c.toNatClampNeg) g j)))[q]? = H[q]? := fun q hq => by simp [Array.getElem?_setIfInBounds, Ne.symm hq]
  obtain ⟨t, q1, q2⟩ := kk F h1 (zd (zd (zd (zd (zd h2))))) _ _ ls (hG.upd hAll.2.1.1 hlg (fun f' i' hne => by
      funext k
      have e : ¬ (f' = g ∧ i' = j ∧ k < c.toNatClampNeg) := fun z => hne ⟨z.1, z.2.1⟩
      simp only [zgv, zcpI, if_neg e]
      try rfl) oq (by
      unfold zAt
      rw [hg0]
      refine ⟨by simp [Array.getElem?_setIfInBounds, hlt], fun hk q => ?_⟩
      by_cases hq : q < c.toNatClampNeg
      · have e := a2 hk q
        simp only [zgv, htf] at e
        simp only [zgv, zcpI, htg, hq, and_self, if_true]
        exact e
      · have e := b2 hk q
        simp only [zgv, htg] at e
        simp only [zgv, zcpI, htg, hq, and_false, if_false]
        exact e)) ⟨by simp; exact hS.1, fun q g1 g2 => by
      rw [oq q (fun e => g2 (by rw [e]; exact zA_in hlg))]
      exact hS.2.1 q g1 g2, fun q hq => by
      rcases List.mem_append.mp hq with h | h
      · exact hS.2.2 q h
      · obtain ⟨z, -, hz⟩ := List.mem_map.mp h
        rw [← hz]
        exact zA_in hlg⟩ hl _ hheap X'
  exact ⟨t, step t q1, q2⟩
theorem z_copyL {f i g j n idx : Nat} {ty : FieldType} {c : Int32} (hlk0 : zac mt.1 idx) (hf0 : sy.1.1 f = .inr (ty, n)) (hg0 : sy.1.1 g = .inr (ty, n)) (htf : ∀ k, sy.1.2.1 f k = 1) (htg : ∀ k, sy.1.2.1 g k = 1) (hprim : refKind ty = false) (hcn : c.toNatClampNeg = n) (hc0 : decide (¬ c < 0) = true) (hfr : 1 ≤ (zrm mt.2.2.2.1).frames) (hloc : (as.map zcat).sum + (nativeFrameWords "java/lang/System" "arraycopy" 5 + 11) ≤ (zrm mt.2.2.2.1).locals) (hd : decode mt.2.1 pc = .ok (.invokestatic idx, 3)) (kk : zX sy mt K (pc + 3) al as (zcpL σ f i g j n)) : zX sy mt K pc al (zI c :: zI 0 :: zR g j :: zI 0 :: zR f i :: as) σ := by
  subst hcn
  have hc1 : ¬ c < 0 := of_decide_eq_true hc0
  obtain ⟨w, l, p, e, s, m, args, below, meth, c1, v, σ'⟩ := K
  intro F h1 h2 H locs ls hG hS hl
  obtain ⟨hx, hb, hml, hown, hts, hr, hlk, hAll⟩ := id F
  obtain ⟨w1, w2, w3, w4⟩ := hlk0
  have hlg : w.2.2.2.2 g j := zh (zd (zd h2))
  have hlf : w.2.2.2.2 f i := zh (zd (zd (zd (zd h2))))
  obtain ⟨a1, a2, a3⟩ := zarr hG hAll hlf hf0
  obtain ⟨b1, b2, b3⟩ := zarr hG hAll hlg hg0
  have nn : c.toInt = (c.toNatClampNeg : Int) := by
    have hz0 : (0 : Int) ≤ c.toInt := by
      have := Int32.not_lt.mp hc1
      simpa using Int32.le_iff_toInt_le.mp this
    show c.toInt = ((c.toInt.toNat : Nat) : Int)
    omega
  intro T hT X
  obtain ⟨-, k0, hk0, cm0, hkk0⟩ := (hAll.1.2.1 f i ty _ hf0 hlf).1 c.toNatClampNeg (zgv sy.1 w σ f i)
  obtain ⟨-, k1, hk1, cm1, hkk1⟩ := (hAll.1.2.1 g j ty _ hg0 hlg).1 c.toNatClampNeg (zgv sy.1 w σ g j)
  obtain ⟨vm', X', step⟩ := X.arraycopy hx hown (hts _ w1) (hts _ w2) (hts _ w3) (hts _ w4) (src := w.1 f i) (dst := w.1 g j) (cs := arrV (w.2.2.2.1 f) c.toNatClampNeg (zgv sy.1 w σ f i)) (cd := arrV (w.2.2.2.1 g) c.toNatClampNeg (zgv sy.1 w σ g j)) (srcPos := 0) (destPos := 0) (n := c) (by rw [hT]; exact a1) (by rw [hT]; exact b1)
    (fun _ h => by cases h) (fun _ h => by cases h) (fun h => by cases h) (fun h => by cases h) hk0 hk1 hkk0 hkk1 (by simp [hprim]) (by decide) (by decide) hc1
    (by rw [nn, arrV_size]; simp) (by rw [nn, arrV_size]; simp)
    (fun vm₁ _ q hq => by
      have e : (arrV (w.2.2.2.1 f) c.toNatClampNeg (zgv sy.1 w σ f i)).slots.getD ((0 : Int32).toNatClampNeg + q) .null = zgv sy.1 w σ f i q := by
        rw [show (0 : Int32).toNatClampNeg + q = q by simp, Array.getD_eq_getD_getElem?, arrV_read _ _ hq]
        rfl
      refine ⟨?_, ?_⟩
      · rw [e]
        exact a2 hprim q
      · rw [e]
        unfold zgv
        rw [htf]
        exact trivial)
    (g := F0 m pc ls (.int c :: .int 0 :: .ref (w.1 g j) :: .int 0 :: .ref (w.1 f i) :: as.map (zc w))) rfl (by rw [hml]; exact hl.1) (rest := as.map (zc w)) rfl (by rw [hb]; exact hd) hfr (by
      show 2 * 0 + _ + _ ≤ _
      rw [List.map_map, show ((fun v : Value => v.category) ∘ zc w) = zcat from funext (zc_cat w)]
      omega)
  have e1 : copied (arrV (w.2.2.2.1 f) c.toNatClampNeg (zgv sy.1 w σ f i)) (arrV (w.2.2.2.1 g) c.toNatClampNeg (zgv sy.1 w σ g j)) 0 0 c = arrV (w.2.2.2.1 g) c.toNatClampNeg (zgv sy.1 w (zcpL σ f i g j c.toNatClampNeg) g j) := by
    refine (va_copied (fun z : Value => z) (w.2.2.2.1 f) (w.2.2.2.1 g) (zgv sy.1 w σ f i) (zgv sy.1 w σ g j) (sp := (0 : Int32).toNatClampNeg) (dp := (0 : Int32).toNatClampNeg) (by simp)).trans ?_
    congr 1
    funext k
    by_cases hk : k < c.toNatClampNeg
    · simp [va_cpy, hk, zgv, zcpL, htf, htg]
    · simp [va_cpy, hk, zgv, zcpL, htg]
  rw [e1] at X' step
  have hlt : w.1 g j < H.size := (Array.getElem?_eq_some_iff.mp b1).1
  have hheap : ((T.setVm vm').setCell (w.1 g j) (arrV (w.2.2.2.1 g) c.toNatClampNeg (zgv sy.1 w (zcpL σ f i g j c.toNatClampNeg) g j))).heap = H.setIfInBounds (w.1 g j) (arrV (w.2.2.2.1 g) c.toNatClampNeg (zgv sy.1 w (zcpL σ f i g j c.toNatClampNeg) g j)) := by rw [← hT]; rfl
  have oq : ∀ q : Nat, q ≠ w.1 g j → (H.setIfInBounds (w.1 g j) (arrV (w.2.2.2.1 g) c.toNatClampNeg (zgv sy.1 w (zcpL σ f i g j c.toNatClampNeg) g j)))[q]? = H[q]? := fun q hq => by simp [Array.getElem?_setIfInBounds, Ne.symm hq]
  obtain ⟨t, q1, q2⟩ := kk F h1 (zd (zd (zd (zd (zd h2))))) _ _ ls (hG.upd hAll.2.1.1 hlg (fun f' i' hne => by
      funext k
      have e : ¬ (f' = g ∧ i' = j ∧ k < c.toNatClampNeg) := fun z => hne ⟨z.1, z.2.1⟩
      simp only [zgv, zcpL, if_neg e]
      try rfl) oq (by
      unfold zAt
      rw [hg0]
      refine ⟨by simp [Array.getElem?_setIfInBounds, hlt], fun hk q => ?_⟩
      by_cases hq : q < c.toNatClampNeg
      · have e := a2 hk q
        simp only [zgv, htf] at e
        simp only [zgv, zcpL, htg, hq, and_self, if_true]
        exact e
      · have e := b2 hk q
        simp only [zgv, htg] at e
        simp only [zgv, zcpL, htg, hq, and_false, if_false]
        exact e)) ⟨by simp; exact hS.1, fun q g1 g2 => by
      rw [oq q (fun e => g2 (by rw [e]; exact zA_in hlg))]
      exact hS.2.1 q g1 g2, fun q hq => by
      rcases List.mem_append.mp hq with h | h
      · exact hS.2.2 q h
      · obtain ⟨z, -, hz⟩ := List.mem_map.mp h
        rw [← hz]
        exact zA_in hlg⟩ hl _ hheap X'
  exact ⟨t, step t q1, q2⟩
end ZT
