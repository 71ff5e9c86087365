/-! THE CLAIM OUT OF ONE WALK OF THE LAW'S BODY. Your part is whole_start (and what it stands on); all else here is the same for every law, but numbers. -/
def R_law : String := "NobodyThereLaw"
def lw_P (b : Addr) (xs : List Int32) (args : Array Value) (s : State) : Prop := args = #[.ref b] ∧ s.IntsAt b xs ∧ xs.length ≤ 3072 ∧ (Jvm.Cond.and given_1 narrow_1).before args s = true
def lw_Q (_ : Array Value) (s : State) (o : Outcome) (t : State) : Prop := o = .returned (some (.int 1)) ∧ Framed s o t [] 600000 7302250
def lw_Z (below : List Frame) (a : Array Value) (s : State) : State → Prop := fun t => ∃ o, t.status = .running ∧ Ended t below o ∧ lw_Q a s o t
/-- the law's own end, with 1 on the stack, nothing written that was there before, its room as the claim has it -/
theorem lw_ret {p : Program} {l : Launch} {e : Env} {s : State} {m : MethodId} {below : List Frame} {meth : Method} {c : Code} {b : Nat} (hx : p.tables.exec = Jvm.exec) (hb : c.code = code) (hr : meth.sig.returnType = ret) (hlocks : meth.locks = false) {pc : Nat} {H : Heap} {ls : Array Slot} (hdg : decode code pc = .ok (.ireturn, 1)) : W p l e room_1 s m #[Value.ref b] below meth c H [] 600000 7302250 (lw_Z below #[Value.ref b] s) (F0 m pc ls [.int 1]) := by
  intro T hT X
  obtain ⟨fs, hret, hrun, hended, hW, hframe⟩ := X.leave (v := some (.int 1)) (hlocks := hlocks) (fun h => by rw [hr] at h; cases h)
  have hmeth' : T.vm.method? m = some meth := X.method'
  refine ⟨T.setFrames fs, ?_, .returned (some (.int 1)), hrun, hended, rfl, ⟨_, rfl⟩, hW, hframe⟩
  jvm_step X.here [X.here.top, hx, hb, hdg, hmeth', hr, ret, narrow_b1]
  (try refine ⟨rfl, ?_⟩); (try refine ⟨rfl, ?_⟩)
  first | (intro acts; rw [hret _ acts rfl rfl rfl]) | rw [hret _ _ rfl rfl rfl]
  exact Steps.refl _
/-- what holds at the law's entry: the machine, the code, the tables' words (any of lw_tbl by 'hts w (by decide +kernel)'), the script of L ints xs at the cell b, what the Statement gives of the start (any of its parts by flat_of_before) -/
def lw_At (p : Program) (s : State) (m : MethodId) (meth : Method) (c : Code) (b L : Nat) (xs : Nat → Int32) : Prop :=
  p.tables.exec = Jvm.exec ∧ c.code = code ∧ meth.sig.returnType = ret ∧ c.maxLocals = 4 ∧ s.vm.findClass R_law = some m.cls ∧ (∀ w ∈ lw_tbl, w.before #[Value.ref b] s = true) ∧ va_X b L xs s s.heap ∧ b < s.heap.size ∧ meth.locks = false ∧ (Jvm.Cond.and given_1 narrow_1).before #[Value.ref b] s = true

theorem ll_13 : Cond.methodLink R_law 13 yX11_state ∈ zTB := zW_at wC_2 238 rfl rfl
theorem ll_17 : Cond.methodLink R_law 17 yX12_state ∈ zTB := zW_at wC_6 198 rfl rfl
theorem ll_18 : Cond.methodLink R_law 18 yX11_bridge ∈ zTB := zW_at wC_3 6 rfl rfl
theorem ll_22 : Cond.methodLink R_law 22 yX12_bridge ∈ zTB := zW_at wC_6 206 rfl rfl
theorem ll_23 : Cond.methodLink R_law 23 yX11_set ∈ zTB := zW_at wC_3 11 rfl rfl
theorem ll_26 : Cond.methodLink R_law 26 yX12_set ∈ zTB := zW_at wC_6 213 rfl rfl
theorem ll_27 : Cond.methodLink R_law 27 yX11_step ∈ zTB := zW_at wC_3 23 rfl rfl
theorem ll_31 : Cond.methodLink R_law 31 yX12_step ∈ zTB := zW_at wC_7 155 rfl rfl
theorem ll_32 : Cond.methodLink R_law 32 yX11_feed ∈ zTB := zW_at wC_3 38 rfl rfl
theorem ll_36 : Cond.methodLink R_law 36 yX12_feed ∈ zTB := zW_at wC_6 217 rfl rfl
theorem ll_37 : Cond.methodLink R_law 37 yX11_end ∈ zTB := zW_at wC_3 46 rfl rfl
theorem ll_40 : Cond.methodLink R_law 40 yX12_end ∈ zTB := zW_at wC_6 221 rfl rfl
theorem ll_41 : Cond.methodLink R_law 41 yX11_text ∈ zTB := zW_at wC_3 50 rfl rfl
theorem ll_44 : Cond.methodLink R_law 44 yX12_text ∈ zTB := zW_at wC_6 225 rfl rfl
theorem ll_45 : Cond.methodLink R_law 45 yX11_fault ∈ zTB := zW_at wC_4 44 rfl rfl
theorem ll_48 : Cond.methodLink R_law 48 yX12_fault ∈ zTB := zW_at wC_7 147 rfl rfl
theorem ll_49 : Cond.methodLink R_law 49 yX11_minutes ∈ zTB := zW_at wC_4 48 rfl rfl
theorem ll_52 : Cond.methodLink R_law 52 yX12_minutes ∈ zTB := zW_at wC_7 163 rfl rfl
theorem ll_53 : Cond.methodLink R_law 53 yX11_shoot ∈ zTB := zW_at wC_4 70 rfl rfl
theorem ll_57 : Cond.methodLink R_law 57 yX12_shoot ∈ zTB := zW_at wC_7 185 rfl rfl
theorem ll_58 : Cond.methodLink R_law 58 yX11_of ∈ zTB := zW_at wC_4 154 rfl rfl
theorem ll_62 : Cond.methodLink R_law 62 yX12_of ∈ zTB := zW_at wC_7 238 rfl rfl
theorem ll_63 : Cond.methodLink R_law 63 yX11_where ∈ zTB := zW_at wC_4 165 rfl rfl
theorem ll_66 : Cond.methodLink R_law 66 yX12_where ∈ zTB := zW_at wC_8 10 rfl rfl
theorem ll_67 : Cond.methodLink R_law 67 yX11_stranger ∈ zTB := zW_at wC_4 170 rfl rfl
theorem ll_70 : Cond.methodLink R_law 70 yX12_stranger ∈ zTB := zW_at wC_8 17 rfl rfl
theorem ll_71 : Cond.methodLink R_law 71 yX11_covered ∈ zTB := zW_at wC_4 174 rfl rfl
theorem ll_75 : Cond.methodLink R_law 75 yX12_covered ∈ zTB := zW_at wC_8 21 rfl rfl
theorem ll_76 : Cond.methodLink R_law 76 yX11_at ∈ zTB := zW_at wC_4 180 rfl rfl
theorem ll_80 : Cond.methodLink R_law 80 yX12_at ∈ zTB := zW_at wC_8 30 rfl rfl
theorem ll_81 : Cond.methodLink R_law 81 yX11_worth ∈ zTB := zW_at wC_4 191 rfl rfl
theorem ll_84 : Cond.methodLink R_law 84 yX12_worth ∈ zTB := zW_at wC_8 34 rfl rfl
theorem ll_85 : Cond.methodLink R_law 85 yX11_shot ∈ zTB := zW_at wC_4 218 rfl rfl
theorem ll_88 : Cond.methodLink R_law 88 yX12_shot ∈ zTB := zW_at wC_8 46 rfl rfl
theorem ll_89 : Cond.methodLink R_law 89 yX11_book ∈ zTB := zW_at wC_4 227 rfl rfl
theorem ll_92 : Cond.methodLink R_law 92 yX12_book ∈ zTB := zW_at wC_8 62 rfl rfl
theorem ll_93 : Cond.methodLink R_law 93 yX11_waits ∈ zTB := zW_at wC_4 231 rfl rfl
theorem ll_96 : Cond.methodLink R_law 96 yX12_waits ∈ zTB := zW_at wC_8 70 rfl rfl
theorem ll_97 : Cond.methodLink R_law 97 yX11_row ∈ zTB := zW_at wC_5 4 rfl rfl
theorem ll_100 : Cond.methodLink R_law 100 yX12_row ∈ zTB := zW_at wC_8 78 rfl rfl
theorem ll_101 : Cond.methodLink R_law 101 yX11_best ∈ zTB := zW_at wC_5 12 rfl rfl
theorem ll_104 : Cond.methodLink R_law 104 yX12_best ∈ zTB := zW_at wC_8 82 rfl rfl
theorem ll_105 : Cond.methodLink R_law 105 yX11_steps ∈ zTB := zW_at wC_5 21 rfl rfl
theorem ll_108 : Cond.methodLink R_law 108 yX12_steps ∈ zTB := zW_at wC_8 86 rfl rfl
theorem ll_109 : Cond.methodLink R_law 109 yX11_laid ∈ zTB := zW_at wC_5 37 rfl rfl
theorem ll_112 : Cond.methodLink R_law 112 yX12_laid ∈ zTB := zW_at wC_8 93 rfl rfl
theorem ll_113 : Cond.methodLink R_law 113 yX11_fewest ∈ zTB := zW_at wC_5 59 rfl rfl
theorem ll_116 : Cond.methodLink R_law 116 yX12_fewest ∈ zTB := zW_at wC_8 109 rfl rfl
theorem ll_117 : Cond.methodLink R_law 117 yX11_never ∈ zTB := zW_at wC_5 81 rfl rfl
theorem ll_121 : Cond.methodLink R_law 121 yX12_never ∈ zTB := zW_at wC_8 128 rfl rfl
theorem ll_122 : Cond.methodLink R_law 122 yX11_most ∈ zTB := zW_at wC_5 90 rfl rfl
theorem ll_125 : Cond.methodLink R_law 125 yX12_most ∈ zTB := zW_at wC_8 132 rfl rfl
theorem ll_126 : Cond.methodLink R_law 126 yX11_middle ∈ zTB := zW_at wC_5 103 rfl rfl
theorem ll_129 : Cond.methodLink R_law 129 yX12_middle ∈ zTB := zW_at wC_8 136 rfl rfl
theorem ll_130 : Cond.methodLink R_law 130 yX11_sure ∈ zTB := zW_at wC_5 115 rfl rfl
theorem ll_133 : Cond.methodLink R_law 133 yX12_sure ∈ zTB := zW_at wC_8 144 rfl rfl
theorem ll_134 : Cond.methodLink R_law 134 yX11_exposed ∈ zTB := zW_at wC_5 123 rfl rfl
theorem ll_138 : Cond.methodLink R_law 138 yX12_exposed ∈ zTB := zW_at wC_8 152 rfl rfl
theorem ll_139 : Cond.methodLink R_law 139 yX11_ghosts ∈ zTB := zW_at wC_5 137 rfl rfl
theorem ll_142 : Cond.methodLink R_law 142 yX12_ghosts ∈ zTB := zW_at wC_8 160 rfl rfl
theorem ll_143 : Cond.methodLink R_law 143 yX11_nobody ∈ zTB := zW_at wC_5 150 rfl rfl
theorem ll_146 : Cond.methodLink R_law 146 yX12_nobody ∈ zTB := zW_at wC_8 164 rfl rfl
theorem ll_147 : Cond.methodLink R_law 147 yX11_copies ∈ zTB := zW_at wC_5 158 rfl rfl
theorem ll_150 : Cond.methodLink R_law 150 yX12_copies ∈ zTB := zW_at wC_8 169 rfl rfl
theorem ll_151 : Cond.methodLink R_law 151 yX11_enough ∈ zTB := zW_at wC_5 168 rfl rfl
theorem ll_154 : Cond.methodLink R_law 154 yX12_enough ∈ zTB := zW_at wC_8 173 rfl rfl
theorem ll_155 : Cond.methodLink R_law 155 yX11_hours ∈ zTB := zW_at wC_5 172 rfl rfl
theorem ll_158 : Cond.methodLink R_law 158 yX12_hours ∈ zTB := zW_at wC_8 178 rfl rfl
theorem ll_159 : Cond.methodLink R_law 159 yX11_judged ∈ zTB := zW_at wC_5 192 rfl rfl
theorem ll_162 : Cond.methodLink R_law 162 yX12_judged ∈ zTB := zW_at wC_8 182 rfl rfl
theorem ll_163 : Cond.methodLink R_law 163 yX11_whenShot ∈ zTB := zW_at wC_5 201 rfl rfl
theorem ll_166 : Cond.methodLink R_law 166 yX12_whenShot ∈ zTB := zW_at wC_8 190 rfl rfl
theorem ll_167 : Cond.methodLink R_law 167 yX11_stander ∈ zTB := zW_at wC_5 210 rfl rfl
theorem ll_170 : Cond.methodLink R_law 170 yX12_stander ∈ zTB := zW_at wC_8 194 rfl rfl
theorem ll_171 : Cond.methodLink R_law 171 yX11_with ∈ zTB := zW_at wC_5 219 rfl rfl
theorem ll_174 : Cond.methodLink R_law 174 yX12_with ∈ zTB := zW_at wC_8 202 rfl rfl
theorem ll_175 : Cond.methodLink R_law 175 yX11_twos ∈ zTB := zW_at wC_5 228 rfl rfl
theorem ll_178 : Cond.methodLink R_law 178 yX12_twos ∈ zTB := zW_at wC_8 210 rfl rfl
theorem ll_179 : Cond.methodLink R_law 179 yX11_two ∈ zTB := zW_at wC_6 2 rfl rfl
theorem ll_182 : Cond.methodLink R_law 182 yX12_two ∈ zTB := zW_at wC_8 217 rfl rfl
theorem ll_183 : Cond.methodLink R_law 183 yX11_paste ∈ zTB := zW_at wC_6 11 rfl rfl
theorem ll_186 : Cond.methodLink R_law 186 yX12_paste ∈ zTB := zW_at wC_8 221 rfl rfl
theorem ll_187 : Cond.methodLink R_law 187 yX11_picture ∈ zTB := zW_at wC_6 15 rfl rfl
theorem ll_190 : Cond.methodLink R_law 190 yX12_picture ∈ zTB := zW_at wC_8 225 rfl rfl
theorem ll_191 : Cond.methodLink R_law 191 yX11_undo ∈ zTB := zW_at wC_6 41 rfl rfl
theorem ll_195 : Cond.methodLink R_law 195 yX12_undo ∈ zTB := zW_at wC_7 151 rfl rfl
theorem ll_201 : Cond.methodLink R_law 201 yX11_look ∈ zTB := zW_at wC_6 71 rfl rfl
theorem ll_204 : Cond.methodLink R_law 204 yX12_look ∈ zTB := zW_at wC_9 17 rfl rfl
/-! THE LAW's walk: two worlds side by side -/
abbrev zKL : Type := Launch × Program × Env × State × MethodId × List Frame × Method × Code × Nat × Nat × (Nat → Int32)
def zLF (K : zKL) (wM : zW) : Prop := match K with
  | (_, p, _, s, m, _, meth, c, b, L, xs) => lw_At p s m meth c b L xs ∧ L ≤ 3072 ∧ zAll zsyM wM s ∧ wM.2.2.2.2 0 0 ∧ (∀ q, zA wM q → s.heap.size ≤ q)
def zLC (K : zKL) (wM wC : zW) : Prop := match K with
  | (_, _, _, s, _, _, _, _, _, _, _) => zAll zsyC wC s ∧ wC.2.2.2.2 0 0 ∧ (∀ q, zA wC q → s.heap.size ≤ q) ∧ (∀ q, zA wC q → ¬ zA wM q)
def zLL (K : zKL) (wM wC : zW) (cs ss : Nat) (pc : Nat) (al : List (Nat × Value)) (as : List Value) (σc σm : zG) : Prop := match K with
  | (l, p, e, s, m, below, meth, c, b, _, _) => ∀ (H : Heap) (locs : List Loc) (ls : Array Slot), zGW zlyC wC σc H → zGW zlyM wM σm H → va_S (fun q => s.heap.size ≤ q) s.heap H locs → lv_has ls 4 al →
    W p l e room_1 s m #[Value.ref b] below meth c H locs cs ss (lw_Z below #[Value.ref b] s) (F0 m pc ls as)
/-- the law's locals -/
def zal (K : zKL) (wM wC : zW) (n : Nat) : List (Nat × Value) := [(0, .ref K.2.2.2.2.2.2.2.2.1), (1, .ref (wC.1 0 0)), (2, .ref (wM.1 0 0)), (3, .int (nI n))]
theorem zGW.kept {ly : zLy} {w : zW} {σ : zG} {H H1 : Heap} (h : zGW ly w σ H) (hq : ∀ q, zA w q → H1[q]? = H[q]?) : zGW ly w σ H1 := by
  intro f i hlv
  have h0 := h f i hlv
  have e := hq _ (zA_in hlv)
  unfold zAt at h0 ⊢
  cases hk : ly.1 f with
  | inl ci =>
    rw [hk] at h0
    obtain ⟨r, h1, h2⟩ := h0
    exact ⟨r, h1, h2.kept e⟩
  | inr t =>
    rw [hk] at h0
    exact ⟨e.trans h0.1, h0.2⟩
theorem zGW.lt {ly : zLy} {w : zW} {σ : zG} {H : Heap} (h : zGW ly w σ H) {q : Nat} (hq : zA w q) : q < H.size := by
  obtain ⟨f, i, hlv, rfl⟩ := hq
  have h0 := h f i hlv
  unfold zAt at h0
  cases hk : ly.1 f with
  | inl ci =>
    rw [hk] at h0
    obtain ⟨r, h1, cell, h2, -⟩ := h0
    exact (Array.getElem?_eq_some_iff.mp h2).1
  | inr t =>
    rw [hk] at h0
    exact (Array.getElem?_eq_some_iff.mp h0.1).1
section ZLW
variable {K : zKL} {wM wC : zW} {cs ss pc n : Nat} {as : List Value} {σc σm : zG}
theorem l_aload {k0 : Fin 4} (j : Nat) {a : Nat} (hF : zLF K wM) (hd : decode code pc = .ok (.aload_n k0, 1)) (hj : (zal K wM wC n)[(k0 : Nat)]? = some ((k0 : Nat), .ref a)) (k : zLL K wM wC cs ss (pc + 1) (zal K wM wC n) (.ref a :: as) σc σm) : zLL K wM wC cs ss pc (zal K wM wC n) as σc σm := by
  obtain ⟨l, p, e, s, m, below, meth, c, b, L, xs⟩ := K
  intro H locs ls hC hM hS hl
  obtain ⟨⟨hx, hb, hr, hml, hown, hts, hX, hbl, hlocks, hgv⟩, -⟩ := id hF
  exact lv_aload_n hx hb hd rfl (lv_at hl (k0 : Nat) hj) (k H locs ls hC hM hS hl)
/-- script[i + k] -/
theorem l_arg (k : Nat) {kz : Int} {kv : Int32} (hF : zLF K wM) (h6 : n + 6 ≤ K.2.2.2.2.2.2.2.2.2.1) (hk : k < 6) (hkv : Int32.ofInt kz = nI k) (d0 : decode code pc = .ok (.aload_n 0, 1)) (d1 : decode code (pc + 1) = .ok (.iload_n 3, 1)) (d2 : decode code (pc + 2) = .ok (.iconst kz, 1)) (d3 : decode code (pc + 3) = .ok (.iadd, 1)) (d4 : decode code (pc + 4) = .ok (.iaload, 1))
    (kk : zLL K wM wC cs ss (pc + 5) (zal K wM wC n) (.int (K.2.2.2.2.2.2.2.2.2.2 (n + k)) :: as) σc σm) : zLL K wM wC cs ss pc (zal K wM wC n) as σc σm := by
  obtain ⟨l, p, e, s, m, below, meth, c, b, L, xs⟩ := K
  intro H locs ls hC hM hS hl
  obtain ⟨⟨hx, hb, hr, hml, hown, hts, hX, hbl, hlocks, hgv⟩, hL, -⟩ := id hF
  change n + 6 ≤ L at h6
  refine lv_aload_n hx hb d0 rfl (lv_at hl 0 rfl) ?_
  refine lv_iload_n hx hb d1 rfl (lv_at hl 3 rfl) ?_
  refine lv_iconst hx hb d2 hkv ?_
  refine lv_iadd hx hb d3 ?_
  rw [nI_add]
  refine va_sld hx hb hX hbl (Nat.not_le.mpr hbl) hS (vp_in_nI (by omega) (by omega)) d4 ?_
  rw [nI_clamp (by omega)]
  exact kk H locs ls hC hM hS hl
theorem zrunL {p : Program} {l : Launch} {e : Env} {R : Room} {s : State} {m : MethodId} {args : Array Value} {below : List Frame} {meth : Method} {c : Code} {H H0 : Heap} {locs : List Loc} {Q : State → Prop} {ls : Array Slot} {st0 rest : List Value} {ly : zLy} {w : zW} {v1 : Option zV} {σ1 : zG} {A : Nat → Prop} (hA : ∀ q, zA w q → A q)
    (hr : va_Run p l e R s m args below meth c H locs cs ss 0 0 (F0 m pc ls st0) rest (fun st oc t => (oc = .returned (v1.map (zc w)) ∧ zGW ly w σ1 t.heap ∧ ∀ a, v1 = some a → zok w a) ∧ va_F (zA w) st t) (zA w)) (hS : va_S A H0 H locs)
    (kk : ∀ (H1 : Heap) (locs1 : List Loc), zGW ly w σ1 H1 → (∀ q, q < H.size → ¬ zA w q → H1[q]? = H[q]?) → va_S A H0 H1 locs1 → W p l e R s m args below meth c H1 locs1 cs ss Q (F0 m (pc + 3) ls ((v1.map (zc w)).toList ++ rest))) : W p l e R s m args below meth c H locs cs ss Q (F0 m pc ls st0) := by
  intro T hT X
  obtain ⟨v, st₀, t, T', L, h0, X', hL, e1, e2, ⟨⟨hv, hG, hok⟩, hz, hk⟩, st⟩ := hr T hT X
  cases hv
  rw [h0] at hz hk
  obtain ⟨t2, a1, b1⟩ := kk T'.heap (locs ++ L) (by rw [e1]; exact hG) (fun q h1 h2 => by rw [e1]; exact hk q h1 h2)
    ⟨Nat.le_trans hS.1 (by rw [e1]; exact hz), fun q h1 h2 => by rw [e1, hk q (Nat.lt_of_lt_of_le h1 hS.1) (fun z => h2 (hA q z))]; exact hS.2.1 q h1 h2, fun q hq => by
      rcases List.mem_append.mp hq with h | h
      · exact hS.2.2 q h
      · exact hA _ (hL q h)⟩ T' rfl X'
  exact ⟨t2, st t2 a1, b1⟩
theorem zallL {sy : zSy} {w : zW} {s : State} {H : Heap} {locs : List Loc} {σ : zG} {av : List zV} (hA : ∀ q, zA w q → s.heap.size ≤ q) (hAll : zAll sy w s) (hG : zGW sy.1 w σ H) (hS : va_S (fun q => s.heap.size ≤ q) s.heap H locs) : ∀ U : State, U.heap = H → s.WarmedH U.vm → va_Pc (av.map (zc w)) (fun U => zGW sy.1 w σ U.heap ∧ zAll sy w U) (av.map (zc w)).toArray U := fun U hU hW => ⟨rfl, by rw [hU]; exact hG, hAll.warm hW (fun q h1 _ => by rw [hU]; exact hS.2.1 q h1 (Nat.not_le.mpr h1))⟩
theorem l_callC {idx na : Nat} {y : MethodName} {mt' : zMT} {av : List zV} {rest st st2 : List Value} {v1 : Option zV} {σ1 : zG} {r : vw_C} (hF : zLF K wM) (hCF : zLC K wM wC) (hav : ∀ w : zW, ∀ a ∈ av, zok w a) (hM0 : ∀ l, zMet l zsyC mt' y (zR 0 0 :: av) σc v1 σ1) (hc : zcV y mt' na) (hlk0 : Cond.methodLink R_law idx y ∈ zTB) (hcl : vwCl[11]? = some r) (hry : r.1 = y.cls) (hlen : av.length = na) (hst : st = (av.reverse.map (zc wC)) ++ .ref (wC.1 0 0) :: rest) (hst2 : st2 = (v1.map (zc wC)).toList ++ rest) (hroom : (rest.map fun v => v.category).sum ≤ 8) (hR : mt'.2.2.2.1 + 1 ≤ 2048 ∧ 8 + (mt'.2.2.1 + 11) + 64 * mt'.2.2.2.1 ≤ 84000) (hcs : cs ≤ 600000 ∧ ss ≤ 7302250)
    (hd : decode code pc = .ok (.invokevirtual idx, 3)) (kk : zLL K wM wC cs ss (pc + 3) (zal K wM wC n) st2 σ1 σm) : zLL K wM wC cs ss pc (zal K wM wC n) st σc σm := by
  subst hst
  subst hst2
  obtain ⟨l, p, e, s, m, below, meth, c, b, L, xs⟩ := K
  intro H locs ls hC hM hS hl
  obtain ⟨⟨hx, hb, hr, hml, hown, hts, hX, hbl, hlocks, hgv⟩, hL, hAM, hM1, hM2⟩ := id hF
  obtain ⟨hAC, hC1, hC2, hC3⟩ := id hCF
  obtain ⟨⟨hini, hcode, hy1, hy2, hlenY⟩, hinst, hsel⟩ := hc
  have htz : ∀ w ∈ zTB, w.before #[Value.ref b] s = true := fun w hw => hts w (List.mem_filter.mp hw).1
  have hav2 : ∀ a ∈ zR 0 0 :: av, zok wC a := fun a ha => by
    rcases List.mem_cons.mp ha with h | h
    · rw [h]; exact hC1
    · exact hav wC a h
  have hat := hC 0 0 hC1
  unfold zAt at hat
  rw [show zlyC.1 0 = .inl 11 from rfl] at hat
  obtain ⟨r', h3, cell, q1, q2, q3, q4⟩ := hat
  obtain ⟨-, hfc, -⟩ := hAC.1.1 11 _ hcl
  rw [hry] at hfc
  refine zrunL (w := wC) (ly := zlyC) hC2 (va_runV (g := F0 m pc ls ((av.reverse.map (zc wC)) ++ .ref (wC.1 0 0) :: rest)) (rest := rest) (As := av.map (zc wC)) (b := wC.1 0 0) (C := y.cls) ⟨hx, hb, hml, hown, htz⟩ (hM0 l wC hav2) ⟨callB_of na htz (zGood hcode) rfl rfl rfl (htz _ hini) (htz _ hlk0) ⟨hy1, hy2, hlenY⟩ hR, htz _ hinst, htz _ hsel⟩ ⟨zblind, ⟨cell, q1, by rw [q3]; rfl, by rw [q2]; exact hfc⟩, zallL (sy := zsyC) (av := zR 0 0 :: av) hC2 hAC hC hS⟩ rfl (by rw [List.length_map]; exact hlen) hl.1 (by show _ = (av.map (zc wC)).reverse ++ _; rw [List.map_reverse]) (lv_room hroom) hd ⟨hcs.1, hcs.2⟩) hS (fun H1 locs1 hG1 hk1 hS1 => ?_)
  exact kk H1 locs1 ls hG1 (hM.kept (fun q hq => hk1 q (hM.lt hq) (fun z => hC3 q z hq))) hS1 hl
theorem l_callM {idx na : Nat} {y : MethodName} {mt' : zMT} {av : List zV} {rest st st2 : List Value} {v1 : Option zV} {σ1 : zG} {r : vw_C} (hF : zLF K wM) (hCF : zLC K wM wC) (hav : ∀ w : zW, ∀ a ∈ av, zok w a) (hM0 : ∀ l, zMet l zsyM mt' y (zR 0 0 :: av) σm v1 σ1) (hc : zcV y mt' na) (hlk0 : Cond.methodLink R_law idx y ∈ zTB) (hcl : vwCl[12]? = some r) (hry : r.1 = y.cls) (hlen : av.length = na) (hst : st = (av.reverse.map (zc wM)) ++ .ref (wM.1 0 0) :: rest) (hst2 : st2 = (v1.map (zc wM)).toList ++ rest) (hroom : (rest.map fun v => v.category).sum ≤ 8) (hR : mt'.2.2.2.1 + 1 ≤ 2048 ∧ 8 + (mt'.2.2.1 + 11) + 64 * mt'.2.2.2.1 ≤ 84000) (hcs : cs ≤ 600000 ∧ ss ≤ 7302250)
    (hd : decode code pc = .ok (.invokevirtual idx, 3)) (kk : zLL K wM wC cs ss (pc + 3) (zal K wM wC n) st2 σc σ1) : zLL K wM wC cs ss pc (zal K wM wC n) st σc σm := by
  subst hst
  subst hst2
  obtain ⟨l, p, e, s, m, below, meth, c, b, L, xs⟩ := K
  intro H locs ls hC hM hS hl
  obtain ⟨⟨hx, hb, hr, hml, hown, hts, hX, hbl, hlocks, hgv⟩, hL, hAM, hM1, hM2⟩ := id hF
  obtain ⟨hAC, hC1, hC2, hC3⟩ := id hCF
  obtain ⟨⟨hini, hcode, hy1, hy2, hlenY⟩, hinst, hsel⟩ := hc
  have htz : ∀ w ∈ zTB, w.before #[Value.ref b] s = true := fun w hw => hts w (List.mem_filter.mp hw).1
  have hav2 : ∀ a ∈ zR 0 0 :: av, zok wM a := fun a ha => by
    rcases List.mem_cons.mp ha with h | h
    · rw [h]; exact hM1
    · exact hav wM a h
  have hat := hM 0 0 hM1
  unfold zAt at hat
  rw [show zlyM.1 0 = .inl 12 from rfl] at hat
  obtain ⟨r', h3, cell, q1, q2, q3, q4⟩ := hat
  obtain ⟨-, hfc, -⟩ := hAM.1.1 12 _ hcl
  rw [hry] at hfc
  refine zrunL (w := wM) (ly := zlyM) hM2 (va_runV (g := F0 m pc ls ((av.reverse.map (zc wM)) ++ .ref (wM.1 0 0) :: rest)) (rest := rest) (As := av.map (zc wM)) (b := wM.1 0 0) (C := y.cls) ⟨hx, hb, hml, hown, htz⟩ (hM0 l wM hav2) ⟨callB_of na htz (zGood hcode) rfl rfl rfl (htz _ hini) (htz _ hlk0) ⟨hy1, hy2, hlenY⟩ hR, htz _ hinst, htz _ hsel⟩ ⟨zblind, ⟨cell, q1, by rw [q3]; rfl, by rw [q2]; exact hfc⟩, zallL (sy := zsyM) (av := zR 0 0 :: av) hM2 hAM hM hS⟩ rfl (by rw [List.length_map]; exact hlen) hl.1 (by show _ = (av.map (zc wM)).reverse ++ _; rw [List.map_reverse]) (lv_room hroom) hd ⟨hcs.1, hcs.2⟩) hS (fun H1 locs1 hG1 hk1 hS1 => ?_)
  exact kk H1 locs1 ls (hC.kept (fun q hq => hk1 q (hC.lt hq) (fun z => hC3 q hq z))) hG1 hS1 hl
theorem l_eqI {r : Int32} {off : Int} (tgt : Nat) (hF : zLF K wM) (hd : decode code pc = .ok (.if_icmp .eq off, 3)) (ht : (pc : Int) + off = (tgt : Int)) (kk : zLL K wM wC cs ss tgt (zal K wM wC n) as σc σm) : zLL K wM wC cs ss pc (zal K wM wC n) (.int r :: .int r :: as) σc σm := by
  obtain ⟨l, p, e, s, m, below, meth, c, b, L, xs⟩ := K
  intro H locs ls hC hM hS hl
  obtain ⟨⟨hx, hb, -⟩, -⟩ := id hF
  exact lv_icmp_eq hx hb hd ht (fun _ => kk H locs ls hC hM hS hl) (fun h => absurd rfl h)
theorem l_eqL {r : Int64} {off : Int} (tgt : Nat) (hF : zLF K wM) (hd0 : decode code pc = .ok (.lcmp, 1)) (hd : decode code (pc + 1) = .ok (.ifCond .eq off, 3)) (ht : ((pc + 1 : Nat) : Int) + off = (tgt : Int)) (kk : zLL K wM wC cs ss tgt (zal K wM wC n) as σc σm) : zLL K wM wC cs ss pc (zal K wM wC n) (.long r :: .long r :: as) σc σm := by
  obtain ⟨l, p, e, s, m, below, meth, c, b, L, xs⟩ := K
  intro H locs ls hC hM hS hl
  obtain ⟨⟨hx, hb, -⟩, -⟩ := id hF
  refine W.lcmp hx hb hd0 ?_
  have e0 : lg_cmp r r = 0 := by
    unfold lg_cmp
    simp
  exact lv_if_eq hx hb hd ht (fun _ => kk H locs ls hC hM hS hl) (fun h => absurd e0 h)
end ZLW

def Lh_law : List (Nat × Instr × Nat) := [(0, .new 7, 3), (3, .dup, 1), (4, .invokespecial 9, 3), (7, .astore_n 1, 1), (8, .new 10, 3), (11, .dup, 1), (12, .invokespecial 12, 3), (15, .astore_n 2, 1), (16, .iconst 0, 1), (17, .istore_n 3, 1), (18, .iload_n 3, 1), (19, .aload_n 0, 1), (20, .arraylength, 1), (21, .bipush 6, 2), (23, .isub, 1), (24, .if_icmp .gt 1537, 3), (27, .aload_n 0, 1), (28, .iload_n 3, 1), (29, .iaload, 1), (30, .bipush 63, 2), (32, .iand, 1), (33, .tableswitch 1522 0 44 #[195, 218, 251, 284, 307, 370, 393, 416, 439, 462, 475, 508, 541, 574, 598, 641, 664, 697, 740, 753, 776, 799, 832, 856, 879, 913, 937, 970, 1004, 1057, 1091, 1114, 1147, 1180, 1223, 1256, 1289, 1312, 1345, 1368, 1391, 1424, 1447, 1460, 1499], 195), (1555, .iinc 3 6, 3), (1558, .goto (-1540), 3), (1561, .iconst 1, 1), (1562, .ireturn, 1)]
set_option maxRecDepth 100000 in
theorem DLh_law : zdecs code Lh_law = true := by decide +kernel
def Lc0_law : List (Nat × Instr × Nat) := [(228, .aload_n 1, 1), (229, .aload_n 0, 1), (230, .iload_n 3, 1), (231, .iconst 1, 1), (232, .iadd, 1), (233, .iaload, 1), (234, .invokevirtual 13, 3), (237, .aload_n 2, 1), (238, .aload_n 0, 1), (239, .iload_n 3, 1), (240, .iconst 1, 1), (241, .iadd, 1), (242, .iaload, 1), (243, .invokevirtual 17, 3), (246, .if_icmp .eq 1309, 3), (249, .iconst 0, 1), (250, .ireturn, 1)]
set_option maxRecDepth 100000 in
theorem DLc0_law : zdecs code Lc0_law = true := by decide +kernel
def PR_state (Rel : zG → zG → Prop) : Prop := ∀ (x1 : Int32) (σc σm : zG), Rel σc σm → ∃ (r : Int32) (sc : zG) (sm : zG), f_X11_state x1 σc = (r, sc) ∧ f_X12_state x1 σm = some (r, sm) ∧ Rel sc sm
set_option maxRecDepth 100000 in
set_option maxHeartbeats 4000000 in
theorem law_0 (Rel : zG → zG → Prop) (hp : PR_state Rel) {K : zKL} {wM wC : zW} {cs ss n : Nat} {σc σm : zG} (hF : zLF K wM) (hCF : zLC K wM wC) (h6 : n + 6 ≤ K.2.2.2.2.2.2.2.2.2.1) (hcs : cs ≤ 600000 ∧ ss ≤ 7302250) (hrel : Rel σc σm) (next : ∀ sc sm, Rel sc sm → zLL K wM wC cs ss 1555 (zal K wM wC n) [] sc sm) : zLL K wM wC cs ss 228 (zal K wM wC n) [] σc σm := by
  obtain ⟨r, sc, sm, e1, e2, hrel2⟩ := hp (K.2.2.2.2.2.2.2.2.2.2 (n + 1)) σc σm hrel
  refine l_aload (pc := 228) 1 hF (zdg DLc0_law 0 (228, .aload_n 1, 1) rfl) rfl ?_
  refine l_arg (pc := 229) 1 hF h6 (by decide) rfl (zdg DLc0_law 1 (229, .aload_n 0, 1) rfl) (zdg DLc0_law 2 (230, .iload_n 3, 1) rfl) (zdg DLc0_law 3 (231, .iconst 1, 1) rfl) (zdg DLc0_law 4 (232, .iadd, 1) rfl) (zdg DLc0_law 5 (233, .iaload, 1) rfl) ?_
  refine l_callC (pc := 234) (av := [zI (K.2.2.2.2.2.2.2.2.2.2 (n + 1))]) (rest := []) (st2 := [.int r]) (v1 := (some (zI r))) (σ1 := sc) hF hCF (fun w a ha => by simp at ha; rcases ha with rfl <;> trivial) (fun l => by have h := c_X11_state l (K.2.2.2.2.2.2.2.2.2.2 (n + 1)) σc; rw [e1] at h; exact h) zv_X11_state ll_13 rfl rfl rfl rfl rfl (by decide) ⟨by decide, by decide⟩ hcs (zdg DLc0_law 6 (234, .invokevirtual 13, 3) rfl) ?_
  refine l_aload (pc := 237) 2 hF (zdg DLc0_law 7 (237, .aload_n 2, 1) rfl) rfl ?_
  refine l_arg (pc := 238) 1 hF h6 (by decide) rfl (zdg DLc0_law 8 (238, .aload_n 0, 1) rfl) (zdg DLc0_law 9 (239, .iload_n 3, 1) rfl) (zdg DLc0_law 10 (240, .iconst 1, 1) rfl) (zdg DLc0_law 11 (241, .iadd, 1) rfl) (zdg DLc0_law 12 (242, .iaload, 1) rfl) ?_
  refine l_callM (pc := 243) (av := [zI (K.2.2.2.2.2.2.2.2.2.2 (n + 1))]) (rest := [.int r]) (st2 := [.int r, .int r]) (v1 := (some (zI r))) (σ1 := sm) hF hCF (fun w a ha => by simp at ha; rcases ha with rfl <;> trivial) (fun l => by have h := c_X12_state l (K.2.2.2.2.2.2.2.2.2.2 (n + 1)) σm (r, sm) e2; exact h) zv_X12_state ll_17 rfl rfl rfl rfl rfl (by decide) ⟨by decide, by decide⟩ hcs (zdg DLc0_law 13 (243, .invokevirtual 17, 3) rfl) ?_
  refine l_eqI (pc := 246) 1555 hF (zdg DLc0_law 14 (246, .if_icmp .eq 1309, 3) rfl) rfl ?_
  exact next sc sm hrel2
def Lc1_law : List (Nat × Instr × Nat) := [(251, .aload_n 1, 1), (252, .aload_n 0, 1), (253, .iload_n 3, 1), (254, .iconst 1, 1), (255, .iadd, 1), (256, .iaload, 1), (257, .aload_n 0, 1), (258, .iload_n 3, 1), (259, .iconst 2, 1), (260, .iadd, 1), (261, .iaload, 1), (262, .invokevirtual 18, 3), (265, .aload_n 2, 1), (266, .aload_n 0, 1), (267, .iload_n 3, 1), (268, .iconst 1, 1), (269, .iadd, 1), (270, .iaload, 1), (271, .aload_n 0, 1), (272, .iload_n 3, 1), (273, .iconst 2, 1), (274, .iadd, 1), (275, .iaload, 1), (276, .invokevirtual 22, 3), (279, .if_icmp .eq 1276, 3), (282, .iconst 0, 1), (283, .ireturn, 1)]
set_option maxRecDepth 100000 in
theorem DLc1_law : zdecs code Lc1_law = true := by decide +kernel
def PR_bridge (Rel : zG → zG → Prop) : Prop := ∀ (x1 x2 : Int32) (σc σm : zG), Rel σc σm → ∃ (r : Int32) (sc : zG) (sm : zG), f_X11_bridge x1 x2 σc = (r, sc) ∧ f_X12_bridge x1 x2 σm = some (r, sm) ∧ Rel sc sm
set_option maxRecDepth 100000 in
set_option maxHeartbeats 4000000 in
theorem law_1 (Rel : zG → zG → Prop) (hp : PR_bridge Rel) {K : zKL} {wM wC : zW} {cs ss n : Nat} {σc σm : zG} (hF : zLF K wM) (hCF : zLC K wM wC) (h6 : n + 6 ≤ K.2.2.2.2.2.2.2.2.2.1) (hcs : cs ≤ 600000 ∧ ss ≤ 7302250) (hrel : Rel σc σm) (next : ∀ sc sm, Rel sc sm → zLL K wM wC cs ss 1555 (zal K wM wC n) [] sc sm) : zLL K wM wC cs ss 251 (zal K wM wC n) [] σc σm := by
  obtain ⟨r, sc, sm, e1, e2, hrel2⟩ := hp (K.2.2.2.2.2.2.2.2.2.2 (n + 1)) (K.2.2.2.2.2.2.2.2.2.2 (n + 2)) σc σm hrel
  refine l_aload (pc := 251) 1 hF (zdg DLc1_law 0 (251, .aload_n 1, 1) rfl) rfl ?_
  refine l_arg (pc := 252) 1 hF h6 (by decide) rfl (zdg DLc1_law 1 (252, .aload_n 0, 1) rfl) (zdg DLc1_law 2 (253, .iload_n 3, 1) rfl) (zdg DLc1_law 3 (254, .iconst 1, 1) rfl) (zdg DLc1_law 4 (255, .iadd, 1) rfl) (zdg DLc1_law 5 (256, .iaload, 1) rfl) ?_
  refine l_arg (pc := 257) 2 hF h6 (by decide) rfl (zdg DLc1_law 6 (257, .aload_n 0, 1) rfl) (zdg DLc1_law 7 (258, .iload_n 3, 1) rfl) (zdg DLc1_law 8 (259, .iconst 2, 1) rfl) (zdg DLc1_law 9 (260, .iadd, 1) rfl) (zdg DLc1_law 10 (261, .iaload, 1) rfl) ?_
  refine l_callC (pc := 262) (av := [zI (K.2.2.2.2.2.2.2.2.2.2 (n + 1)), zI (K.2.2.2.2.2.2.2.2.2.2 (n + 2))]) (rest := []) (st2 := [.int r]) (v1 := (some (zI r))) (σ1 := sc) hF hCF (fun w a ha => by simp at ha; rcases ha with rfl | rfl <;> trivial) (fun l => by have h := c_X11_bridge l (K.2.2.2.2.2.2.2.2.2.2 (n + 1)) (K.2.2.2.2.2.2.2.2.2.2 (n + 2)) σc; rw [e1] at h; exact h) zv_X11_bridge ll_18 rfl rfl rfl rfl rfl (by decide) ⟨by decide, by decide⟩ hcs (zdg DLc1_law 11 (262, .invokevirtual 18, 3) rfl) ?_
  refine l_aload (pc := 265) 2 hF (zdg DLc1_law 12 (265, .aload_n 2, 1) rfl) rfl ?_
  refine l_arg (pc := 266) 1 hF h6 (by decide) rfl (zdg DLc1_law 13 (266, .aload_n 0, 1) rfl) (zdg DLc1_law 14 (267, .iload_n 3, 1) rfl) (zdg DLc1_law 15 (268, .iconst 1, 1) rfl) (zdg DLc1_law 16 (269, .iadd, 1) rfl) (zdg DLc1_law 17 (270, .iaload, 1) rfl) ?_
  refine l_arg (pc := 271) 2 hF h6 (by decide) rfl (zdg DLc1_law 18 (271, .aload_n 0, 1) rfl) (zdg DLc1_law 19 (272, .iload_n 3, 1) rfl) (zdg DLc1_law 20 (273, .iconst 2, 1) rfl) (zdg DLc1_law 21 (274, .iadd, 1) rfl) (zdg DLc1_law 22 (275, .iaload, 1) rfl) ?_
  refine l_callM (pc := 276) (av := [zI (K.2.2.2.2.2.2.2.2.2.2 (n + 1)), zI (K.2.2.2.2.2.2.2.2.2.2 (n + 2))]) (rest := [.int r]) (st2 := [.int r, .int r]) (v1 := (some (zI r))) (σ1 := sm) hF hCF (fun w a ha => by simp at ha; rcases ha with rfl | rfl <;> trivial) (fun l => by have h := c_X12_bridge l (K.2.2.2.2.2.2.2.2.2.2 (n + 1)) (K.2.2.2.2.2.2.2.2.2.2 (n + 2)) σm (r, sm) e2; exact h) zv_X12_bridge ll_22 rfl rfl rfl rfl rfl (by decide) ⟨by decide, by decide⟩ hcs (zdg DLc1_law 23 (276, .invokevirtual 22, 3) rfl) ?_
  refine l_eqI (pc := 279) 1555 hF (zdg DLc1_law 24 (279, .if_icmp .eq 1276, 3) rfl) rfl ?_
  exact next sc sm hrel2
def Lc2_law : List (Nat × Instr × Nat) := [(284, .aload_n 1, 1), (285, .aload_n 0, 1), (286, .iload_n 3, 1), (287, .iconst 1, 1), (288, .iadd, 1), (289, .iaload, 1), (290, .aload_n 0, 1), (291, .iload_n 3, 1), (292, .iconst 2, 1), (293, .iadd, 1), (294, .iaload, 1), (295, .invokevirtual 23, 3), (298, .aload_n 2, 1), (299, .aload_n 0, 1), (300, .iload_n 3, 1), (301, .iconst 1, 1), (302, .iadd, 1), (303, .iaload, 1), (304, .aload_n 0, 1), (305, .iload_n 3, 1), (306, .iconst 2, 1), (307, .iadd, 1), (308, .iaload, 1), (309, .invokevirtual 26, 3), (312, .if_icmp .eq 1243, 3), (315, .iconst 0, 1), (316, .ireturn, 1)]
set_option maxRecDepth 100000 in
theorem DLc2_law : zdecs code Lc2_law = true := by decide +kernel
def PR_set (Rel : zG → zG → Prop) : Prop := ∀ (x1 x2 : Int32) (σc σm : zG), Rel σc σm → ∃ (r : Int32) (sc : zG) (sm : zG), f_X11_set x1 x2 σc = some (r, sc) ∧ f_X12_set x1 x2 σm = some (r, sm) ∧ Rel sc sm
set_option maxRecDepth 100000 in
set_option maxHeartbeats 4000000 in
theorem law_2 (Rel : zG → zG → Prop) (hp : PR_set Rel) {K : zKL} {wM wC : zW} {cs ss n : Nat} {σc σm : zG} (hF : zLF K wM) (hCF : zLC K wM wC) (h6 : n + 6 ≤ K.2.2.2.2.2.2.2.2.2.1) (hcs : cs ≤ 600000 ∧ ss ≤ 7302250) (hrel : Rel σc σm) (next : ∀ sc sm, Rel sc sm → zLL K wM wC cs ss 1555 (zal K wM wC n) [] sc sm) : zLL K wM wC cs ss 284 (zal K wM wC n) [] σc σm := by
  obtain ⟨r, sc, sm, e1, e2, hrel2⟩ := hp (K.2.2.2.2.2.2.2.2.2.2 (n + 1)) (K.2.2.2.2.2.2.2.2.2.2 (n + 2)) σc σm hrel
  refine l_aload (pc := 284) 1 hF (zdg DLc2_law 0 (284, .aload_n 1, 1) rfl) rfl ?_
  refine l_arg (pc := 285) 1 hF h6 (by decide) rfl (zdg DLc2_law 1 (285, .aload_n 0, 1) rfl) (zdg DLc2_law 2 (286, .iload_n 3, 1) rfl) (zdg DLc2_law 3 (287, .iconst 1, 1) rfl) (zdg DLc2_law 4 (288, .iadd, 1) rfl) (zdg DLc2_law 5 (289, .iaload, 1) rfl) ?_
  refine l_arg (pc := 290) 2 hF h6 (by decide) rfl (zdg DLc2_law 6 (290, .aload_n 0, 1) rfl) (zdg DLc2_law 7 (291, .iload_n 3, 1) rfl) (zdg DLc2_law 8 (292, .iconst 2, 1) rfl) (zdg DLc2_law 9 (293, .iadd, 1) rfl) (zdg DLc2_law 10 (294, .iaload, 1) rfl) ?_
  refine l_callC (pc := 295) (av := [zI (K.2.2.2.2.2.2.2.2.2.2 (n + 1)), zI (K.2.2.2.2.2.2.2.2.2.2 (n + 2))]) (rest := []) (st2 := [.int r]) (v1 := (some (zI r))) (σ1 := sc) hF hCF (fun w a ha => by simp at ha; rcases ha with rfl | rfl <;> trivial) (fun l => by have h := c_X11_set l (K.2.2.2.2.2.2.2.2.2.2 (n + 1)) (K.2.2.2.2.2.2.2.2.2.2 (n + 2)) σc (r, sc) e1; exact h) zv_X11_set ll_23 rfl rfl rfl rfl rfl (by decide) ⟨by decide, by decide⟩ hcs (zdg DLc2_law 11 (295, .invokevirtual 23, 3) rfl) ?_
  refine l_aload (pc := 298) 2 hF (zdg DLc2_law 12 (298, .aload_n 2, 1) rfl) rfl ?_
  refine l_arg (pc := 299) 1 hF h6 (by decide) rfl (zdg DLc2_law 13 (299, .aload_n 0, 1) rfl) (zdg DLc2_law 14 (300, .iload_n 3, 1) rfl) (zdg DLc2_law 15 (301, .iconst 1, 1) rfl) (zdg DLc2_law 16 (302, .iadd, 1) rfl) (zdg DLc2_law 17 (303, .iaload, 1) rfl) ?_
  refine l_arg (pc := 304) 2 hF h6 (by decide) rfl (zdg DLc2_law 18 (304, .aload_n 0, 1) rfl) (zdg DLc2_law 19 (305, .iload_n 3, 1) rfl) (zdg DLc2_law 20 (306, .iconst 2, 1) rfl) (zdg DLc2_law 21 (307, .iadd, 1) rfl) (zdg DLc2_law 22 (308, .iaload, 1) rfl) ?_
  refine l_callM (pc := 309) (av := [zI (K.2.2.2.2.2.2.2.2.2.2 (n + 1)), zI (K.2.2.2.2.2.2.2.2.2.2 (n + 2))]) (rest := [.int r]) (st2 := [.int r, .int r]) (v1 := (some (zI r))) (σ1 := sm) hF hCF (fun w a ha => by simp at ha; rcases ha with rfl | rfl <;> trivial) (fun l => by have h := c_X12_set l (K.2.2.2.2.2.2.2.2.2.2 (n + 1)) (K.2.2.2.2.2.2.2.2.2.2 (n + 2)) σm (r, sm) e2; exact h) zv_X12_set ll_26 rfl rfl rfl rfl rfl (by decide) ⟨by decide, by decide⟩ hcs (zdg DLc2_law 23 (309, .invokevirtual 26, 3) rfl) ?_
  refine l_eqI (pc := 312) 1555 hF (zdg DLc2_law 24 (312, .if_icmp .eq 1243, 3) rfl) rfl ?_
  exact next sc sm hrel2
def Lc3_law : List (Nat × Instr × Nat) := [(317, .aload_n 1, 1), (318, .aload_n 0, 1), (319, .iload_n 3, 1), (320, .iconst 1, 1), (321, .iadd, 1), (322, .iaload, 1), (323, .invokevirtual 27, 3), (326, .aload_n 2, 1), (327, .aload_n 0, 1), (328, .iload_n 3, 1), (329, .iconst 1, 1), (330, .iadd, 1), (331, .iaload, 1), (332, .invokevirtual 31, 3), (335, .if_icmp .eq 1220, 3), (338, .iconst 0, 1), (339, .ireturn, 1)]
set_option maxRecDepth 100000 in
theorem DLc3_law : zdecs code Lc3_law = true := by decide +kernel
def PR_step (Rel : zG → zG → Prop) : Prop := ∀ (x1 : Int32) (σc σm : zG), Rel σc σm → ∃ (r : Int32) (sc : zG) (sm : zG), f_X11_step x1 σc = some (r, sc) ∧ f_X12_step x1 σm = some (r, sm) ∧ Rel sc sm
set_option maxRecDepth 100000 in
set_option maxHeartbeats 4000000 in
theorem law_3 (Rel : zG → zG → Prop) (hp : PR_step Rel) {K : zKL} {wM wC : zW} {cs ss n : Nat} {σc σm : zG} (hF : zLF K wM) (hCF : zLC K wM wC) (h6 : n + 6 ≤ K.2.2.2.2.2.2.2.2.2.1) (hcs : cs ≤ 600000 ∧ ss ≤ 7302250) (hrel : Rel σc σm) (next : ∀ sc sm, Rel sc sm → zLL K wM wC cs ss 1555 (zal K wM wC n) [] sc sm) : zLL K wM wC cs ss 317 (zal K wM wC n) [] σc σm := by
  obtain ⟨r, sc, sm, e1, e2, hrel2⟩ := hp (K.2.2.2.2.2.2.2.2.2.2 (n + 1)) σc σm hrel
  refine l_aload (pc := 317) 1 hF (zdg DLc3_law 0 (317, .aload_n 1, 1) rfl) rfl ?_
  refine l_arg (pc := 318) 1 hF h6 (by decide) rfl (zdg DLc3_law 1 (318, .aload_n 0, 1) rfl) (zdg DLc3_law 2 (319, .iload_n 3, 1) rfl) (zdg DLc3_law 3 (320, .iconst 1, 1) rfl) (zdg DLc3_law 4 (321, .iadd, 1) rfl) (zdg DLc3_law 5 (322, .iaload, 1) rfl) ?_
  refine l_callC (pc := 323) (av := [zI (K.2.2.2.2.2.2.2.2.2.2 (n + 1))]) (rest := []) (st2 := [.int r]) (v1 := (some (zI r))) (σ1 := sc) hF hCF (fun w a ha => by simp at ha; rcases ha with rfl <;> trivial) (fun l => by have h := c_X11_step l (K.2.2.2.2.2.2.2.2.2.2 (n + 1)) σc (r, sc) e1; exact h) zv_X11_step ll_27 rfl rfl rfl rfl rfl (by decide) ⟨by decide, by decide⟩ hcs (zdg DLc3_law 6 (323, .invokevirtual 27, 3) rfl) ?_
  refine l_aload (pc := 326) 2 hF (zdg DLc3_law 7 (326, .aload_n 2, 1) rfl) rfl ?_
  refine l_arg (pc := 327) 1 hF h6 (by decide) rfl (zdg DLc3_law 8 (327, .aload_n 0, 1) rfl) (zdg DLc3_law 9 (328, .iload_n 3, 1) rfl) (zdg DLc3_law 10 (329, .iconst 1, 1) rfl) (zdg DLc3_law 11 (330, .iadd, 1) rfl) (zdg DLc3_law 12 (331, .iaload, 1) rfl) ?_
  refine l_callM (pc := 332) (av := [zI (K.2.2.2.2.2.2.2.2.2.2 (n + 1))]) (rest := [.int r]) (st2 := [.int r, .int r]) (v1 := (some (zI r))) (σ1 := sm) hF hCF (fun w a ha => by simp at ha; rcases ha with rfl <;> trivial) (fun l => by have h := c_X12_step l (K.2.2.2.2.2.2.2.2.2.2 (n + 1)) σm (r, sm) e2; exact h) zv_X12_step ll_31 rfl rfl rfl rfl rfl (by decide) ⟨by decide, by decide⟩ hcs (zdg DLc3_law 13 (332, .invokevirtual 31, 3) rfl) ?_
  refine l_eqI (pc := 335) 1555 hF (zdg DLc3_law 14 (335, .if_icmp .eq 1220, 3) rfl) rfl ?_
  exact next sc sm hrel2
def Lc4_law : List (Nat × Instr × Nat) := [(340, .aload_n 1, 1), (341, .aload_n 0, 1), (342, .iload_n 3, 1), (343, .iconst 1, 1), (344, .iadd, 1), (345, .iaload, 1), (346, .aload_n 0, 1), (347, .iload_n 3, 1), (348, .iconst 2, 1), (349, .iadd, 1), (350, .iaload, 1), (351, .aload_n 0, 1), (352, .iload_n 3, 1), (353, .iconst 3, 1), (354, .iadd, 1), (355, .iaload, 1), (356, .aload_n 0, 1), (357, .iload_n 3, 1), (358, .iconst 4, 1), (359, .iadd, 1), (360, .iaload, 1), (361, .aload_n 0, 1), (362, .iload_n 3, 1), (363, .iconst 5, 1), (364, .iadd, 1), (365, .iaload, 1), (366, .invokevirtual 32, 3), (369, .aload_n 2, 1), (370, .aload_n 0, 1), (371, .iload_n 3, 1), (372, .iconst 1, 1), (373, .iadd, 1), (374, .iaload, 1), (375, .aload_n 0, 1), (376, .iload_n 3, 1), (377, .iconst 2, 1), (378, .iadd, 1), (379, .iaload, 1), (380, .aload_n 0, 1), (381, .iload_n 3, 1), (382, .iconst 3, 1), (383, .iadd, 1), (384, .iaload, 1), (385, .aload_n 0, 1), (386, .iload_n 3, 1), (387, .iconst 4, 1), (388, .iadd, 1), (389, .iaload, 1), (390, .aload_n 0, 1), (391, .iload_n 3, 1), (392, .iconst 5, 1), (393, .iadd, 1), (394, .iaload, 1), (395, .invokevirtual 36, 3), (398, .if_icmp .eq 1157, 3), (401, .iconst 0, 1), (402, .ireturn, 1)]
set_option maxRecDepth 100000 in
theorem DLc4_law : zdecs code Lc4_law = true := by decide +kernel
def PR_feed (Rel : zG → zG → Prop) : Prop := ∀ (x1 x2 x3 x4 x5 : Int32) (σc σm : zG), Rel σc σm → ∃ (r : Int32) (sc : zG) (sm : zG), f_X11_feed x1 x2 x3 x4 x5 σc = some (r, sc) ∧ f_X12_feed x1 x2 x3 x4 x5 σm = some (r, sm) ∧ Rel sc sm
set_option maxRecDepth 100000 in
set_option maxHeartbeats 4000000 in
theorem law_4 (Rel : zG → zG → Prop) (hp : PR_feed Rel) {K : zKL} {wM wC : zW} {cs ss n : Nat} {σc σm : zG} (hF : zLF K wM) (hCF : zLC K wM wC) (h6 : n + 6 ≤ K.2.2.2.2.2.2.2.2.2.1) (hcs : cs ≤ 600000 ∧ ss ≤ 7302250) (hrel : Rel σc σm) (next : ∀ sc sm, Rel sc sm → zLL K wM wC cs ss 1555 (zal K wM wC n) [] sc sm) : zLL K wM wC cs ss 340 (zal K wM wC n) [] σc σm := by
  obtain ⟨r, sc, sm, e1, e2, hrel2⟩ := hp (K.2.2.2.2.2.2.2.2.2.2 (n + 1)) (K.2.2.2.2.2.2.2.2.2.2 (n + 2)) (K.2.2.2.2.2.2.2.2.2.2 (n + 3)) (K.2.2.2.2.2.2.2.2.2.2 (n + 4)) (K.2.2.2.2.2.2.2.2.2.2 (n + 5)) σc σm hrel
  refine l_aload (pc := 340) 1 hF (zdg DLc4_law 0 (340, .aload_n 1, 1) rfl) rfl ?_
  refine l_arg (pc := 341) 1 hF h6 (by decide) rfl (zdg DLc4_law 1 (341, .aload_n 0, 1) rfl) (zdg DLc4_law 2 (342, .iload_n 3, 1) rfl) (zdg DLc4_law 3 (343, .iconst 1, 1) rfl) (zdg DLc4_law 4 (344, .iadd, 1) rfl) (zdg DLc4_law 5 (345, .iaload, 1) rfl) ?_
  refine l_arg (pc := 346) 2 hF h6 (by decide) rfl (zdg DLc4_law 6 (346, .aload_n 0, 1) rfl) (zdg DLc4_law 7 (347, .iload_n 3, 1) rfl) (zdg DLc4_law 8 (348, .iconst 2, 1) rfl) (zdg DLc4_law 9 (349, .iadd, 1) rfl) (zdg DLc4_law 10 (350, .iaload, 1) rfl) ?_
  refine l_arg (pc := 351) 3 hF h6 (by decide) rfl (zdg DLc4_law 11 (351, .aload_n 0, 1) rfl) (zdg DLc4_law 12 (352, .iload_n 3, 1) rfl) (zdg DLc4_law 13 (353, .iconst 3, 1) rfl) (zdg DLc4_law 14 (354, .iadd, 1) rfl) (zdg DLc4_law 15 (355, .iaload, 1) rfl) ?_
  refine l_arg (pc := 356) 4 hF h6 (by decide) rfl (zdg DLc4_law 16 (356, .aload_n 0, 1) rfl) (zdg DLc4_law 17 (357, .iload_n 3, 1) rfl) (zdg DLc4_law 18 (358, .iconst 4, 1) rfl) (zdg DLc4_law 19 (359, .iadd, 1) rfl) (zdg DLc4_law 20 (360, .iaload, 1) rfl) ?_
  refine l_arg (pc := 361) 5 hF h6 (by decide) rfl (zdg DLc4_law 21 (361, .aload_n 0, 1) rfl) (zdg DLc4_law 22 (362, .iload_n 3, 1) rfl) (zdg DLc4_law 23 (363, .iconst 5, 1) rfl) (zdg DLc4_law 24 (364, .iadd, 1) rfl) (zdg DLc4_law 25 (365, .iaload, 1) rfl) ?_
  refine l_callC (pc := 366) (av := [zI (K.2.2.2.2.2.2.2.2.2.2 (n + 1)), zI (K.2.2.2.2.2.2.2.2.2.2 (n + 2)), zI (K.2.2.2.2.2.2.2.2.2.2 (n + 3)), zI (K.2.2.2.2.2.2.2.2.2.2 (n + 4)), zI (K.2.2.2.2.2.2.2.2.2.2 (n + 5))]) (rest := []) (st2 := [.int r]) (v1 := (some (zI r))) (σ1 := sc) hF hCF (fun w a ha => by simp at ha; rcases ha with rfl | rfl | rfl | rfl | rfl <;> trivial) (fun l => by have h := c_X11_feed l (K.2.2.2.2.2.2.2.2.2.2 (n + 1)) (K.2.2.2.2.2.2.2.2.2.2 (n + 2)) (K.2.2.2.2.2.2.2.2.2.2 (n + 3)) (K.2.2.2.2.2.2.2.2.2.2 (n + 4)) (K.2.2.2.2.2.2.2.2.2.2 (n + 5)) σc (r, sc) e1; exact h) zv_X11_feed ll_32 rfl rfl rfl rfl rfl (by decide) ⟨by decide, by decide⟩ hcs (zdg DLc4_law 26 (366, .invokevirtual 32, 3) rfl) ?_
  refine l_aload (pc := 369) 2 hF (zdg DLc4_law 27 (369, .aload_n 2, 1) rfl) rfl ?_
  refine l_arg (pc := 370) 1 hF h6 (by decide) rfl (zdg DLc4_law 28 (370, .aload_n 0, 1) rfl) (zdg DLc4_law 29 (371, .iload_n 3, 1) rfl) (zdg DLc4_law 30 (372, .iconst 1, 1) rfl) (zdg DLc4_law 31 (373, .iadd, 1) rfl) (zdg DLc4_law 32 (374, .iaload, 1) rfl) ?_
  refine l_arg (pc := 375) 2 hF h6 (by decide) rfl (zdg DLc4_law 33 (375, .aload_n 0, 1) rfl) (zdg DLc4_law 34 (376, .iload_n 3, 1) rfl) (zdg DLc4_law 35 (377, .iconst 2, 1) rfl) (zdg DLc4_law 36 (378, .iadd, 1) rfl) (zdg DLc4_law 37 (379, .iaload, 1) rfl) ?_
  refine l_arg (pc := 380) 3 hF h6 (by decide) rfl (zdg DLc4_law 38 (380, .aload_n 0, 1) rfl) (zdg DLc4_law 39 (381, .iload_n 3, 1) rfl) (zdg DLc4_law 40 (382, .iconst 3, 1) rfl) (zdg DLc4_law 41 (383, .iadd, 1) rfl) (zdg DLc4_law 42 (384, .iaload, 1) rfl) ?_
  refine l_arg (pc := 385) 4 hF h6 (by decide) rfl (zdg DLc4_law 43 (385, .aload_n 0, 1) rfl) (zdg DLc4_law 44 (386, .iload_n 3, 1) rfl) (zdg DLc4_law 45 (387, .iconst 4, 1) rfl) (zdg DLc4_law 46 (388, .iadd, 1) rfl) (zdg DLc4_law 47 (389, .iaload, 1) rfl) ?_
  refine l_arg (pc := 390) 5 hF h6 (by decide) rfl (zdg DLc4_law 48 (390, .aload_n 0, 1) rfl) (zdg DLc4_law 49 (391, .iload_n 3, 1) rfl) (zdg DLc4_law 50 (392, .iconst 5, 1) rfl) (zdg DLc4_law 51 (393, .iadd, 1) rfl) (zdg DLc4_law 52 (394, .iaload, 1) rfl) ?_
  refine l_callM (pc := 395) (av := [zI (K.2.2.2.2.2.2.2.2.2.2 (n + 1)), zI (K.2.2.2.2.2.2.2.2.2.2 (n + 2)), zI (K.2.2.2.2.2.2.2.2.2.2 (n + 3)), zI (K.2.2.2.2.2.2.2.2.2.2 (n + 4)), zI (K.2.2.2.2.2.2.2.2.2.2 (n + 5))]) (rest := [.int r]) (st2 := [.int r, .int r]) (v1 := (some (zI r))) (σ1 := sm) hF hCF (fun w a ha => by simp at ha; rcases ha with rfl | rfl | rfl | rfl | rfl <;> trivial) (fun l => by have h := c_X12_feed l (K.2.2.2.2.2.2.2.2.2.2 (n + 1)) (K.2.2.2.2.2.2.2.2.2.2 (n + 2)) (K.2.2.2.2.2.2.2.2.2.2 (n + 3)) (K.2.2.2.2.2.2.2.2.2.2 (n + 4)) (K.2.2.2.2.2.2.2.2.2.2 (n + 5)) σm (r, sm) e2; exact h) zv_X12_feed ll_36 rfl rfl rfl rfl rfl (by decide) ⟨by decide, by decide⟩ hcs (zdg DLc4_law 53 (395, .invokevirtual 36, 3) rfl) ?_
  refine l_eqI (pc := 398) 1555 hF (zdg DLc4_law 54 (398, .if_icmp .eq 1157, 3) rfl) rfl ?_
  exact next sc sm hrel2
def Lc5_law : List (Nat × Instr × Nat) := [(403, .aload_n 1, 1), (404, .aload_n 0, 1), (405, .iload_n 3, 1), (406, .iconst 1, 1), (407, .iadd, 1), (408, .iaload, 1), (409, .invokevirtual 37, 3), (412, .aload_n 2, 1), (413, .aload_n 0, 1), (414, .iload_n 3, 1), (415, .iconst 1, 1), (416, .iadd, 1), (417, .iaload, 1), (418, .invokevirtual 40, 3), (421, .if_icmp .eq 1134, 3), (424, .iconst 0, 1), (425, .ireturn, 1)]
set_option maxRecDepth 100000 in
theorem DLc5_law : zdecs code Lc5_law = true := by decide +kernel
def PR_end (Rel : zG → zG → Prop) : Prop := ∀ (x1 : Int32) (σc σm : zG), Rel σc σm → ∃ (r : Int32) (sc : zG) (sm : zG), f_X11_end x1 σc = (r, sc) ∧ f_X12_end x1 σm = (r, sm) ∧ Rel sc sm
set_option maxRecDepth 100000 in
set_option maxHeartbeats 4000000 in
theorem law_5 (Rel : zG → zG → Prop) (hp : PR_end Rel) {K : zKL} {wM wC : zW} {cs ss n : Nat} {σc σm : zG} (hF : zLF K wM) (hCF : zLC K wM wC) (h6 : n + 6 ≤ K.2.2.2.2.2.2.2.2.2.1) (hcs : cs ≤ 600000 ∧ ss ≤ 7302250) (hrel : Rel σc σm) (next : ∀ sc sm, Rel sc sm → zLL K wM wC cs ss 1555 (zal K wM wC n) [] sc sm) : zLL K wM wC cs ss 403 (zal K wM wC n) [] σc σm := by
  obtain ⟨r, sc, sm, e1, e2, hrel2⟩ := hp (K.2.2.2.2.2.2.2.2.2.2 (n + 1)) σc σm hrel
  refine l_aload (pc := 403) 1 hF (zdg DLc5_law 0 (403, .aload_n 1, 1) rfl) rfl ?_
  refine l_arg (pc := 404) 1 hF h6 (by decide) rfl (zdg DLc5_law 1 (404, .aload_n 0, 1) rfl) (zdg DLc5_law 2 (405, .iload_n 3, 1) rfl) (zdg DLc5_law 3 (406, .iconst 1, 1) rfl) (zdg DLc5_law 4 (407, .iadd, 1) rfl) (zdg DLc5_law 5 (408, .iaload, 1) rfl) ?_
  refine l_callC (pc := 409) (av := [zI (K.2.2.2.2.2.2.2.2.2.2 (n + 1))]) (rest := []) (st2 := [.int r]) (v1 := (some (zI r))) (σ1 := sc) hF hCF (fun w a ha => by simp at ha; rcases ha with rfl <;> trivial) (fun l => by have h := c_X11_end l (K.2.2.2.2.2.2.2.2.2.2 (n + 1)) σc; rw [e1] at h; exact h) zv_X11_end ll_37 rfl rfl rfl rfl rfl (by decide) ⟨by decide, by decide⟩ hcs (zdg DLc5_law 6 (409, .invokevirtual 37, 3) rfl) ?_
  refine l_aload (pc := 412) 2 hF (zdg DLc5_law 7 (412, .aload_n 2, 1) rfl) rfl ?_
  refine l_arg (pc := 413) 1 hF h6 (by decide) rfl (zdg DLc5_law 8 (413, .aload_n 0, 1) rfl) (zdg DLc5_law 9 (414, .iload_n 3, 1) rfl) (zdg DLc5_law 10 (415, .iconst 1, 1) rfl) (zdg DLc5_law 11 (416, .iadd, 1) rfl) (zdg DLc5_law 12 (417, .iaload, 1) rfl) ?_
  refine l_callM (pc := 418) (av := [zI (K.2.2.2.2.2.2.2.2.2.2 (n + 1))]) (rest := [.int r]) (st2 := [.int r, .int r]) (v1 := (some (zI r))) (σ1 := sm) hF hCF (fun w a ha => by simp at ha; rcases ha with rfl <;> trivial) (fun l => by have h := c_X12_end l (K.2.2.2.2.2.2.2.2.2.2 (n + 1)) σm; rw [e2] at h; exact h) zv_X12_end ll_40 rfl rfl rfl rfl rfl (by decide) ⟨by decide, by decide⟩ hcs (zdg DLc5_law 13 (418, .invokevirtual 40, 3) rfl) ?_
  refine l_eqI (pc := 421) 1555 hF (zdg DLc5_law 14 (421, .if_icmp .eq 1134, 3) rfl) rfl ?_
  exact next sc sm hrel2
def Lc6_law : List (Nat × Instr × Nat) := [(426, .aload_n 1, 1), (427, .aload_n 0, 1), (428, .iload_n 3, 1), (429, .iconst 1, 1), (430, .iadd, 1), (431, .iaload, 1), (432, .invokevirtual 41, 3), (435, .aload_n 2, 1), (436, .aload_n 0, 1), (437, .iload_n 3, 1), (438, .iconst 1, 1), (439, .iadd, 1), (440, .iaload, 1), (441, .invokevirtual 44, 3), (444, .if_icmp .eq 1111, 3), (447, .iconst 0, 1), (448, .ireturn, 1)]
set_option maxRecDepth 100000 in
theorem DLc6_law : zdecs code Lc6_law = true := by decide +kernel
def PR_text (Rel : zG → zG → Prop) : Prop := ∀ (x1 : Int32) (σc σm : zG), Rel σc σm → ∃ (r : Int32) (sc : zG) (sm : zG), f_X11_text x1 σc = some (r, sc) ∧ f_X12_text x1 σm = some (r, sm) ∧ Rel sc sm
set_option maxRecDepth 100000 in
set_option maxHeartbeats 4000000 in
theorem law_6 (Rel : zG → zG → Prop) (hp : PR_text Rel) {K : zKL} {wM wC : zW} {cs ss n : Nat} {σc σm : zG} (hF : zLF K wM) (hCF : zLC K wM wC) (h6 : n + 6 ≤ K.2.2.2.2.2.2.2.2.2.1) (hcs : cs ≤ 600000 ∧ ss ≤ 7302250) (hrel : Rel σc σm) (next : ∀ sc sm, Rel sc sm → zLL K wM wC cs ss 1555 (zal K wM wC n) [] sc sm) : zLL K wM wC cs ss 426 (zal K wM wC n) [] σc σm := by
  obtain ⟨r, sc, sm, e1, e2, hrel2⟩ := hp (K.2.2.2.2.2.2.2.2.2.2 (n + 1)) σc σm hrel
  refine l_aload (pc := 426) 1 hF (zdg DLc6_law 0 (426, .aload_n 1, 1) rfl) rfl ?_
  refine l_arg (pc := 427) 1 hF h6 (by decide) rfl (zdg DLc6_law 1 (427, .aload_n 0, 1) rfl) (zdg DLc6_law 2 (428, .iload_n 3, 1) rfl) (zdg DLc6_law 3 (429, .iconst 1, 1) rfl) (zdg DLc6_law 4 (430, .iadd, 1) rfl) (zdg DLc6_law 5 (431, .iaload, 1) rfl) ?_
  refine l_callC (pc := 432) (av := [zI (K.2.2.2.2.2.2.2.2.2.2 (n + 1))]) (rest := []) (st2 := [.int r]) (v1 := (some (zI r))) (σ1 := sc) hF hCF (fun w a ha => by simp at ha; rcases ha with rfl <;> trivial) (fun l => by have h := c_X11_text l (K.2.2.2.2.2.2.2.2.2.2 (n + 1)) σc (r, sc) e1; exact h) zv_X11_text ll_41 rfl rfl rfl rfl rfl (by decide) ⟨by decide, by decide⟩ hcs (zdg DLc6_law 6 (432, .invokevirtual 41, 3) rfl) ?_
  refine l_aload (pc := 435) 2 hF (zdg DLc6_law 7 (435, .aload_n 2, 1) rfl) rfl ?_
  refine l_arg (pc := 436) 1 hF h6 (by decide) rfl (zdg DLc6_law 8 (436, .aload_n 0, 1) rfl) (zdg DLc6_law 9 (437, .iload_n 3, 1) rfl) (zdg DLc6_law 10 (438, .iconst 1, 1) rfl) (zdg DLc6_law 11 (439, .iadd, 1) rfl) (zdg DLc6_law 12 (440, .iaload, 1) rfl) ?_
  refine l_callM (pc := 441) (av := [zI (K.2.2.2.2.2.2.2.2.2.2 (n + 1))]) (rest := [.int r]) (st2 := [.int r, .int r]) (v1 := (some (zI r))) (σ1 := sm) hF hCF (fun w a ha => by simp at ha; rcases ha with rfl <;> trivial) (fun l => by have h := c_X12_text l (K.2.2.2.2.2.2.2.2.2.2 (n + 1)) σm (r, sm) e2; exact h) zv_X12_text ll_44 rfl rfl rfl rfl rfl (by decide) ⟨by decide, by decide⟩ hcs (zdg DLc6_law 13 (441, .invokevirtual 44, 3) rfl) ?_
  refine l_eqI (pc := 444) 1555 hF (zdg DLc6_law 14 (444, .if_icmp .eq 1111, 3) rfl) rfl ?_
  exact next sc sm hrel2
def Lc7_law : List (Nat × Instr × Nat) := [(449, .aload_n 1, 1), (450, .aload_n 0, 1), (451, .iload_n 3, 1), (452, .iconst 1, 1), (453, .iadd, 1), (454, .iaload, 1), (455, .invokevirtual 45, 3), (458, .aload_n 2, 1), (459, .aload_n 0, 1), (460, .iload_n 3, 1), (461, .iconst 1, 1), (462, .iadd, 1), (463, .iaload, 1), (464, .invokevirtual 48, 3), (467, .if_icmp .eq 1088, 3), (470, .iconst 0, 1), (471, .ireturn, 1)]
set_option maxRecDepth 100000 in
theorem DLc7_law : zdecs code Lc7_law = true := by decide +kernel
def PR_fault (Rel : zG → zG → Prop) : Prop := ∀ (x1 : Int32) (σc σm : zG), Rel σc σm → ∃ (r : Int32), f_X11_fault x1 σc = r ∧ f_X12_fault x1 σm = r ∧ Rel σc σm
set_option maxRecDepth 100000 in
set_option maxHeartbeats 4000000 in
theorem law_7 (Rel : zG → zG → Prop) (hp : PR_fault Rel) {K : zKL} {wM wC : zW} {cs ss n : Nat} {σc σm : zG} (hF : zLF K wM) (hCF : zLC K wM wC) (h6 : n + 6 ≤ K.2.2.2.2.2.2.2.2.2.1) (hcs : cs ≤ 600000 ∧ ss ≤ 7302250) (hrel : Rel σc σm) (next : ∀ sc sm, Rel sc sm → zLL K wM wC cs ss 1555 (zal K wM wC n) [] sc sm) : zLL K wM wC cs ss 449 (zal K wM wC n) [] σc σm := by
  obtain ⟨r, e1, e2, hrel2⟩ := hp (K.2.2.2.2.2.2.2.2.2.2 (n + 1)) σc σm hrel
  refine l_aload (pc := 449) 1 hF (zdg DLc7_law 0 (449, .aload_n 1, 1) rfl) rfl ?_
  refine l_arg (pc := 450) 1 hF h6 (by decide) rfl (zdg DLc7_law 1 (450, .aload_n 0, 1) rfl) (zdg DLc7_law 2 (451, .iload_n 3, 1) rfl) (zdg DLc7_law 3 (452, .iconst 1, 1) rfl) (zdg DLc7_law 4 (453, .iadd, 1) rfl) (zdg DLc7_law 5 (454, .iaload, 1) rfl) ?_
  refine l_callC (pc := 455) (av := [zI (K.2.2.2.2.2.2.2.2.2.2 (n + 1))]) (rest := []) (st2 := [.int r]) (v1 := (some (zI r))) (σ1 := σc) hF hCF (fun w a ha => by simp at ha; rcases ha with rfl <;> trivial) (fun l => by have h := c_X11_fault l (K.2.2.2.2.2.2.2.2.2.2 (n + 1)) σc; rw [e1] at h; exact h) zv_X11_fault ll_45 rfl rfl rfl rfl rfl (by decide) ⟨by decide, by decide⟩ hcs (zdg DLc7_law 6 (455, .invokevirtual 45, 3) rfl) ?_
  refine l_aload (pc := 458) 2 hF (zdg DLc7_law 7 (458, .aload_n 2, 1) rfl) rfl ?_
  refine l_arg (pc := 459) 1 hF h6 (by decide) rfl (zdg DLc7_law 8 (459, .aload_n 0, 1) rfl) (zdg DLc7_law 9 (460, .iload_n 3, 1) rfl) (zdg DLc7_law 10 (461, .iconst 1, 1) rfl) (zdg DLc7_law 11 (462, .iadd, 1) rfl) (zdg DLc7_law 12 (463, .iaload, 1) rfl) ?_
  refine l_callM (pc := 464) (av := [zI (K.2.2.2.2.2.2.2.2.2.2 (n + 1))]) (rest := [.int r]) (st2 := [.int r, .int r]) (v1 := (some (zI r))) (σ1 := σm) hF hCF (fun w a ha => by simp at ha; rcases ha with rfl <;> trivial) (fun l => by have h := c_X12_fault l (K.2.2.2.2.2.2.2.2.2.2 (n + 1)) σm; rw [e2] at h; exact h) zv_X12_fault ll_48 rfl rfl rfl rfl rfl (by decide) ⟨by decide, by decide⟩ hcs (zdg DLc7_law 13 (464, .invokevirtual 48, 3) rfl) ?_
  refine l_eqI (pc := 467) 1555 hF (zdg DLc7_law 14 (467, .if_icmp .eq 1088, 3) rfl) rfl ?_
  exact next σc σm hrel2
def Lc8_law : List (Nat × Instr × Nat) := [(472, .aload_n 1, 1), (473, .aload_n 0, 1), (474, .iload_n 3, 1), (475, .iconst 1, 1), (476, .iadd, 1), (477, .iaload, 1), (478, .invokevirtual 49, 3), (481, .aload_n 2, 1), (482, .aload_n 0, 1), (483, .iload_n 3, 1), (484, .iconst 1, 1), (485, .iadd, 1), (486, .iaload, 1), (487, .invokevirtual 52, 3), (490, .if_icmp .eq 1065, 3), (493, .iconst 0, 1), (494, .ireturn, 1)]
set_option maxRecDepth 100000 in
theorem DLc8_law : zdecs code Lc8_law = true := by decide +kernel
def PR_minutes (Rel : zG → zG → Prop) : Prop := ∀ (x1 : Int32) (σc σm : zG), Rel σc σm → ∃ (r : Int32) (sc : zG) (sm : zG), f_X11_minutes x1 σc = some (r, sc) ∧ f_X12_minutes x1 σm = some (r, sm) ∧ Rel sc sm
set_option maxRecDepth 100000 in
set_option maxHeartbeats 4000000 in
theorem law_8 (Rel : zG → zG → Prop) (hp : PR_minutes Rel) {K : zKL} {wM wC : zW} {cs ss n : Nat} {σc σm : zG} (hF : zLF K wM) (hCF : zLC K wM wC) (h6 : n + 6 ≤ K.2.2.2.2.2.2.2.2.2.1) (hcs : cs ≤ 600000 ∧ ss ≤ 7302250) (hrel : Rel σc σm) (next : ∀ sc sm, Rel sc sm → zLL K wM wC cs ss 1555 (zal K wM wC n) [] sc sm) : zLL K wM wC cs ss 472 (zal K wM wC n) [] σc σm := by
  obtain ⟨r, sc, sm, e1, e2, hrel2⟩ := hp (K.2.2.2.2.2.2.2.2.2.2 (n + 1)) σc σm hrel
  refine l_aload (pc := 472) 1 hF (zdg DLc8_law 0 (472, .aload_n 1, 1) rfl) rfl ?_
  refine l_arg (pc := 473) 1 hF h6 (by decide) rfl (zdg DLc8_law 1 (473, .aload_n 0, 1) rfl) (zdg DLc8_law 2 (474, .iload_n 3, 1) rfl) (zdg DLc8_law 3 (475, .iconst 1, 1) rfl) (zdg DLc8_law 4 (476, .iadd, 1) rfl) (zdg DLc8_law 5 (477, .iaload, 1) rfl) ?_
  refine l_callC (pc := 478) (av := [zI (K.2.2.2.2.2.2.2.2.2.2 (n + 1))]) (rest := []) (st2 := [.int r]) (v1 := (some (zI r))) (σ1 := sc) hF hCF (fun w a ha => by simp at ha; rcases ha with rfl <;> trivial) (fun l => by have h := c_X11_minutes l (K.2.2.2.2.2.2.2.2.2.2 (n + 1)) σc (r, sc) e1; exact h) zv_X11_minutes ll_49 rfl rfl rfl rfl rfl (by decide) ⟨by decide, by decide⟩ hcs (zdg DLc8_law 6 (478, .invokevirtual 49, 3) rfl) ?_
  refine l_aload (pc := 481) 2 hF (zdg DLc8_law 7 (481, .aload_n 2, 1) rfl) rfl ?_
  refine l_arg (pc := 482) 1 hF h6 (by decide) rfl (zdg DLc8_law 8 (482, .aload_n 0, 1) rfl) (zdg DLc8_law 9 (483, .iload_n 3, 1) rfl) (zdg DLc8_law 10 (484, .iconst 1, 1) rfl) (zdg DLc8_law 11 (485, .iadd, 1) rfl) (zdg DLc8_law 12 (486, .iaload, 1) rfl) ?_
  refine l_callM (pc := 487) (av := [zI (K.2.2.2.2.2.2.2.2.2.2 (n + 1))]) (rest := [.int r]) (st2 := [.int r, .int r]) (v1 := (some (zI r))) (σ1 := sm) hF hCF (fun w a ha => by simp at ha; rcases ha with rfl <;> trivial) (fun l => by have h := c_X12_minutes l (K.2.2.2.2.2.2.2.2.2.2 (n + 1)) σm (r, sm) e2; exact h) zv_X12_minutes ll_52 rfl rfl rfl rfl rfl (by decide) ⟨by decide, by decide⟩ hcs (zdg DLc8_law 13 (487, .invokevirtual 52, 3) rfl) ?_
  refine l_eqI (pc := 490) 1555 hF (zdg DLc8_law 14 (490, .if_icmp .eq 1065, 3) rfl) rfl ?_
  exact next sc sm hrel2
def Lc9_law : List (Nat × Instr × Nat) := [(495, .aload_n 1, 1), (496, .invokevirtual 53, 3), (499, .aload_n 2, 1), (500, .invokevirtual 57, 3), (503, .if_icmp .eq 1052, 3), (506, .iconst 0, 1), (507, .ireturn, 1)]
set_option maxRecDepth 100000 in
theorem DLc9_law : zdecs code Lc9_law = true := by decide +kernel
def PR_shoot (Rel : zG → zG → Prop) : Prop := ∀ (σc σm : zG), Rel σc σm → ∃ (r : Int32) (sc : zG) (sm : zG), f_X11_shoot σc = some (r, sc) ∧ f_X12_shoot σm = some (r, sm) ∧ Rel sc sm
set_option maxRecDepth 100000 in
set_option maxHeartbeats 4000000 in
theorem law_9 (Rel : zG → zG → Prop) (hp : PR_shoot Rel) {K : zKL} {wM wC : zW} {cs ss n : Nat} {σc σm : zG} (hF : zLF K wM) (hCF : zLC K wM wC) (h6 : n + 6 ≤ K.2.2.2.2.2.2.2.2.2.1) (hcs : cs ≤ 600000 ∧ ss ≤ 7302250) (hrel : Rel σc σm) (next : ∀ sc sm, Rel sc sm → zLL K wM wC cs ss 1555 (zal K wM wC n) [] sc sm) : zLL K wM wC cs ss 495 (zal K wM wC n) [] σc σm := by
  obtain ⟨r, sc, sm, e1, e2, hrel2⟩ := hp  σc σm hrel
  refine l_aload (pc := 495) 1 hF (zdg DLc9_law 0 (495, .aload_n 1, 1) rfl) rfl ?_
  refine l_callC (pc := 496) (av := []) (rest := []) (st2 := [.int r]) (v1 := (some (zI r))) (σ1 := sc) hF hCF (fun w a ha => by cases ha) (fun l => by have h := c_X11_shoot l σc (r, sc) e1; exact h) zv_X11_shoot ll_53 rfl rfl rfl rfl rfl (by decide) ⟨by decide, by decide⟩ hcs (zdg DLc9_law 1 (496, .invokevirtual 53, 3) rfl) ?_
  refine l_aload (pc := 499) 2 hF (zdg DLc9_law 2 (499, .aload_n 2, 1) rfl) rfl ?_
  refine l_callM (pc := 500) (av := []) (rest := [.int r]) (st2 := [.int r, .int r]) (v1 := (some (zI r))) (σ1 := sm) hF hCF (fun w a ha => by cases ha) (fun l => by have h := c_X12_shoot l σm (r, sm) e2; exact h) zv_X12_shoot ll_57 rfl rfl rfl rfl rfl (by decide) ⟨by decide, by decide⟩ hcs (zdg DLc9_law 3 (500, .invokevirtual 57, 3) rfl) ?_
  refine l_eqI (pc := 503) 1555 hF (zdg DLc9_law 4 (503, .if_icmp .eq 1052, 3) rfl) rfl ?_
  exact next sc sm hrel2
def Lc10_law : List (Nat × Instr × Nat) := [(508, .aload_n 1, 1), (509, .aload_n 0, 1), (510, .iload_n 3, 1), (511, .iconst 1, 1), (512, .iadd, 1), (513, .iaload, 1), (514, .aload_n 0, 1), (515, .iload_n 3, 1), (516, .iconst 2, 1), (517, .iadd, 1), (518, .iaload, 1), (519, .invokevirtual 58, 3), (522, .aload_n 2, 1), (523, .aload_n 0, 1), (524, .iload_n 3, 1), (525, .iconst 1, 1), (526, .iadd, 1), (527, .iaload, 1), (528, .aload_n 0, 1), (529, .iload_n 3, 1), (530, .iconst 2, 1), (531, .iadd, 1), (532, .iaload, 1), (533, .invokevirtual 62, 3), (536, .if_icmp .eq 1019, 3), (539, .iconst 0, 1), (540, .ireturn, 1)]
set_option maxRecDepth 100000 in
theorem DLc10_law : zdecs code Lc10_law = true := by decide +kernel
def PR_of (Rel : zG → zG → Prop) : Prop := ∀ (x1 x2 : Int32) (σc σm : zG), Rel σc σm → ∃ (r : Int32), f_X11_of x1 x2 σc = some r ∧ f_X12_of x1 x2 σm = some r ∧ Rel σc σm
set_option maxRecDepth 100000 in
set_option maxHeartbeats 4000000 in
theorem law_10 (Rel : zG → zG → Prop) (hp : PR_of Rel) {K : zKL} {wM wC : zW} {cs ss n : Nat} {σc σm : zG} (hF : zLF K wM) (hCF : zLC K wM wC) (h6 : n + 6 ≤ K.2.2.2.2.2.2.2.2.2.1) (hcs : cs ≤ 600000 ∧ ss ≤ 7302250) (hrel : Rel σc σm) (next : ∀ sc sm, Rel sc sm → zLL K wM wC cs ss 1555 (zal K wM wC n) [] sc sm) : zLL K wM wC cs ss 508 (zal K wM wC n) [] σc σm := by
  obtain ⟨r, e1, e2, hrel2⟩ := hp (K.2.2.2.2.2.2.2.2.2.2 (n + 1)) (K.2.2.2.2.2.2.2.2.2.2 (n + 2)) σc σm hrel
  refine l_aload (pc := 508) 1 hF (zdg DLc10_law 0 (508, .aload_n 1, 1) rfl) rfl ?_
  refine l_arg (pc := 509) 1 hF h6 (by decide) rfl (zdg DLc10_law 1 (509, .aload_n 0, 1) rfl) (zdg DLc10_law 2 (510, .iload_n 3, 1) rfl) (zdg DLc10_law 3 (511, .iconst 1, 1) rfl) (zdg DLc10_law 4 (512, .iadd, 1) rfl) (zdg DLc10_law 5 (513, .iaload, 1) rfl) ?_
  refine l_arg (pc := 514) 2 hF h6 (by decide) rfl (zdg DLc10_law 6 (514, .aload_n 0, 1) rfl) (zdg DLc10_law 7 (515, .iload_n 3, 1) rfl) (zdg DLc10_law 8 (516, .iconst 2, 1) rfl) (zdg DLc10_law 9 (517, .iadd, 1) rfl) (zdg DLc10_law 10 (518, .iaload, 1) rfl) ?_
  refine l_callC (pc := 519) (av := [zI (K.2.2.2.2.2.2.2.2.2.2 (n + 1)), zI (K.2.2.2.2.2.2.2.2.2.2 (n + 2))]) (rest := []) (st2 := [.int r]) (v1 := (some (zI r))) (σ1 := σc) hF hCF (fun w a ha => by simp at ha; rcases ha with rfl | rfl <;> trivial) (fun l => by have h := c_X11_of l (K.2.2.2.2.2.2.2.2.2.2 (n + 1)) (K.2.2.2.2.2.2.2.2.2.2 (n + 2)) σc r e1; exact h) zv_X11_of ll_58 rfl rfl rfl rfl rfl (by decide) ⟨by decide, by decide⟩ hcs (zdg DLc10_law 11 (519, .invokevirtual 58, 3) rfl) ?_
  refine l_aload (pc := 522) 2 hF (zdg DLc10_law 12 (522, .aload_n 2, 1) rfl) rfl ?_
  refine l_arg (pc := 523) 1 hF h6 (by decide) rfl (zdg DLc10_law 13 (523, .aload_n 0, 1) rfl) (zdg DLc10_law 14 (524, .iload_n 3, 1) rfl) (zdg DLc10_law 15 (525, .iconst 1, 1) rfl) (zdg DLc10_law 16 (526, .iadd, 1) rfl) (zdg DLc10_law 17 (527, .iaload, 1) rfl) ?_
  refine l_arg (pc := 528) 2 hF h6 (by decide) rfl (zdg DLc10_law 18 (528, .aload_n 0, 1) rfl) (zdg DLc10_law 19 (529, .iload_n 3, 1) rfl) (zdg DLc10_law 20 (530, .iconst 2, 1) rfl) (zdg DLc10_law 21 (531, .iadd, 1) rfl) (zdg DLc10_law 22 (532, .iaload, 1) rfl) ?_
  refine l_callM (pc := 533) (av := [zI (K.2.2.2.2.2.2.2.2.2.2 (n + 1)), zI (K.2.2.2.2.2.2.2.2.2.2 (n + 2))]) (rest := [.int r]) (st2 := [.int r, .int r]) (v1 := (some (zI r))) (σ1 := σm) hF hCF (fun w a ha => by simp at ha; rcases ha with rfl | rfl <;> trivial) (fun l => by have h := c_X12_of l (K.2.2.2.2.2.2.2.2.2.2 (n + 1)) (K.2.2.2.2.2.2.2.2.2.2 (n + 2)) σm r e2; exact h) zv_X12_of ll_62 rfl rfl rfl rfl rfl (by decide) ⟨by decide, by decide⟩ hcs (zdg DLc10_law 23 (533, .invokevirtual 62, 3) rfl) ?_
  refine l_eqI (pc := 536) 1555 hF (zdg DLc10_law 24 (536, .if_icmp .eq 1019, 3) rfl) rfl ?_
  exact next σc σm hrel2
def Lc11_law : List (Nat × Instr × Nat) := [(541, .aload_n 1, 1), (542, .aload_n 0, 1), (543, .iload_n 3, 1), (544, .iconst 1, 1), (545, .iadd, 1), (546, .iaload, 1), (547, .aload_n 0, 1), (548, .iload_n 3, 1), (549, .iconst 2, 1), (550, .iadd, 1), (551, .iaload, 1), (552, .invokevirtual 63, 3), (555, .aload_n 2, 1), (556, .aload_n 0, 1), (557, .iload_n 3, 1), (558, .iconst 1, 1), (559, .iadd, 1), (560, .iaload, 1), (561, .aload_n 0, 1), (562, .iload_n 3, 1), (563, .iconst 2, 1), (564, .iadd, 1), (565, .iaload, 1), (566, .invokevirtual 66, 3), (569, .if_icmp .eq 986, 3), (572, .iconst 0, 1), (573, .ireturn, 1)]
set_option maxRecDepth 100000 in
theorem DLc11_law : zdecs code Lc11_law = true := by decide +kernel
def PR_where (Rel : zG → zG → Prop) : Prop := ∀ (x1 x2 : Int32) (σc σm : zG), Rel σc σm → ∃ (r : Int32), f_X11_where x1 x2 σc = some r ∧ f_X12_where x1 x2 σm = some r ∧ Rel σc σm
set_option maxRecDepth 100000 in
set_option maxHeartbeats 4000000 in
theorem law_11 (Rel : zG → zG → Prop) (hp : PR_where Rel) {K : zKL} {wM wC : zW} {cs ss n : Nat} {σc σm : zG} (hF : zLF K wM) (hCF : zLC K wM wC) (h6 : n + 6 ≤ K.2.2.2.2.2.2.2.2.2.1) (hcs : cs ≤ 600000 ∧ ss ≤ 7302250) (hrel : Rel σc σm) (next : ∀ sc sm, Rel sc sm → zLL K wM wC cs ss 1555 (zal K wM wC n) [] sc sm) : zLL K wM wC cs ss 541 (zal K wM wC n) [] σc σm := by
  obtain ⟨r, e1, e2, hrel2⟩ := hp (K.2.2.2.2.2.2.2.2.2.2 (n + 1)) (K.2.2.2.2.2.2.2.2.2.2 (n + 2)) σc σm hrel
  refine l_aload (pc := 541) 1 hF (zdg DLc11_law 0 (541, .aload_n 1, 1) rfl) rfl ?_
  refine l_arg (pc := 542) 1 hF h6 (by decide) rfl (zdg DLc11_law 1 (542, .aload_n 0, 1) rfl) (zdg DLc11_law 2 (543, .iload_n 3, 1) rfl) (zdg DLc11_law 3 (544, .iconst 1, 1) rfl) (zdg DLc11_law 4 (545, .iadd, 1) rfl) (zdg DLc11_law 5 (546, .iaload, 1) rfl) ?_
  refine l_arg (pc := 547) 2 hF h6 (by decide) rfl (zdg DLc11_law 6 (547, .aload_n 0, 1) rfl) (zdg DLc11_law 7 (548, .iload_n 3, 1) rfl) (zdg DLc11_law 8 (549, .iconst 2, 1) rfl) (zdg DLc11_law 9 (550, .iadd, 1) rfl) (zdg DLc11_law 10 (551, .iaload, 1) rfl) ?_
  refine l_callC (pc := 552) (av := [zI (K.2.2.2.2.2.2.2.2.2.2 (n + 1)), zI (K.2.2.2.2.2.2.2.2.2.2 (n + 2))]) (rest := []) (st2 := [.int r]) (v1 := (some (zI r))) (σ1 := σc) hF hCF (fun w a ha => by simp at ha; rcases ha with rfl | rfl <;> trivial) (fun l => by have h := c_X11_where l (K.2.2.2.2.2.2.2.2.2.2 (n + 1)) (K.2.2.2.2.2.2.2.2.2.2 (n + 2)) σc r e1; exact h) zv_X11_where ll_63 rfl rfl rfl rfl rfl (by decide) ⟨by decide, by decide⟩ hcs (zdg DLc11_law 11 (552, .invokevirtual 63, 3) rfl) ?_
  refine l_aload (pc := 555) 2 hF (zdg DLc11_law 12 (555, .aload_n 2, 1) rfl) rfl ?_
  refine l_arg (pc := 556) 1 hF h6 (by decide) rfl (zdg DLc11_law 13 (556, .aload_n 0, 1) rfl) (zdg DLc11_law 14 (557, .iload_n 3, 1) rfl) (zdg DLc11_law 15 (558, .iconst 1, 1) rfl) (zdg DLc11_law 16 (559, .iadd, 1) rfl) (zdg DLc11_law 17 (560, .iaload, 1) rfl) ?_
  refine l_arg (pc := 561) 2 hF h6 (by decide) rfl (zdg DLc11_law 18 (561, .aload_n 0, 1) rfl) (zdg DLc11_law 19 (562, .iload_n 3, 1) rfl) (zdg DLc11_law 20 (563, .iconst 2, 1) rfl) (zdg DLc11_law 21 (564, .iadd, 1) rfl) (zdg DLc11_law 22 (565, .iaload, 1) rfl) ?_
  refine l_callM (pc := 566) (av := [zI (K.2.2.2.2.2.2.2.2.2.2 (n + 1)), zI (K.2.2.2.2.2.2.2.2.2.2 (n + 2))]) (rest := [.int r]) (st2 := [.int r, .int r]) (v1 := (some (zI r))) (σ1 := σm) hF hCF (fun w a ha => by simp at ha; rcases ha with rfl | rfl <;> trivial) (fun l => by have h := c_X12_where l (K.2.2.2.2.2.2.2.2.2.2 (n + 1)) (K.2.2.2.2.2.2.2.2.2.2 (n + 2)) σm r e2; exact h) zv_X12_where ll_66 rfl rfl rfl rfl rfl (by decide) ⟨by decide, by decide⟩ hcs (zdg DLc11_law 23 (566, .invokevirtual 66, 3) rfl) ?_
  refine l_eqI (pc := 569) 1555 hF (zdg DLc11_law 24 (569, .if_icmp .eq 986, 3) rfl) rfl ?_
  exact next σc σm hrel2
def Lc12_law : List (Nat × Instr × Nat) := [(574, .aload_n 1, 1), (575, .aload_n 0, 1), (576, .iload_n 3, 1), (577, .iconst 1, 1), (578, .iadd, 1), (579, .iaload, 1), (580, .aload_n 0, 1), (581, .iload_n 3, 1), (582, .iconst 2, 1), (583, .iadd, 1), (584, .iaload, 1), (585, .invokevirtual 67, 3), (588, .aload_n 2, 1), (589, .aload_n 0, 1), (590, .iload_n 3, 1), (591, .iconst 1, 1), (592, .iadd, 1), (593, .iaload, 1), (594, .aload_n 0, 1), (595, .iload_n 3, 1), (596, .iconst 2, 1), (597, .iadd, 1), (598, .iaload, 1), (599, .invokevirtual 70, 3), (602, .if_icmp .eq 953, 3), (605, .iconst 0, 1), (606, .ireturn, 1)]
set_option maxRecDepth 100000 in
theorem DLc12_law : zdecs code Lc12_law = true := by decide +kernel
def PR_stranger (Rel : zG → zG → Prop) : Prop := ∀ (x1 x2 : Int32) (σc σm : zG), Rel σc σm → ∃ (r : Int32), f_X11_stranger x1 x2 σc = some r ∧ f_X12_stranger x1 x2 σm = some r ∧ Rel σc σm
set_option maxRecDepth 100000 in
set_option maxHeartbeats 4000000 in
theorem law_12 (Rel : zG → zG → Prop) (hp : PR_stranger Rel) {K : zKL} {wM wC : zW} {cs ss n : Nat} {σc σm : zG} (hF : zLF K wM) (hCF : zLC K wM wC) (h6 : n + 6 ≤ K.2.2.2.2.2.2.2.2.2.1) (hcs : cs ≤ 600000 ∧ ss ≤ 7302250) (hrel : Rel σc σm) (next : ∀ sc sm, Rel sc sm → zLL K wM wC cs ss 1555 (zal K wM wC n) [] sc sm) : zLL K wM wC cs ss 574 (zal K wM wC n) [] σc σm := by
  obtain ⟨r, e1, e2, hrel2⟩ := hp (K.2.2.2.2.2.2.2.2.2.2 (n + 1)) (K.2.2.2.2.2.2.2.2.2.2 (n + 2)) σc σm hrel
  refine l_aload (pc := 574) 1 hF (zdg DLc12_law 0 (574, .aload_n 1, 1) rfl) rfl ?_
  refine l_arg (pc := 575) 1 hF h6 (by decide) rfl (zdg DLc12_law 1 (575, .aload_n 0, 1) rfl) (zdg DLc12_law 2 (576, .iload_n 3, 1) rfl) (zdg DLc12_law 3 (577, .iconst 1, 1) rfl) (zdg DLc12_law 4 (578, .iadd, 1) rfl) (zdg DLc12_law 5 (579, .iaload, 1) rfl) ?_
  refine l_arg (pc := 580) 2 hF h6 (by decide) rfl (zdg DLc12_law 6 (580, .aload_n 0, 1) rfl) (zdg DLc12_law 7 (581, .iload_n 3, 1) rfl) (zdg DLc12_law 8 (582, .iconst 2, 1) rfl) (zdg DLc12_law 9 (583, .iadd, 1) rfl) (zdg DLc12_law 10 (584, .iaload, 1) rfl) ?_
  refine l_callC (pc := 585) (av := [zI (K.2.2.2.2.2.2.2.2.2.2 (n + 1)), zI (K.2.2.2.2.2.2.2.2.2.2 (n + 2))]) (rest := []) (st2 := [.int r]) (v1 := (some (zI r))) (σ1 := σc) hF hCF (fun w a ha => by simp at ha; rcases ha with rfl | rfl <;> trivial) (fun l => by have h := c_X11_stranger l (K.2.2.2.2.2.2.2.2.2.2 (n + 1)) (K.2.2.2.2.2.2.2.2.2.2 (n + 2)) σc r e1; exact h) zv_X11_stranger ll_67 rfl rfl rfl rfl rfl (by decide) ⟨by decide, by decide⟩ hcs (zdg DLc12_law 11 (585, .invokevirtual 67, 3) rfl) ?_
  refine l_aload (pc := 588) 2 hF (zdg DLc12_law 12 (588, .aload_n 2, 1) rfl) rfl ?_
  refine l_arg (pc := 589) 1 hF h6 (by decide) rfl (zdg DLc12_law 13 (589, .aload_n 0, 1) rfl) (zdg DLc12_law 14 (590, .iload_n 3, 1) rfl) (zdg DLc12_law 15 (591, .iconst 1, 1) rfl) (zdg DLc12_law 16 (592, .iadd, 1) rfl) (zdg DLc12_law 17 (593, .iaload, 1) rfl) ?_
  refine l_arg (pc := 594) 2 hF h6 (by decide) rfl (zdg DLc12_law 18 (594, .aload_n 0, 1) rfl) (zdg DLc12_law 19 (595, .iload_n 3, 1) rfl) (zdg DLc12_law 20 (596, .iconst 2, 1) rfl) (zdg DLc12_law 21 (597, .iadd, 1) rfl) (zdg DLc12_law 22 (598, .iaload, 1) rfl) ?_
  refine l_callM (pc := 599) (av := [zI (K.2.2.2.2.2.2.2.2.2.2 (n + 1)), zI (K.2.2.2.2.2.2.2.2.2.2 (n + 2))]) (rest := [.int r]) (st2 := [.int r, .int r]) (v1 := (some (zI r))) (σ1 := σm) hF hCF (fun w a ha => by simp at ha; rcases ha with rfl | rfl <;> trivial) (fun l => by have h := c_X12_stranger l (K.2.2.2.2.2.2.2.2.2.2 (n + 1)) (K.2.2.2.2.2.2.2.2.2.2 (n + 2)) σm r e2; exact h) zv_X12_stranger ll_70 rfl rfl rfl rfl rfl (by decide) ⟨by decide, by decide⟩ hcs (zdg DLc12_law 23 (599, .invokevirtual 70, 3) rfl) ?_
  refine l_eqI (pc := 602) 1555 hF (zdg DLc12_law 24 (602, .if_icmp .eq 953, 3) rfl) rfl ?_
  exact next σc σm hrel2
def Lc13_law : List (Nat × Instr × Nat) := [(607, .aload_n 1, 1), (608, .aload_n 0, 1), (609, .iload_n 3, 1), (610, .iconst 1, 1), (611, .iadd, 1), (612, .iaload, 1), (613, .invokevirtual 71, 3), (616, .aload_n 2, 1), (617, .aload_n 0, 1), (618, .iload_n 3, 1), (619, .iconst 1, 1), (620, .iadd, 1), (621, .iaload, 1), (622, .invokevirtual 75, 3), (625, .lcmp, 1), (626, .ifCond .eq 929, 3), (629, .iconst 0, 1), (630, .ireturn, 1)]
set_option maxRecDepth 100000 in
theorem DLc13_law : zdecs code Lc13_law = true := by decide +kernel
def PR_covered (Rel : zG → zG → Prop) : Prop := ∀ (x1 : Int32) (σc σm : zG), Rel σc σm → ∃ (r : Int64), f_X11_covered x1 σc = some r ∧ f_X12_covered x1 σm = some r ∧ Rel σc σm
set_option maxRecDepth 100000 in
set_option maxHeartbeats 4000000 in
theorem law_13 (Rel : zG → zG → Prop) (hp : PR_covered Rel) {K : zKL} {wM wC : zW} {cs ss n : Nat} {σc σm : zG} (hF : zLF K wM) (hCF : zLC K wM wC) (h6 : n + 6 ≤ K.2.2.2.2.2.2.2.2.2.1) (hcs : cs ≤ 600000 ∧ ss ≤ 7302250) (hrel : Rel σc σm) (next : ∀ sc sm, Rel sc sm → zLL K wM wC cs ss 1555 (zal K wM wC n) [] sc sm) : zLL K wM wC cs ss 607 (zal K wM wC n) [] σc σm := by
  obtain ⟨r, e1, e2, hrel2⟩ := hp (K.2.2.2.2.2.2.2.2.2.2 (n + 1)) σc σm hrel
  refine l_aload (pc := 607) 1 hF (zdg DLc13_law 0 (607, .aload_n 1, 1) rfl) rfl ?_
  refine l_arg (pc := 608) 1 hF h6 (by decide) rfl (zdg DLc13_law 1 (608, .aload_n 0, 1) rfl) (zdg DLc13_law 2 (609, .iload_n 3, 1) rfl) (zdg DLc13_law 3 (610, .iconst 1, 1) rfl) (zdg DLc13_law 4 (611, .iadd, 1) rfl) (zdg DLc13_law 5 (612, .iaload, 1) rfl) ?_
  refine l_callC (pc := 613) (av := [zI (K.2.2.2.2.2.2.2.2.2.2 (n + 1))]) (rest := []) (st2 := [.long r]) (v1 := (some (zL r))) (σ1 := σc) hF hCF (fun w a ha => by simp at ha; rcases ha with rfl <;> trivial) (fun l => by have h := c_X11_covered l (K.2.2.2.2.2.2.2.2.2.2 (n + 1)) σc r e1; exact h) zv_X11_covered ll_71 rfl rfl rfl rfl rfl (by decide) ⟨by decide, by decide⟩ hcs (zdg DLc13_law 6 (613, .invokevirtual 71, 3) rfl) ?_
  refine l_aload (pc := 616) 2 hF (zdg DLc13_law 7 (616, .aload_n 2, 1) rfl) rfl ?_
  refine l_arg (pc := 617) 1 hF h6 (by decide) rfl (zdg DLc13_law 8 (617, .aload_n 0, 1) rfl) (zdg DLc13_law 9 (618, .iload_n 3, 1) rfl) (zdg DLc13_law 10 (619, .iconst 1, 1) rfl) (zdg DLc13_law 11 (620, .iadd, 1) rfl) (zdg DLc13_law 12 (621, .iaload, 1) rfl) ?_
  refine l_callM (pc := 622) (av := [zI (K.2.2.2.2.2.2.2.2.2.2 (n + 1))]) (rest := [.long r]) (st2 := [.long r, .long r]) (v1 := (some (zL r))) (σ1 := σm) hF hCF (fun w a ha => by simp at ha; rcases ha with rfl <;> trivial) (fun l => by have h := c_X12_covered l (K.2.2.2.2.2.2.2.2.2.2 (n + 1)) σm r e2; exact h) zv_X12_covered ll_75 rfl rfl rfl rfl rfl (by decide) ⟨by decide, by decide⟩ hcs (zdg DLc13_law 13 (622, .invokevirtual 75, 3) rfl) ?_
  refine l_eqL (pc := 625) 1555 hF (zdg DLc13_law 14 (625, .lcmp, 1) rfl) (zdg DLc13_law 15 (626, .ifCond .eq 929, 3) rfl) rfl ?_
  exact next σc σm hrel2
def Lc14_law : List (Nat × Instr × Nat) := [(631, .aload_n 1, 1), (632, .aload_n 0, 1), (633, .iload_n 3, 1), (634, .iconst 1, 1), (635, .iadd, 1), (636, .iaload, 1), (637, .aload_n 0, 1), (638, .iload_n 3, 1), (639, .iconst 2, 1), (640, .iadd, 1), (641, .iaload, 1), (642, .aload_n 0, 1), (643, .iload_n 3, 1), (644, .iconst 3, 1), (645, .iadd, 1), (646, .iaload, 1), (647, .invokevirtual 76, 3), (650, .aload_n 2, 1), (651, .aload_n 0, 1), (652, .iload_n 3, 1), (653, .iconst 1, 1), (654, .iadd, 1), (655, .iaload, 1), (656, .aload_n 0, 1), (657, .iload_n 3, 1), (658, .iconst 2, 1), (659, .iadd, 1), (660, .iaload, 1), (661, .aload_n 0, 1), (662, .iload_n 3, 1), (663, .iconst 3, 1), (664, .iadd, 1), (665, .iaload, 1), (666, .invokevirtual 80, 3), (669, .if_icmp .eq 886, 3), (672, .iconst 0, 1), (673, .ireturn, 1)]
set_option maxRecDepth 100000 in
theorem DLc14_law : zdecs code Lc14_law = true := by decide +kernel
def PR_at (Rel : zG → zG → Prop) : Prop := ∀ (x1 x2 x3 : Int32) (σc σm : zG), Rel σc σm → ∃ (r : Int32) (sc : zG) (sm : zG), f_X11_at x1 x2 x3 σc = some (r, sc) ∧ f_X12_at x1 x2 x3 σm = some (r, sm) ∧ Rel sc sm
set_option maxRecDepth 100000 in
set_option maxHeartbeats 4000000 in
theorem law_14 (Rel : zG → zG → Prop) (hp : PR_at Rel) {K : zKL} {wM wC : zW} {cs ss n : Nat} {σc σm : zG} (hF : zLF K wM) (hCF : zLC K wM wC) (h6 : n + 6 ≤ K.2.2.2.2.2.2.2.2.2.1) (hcs : cs ≤ 600000 ∧ ss ≤ 7302250) (hrel : Rel σc σm) (next : ∀ sc sm, Rel sc sm → zLL K wM wC cs ss 1555 (zal K wM wC n) [] sc sm) : zLL K wM wC cs ss 631 (zal K wM wC n) [] σc σm := by
  obtain ⟨r, sc, sm, e1, e2, hrel2⟩ := hp (K.2.2.2.2.2.2.2.2.2.2 (n + 1)) (K.2.2.2.2.2.2.2.2.2.2 (n + 2)) (K.2.2.2.2.2.2.2.2.2.2 (n + 3)) σc σm hrel
  refine l_aload (pc := 631) 1 hF (zdg DLc14_law 0 (631, .aload_n 1, 1) rfl) rfl ?_
  refine l_arg (pc := 632) 1 hF h6 (by decide) rfl (zdg DLc14_law 1 (632, .aload_n 0, 1) rfl) (zdg DLc14_law 2 (633, .iload_n 3, 1) rfl) (zdg DLc14_law 3 (634, .iconst 1, 1) rfl) (zdg DLc14_law 4 (635, .iadd, 1) rfl) (zdg DLc14_law 5 (636, .iaload, 1) rfl) ?_
  refine l_arg (pc := 637) 2 hF h6 (by decide) rfl (zdg DLc14_law 6 (637, .aload_n 0, 1) rfl) (zdg DLc14_law 7 (638, .iload_n 3, 1) rfl) (zdg DLc14_law 8 (639, .iconst 2, 1) rfl) (zdg DLc14_law 9 (640, .iadd, 1) rfl) (zdg DLc14_law 10 (641, .iaload, 1) rfl) ?_
  refine l_arg (pc := 642) 3 hF h6 (by decide) rfl (zdg DLc14_law 11 (642, .aload_n 0, 1) rfl) (zdg DLc14_law 12 (643, .iload_n 3, 1) rfl) (zdg DLc14_law 13 (644, .iconst 3, 1) rfl) (zdg DLc14_law 14 (645, .iadd, 1) rfl) (zdg DLc14_law 15 (646, .iaload, 1) rfl) ?_
  refine l_callC (pc := 647) (av := [zI (K.2.2.2.2.2.2.2.2.2.2 (n + 1)), zI (K.2.2.2.2.2.2.2.2.2.2 (n + 2)), zI (K.2.2.2.2.2.2.2.2.2.2 (n + 3))]) (rest := []) (st2 := [.int r]) (v1 := (some (zI r))) (σ1 := sc) hF hCF (fun w a ha => by simp at ha; rcases ha with rfl | rfl | rfl <;> trivial) (fun l => by have h := c_X11_at l (K.2.2.2.2.2.2.2.2.2.2 (n + 1)) (K.2.2.2.2.2.2.2.2.2.2 (n + 2)) (K.2.2.2.2.2.2.2.2.2.2 (n + 3)) σc (r, sc) e1; exact h) zv_X11_at ll_76 rfl rfl rfl rfl rfl (by decide) ⟨by decide, by decide⟩ hcs (zdg DLc14_law 16 (647, .invokevirtual 76, 3) rfl) ?_
  refine l_aload (pc := 650) 2 hF (zdg DLc14_law 17 (650, .aload_n 2, 1) rfl) rfl ?_
  refine l_arg (pc := 651) 1 hF h6 (by decide) rfl (zdg DLc14_law 18 (651, .aload_n 0, 1) rfl) (zdg DLc14_law 19 (652, .iload_n 3, 1) rfl) (zdg DLc14_law 20 (653, .iconst 1, 1) rfl) (zdg DLc14_law 21 (654, .iadd, 1) rfl) (zdg DLc14_law 22 (655, .iaload, 1) rfl) ?_
  refine l_arg (pc := 656) 2 hF h6 (by decide) rfl (zdg DLc14_law 23 (656, .aload_n 0, 1) rfl) (zdg DLc14_law 24 (657, .iload_n 3, 1) rfl) (zdg DLc14_law 25 (658, .iconst 2, 1) rfl) (zdg DLc14_law 26 (659, .iadd, 1) rfl) (zdg DLc14_law 27 (660, .iaload, 1) rfl) ?_
  refine l_arg (pc := 661) 3 hF h6 (by decide) rfl (zdg DLc14_law 28 (661, .aload_n 0, 1) rfl) (zdg DLc14_law 29 (662, .iload_n 3, 1) rfl) (zdg DLc14_law 30 (663, .iconst 3, 1) rfl) (zdg DLc14_law 31 (664, .iadd, 1) rfl) (zdg DLc14_law 32 (665, .iaload, 1) rfl) ?_
  refine l_callM (pc := 666) (av := [zI (K.2.2.2.2.2.2.2.2.2.2 (n + 1)), zI (K.2.2.2.2.2.2.2.2.2.2 (n + 2)), zI (K.2.2.2.2.2.2.2.2.2.2 (n + 3))]) (rest := [.int r]) (st2 := [.int r, .int r]) (v1 := (some (zI r))) (σ1 := sm) hF hCF (fun w a ha => by simp at ha; rcases ha with rfl | rfl | rfl <;> trivial) (fun l => by have h := c_X12_at l (K.2.2.2.2.2.2.2.2.2.2 (n + 1)) (K.2.2.2.2.2.2.2.2.2.2 (n + 2)) (K.2.2.2.2.2.2.2.2.2.2 (n + 3)) σm (r, sm) e2; exact h) zv_X12_at ll_80 rfl rfl rfl rfl rfl (by decide) ⟨by decide, by decide⟩ hcs (zdg DLc14_law 33 (666, .invokevirtual 80, 3) rfl) ?_
  refine l_eqI (pc := 669) 1555 hF (zdg DLc14_law 34 (669, .if_icmp .eq 886, 3) rfl) rfl ?_
  exact next sc sm hrel2
def Lc15_law : List (Nat × Instr × Nat) := [(674, .aload_n 1, 1), (675, .aload_n 0, 1), (676, .iload_n 3, 1), (677, .iconst 1, 1), (678, .iadd, 1), (679, .iaload, 1), (680, .invokevirtual 81, 3), (683, .aload_n 2, 1), (684, .aload_n 0, 1), (685, .iload_n 3, 1), (686, .iconst 1, 1), (687, .iadd, 1), (688, .iaload, 1), (689, .invokevirtual 84, 3), (692, .if_icmp .eq 863, 3), (695, .iconst 0, 1), (696, .ireturn, 1)]
set_option maxRecDepth 100000 in
theorem DLc15_law : zdecs code Lc15_law = true := by decide +kernel
def PR_worth (Rel : zG → zG → Prop) : Prop := ∀ (x1 : Int32) (σc σm : zG), Rel σc σm → ∃ (r : Int32) (sc : zG) (sm : zG), f_X11_worth x1 σc = some (r, sc) ∧ f_X12_worth x1 σm = some (r, sm) ∧ Rel sc sm
set_option maxRecDepth 100000 in
set_option maxHeartbeats 4000000 in
theorem law_15 (Rel : zG → zG → Prop) (hp : PR_worth Rel) {K : zKL} {wM wC : zW} {cs ss n : Nat} {σc σm : zG} (hF : zLF K wM) (hCF : zLC K wM wC) (h6 : n + 6 ≤ K.2.2.2.2.2.2.2.2.2.1) (hcs : cs ≤ 600000 ∧ ss ≤ 7302250) (hrel : Rel σc σm) (next : ∀ sc sm, Rel sc sm → zLL K wM wC cs ss 1555 (zal K wM wC n) [] sc sm) : zLL K wM wC cs ss 674 (zal K wM wC n) [] σc σm := by
  obtain ⟨r, sc, sm, e1, e2, hrel2⟩ := hp (K.2.2.2.2.2.2.2.2.2.2 (n + 1)) σc σm hrel
  refine l_aload (pc := 674) 1 hF (zdg DLc15_law 0 (674, .aload_n 1, 1) rfl) rfl ?_
  refine l_arg (pc := 675) 1 hF h6 (by decide) rfl (zdg DLc15_law 1 (675, .aload_n 0, 1) rfl) (zdg DLc15_law 2 (676, .iload_n 3, 1) rfl) (zdg DLc15_law 3 (677, .iconst 1, 1) rfl) (zdg DLc15_law 4 (678, .iadd, 1) rfl) (zdg DLc15_law 5 (679, .iaload, 1) rfl) ?_
  refine l_callC (pc := 680) (av := [zI (K.2.2.2.2.2.2.2.2.2.2 (n + 1))]) (rest := []) (st2 := [.int r]) (v1 := (some (zI r))) (σ1 := sc) hF hCF (fun w a ha => by simp at ha; rcases ha with rfl <;> trivial) (fun l => by have h := c_X11_worth l (K.2.2.2.2.2.2.2.2.2.2 (n + 1)) σc (r, sc) e1; exact h) zv_X11_worth ll_81 rfl rfl rfl rfl rfl (by decide) ⟨by decide, by decide⟩ hcs (zdg DLc15_law 6 (680, .invokevirtual 81, 3) rfl) ?_
  refine l_aload (pc := 683) 2 hF (zdg DLc15_law 7 (683, .aload_n 2, 1) rfl) rfl ?_
  refine l_arg (pc := 684) 1 hF h6 (by decide) rfl (zdg DLc15_law 8 (684, .aload_n 0, 1) rfl) (zdg DLc15_law 9 (685, .iload_n 3, 1) rfl) (zdg DLc15_law 10 (686, .iconst 1, 1) rfl) (zdg DLc15_law 11 (687, .iadd, 1) rfl) (zdg DLc15_law 12 (688, .iaload, 1) rfl) ?_
  refine l_callM (pc := 689) (av := [zI (K.2.2.2.2.2.2.2.2.2.2 (n + 1))]) (rest := [.int r]) (st2 := [.int r, .int r]) (v1 := (some (zI r))) (σ1 := sm) hF hCF (fun w a ha => by simp at ha; rcases ha with rfl <;> trivial) (fun l => by have h := c_X12_worth l (K.2.2.2.2.2.2.2.2.2.2 (n + 1)) σm (r, sm) e2; exact h) zv_X12_worth ll_84 rfl rfl rfl rfl rfl (by decide) ⟨by decide, by decide⟩ hcs (zdg DLc15_law 13 (689, .invokevirtual 84, 3) rfl) ?_
  refine l_eqI (pc := 692) 1555 hF (zdg DLc15_law 14 (692, .if_icmp .eq 863, 3) rfl) rfl ?_
  exact next sc sm hrel2
def Lc16_law : List (Nat × Instr × Nat) := [(697, .aload_n 1, 1), (698, .aload_n 0, 1), (699, .iload_n 3, 1), (700, .iconst 1, 1), (701, .iadd, 1), (702, .iaload, 1), (703, .aload_n 0, 1), (704, .iload_n 3, 1), (705, .iconst 2, 1), (706, .iadd, 1), (707, .iaload, 1), (708, .invokevirtual 85, 3), (711, .aload_n 2, 1), (712, .aload_n 0, 1), (713, .iload_n 3, 1), (714, .iconst 1, 1), (715, .iadd, 1), (716, .iaload, 1), (717, .aload_n 0, 1), (718, .iload_n 3, 1), (719, .iconst 2, 1), (720, .iadd, 1), (721, .iaload, 1), (722, .invokevirtual 88, 3), (725, .if_icmp .eq 830, 3), (728, .iconst 0, 1), (729, .ireturn, 1)]
set_option maxRecDepth 100000 in
theorem DLc16_law : zdecs code Lc16_law = true := by decide +kernel
def PR_shot (Rel : zG → zG → Prop) : Prop := ∀ (x1 x2 : Int32) (σc σm : zG), Rel σc σm → ∃ (r : Int32), f_X11_shot x1 x2 σc = some r ∧ f_X12_shot x1 x2 σm = some r ∧ Rel σc σm
set_option maxRecDepth 100000 in
set_option maxHeartbeats 4000000 in
theorem law_16 (Rel : zG → zG → Prop) (hp : PR_shot Rel) {K : zKL} {wM wC : zW} {cs ss n : Nat} {σc σm : zG} (hF : zLF K wM) (hCF : zLC K wM wC) (h6 : n + 6 ≤ K.2.2.2.2.2.2.2.2.2.1) (hcs : cs ≤ 600000 ∧ ss ≤ 7302250) (hrel : Rel σc σm) (next : ∀ sc sm, Rel sc sm → zLL K wM wC cs ss 1555 (zal K wM wC n) [] sc sm) : zLL K wM wC cs ss 697 (zal K wM wC n) [] σc σm := by
  obtain ⟨r, e1, e2, hrel2⟩ := hp (K.2.2.2.2.2.2.2.2.2.2 (n + 1)) (K.2.2.2.2.2.2.2.2.2.2 (n + 2)) σc σm hrel
  refine l_aload (pc := 697) 1 hF (zdg DLc16_law 0 (697, .aload_n 1, 1) rfl) rfl ?_
  refine l_arg (pc := 698) 1 hF h6 (by decide) rfl (zdg DLc16_law 1 (698, .aload_n 0, 1) rfl) (zdg DLc16_law 2 (699, .iload_n 3, 1) rfl) (zdg DLc16_law 3 (700, .iconst 1, 1) rfl) (zdg DLc16_law 4 (701, .iadd, 1) rfl) (zdg DLc16_law 5 (702, .iaload, 1) rfl) ?_
  refine l_arg (pc := 703) 2 hF h6 (by decide) rfl (zdg DLc16_law 6 (703, .aload_n 0, 1) rfl) (zdg DLc16_law 7 (704, .iload_n 3, 1) rfl) (zdg DLc16_law 8 (705, .iconst 2, 1) rfl) (zdg DLc16_law 9 (706, .iadd, 1) rfl) (zdg DLc16_law 10 (707, .iaload, 1) rfl) ?_
  refine l_callC (pc := 708) (av := [zI (K.2.2.2.2.2.2.2.2.2.2 (n + 1)), zI (K.2.2.2.2.2.2.2.2.2.2 (n + 2))]) (rest := []) (st2 := [.int r]) (v1 := (some (zI r))) (σ1 := σc) hF hCF (fun w a ha => by simp at ha; rcases ha with rfl | rfl <;> trivial) (fun l => by have h := c_X11_shot l (K.2.2.2.2.2.2.2.2.2.2 (n + 1)) (K.2.2.2.2.2.2.2.2.2.2 (n + 2)) σc r e1; exact h) zv_X11_shot ll_85 rfl rfl rfl rfl rfl (by decide) ⟨by decide, by decide⟩ hcs (zdg DLc16_law 11 (708, .invokevirtual 85, 3) rfl) ?_
  refine l_aload (pc := 711) 2 hF (zdg DLc16_law 12 (711, .aload_n 2, 1) rfl) rfl ?_
  refine l_arg (pc := 712) 1 hF h6 (by decide) rfl (zdg DLc16_law 13 (712, .aload_n 0, 1) rfl) (zdg DLc16_law 14 (713, .iload_n 3, 1) rfl) (zdg DLc16_law 15 (714, .iconst 1, 1) rfl) (zdg DLc16_law 16 (715, .iadd, 1) rfl) (zdg DLc16_law 17 (716, .iaload, 1) rfl) ?_
  refine l_arg (pc := 717) 2 hF h6 (by decide) rfl (zdg DLc16_law 18 (717, .aload_n 0, 1) rfl) (zdg DLc16_law 19 (718, .iload_n 3, 1) rfl) (zdg DLc16_law 20 (719, .iconst 2, 1) rfl) (zdg DLc16_law 21 (720, .iadd, 1) rfl) (zdg DLc16_law 22 (721, .iaload, 1) rfl) ?_
  refine l_callM (pc := 722) (av := [zI (K.2.2.2.2.2.2.2.2.2.2 (n + 1)), zI (K.2.2.2.2.2.2.2.2.2.2 (n + 2))]) (rest := [.int r]) (st2 := [.int r, .int r]) (v1 := (some (zI r))) (σ1 := σm) hF hCF (fun w a ha => by simp at ha; rcases ha with rfl | rfl <;> trivial) (fun l => by have h := c_X12_shot l (K.2.2.2.2.2.2.2.2.2.2 (n + 1)) (K.2.2.2.2.2.2.2.2.2.2 (n + 2)) σm r e2; exact h) zv_X12_shot ll_88 rfl rfl rfl rfl rfl (by decide) ⟨by decide, by decide⟩ hcs (zdg DLc16_law 23 (722, .invokevirtual 88, 3) rfl) ?_
  refine l_eqI (pc := 725) 1555 hF (zdg DLc16_law 24 (725, .if_icmp .eq 830, 3) rfl) rfl ?_
  exact next σc σm hrel2
def Lc17_law : List (Nat × Instr × Nat) := [(730, .aload_n 1, 1), (731, .aload_n 0, 1), (732, .iload_n 3, 1), (733, .iconst 1, 1), (734, .iadd, 1), (735, .iaload, 1), (736, .aload_n 0, 1), (737, .iload_n 3, 1), (738, .iconst 2, 1), (739, .iadd, 1), (740, .iaload, 1), (741, .aload_n 0, 1), (742, .iload_n 3, 1), (743, .iconst 3, 1), (744, .iadd, 1), (745, .iaload, 1), (746, .invokevirtual 89, 3), (749, .aload_n 2, 1), (750, .aload_n 0, 1), (751, .iload_n 3, 1), (752, .iconst 1, 1), (753, .iadd, 1), (754, .iaload, 1), (755, .aload_n 0, 1), (756, .iload_n 3, 1), (757, .iconst 2, 1), (758, .iadd, 1), (759, .iaload, 1), (760, .aload_n 0, 1), (761, .iload_n 3, 1), (762, .iconst 3, 1), (763, .iadd, 1), (764, .iaload, 1), (765, .invokevirtual 92, 3), (768, .if_icmp .eq 787, 3), (771, .iconst 0, 1), (772, .ireturn, 1)]
set_option maxRecDepth 100000 in
theorem DLc17_law : zdecs code Lc17_law = true := by decide +kernel
def PR_book (Rel : zG → zG → Prop) : Prop := ∀ (x1 x2 x3 : Int32) (σc σm : zG), Rel σc σm → ∃ (r : Int32), f_X11_book x1 x2 x3 σc = some r ∧ f_X12_book x1 x2 x3 σm = some r ∧ Rel σc σm
set_option maxRecDepth 100000 in
set_option maxHeartbeats 4000000 in
theorem law_17 (Rel : zG → zG → Prop) (hp : PR_book Rel) {K : zKL} {wM wC : zW} {cs ss n : Nat} {σc σm : zG} (hF : zLF K wM) (hCF : zLC K wM wC) (h6 : n + 6 ≤ K.2.2.2.2.2.2.2.2.2.1) (hcs : cs ≤ 600000 ∧ ss ≤ 7302250) (hrel : Rel σc σm) (next : ∀ sc sm, Rel sc sm → zLL K wM wC cs ss 1555 (zal K wM wC n) [] sc sm) : zLL K wM wC cs ss 730 (zal K wM wC n) [] σc σm := by
  obtain ⟨r, e1, e2, hrel2⟩ := hp (K.2.2.2.2.2.2.2.2.2.2 (n + 1)) (K.2.2.2.2.2.2.2.2.2.2 (n + 2)) (K.2.2.2.2.2.2.2.2.2.2 (n + 3)) σc σm hrel
  refine l_aload (pc := 730) 1 hF (zdg DLc17_law 0 (730, .aload_n 1, 1) rfl) rfl ?_
  refine l_arg (pc := 731) 1 hF h6 (by decide) rfl (zdg DLc17_law 1 (731, .aload_n 0, 1) rfl) (zdg DLc17_law 2 (732, .iload_n 3, 1) rfl) (zdg DLc17_law 3 (733, .iconst 1, 1) rfl) (zdg DLc17_law 4 (734, .iadd, 1) rfl) (zdg DLc17_law 5 (735, .iaload, 1) rfl) ?_
  refine l_arg (pc := 736) 2 hF h6 (by decide) rfl (zdg DLc17_law 6 (736, .aload_n 0, 1) rfl) (zdg DLc17_law 7 (737, .iload_n 3, 1) rfl) (zdg DLc17_law 8 (738, .iconst 2, 1) rfl) (zdg DLc17_law 9 (739, .iadd, 1) rfl) (zdg DLc17_law 10 (740, .iaload, 1) rfl) ?_
  refine l_arg (pc := 741) 3 hF h6 (by decide) rfl (zdg DLc17_law 11 (741, .aload_n 0, 1) rfl) (zdg DLc17_law 12 (742, .iload_n 3, 1) rfl) (zdg DLc17_law 13 (743, .iconst 3, 1) rfl) (zdg DLc17_law 14 (744, .iadd, 1) rfl) (zdg DLc17_law 15 (745, .iaload, 1) rfl) ?_
  refine l_callC (pc := 746) (av := [zI (K.2.2.2.2.2.2.2.2.2.2 (n + 1)), zI (K.2.2.2.2.2.2.2.2.2.2 (n + 2)), zI (K.2.2.2.2.2.2.2.2.2.2 (n + 3))]) (rest := []) (st2 := [.int r]) (v1 := (some (zI r))) (σ1 := σc) hF hCF (fun w a ha => by simp at ha; rcases ha with rfl | rfl | rfl <;> trivial) (fun l => by have h := c_X11_book l (K.2.2.2.2.2.2.2.2.2.2 (n + 1)) (K.2.2.2.2.2.2.2.2.2.2 (n + 2)) (K.2.2.2.2.2.2.2.2.2.2 (n + 3)) σc r e1; exact h) zv_X11_book ll_89 rfl rfl rfl rfl rfl (by decide) ⟨by decide, by decide⟩ hcs (zdg DLc17_law 16 (746, .invokevirtual 89, 3) rfl) ?_
  refine l_aload (pc := 749) 2 hF (zdg DLc17_law 17 (749, .aload_n 2, 1) rfl) rfl ?_
  refine l_arg (pc := 750) 1 hF h6 (by decide) rfl (zdg DLc17_law 18 (750, .aload_n 0, 1) rfl) (zdg DLc17_law 19 (751, .iload_n 3, 1) rfl) (zdg DLc17_law 20 (752, .iconst 1, 1) rfl) (zdg DLc17_law 21 (753, .iadd, 1) rfl) (zdg DLc17_law 22 (754, .iaload, 1) rfl) ?_
  refine l_arg (pc := 755) 2 hF h6 (by decide) rfl (zdg DLc17_law 23 (755, .aload_n 0, 1) rfl) (zdg DLc17_law 24 (756, .iload_n 3, 1) rfl) (zdg DLc17_law 25 (757, .iconst 2, 1) rfl) (zdg DLc17_law 26 (758, .iadd, 1) rfl) (zdg DLc17_law 27 (759, .iaload, 1) rfl) ?_
  refine l_arg (pc := 760) 3 hF h6 (by decide) rfl (zdg DLc17_law 28 (760, .aload_n 0, 1) rfl) (zdg DLc17_law 29 (761, .iload_n 3, 1) rfl) (zdg DLc17_law 30 (762, .iconst 3, 1) rfl) (zdg DLc17_law 31 (763, .iadd, 1) rfl) (zdg DLc17_law 32 (764, .iaload, 1) rfl) ?_
  refine l_callM (pc := 765) (av := [zI (K.2.2.2.2.2.2.2.2.2.2 (n + 1)), zI (K.2.2.2.2.2.2.2.2.2.2 (n + 2)), zI (K.2.2.2.2.2.2.2.2.2.2 (n + 3))]) (rest := [.int r]) (st2 := [.int r, .int r]) (v1 := (some (zI r))) (σ1 := σm) hF hCF (fun w a ha => by simp at ha; rcases ha with rfl | rfl | rfl <;> trivial) (fun l => by have h := c_X12_book l (K.2.2.2.2.2.2.2.2.2.2 (n + 1)) (K.2.2.2.2.2.2.2.2.2.2 (n + 2)) (K.2.2.2.2.2.2.2.2.2.2 (n + 3)) σm r e2; exact h) zv_X12_book ll_92 rfl rfl rfl rfl rfl (by decide) ⟨by decide, by decide⟩ hcs (zdg DLc17_law 33 (765, .invokevirtual 92, 3) rfl) ?_
  refine l_eqI (pc := 768) 1555 hF (zdg DLc17_law 34 (768, .if_icmp .eq 787, 3) rfl) rfl ?_
  exact next σc σm hrel2
def Lc18_law : List (Nat × Instr × Nat) := [(773, .aload_n 1, 1), (774, .invokevirtual 93, 3), (777, .aload_n 2, 1), (778, .invokevirtual 96, 3), (781, .if_icmp .eq 774, 3), (784, .iconst 0, 1), (785, .ireturn, 1)]
set_option maxRecDepth 100000 in
theorem DLc18_law : zdecs code Lc18_law = true := by decide +kernel
def PR_waits (Rel : zG → zG → Prop) : Prop := ∀ (σc σm : zG), Rel σc σm → ∃ (r : Int32), f_X11_waits σc = some r ∧ f_X12_waits σm = some r ∧ Rel σc σm
set_option maxRecDepth 100000 in
set_option maxHeartbeats 4000000 in
theorem law_18 (Rel : zG → zG → Prop) (hp : PR_waits Rel) {K : zKL} {wM wC : zW} {cs ss n : Nat} {σc σm : zG} (hF : zLF K wM) (hCF : zLC K wM wC) (h6 : n + 6 ≤ K.2.2.2.2.2.2.2.2.2.1) (hcs : cs ≤ 600000 ∧ ss ≤ 7302250) (hrel : Rel σc σm) (next : ∀ sc sm, Rel sc sm → zLL K wM wC cs ss 1555 (zal K wM wC n) [] sc sm) : zLL K wM wC cs ss 773 (zal K wM wC n) [] σc σm := by
  obtain ⟨r, e1, e2, hrel2⟩ := hp  σc σm hrel
  refine l_aload (pc := 773) 1 hF (zdg DLc18_law 0 (773, .aload_n 1, 1) rfl) rfl ?_
  refine l_callC (pc := 774) (av := []) (rest := []) (st2 := [.int r]) (v1 := (some (zI r))) (σ1 := σc) hF hCF (fun w a ha => by cases ha) (fun l => by have h := c_X11_waits l σc r e1; exact h) zv_X11_waits ll_93 rfl rfl rfl rfl rfl (by decide) ⟨by decide, by decide⟩ hcs (zdg DLc18_law 1 (774, .invokevirtual 93, 3) rfl) ?_
  refine l_aload (pc := 777) 2 hF (zdg DLc18_law 2 (777, .aload_n 2, 1) rfl) rfl ?_
  refine l_callM (pc := 778) (av := []) (rest := [.int r]) (st2 := [.int r, .int r]) (v1 := (some (zI r))) (σ1 := σm) hF hCF (fun w a ha => by cases ha) (fun l => by have h := c_X12_waits l σm r e2; exact h) zv_X12_waits ll_96 rfl rfl rfl rfl rfl (by decide) ⟨by decide, by decide⟩ hcs (zdg DLc18_law 3 (778, .invokevirtual 96, 3) rfl) ?_
  refine l_eqI (pc := 781) 1555 hF (zdg DLc18_law 4 (781, .if_icmp .eq 774, 3) rfl) rfl ?_
  exact next σc σm hrel2
def Lc19_law : List (Nat × Instr × Nat) := [(786, .aload_n 1, 1), (787, .aload_n 0, 1), (788, .iload_n 3, 1), (789, .iconst 1, 1), (790, .iadd, 1), (791, .iaload, 1), (792, .invokevirtual 97, 3), (795, .aload_n 2, 1), (796, .aload_n 0, 1), (797, .iload_n 3, 1), (798, .iconst 1, 1), (799, .iadd, 1), (800, .iaload, 1), (801, .invokevirtual 100, 3), (804, .if_icmp .eq 751, 3), (807, .iconst 0, 1), (808, .ireturn, 1)]
set_option maxRecDepth 100000 in
theorem DLc19_law : zdecs code Lc19_law = true := by decide +kernel
def PR_row (Rel : zG → zG → Prop) : Prop := ∀ (x1 : Int32) (σc σm : zG), Rel σc σm → ∃ (r : Int32), f_X11_row x1 σc = some r ∧ f_X12_row x1 σm = some r ∧ Rel σc σm
set_option maxRecDepth 100000 in
set_option maxHeartbeats 4000000 in
theorem law_19 (Rel : zG → zG → Prop) (hp : PR_row Rel) {K : zKL} {wM wC : zW} {cs ss n : Nat} {σc σm : zG} (hF : zLF K wM) (hCF : zLC K wM wC) (h6 : n + 6 ≤ K.2.2.2.2.2.2.2.2.2.1) (hcs : cs ≤ 600000 ∧ ss ≤ 7302250) (hrel : Rel σc σm) (next : ∀ sc sm, Rel sc sm → zLL K wM wC cs ss 1555 (zal K wM wC n) [] sc sm) : zLL K wM wC cs ss 786 (zal K wM wC n) [] σc σm := by
  obtain ⟨r, e1, e2, hrel2⟩ := hp (K.2.2.2.2.2.2.2.2.2.2 (n + 1)) σc σm hrel
  refine l_aload (pc := 786) 1 hF (zdg DLc19_law 0 (786, .aload_n 1, 1) rfl) rfl ?_
  refine l_arg (pc := 787) 1 hF h6 (by decide) rfl (zdg DLc19_law 1 (787, .aload_n 0, 1) rfl) (zdg DLc19_law 2 (788, .iload_n 3, 1) rfl) (zdg DLc19_law 3 (789, .iconst 1, 1) rfl) (zdg DLc19_law 4 (790, .iadd, 1) rfl) (zdg DLc19_law 5 (791, .iaload, 1) rfl) ?_
  refine l_callC (pc := 792) (av := [zI (K.2.2.2.2.2.2.2.2.2.2 (n + 1))]) (rest := []) (st2 := [.int r]) (v1 := (some (zI r))) (σ1 := σc) hF hCF (fun w a ha => by simp at ha; rcases ha with rfl <;> trivial) (fun l => by have h := c_X11_row l (K.2.2.2.2.2.2.2.2.2.2 (n + 1)) σc r e1; exact h) zv_X11_row ll_97 rfl rfl rfl rfl rfl (by decide) ⟨by decide, by decide⟩ hcs (zdg DLc19_law 6 (792, .invokevirtual 97, 3) rfl) ?_
  refine l_aload (pc := 795) 2 hF (zdg DLc19_law 7 (795, .aload_n 2, 1) rfl) rfl ?_
  refine l_arg (pc := 796) 1 hF h6 (by decide) rfl (zdg DLc19_law 8 (796, .aload_n 0, 1) rfl) (zdg DLc19_law 9 (797, .iload_n 3, 1) rfl) (zdg DLc19_law 10 (798, .iconst 1, 1) rfl) (zdg DLc19_law 11 (799, .iadd, 1) rfl) (zdg DLc19_law 12 (800, .iaload, 1) rfl) ?_
  refine l_callM (pc := 801) (av := [zI (K.2.2.2.2.2.2.2.2.2.2 (n + 1))]) (rest := [.int r]) (st2 := [.int r, .int r]) (v1 := (some (zI r))) (σ1 := σm) hF hCF (fun w a ha => by simp at ha; rcases ha with rfl <;> trivial) (fun l => by have h := c_X12_row l (K.2.2.2.2.2.2.2.2.2.2 (n + 1)) σm r e2; exact h) zv_X12_row ll_100 rfl rfl rfl rfl rfl (by decide) ⟨by decide, by decide⟩ hcs (zdg DLc19_law 13 (801, .invokevirtual 100, 3) rfl) ?_
  refine l_eqI (pc := 804) 1555 hF (zdg DLc19_law 14 (804, .if_icmp .eq 751, 3) rfl) rfl ?_
  exact next σc σm hrel2
def Lc20_law : List (Nat × Instr × Nat) := [(809, .aload_n 1, 1), (810, .aload_n 0, 1), (811, .iload_n 3, 1), (812, .iconst 1, 1), (813, .iadd, 1), (814, .iaload, 1), (815, .invokevirtual 101, 3), (818, .aload_n 2, 1), (819, .aload_n 0, 1), (820, .iload_n 3, 1), (821, .iconst 1, 1), (822, .iadd, 1), (823, .iaload, 1), (824, .invokevirtual 104, 3), (827, .if_icmp .eq 728, 3), (830, .iconst 0, 1), (831, .ireturn, 1)]
set_option maxRecDepth 100000 in
theorem DLc20_law : zdecs code Lc20_law = true := by decide +kernel
def PR_best (Rel : zG → zG → Prop) : Prop := ∀ (x1 : Int32) (σc σm : zG), Rel σc σm → ∃ (r : Int32) (sc : zG) (sm : zG), f_X11_best x1 σc = some (r, sc) ∧ f_X12_best x1 σm = some (r, sm) ∧ Rel sc sm
set_option maxRecDepth 100000 in
set_option maxHeartbeats 4000000 in
theorem law_20 (Rel : zG → zG → Prop) (hp : PR_best Rel) {K : zKL} {wM wC : zW} {cs ss n : Nat} {σc σm : zG} (hF : zLF K wM) (hCF : zLC K wM wC) (h6 : n + 6 ≤ K.2.2.2.2.2.2.2.2.2.1) (hcs : cs ≤ 600000 ∧ ss ≤ 7302250) (hrel : Rel σc σm) (next : ∀ sc sm, Rel sc sm → zLL K wM wC cs ss 1555 (zal K wM wC n) [] sc sm) : zLL K wM wC cs ss 809 (zal K wM wC n) [] σc σm := by
  obtain ⟨r, sc, sm, e1, e2, hrel2⟩ := hp (K.2.2.2.2.2.2.2.2.2.2 (n + 1)) σc σm hrel
  refine l_aload (pc := 809) 1 hF (zdg DLc20_law 0 (809, .aload_n 1, 1) rfl) rfl ?_
  refine l_arg (pc := 810) 1 hF h6 (by decide) rfl (zdg DLc20_law 1 (810, .aload_n 0, 1) rfl) (zdg DLc20_law 2 (811, .iload_n 3, 1) rfl) (zdg DLc20_law 3 (812, .iconst 1, 1) rfl) (zdg DLc20_law 4 (813, .iadd, 1) rfl) (zdg DLc20_law 5 (814, .iaload, 1) rfl) ?_
  refine l_callC (pc := 815) (av := [zI (K.2.2.2.2.2.2.2.2.2.2 (n + 1))]) (rest := []) (st2 := [.int r]) (v1 := (some (zI r))) (σ1 := sc) hF hCF (fun w a ha => by simp at ha; rcases ha with rfl <;> trivial) (fun l => by have h := c_X11_best l (K.2.2.2.2.2.2.2.2.2.2 (n + 1)) σc (r, sc) e1; exact h) zv_X11_best ll_101 rfl rfl rfl rfl rfl (by decide) ⟨by decide, by decide⟩ hcs (zdg DLc20_law 6 (815, .invokevirtual 101, 3) rfl) ?_
  refine l_aload (pc := 818) 2 hF (zdg DLc20_law 7 (818, .aload_n 2, 1) rfl) rfl ?_
  refine l_arg (pc := 819) 1 hF h6 (by decide) rfl (zdg DLc20_law 8 (819, .aload_n 0, 1) rfl) (zdg DLc20_law 9 (820, .iload_n 3, 1) rfl) (zdg DLc20_law 10 (821, .iconst 1, 1) rfl) (zdg DLc20_law 11 (822, .iadd, 1) rfl) (zdg DLc20_law 12 (823, .iaload, 1) rfl) ?_
  refine l_callM (pc := 824) (av := [zI (K.2.2.2.2.2.2.2.2.2.2 (n + 1))]) (rest := [.int r]) (st2 := [.int r, .int r]) (v1 := (some (zI r))) (σ1 := sm) hF hCF (fun w a ha => by simp at ha; rcases ha with rfl <;> trivial) (fun l => by have h := c_X12_best l (K.2.2.2.2.2.2.2.2.2.2 (n + 1)) σm (r, sm) e2; exact h) zv_X12_best ll_104 rfl rfl rfl rfl rfl (by decide) ⟨by decide, by decide⟩ hcs (zdg DLc20_law 13 (824, .invokevirtual 104, 3) rfl) ?_
  refine l_eqI (pc := 827) 1555 hF (zdg DLc20_law 14 (827, .if_icmp .eq 728, 3) rfl) rfl ?_
  exact next sc sm hrel2
def Lc21_law : List (Nat × Instr × Nat) := [(832, .aload_n 1, 1), (833, .aload_n 0, 1), (834, .iload_n 3, 1), (835, .iconst 1, 1), (836, .iadd, 1), (837, .iaload, 1), (838, .aload_n 0, 1), (839, .iload_n 3, 1), (840, .iconst 2, 1), (841, .iadd, 1), (842, .iaload, 1), (843, .invokevirtual 105, 3), (846, .aload_n 2, 1), (847, .aload_n 0, 1), (848, .iload_n 3, 1), (849, .iconst 1, 1), (850, .iadd, 1), (851, .iaload, 1), (852, .aload_n 0, 1), (853, .iload_n 3, 1), (854, .iconst 2, 1), (855, .iadd, 1), (856, .iaload, 1), (857, .invokevirtual 108, 3), (860, .if_icmp .eq 695, 3), (863, .iconst 0, 1), (864, .ireturn, 1)]
set_option maxRecDepth 100000 in
theorem DLc21_law : zdecs code Lc21_law = true := by decide +kernel
def PR_steps (Rel : zG → zG → Prop) : Prop := ∀ (x1 x2 : Int32) (σc σm : zG), Rel σc σm → ∃ (r : Int32) (sm : zG), f_X11_steps x1 x2 σc = some r ∧ f_X12_steps x1 x2 σm = some (r, sm) ∧ Rel σc sm
set_option maxRecDepth 100000 in
set_option maxHeartbeats 4000000 in
theorem law_21 (Rel : zG → zG → Prop) (hp : PR_steps Rel) {K : zKL} {wM wC : zW} {cs ss n : Nat} {σc σm : zG} (hF : zLF K wM) (hCF : zLC K wM wC) (h6 : n + 6 ≤ K.2.2.2.2.2.2.2.2.2.1) (hcs : cs ≤ 600000 ∧ ss ≤ 7302250) (hrel : Rel σc σm) (next : ∀ sc sm, Rel sc sm → zLL K wM wC cs ss 1555 (zal K wM wC n) [] sc sm) : zLL K wM wC cs ss 832 (zal K wM wC n) [] σc σm := by
  obtain ⟨r, sm, e1, e2, hrel2⟩ := hp (K.2.2.2.2.2.2.2.2.2.2 (n + 1)) (K.2.2.2.2.2.2.2.2.2.2 (n + 2)) σc σm hrel
  refine l_aload (pc := 832) 1 hF (zdg DLc21_law 0 (832, .aload_n 1, 1) rfl) rfl ?_
  refine l_arg (pc := 833) 1 hF h6 (by decide) rfl (zdg DLc21_law 1 (833, .aload_n 0, 1) rfl) (zdg DLc21_law 2 (834, .iload_n 3, 1) rfl) (zdg DLc21_law 3 (835, .iconst 1, 1) rfl) (zdg DLc21_law 4 (836, .iadd, 1) rfl) (zdg DLc21_law 5 (837, .iaload, 1) rfl) ?_
  refine l_arg (pc := 838) 2 hF h6 (by decide) rfl (zdg DLc21_law 6 (838, .aload_n 0, 1) rfl) (zdg DLc21_law 7 (839, .iload_n 3, 1) rfl) (zdg DLc21_law 8 (840, .iconst 2, 1) rfl) (zdg DLc21_law 9 (841, .iadd, 1) rfl) (zdg DLc21_law 10 (842, .iaload, 1) rfl) ?_
  refine l_callC (pc := 843) (av := [zI (K.2.2.2.2.2.2.2.2.2.2 (n + 1)), zI (K.2.2.2.2.2.2.2.2.2.2 (n + 2))]) (rest := []) (st2 := [.int r]) (v1 := (some (zI r))) (σ1 := σc) hF hCF (fun w a ha => by simp at ha; rcases ha with rfl | rfl <;> trivial) (fun l => by have h := c_X11_steps l (K.2.2.2.2.2.2.2.2.2.2 (n + 1)) (K.2.2.2.2.2.2.2.2.2.2 (n + 2)) σc r e1; exact h) zv_X11_steps ll_105 rfl rfl rfl rfl rfl (by decide) ⟨by decide, by decide⟩ hcs (zdg DLc21_law 11 (843, .invokevirtual 105, 3) rfl) ?_
  refine l_aload (pc := 846) 2 hF (zdg DLc21_law 12 (846, .aload_n 2, 1) rfl) rfl ?_
  refine l_arg (pc := 847) 1 hF h6 (by decide) rfl (zdg DLc21_law 13 (847, .aload_n 0, 1) rfl) (zdg DLc21_law 14 (848, .iload_n 3, 1) rfl) (zdg DLc21_law 15 (849, .iconst 1, 1) rfl) (zdg DLc21_law 16 (850, .iadd, 1) rfl) (zdg DLc21_law 17 (851, .iaload, 1) rfl) ?_
  refine l_arg (pc := 852) 2 hF h6 (by decide) rfl (zdg DLc21_law 18 (852, .aload_n 0, 1) rfl) (zdg DLc21_law 19 (853, .iload_n 3, 1) rfl) (zdg DLc21_law 20 (854, .iconst 2, 1) rfl) (zdg DLc21_law 21 (855, .iadd, 1) rfl) (zdg DLc21_law 22 (856, .iaload, 1) rfl) ?_
  refine l_callM (pc := 857) (av := [zI (K.2.2.2.2.2.2.2.2.2.2 (n + 1)), zI (K.2.2.2.2.2.2.2.2.2.2 (n + 2))]) (rest := [.int r]) (st2 := [.int r, .int r]) (v1 := (some (zI r))) (σ1 := sm) hF hCF (fun w a ha => by simp at ha; rcases ha with rfl | rfl <;> trivial) (fun l => by have h := c_X12_steps l (K.2.2.2.2.2.2.2.2.2.2 (n + 1)) (K.2.2.2.2.2.2.2.2.2.2 (n + 2)) σm (r, sm) e2; exact h) zv_X12_steps ll_108 rfl rfl rfl rfl rfl (by decide) ⟨by decide, by decide⟩ hcs (zdg DLc21_law 23 (857, .invokevirtual 108, 3) rfl) ?_
  refine l_eqI (pc := 860) 1555 hF (zdg DLc21_law 24 (860, .if_icmp .eq 695, 3) rfl) rfl ?_
  exact next σc sm hrel2
def Lc22_law : List (Nat × Instr × Nat) := [(865, .aload_n 1, 1), (866, .aload_n 0, 1), (867, .iload_n 3, 1), (868, .iconst 1, 1), (869, .iadd, 1), (870, .iaload, 1), (871, .invokevirtual 109, 3), (874, .aload_n 2, 1), (875, .aload_n 0, 1), (876, .iload_n 3, 1), (877, .iconst 1, 1), (878, .iadd, 1), (879, .iaload, 1), (880, .invokevirtual 112, 3), (883, .lcmp, 1), (884, .ifCond .eq 671, 3), (887, .iconst 0, 1), (888, .ireturn, 1)]
set_option maxRecDepth 100000 in
theorem DLc22_law : zdecs code Lc22_law = true := by decide +kernel
def PR_laid (Rel : zG → zG → Prop) : Prop := ∀ (x1 : Int32) (σc σm : zG), Rel σc σm → ∃ (r : Int64), f_X11_laid x1 σc = some r ∧ f_X12_laid x1 σm = some r ∧ Rel σc σm
set_option maxRecDepth 100000 in
set_option maxHeartbeats 4000000 in
theorem law_22 (Rel : zG → zG → Prop) (hp : PR_laid Rel) {K : zKL} {wM wC : zW} {cs ss n : Nat} {σc σm : zG} (hF : zLF K wM) (hCF : zLC K wM wC) (h6 : n + 6 ≤ K.2.2.2.2.2.2.2.2.2.1) (hcs : cs ≤ 600000 ∧ ss ≤ 7302250) (hrel : Rel σc σm) (next : ∀ sc sm, Rel sc sm → zLL K wM wC cs ss 1555 (zal K wM wC n) [] sc sm) : zLL K wM wC cs ss 865 (zal K wM wC n) [] σc σm := by
  obtain ⟨r, e1, e2, hrel2⟩ := hp (K.2.2.2.2.2.2.2.2.2.2 (n + 1)) σc σm hrel
  refine l_aload (pc := 865) 1 hF (zdg DLc22_law 0 (865, .aload_n 1, 1) rfl) rfl ?_
  refine l_arg (pc := 866) 1 hF h6 (by decide) rfl (zdg DLc22_law 1 (866, .aload_n 0, 1) rfl) (zdg DLc22_law 2 (867, .iload_n 3, 1) rfl) (zdg DLc22_law 3 (868, .iconst 1, 1) rfl) (zdg DLc22_law 4 (869, .iadd, 1) rfl) (zdg DLc22_law 5 (870, .iaload, 1) rfl) ?_
  refine l_callC (pc := 871) (av := [zI (K.2.2.2.2.2.2.2.2.2.2 (n + 1))]) (rest := []) (st2 := [.long r]) (v1 := (some (zL r))) (σ1 := σc) hF hCF (fun w a ha => by simp at ha; rcases ha with rfl <;> trivial) (fun l => by have h := c_X11_laid l (K.2.2.2.2.2.2.2.2.2.2 (n + 1)) σc r e1; exact h) zv_X11_laid ll_109 rfl rfl rfl rfl rfl (by decide) ⟨by decide, by decide⟩ hcs (zdg DLc22_law 6 (871, .invokevirtual 109, 3) rfl) ?_
  refine l_aload (pc := 874) 2 hF (zdg DLc22_law 7 (874, .aload_n 2, 1) rfl) rfl ?_
  refine l_arg (pc := 875) 1 hF h6 (by decide) rfl (zdg DLc22_law 8 (875, .aload_n 0, 1) rfl) (zdg DLc22_law 9 (876, .iload_n 3, 1) rfl) (zdg DLc22_law 10 (877, .iconst 1, 1) rfl) (zdg DLc22_law 11 (878, .iadd, 1) rfl) (zdg DLc22_law 12 (879, .iaload, 1) rfl) ?_
  refine l_callM (pc := 880) (av := [zI (K.2.2.2.2.2.2.2.2.2.2 (n + 1))]) (rest := [.long r]) (st2 := [.long r, .long r]) (v1 := (some (zL r))) (σ1 := σm) hF hCF (fun w a ha => by simp at ha; rcases ha with rfl <;> trivial) (fun l => by have h := c_X12_laid l (K.2.2.2.2.2.2.2.2.2.2 (n + 1)) σm r e2; exact h) zv_X12_laid ll_112 rfl rfl rfl rfl rfl (by decide) ⟨by decide, by decide⟩ hcs (zdg DLc22_law 13 (880, .invokevirtual 112, 3) rfl) ?_
  refine l_eqL (pc := 883) 1555 hF (zdg DLc22_law 14 (883, .lcmp, 1) rfl) (zdg DLc22_law 15 (884, .ifCond .eq 671, 3) rfl) rfl ?_
  exact next σc σm hrel2
def Lc23_law : List (Nat × Instr × Nat) := [(889, .aload_n 1, 1), (890, .aload_n 0, 1), (891, .iload_n 3, 1), (892, .iconst 1, 1), (893, .iadd, 1), (894, .iaload, 1), (895, .invokevirtual 113, 3), (898, .aload_n 2, 1), (899, .aload_n 0, 1), (900, .iload_n 3, 1), (901, .iconst 1, 1), (902, .iadd, 1), (903, .iaload, 1), (904, .invokevirtual 116, 3), (907, .if_icmp .eq 648, 3), (910, .iconst 0, 1), (911, .ireturn, 1)]
set_option maxRecDepth 100000 in
theorem DLc23_law : zdecs code Lc23_law = true := by decide +kernel
def PR_fewest (Rel : zG → zG → Prop) : Prop := ∀ (x1 : Int32) (σc σm : zG), Rel σc σm → ∃ (r : Int32) (sm : zG), f_X11_fewest x1 σc = some r ∧ f_X12_fewest x1 σm = some (r, sm) ∧ Rel σc sm
set_option maxRecDepth 100000 in
set_option maxHeartbeats 4000000 in
theorem law_23 (Rel : zG → zG → Prop) (hp : PR_fewest Rel) {K : zKL} {wM wC : zW} {cs ss n : Nat} {σc σm : zG} (hF : zLF K wM) (hCF : zLC K wM wC) (h6 : n + 6 ≤ K.2.2.2.2.2.2.2.2.2.1) (hcs : cs ≤ 600000 ∧ ss ≤ 7302250) (hrel : Rel σc σm) (next : ∀ sc sm, Rel sc sm → zLL K wM wC cs ss 1555 (zal K wM wC n) [] sc sm) : zLL K wM wC cs ss 889 (zal K wM wC n) [] σc σm := by
  obtain ⟨r, sm, e1, e2, hrel2⟩ := hp (K.2.2.2.2.2.2.2.2.2.2 (n + 1)) σc σm hrel
  refine l_aload (pc := 889) 1 hF (zdg DLc23_law 0 (889, .aload_n 1, 1) rfl) rfl ?_
  refine l_arg (pc := 890) 1 hF h6 (by decide) rfl (zdg DLc23_law 1 (890, .aload_n 0, 1) rfl) (zdg DLc23_law 2 (891, .iload_n 3, 1) rfl) (zdg DLc23_law 3 (892, .iconst 1, 1) rfl) (zdg DLc23_law 4 (893, .iadd, 1) rfl) (zdg DLc23_law 5 (894, .iaload, 1) rfl) ?_
  refine l_callC (pc := 895) (av := [zI (K.2.2.2.2.2.2.2.2.2.2 (n + 1))]) (rest := []) (st2 := [.int r]) (v1 := (some (zI r))) (σ1 := σc) hF hCF (fun w a ha => by simp at ha; rcases ha with rfl <;> trivial) (fun l => by have h := c_X11_fewest l (K.2.2.2.2.2.2.2.2.2.2 (n + 1)) σc r e1; exact h) zv_X11_fewest ll_113 rfl rfl rfl rfl rfl (by decide) ⟨by decide, by decide⟩ hcs (zdg DLc23_law 6 (895, .invokevirtual 113, 3) rfl) ?_
  refine l_aload (pc := 898) 2 hF (zdg DLc23_law 7 (898, .aload_n 2, 1) rfl) rfl ?_
  refine l_arg (pc := 899) 1 hF h6 (by decide) rfl (zdg DLc23_law 8 (899, .aload_n 0, 1) rfl) (zdg DLc23_law 9 (900, .iload_n 3, 1) rfl) (zdg DLc23_law 10 (901, .iconst 1, 1) rfl) (zdg DLc23_law 11 (902, .iadd, 1) rfl) (zdg DLc23_law 12 (903, .iaload, 1) rfl) ?_
  refine l_callM (pc := 904) (av := [zI (K.2.2.2.2.2.2.2.2.2.2 (n + 1))]) (rest := [.int r]) (st2 := [.int r, .int r]) (v1 := (some (zI r))) (σ1 := sm) hF hCF (fun w a ha => by simp at ha; rcases ha with rfl <;> trivial) (fun l => by have h := c_X12_fewest l (K.2.2.2.2.2.2.2.2.2.2 (n + 1)) σm (r, sm) e2; exact h) zv_X12_fewest ll_116 rfl rfl rfl rfl rfl (by decide) ⟨by decide, by decide⟩ hcs (zdg DLc23_law 13 (904, .invokevirtual 116, 3) rfl) ?_
  refine l_eqI (pc := 907) 1555 hF (zdg DLc23_law 14 (907, .if_icmp .eq 648, 3) rfl) rfl ?_
  exact next σc sm hrel2
def Lc24_law : List (Nat × Instr × Nat) := [(912, .aload_n 1, 1), (913, .aload_n 0, 1), (914, .iload_n 3, 1), (915, .iconst 1, 1), (916, .iadd, 1), (917, .iaload, 1), (918, .aload_n 0, 1), (919, .iload_n 3, 1), (920, .iconst 2, 1), (921, .iadd, 1), (922, .iaload, 1), (923, .invokevirtual 117, 3), (926, .aload_n 2, 1), (927, .aload_n 0, 1), (928, .iload_n 3, 1), (929, .iconst 1, 1), (930, .iadd, 1), (931, .iaload, 1), (932, .aload_n 0, 1), (933, .iload_n 3, 1), (934, .iconst 2, 1), (935, .iadd, 1), (936, .iaload, 1), (937, .invokevirtual 121, 3), (940, .lcmp, 1), (941, .ifCond .eq 614, 3), (944, .iconst 0, 1), (945, .ireturn, 1)]
set_option maxRecDepth 100000 in
theorem DLc24_law : zdecs code Lc24_law = true := by decide +kernel
def PR_never (Rel : zG → zG → Prop) : Prop := ∀ (x1 x2 : Int32) (σc σm : zG), Rel σc σm → ∃ (r : Int64), f_X11_never x1 x2 σc = some r ∧ f_X12_never x1 x2 σm = some r ∧ Rel σc σm
set_option maxRecDepth 100000 in
set_option maxHeartbeats 4000000 in
theorem law_24 (Rel : zG → zG → Prop) (hp : PR_never Rel) {K : zKL} {wM wC : zW} {cs ss n : Nat} {σc σm : zG} (hF : zLF K wM) (hCF : zLC K wM wC) (h6 : n + 6 ≤ K.2.2.2.2.2.2.2.2.2.1) (hcs : cs ≤ 600000 ∧ ss ≤ 7302250) (hrel : Rel σc σm) (next : ∀ sc sm, Rel sc sm → zLL K wM wC cs ss 1555 (zal K wM wC n) [] sc sm) : zLL K wM wC cs ss 912 (zal K wM wC n) [] σc σm := by
  obtain ⟨r, e1, e2, hrel2⟩ := hp (K.2.2.2.2.2.2.2.2.2.2 (n + 1)) (K.2.2.2.2.2.2.2.2.2.2 (n + 2)) σc σm hrel
  refine l_aload (pc := 912) 1 hF (zdg DLc24_law 0 (912, .aload_n 1, 1) rfl) rfl ?_
  refine l_arg (pc := 913) 1 hF h6 (by decide) rfl (zdg DLc24_law 1 (913, .aload_n 0, 1) rfl) (zdg DLc24_law 2 (914, .iload_n 3, 1) rfl) (zdg DLc24_law 3 (915, .iconst 1, 1) rfl) (zdg DLc24_law 4 (916, .iadd, 1) rfl) (zdg DLc24_law 5 (917, .iaload, 1) rfl) ?_
  refine l_arg (pc := 918) 2 hF h6 (by decide) rfl (zdg DLc24_law 6 (918, .aload_n 0, 1) rfl) (zdg DLc24_law 7 (919, .iload_n 3, 1) rfl) (zdg DLc24_law 8 (920, .iconst 2, 1) rfl) (zdg DLc24_law 9 (921, .iadd, 1) rfl) (zdg DLc24_law 10 (922, .iaload, 1) rfl) ?_
  refine l_callC (pc := 923) (av := [zI (K.2.2.2.2.2.2.2.2.2.2 (n + 1)), zI (K.2.2.2.2.2.2.2.2.2.2 (n + 2))]) (rest := []) (st2 := [.long r]) (v1 := (some (zL r))) (σ1 := σc) hF hCF (fun w a ha => by simp at ha; rcases ha with rfl | rfl <;> trivial) (fun l => by have h := c_X11_never l (K.2.2.2.2.2.2.2.2.2.2 (n + 1)) (K.2.2.2.2.2.2.2.2.2.2 (n + 2)) σc r e1; exact h) zv_X11_never ll_117 rfl rfl rfl rfl rfl (by decide) ⟨by decide, by decide⟩ hcs (zdg DLc24_law 11 (923, .invokevirtual 117, 3) rfl) ?_
  refine l_aload (pc := 926) 2 hF (zdg DLc24_law 12 (926, .aload_n 2, 1) rfl) rfl ?_
  refine l_arg (pc := 927) 1 hF h6 (by decide) rfl (zdg DLc24_law 13 (927, .aload_n 0, 1) rfl) (zdg DLc24_law 14 (928, .iload_n 3, 1) rfl) (zdg DLc24_law 15 (929, .iconst 1, 1) rfl) (zdg DLc24_law 16 (930, .iadd, 1) rfl) (zdg DLc24_law 17 (931, .iaload, 1) rfl) ?_
  refine l_arg (pc := 932) 2 hF h6 (by decide) rfl (zdg DLc24_law 18 (932, .aload_n 0, 1) rfl) (zdg DLc24_law 19 (933, .iload_n 3, 1) rfl) (zdg DLc24_law 20 (934, .iconst 2, 1) rfl) (zdg DLc24_law 21 (935, .iadd, 1) rfl) (zdg DLc24_law 22 (936, .iaload, 1) rfl) ?_
  refine l_callM (pc := 937) (av := [zI (K.2.2.2.2.2.2.2.2.2.2 (n + 1)), zI (K.2.2.2.2.2.2.2.2.2.2 (n + 2))]) (rest := [.long r]) (st2 := [.long r, .long r]) (v1 := (some (zL r))) (σ1 := σm) hF hCF (fun w a ha => by simp at ha; rcases ha with rfl | rfl <;> trivial) (fun l => by have h := c_X12_never l (K.2.2.2.2.2.2.2.2.2.2 (n + 1)) (K.2.2.2.2.2.2.2.2.2.2 (n + 2)) σm r e2; exact h) zv_X12_never ll_121 rfl rfl rfl rfl rfl (by decide) ⟨by decide, by decide⟩ hcs (zdg DLc24_law 23 (937, .invokevirtual 121, 3) rfl) ?_
  refine l_eqL (pc := 940) 1555 hF (zdg DLc24_law 24 (940, .lcmp, 1) rfl) (zdg DLc24_law 25 (941, .ifCond .eq 614, 3) rfl) rfl ?_
  exact next σc σm hrel2
def Lc25_law : List (Nat × Instr × Nat) := [(946, .aload_n 1, 1), (947, .aload_n 0, 1), (948, .iload_n 3, 1), (949, .iconst 1, 1), (950, .iadd, 1), (951, .iaload, 1), (952, .invokevirtual 122, 3), (955, .aload_n 2, 1), (956, .aload_n 0, 1), (957, .iload_n 3, 1), (958, .iconst 1, 1), (959, .iadd, 1), (960, .iaload, 1), (961, .invokevirtual 125, 3), (964, .lcmp, 1), (965, .ifCond .eq 590, 3), (968, .iconst 0, 1), (969, .ireturn, 1)]
set_option maxRecDepth 100000 in
theorem DLc25_law : zdecs code Lc25_law = true := by decide +kernel
def PR_most (Rel : zG → zG → Prop) : Prop := ∀ (x1 : Int32) (σc σm : zG), Rel σc σm → ∃ (r : Int64), f_X11_most x1 σc = some r ∧ f_X12_most x1 σm = some r ∧ Rel σc σm
set_option maxRecDepth 100000 in
set_option maxHeartbeats 4000000 in
theorem law_25 (Rel : zG → zG → Prop) (hp : PR_most Rel) {K : zKL} {wM wC : zW} {cs ss n : Nat} {σc σm : zG} (hF : zLF K wM) (hCF : zLC K wM wC) (h6 : n + 6 ≤ K.2.2.2.2.2.2.2.2.2.1) (hcs : cs ≤ 600000 ∧ ss ≤ 7302250) (hrel : Rel σc σm) (next : ∀ sc sm, Rel sc sm → zLL K wM wC cs ss 1555 (zal K wM wC n) [] sc sm) : zLL K wM wC cs ss 946 (zal K wM wC n) [] σc σm := by
  obtain ⟨r, e1, e2, hrel2⟩ := hp (K.2.2.2.2.2.2.2.2.2.2 (n + 1)) σc σm hrel
  refine l_aload (pc := 946) 1 hF (zdg DLc25_law 0 (946, .aload_n 1, 1) rfl) rfl ?_
  refine l_arg (pc := 947) 1 hF h6 (by decide) rfl (zdg DLc25_law 1 (947, .aload_n 0, 1) rfl) (zdg DLc25_law 2 (948, .iload_n 3, 1) rfl) (zdg DLc25_law 3 (949, .iconst 1, 1) rfl) (zdg DLc25_law 4 (950, .iadd, 1) rfl) (zdg DLc25_law 5 (951, .iaload, 1) rfl) ?_
  refine l_callC (pc := 952) (av := [zI (K.2.2.2.2.2.2.2.2.2.2 (n + 1))]) (rest := []) (st2 := [.long r]) (v1 := (some (zL r))) (σ1 := σc) hF hCF (fun w a ha => by simp at ha; rcases ha with rfl <;> trivial) (fun l => by have h := c_X11_most l (K.2.2.2.2.2.2.2.2.2.2 (n + 1)) σc r e1; exact h) zv_X11_most ll_122 rfl rfl rfl rfl rfl (by decide) ⟨by decide, by decide⟩ hcs (zdg DLc25_law 6 (952, .invokevirtual 122, 3) rfl) ?_
  refine l_aload (pc := 955) 2 hF (zdg DLc25_law 7 (955, .aload_n 2, 1) rfl) rfl ?_
  refine l_arg (pc := 956) 1 hF h6 (by decide) rfl (zdg DLc25_law 8 (956, .aload_n 0, 1) rfl) (zdg DLc25_law 9 (957, .iload_n 3, 1) rfl) (zdg DLc25_law 10 (958, .iconst 1, 1) rfl) (zdg DLc25_law 11 (959, .iadd, 1) rfl) (zdg DLc25_law 12 (960, .iaload, 1) rfl) ?_
  refine l_callM (pc := 961) (av := [zI (K.2.2.2.2.2.2.2.2.2.2 (n + 1))]) (rest := [.long r]) (st2 := [.long r, .long r]) (v1 := (some (zL r))) (σ1 := σm) hF hCF (fun w a ha => by simp at ha; rcases ha with rfl <;> trivial) (fun l => by have h := c_X12_most l (K.2.2.2.2.2.2.2.2.2.2 (n + 1)) σm r e2; exact h) zv_X12_most ll_125 rfl rfl rfl rfl rfl (by decide) ⟨by decide, by decide⟩ hcs (zdg DLc25_law 13 (961, .invokevirtual 125, 3) rfl) ?_
  refine l_eqL (pc := 964) 1555 hF (zdg DLc25_law 14 (964, .lcmp, 1) rfl) (zdg DLc25_law 15 (965, .ifCond .eq 590, 3) rfl) rfl ?_
  exact next σc σm hrel2
def Lc26_law : List (Nat × Instr × Nat) := [(970, .aload_n 1, 1), (971, .aload_n 0, 1), (972, .iload_n 3, 1), (973, .iconst 1, 1), (974, .iadd, 1), (975, .iaload, 1), (976, .aload_n 0, 1), (977, .iload_n 3, 1), (978, .iconst 2, 1), (979, .iadd, 1), (980, .iaload, 1), (981, .invokevirtual 126, 3), (984, .aload_n 2, 1), (985, .aload_n 0, 1), (986, .iload_n 3, 1), (987, .iconst 1, 1), (988, .iadd, 1), (989, .iaload, 1), (990, .aload_n 0, 1), (991, .iload_n 3, 1), (992, .iconst 2, 1), (993, .iadd, 1), (994, .iaload, 1), (995, .invokevirtual 129, 3), (998, .if_icmp .eq 557, 3), (1001, .iconst 0, 1), (1002, .ireturn, 1)]
set_option maxRecDepth 100000 in
theorem DLc26_law : zdecs code Lc26_law = true := by decide +kernel
def PR_middle (Rel : zG → zG → Prop) : Prop := ∀ (x1 x2 : Int32) (σc σm : zG), Rel σc σm → ∃ (r : Int32) (sm : zG), f_X11_middle x1 x2 σc = some r ∧ f_X12_middle x1 x2 σm = some (r, sm) ∧ Rel σc sm
set_option maxRecDepth 100000 in
set_option maxHeartbeats 4000000 in
theorem law_26 (Rel : zG → zG → Prop) (hp : PR_middle Rel) {K : zKL} {wM wC : zW} {cs ss n : Nat} {σc σm : zG} (hF : zLF K wM) (hCF : zLC K wM wC) (h6 : n + 6 ≤ K.2.2.2.2.2.2.2.2.2.1) (hcs : cs ≤ 600000 ∧ ss ≤ 7302250) (hrel : Rel σc σm) (next : ∀ sc sm, Rel sc sm → zLL K wM wC cs ss 1555 (zal K wM wC n) [] sc sm) : zLL K wM wC cs ss 970 (zal K wM wC n) [] σc σm := by
  obtain ⟨r, sm, e1, e2, hrel2⟩ := hp (K.2.2.2.2.2.2.2.2.2.2 (n + 1)) (K.2.2.2.2.2.2.2.2.2.2 (n + 2)) σc σm hrel
  refine l_aload (pc := 970) 1 hF (zdg DLc26_law 0 (970, .aload_n 1, 1) rfl) rfl ?_
  refine l_arg (pc := 971) 1 hF h6 (by decide) rfl (zdg DLc26_law 1 (971, .aload_n 0, 1) rfl) (zdg DLc26_law 2 (972, .iload_n 3, 1) rfl) (zdg DLc26_law 3 (973, .iconst 1, 1) rfl) (zdg DLc26_law 4 (974, .iadd, 1) rfl) (zdg DLc26_law 5 (975, .iaload, 1) rfl) ?_
  refine l_arg (pc := 976) 2 hF h6 (by decide) rfl (zdg DLc26_law 6 (976, .aload_n 0, 1) rfl) (zdg DLc26_law 7 (977, .iload_n 3, 1) rfl) (zdg DLc26_law 8 (978, .iconst 2, 1) rfl) (zdg DLc26_law 9 (979, .iadd, 1) rfl) (zdg DLc26_law 10 (980, .iaload, 1) rfl) ?_
  refine l_callC (pc := 981) (av := [zI (K.2.2.2.2.2.2.2.2.2.2 (n + 1)), zI (K.2.2.2.2.2.2.2.2.2.2 (n + 2))]) (rest := []) (st2 := [.int r]) (v1 := (some (zI r))) (σ1 := σc) hF hCF (fun w a ha => by simp at ha; rcases ha with rfl | rfl <;> trivial) (fun l => by have h := c_X11_middle l (K.2.2.2.2.2.2.2.2.2.2 (n + 1)) (K.2.2.2.2.2.2.2.2.2.2 (n + 2)) σc r e1; exact h) zv_X11_middle ll_126 rfl rfl rfl rfl rfl (by decide) ⟨by decide, by decide⟩ hcs (zdg DLc26_law 11 (981, .invokevirtual 126, 3) rfl) ?_
  refine l_aload (pc := 984) 2 hF (zdg DLc26_law 12 (984, .aload_n 2, 1) rfl) rfl ?_
  refine l_arg (pc := 985) 1 hF h6 (by decide) rfl (zdg DLc26_law 13 (985, .aload_n 0, 1) rfl) (zdg DLc26_law 14 (986, .iload_n 3, 1) rfl) (zdg DLc26_law 15 (987, .iconst 1, 1) rfl) (zdg DLc26_law 16 (988, .iadd, 1) rfl) (zdg DLc26_law 17 (989, .iaload, 1) rfl) ?_
  refine l_arg (pc := 990) 2 hF h6 (by decide) rfl (zdg DLc26_law 18 (990, .aload_n 0, 1) rfl) (zdg DLc26_law 19 (991, .iload_n 3, 1) rfl) (zdg DLc26_law 20 (992, .iconst 2, 1) rfl) (zdg DLc26_law 21 (993, .iadd, 1) rfl) (zdg DLc26_law 22 (994, .iaload, 1) rfl) ?_
  refine l_callM (pc := 995) (av := [zI (K.2.2.2.2.2.2.2.2.2.2 (n + 1)), zI (K.2.2.2.2.2.2.2.2.2.2 (n + 2))]) (rest := [.int r]) (st2 := [.int r, .int r]) (v1 := (some (zI r))) (σ1 := sm) hF hCF (fun w a ha => by simp at ha; rcases ha with rfl | rfl <;> trivial) (fun l => by have h := c_X12_middle l (K.2.2.2.2.2.2.2.2.2.2 (n + 1)) (K.2.2.2.2.2.2.2.2.2.2 (n + 2)) σm (r, sm) e2; exact h) zv_X12_middle ll_129 rfl rfl rfl rfl rfl (by decide) ⟨by decide, by decide⟩ hcs (zdg DLc26_law 23 (995, .invokevirtual 129, 3) rfl) ?_
  refine l_eqI (pc := 998) 1555 hF (zdg DLc26_law 24 (998, .if_icmp .eq 557, 3) rfl) rfl ?_
  exact next σc sm hrel2
def Lc27_law : List (Nat × Instr × Nat) := [(1003, .aload_n 1, 1), (1004, .aload_n 0, 1), (1005, .iload_n 3, 1), (1006, .iconst 1, 1), (1007, .iadd, 1), (1008, .iaload, 1), (1009, .aload_n 0, 1), (1010, .iload_n 3, 1), (1011, .iconst 2, 1), (1012, .iadd, 1), (1013, .iaload, 1), (1014, .invokevirtual 130, 3), (1017, .aload_n 2, 1), (1018, .aload_n 0, 1), (1019, .iload_n 3, 1), (1020, .iconst 1, 1), (1021, .iadd, 1), (1022, .iaload, 1), (1023, .aload_n 0, 1), (1024, .iload_n 3, 1), (1025, .iconst 2, 1), (1026, .iadd, 1), (1027, .iaload, 1), (1028, .invokevirtual 133, 3), (1031, .lcmp, 1), (1032, .ifCond .eq 523, 3), (1035, .iconst 0, 1), (1036, .ireturn, 1)]
set_option maxRecDepth 100000 in
theorem DLc27_law : zdecs code Lc27_law = true := by decide +kernel
def PR_sure (Rel : zG → zG → Prop) : Prop := ∀ (x1 x2 : Int32) (σc σm : zG), Rel σc σm → ∃ (r : Int64) (sm : zG), f_X11_sure x1 x2 σc = some r ∧ f_X12_sure x1 x2 σm = some (r, sm) ∧ Rel σc sm
set_option maxRecDepth 100000 in
set_option maxHeartbeats 4000000 in
theorem law_27 (Rel : zG → zG → Prop) (hp : PR_sure Rel) {K : zKL} {wM wC : zW} {cs ss n : Nat} {σc σm : zG} (hF : zLF K wM) (hCF : zLC K wM wC) (h6 : n + 6 ≤ K.2.2.2.2.2.2.2.2.2.1) (hcs : cs ≤ 600000 ∧ ss ≤ 7302250) (hrel : Rel σc σm) (next : ∀ sc sm, Rel sc sm → zLL K wM wC cs ss 1555 (zal K wM wC n) [] sc sm) : zLL K wM wC cs ss 1003 (zal K wM wC n) [] σc σm := by
  obtain ⟨r, sm, e1, e2, hrel2⟩ := hp (K.2.2.2.2.2.2.2.2.2.2 (n + 1)) (K.2.2.2.2.2.2.2.2.2.2 (n + 2)) σc σm hrel
  refine l_aload (pc := 1003) 1 hF (zdg DLc27_law 0 (1003, .aload_n 1, 1) rfl) rfl ?_
  refine l_arg (pc := 1004) 1 hF h6 (by decide) rfl (zdg DLc27_law 1 (1004, .aload_n 0, 1) rfl) (zdg DLc27_law 2 (1005, .iload_n 3, 1) rfl) (zdg DLc27_law 3 (1006, .iconst 1, 1) rfl) (zdg DLc27_law 4 (1007, .iadd, 1) rfl) (zdg DLc27_law 5 (1008, .iaload, 1) rfl) ?_
  refine l_arg (pc := 1009) 2 hF h6 (by decide) rfl (zdg DLc27_law 6 (1009, .aload_n 0, 1) rfl) (zdg DLc27_law 7 (1010, .iload_n 3, 1) rfl) (zdg DLc27_law 8 (1011, .iconst 2, 1) rfl) (zdg DLc27_law 9 (1012, .iadd, 1) rfl) (zdg DLc27_law 10 (1013, .iaload, 1) rfl) ?_
  refine l_callC (pc := 1014) (av := [zI (K.2.2.2.2.2.2.2.2.2.2 (n + 1)), zI (K.2.2.2.2.2.2.2.2.2.2 (n + 2))]) (rest := []) (st2 := [.long r]) (v1 := (some (zL r))) (σ1 := σc) hF hCF (fun w a ha => by simp at ha; rcases ha with rfl | rfl <;> trivial) (fun l => by have h := c_X11_sure l (K.2.2.2.2.2.2.2.2.2.2 (n + 1)) (K.2.2.2.2.2.2.2.2.2.2 (n + 2)) σc r e1; exact h) zv_X11_sure ll_130 rfl rfl rfl rfl rfl (by decide) ⟨by decide, by decide⟩ hcs (zdg DLc27_law 11 (1014, .invokevirtual 130, 3) rfl) ?_
  refine l_aload (pc := 1017) 2 hF (zdg DLc27_law 12 (1017, .aload_n 2, 1) rfl) rfl ?_
  refine l_arg (pc := 1018) 1 hF h6 (by decide) rfl (zdg DLc27_law 13 (1018, .aload_n 0, 1) rfl) (zdg DLc27_law 14 (1019, .iload_n 3, 1) rfl) (zdg DLc27_law 15 (1020, .iconst 1, 1) rfl) (zdg DLc27_law 16 (1021, .iadd, 1) rfl) (zdg DLc27_law 17 (1022, .iaload, 1) rfl) ?_
  refine l_arg (pc := 1023) 2 hF h6 (by decide) rfl (zdg DLc27_law 18 (1023, .aload_n 0, 1) rfl) (zdg DLc27_law 19 (1024, .iload_n 3, 1) rfl) (zdg DLc27_law 20 (1025, .iconst 2, 1) rfl) (zdg DLc27_law 21 (1026, .iadd, 1) rfl) (zdg DLc27_law 22 (1027, .iaload, 1) rfl) ?_
  refine l_callM (pc := 1028) (av := [zI (K.2.2.2.2.2.2.2.2.2.2 (n + 1)), zI (K.2.2.2.2.2.2.2.2.2.2 (n + 2))]) (rest := [.long r]) (st2 := [.long r, .long r]) (v1 := (some (zL r))) (σ1 := sm) hF hCF (fun w a ha => by simp at ha; rcases ha with rfl | rfl <;> trivial) (fun l => by have h := c_X12_sure l (K.2.2.2.2.2.2.2.2.2.2 (n + 1)) (K.2.2.2.2.2.2.2.2.2.2 (n + 2)) σm (r, sm) e2; exact h) zv_X12_sure ll_133 rfl rfl rfl rfl rfl (by decide) ⟨by decide, by decide⟩ hcs (zdg DLc27_law 23 (1028, .invokevirtual 133, 3) rfl) ?_
  refine l_eqL (pc := 1031) 1555 hF (zdg DLc27_law 24 (1031, .lcmp, 1) rfl) (zdg DLc27_law 25 (1032, .ifCond .eq 523, 3) rfl) rfl ?_
  exact next σc sm hrel2
def Lc28_law : List (Nat × Instr × Nat) := [(1037, .aload_n 1, 1), (1038, .aload_n 0, 1), (1039, .iload_n 3, 1), (1040, .iconst 1, 1), (1041, .iadd, 1), (1042, .iaload, 1), (1043, .aload_n 0, 1), (1044, .iload_n 3, 1), (1045, .iconst 2, 1), (1046, .iadd, 1), (1047, .iaload, 1), (1048, .aload_n 0, 1), (1049, .iload_n 3, 1), (1050, .iconst 3, 1), (1051, .iadd, 1), (1052, .iaload, 1), (1053, .aload_n 0, 1), (1054, .iload_n 3, 1), (1055, .iconst 4, 1), (1056, .iadd, 1), (1057, .iaload, 1), (1058, .invokevirtual 134, 3), (1061, .aload_n 2, 1), (1062, .aload_n 0, 1), (1063, .iload_n 3, 1), (1064, .iconst 1, 1), (1065, .iadd, 1), (1066, .iaload, 1), (1067, .aload_n 0, 1), (1068, .iload_n 3, 1), (1069, .iconst 2, 1), (1070, .iadd, 1), (1071, .iaload, 1), (1072, .aload_n 0, 1), (1073, .iload_n 3, 1), (1074, .iconst 3, 1), (1075, .iadd, 1), (1076, .iaload, 1), (1077, .aload_n 0, 1), (1078, .iload_n 3, 1), (1079, .iconst 4, 1), (1080, .iadd, 1), (1081, .iaload, 1), (1082, .invokevirtual 138, 3), (1085, .if_icmp .eq 470, 3), (1088, .iconst 0, 1), (1089, .ireturn, 1)]
set_option maxRecDepth 100000 in
theorem DLc28_law : zdecs code Lc28_law = true := by decide +kernel
def PR_exposed (Rel : zG → zG → Prop) : Prop := ∀ (x1 x2 x3 x4 : Int32) (σc σm : zG), Rel σc σm → ∃ (r : Int32) (sc : zG) (sm : zG), f_X11_exposed x1 x2 x3 x4 σc = some (r, sc) ∧ f_X12_exposed x1 x2 x3 x4 σm = some (r, sm) ∧ Rel sc sm
set_option maxRecDepth 100000 in
set_option maxHeartbeats 4000000 in
theorem law_28 (Rel : zG → zG → Prop) (hp : PR_exposed Rel) {K : zKL} {wM wC : zW} {cs ss n : Nat} {σc σm : zG} (hF : zLF K wM) (hCF : zLC K wM wC) (h6 : n + 6 ≤ K.2.2.2.2.2.2.2.2.2.1) (hcs : cs ≤ 600000 ∧ ss ≤ 7302250) (hrel : Rel σc σm) (next : ∀ sc sm, Rel sc sm → zLL K wM wC cs ss 1555 (zal K wM wC n) [] sc sm) : zLL K wM wC cs ss 1037 (zal K wM wC n) [] σc σm := by
  obtain ⟨r, sc, sm, e1, e2, hrel2⟩ := hp (K.2.2.2.2.2.2.2.2.2.2 (n + 1)) (K.2.2.2.2.2.2.2.2.2.2 (n + 2)) (K.2.2.2.2.2.2.2.2.2.2 (n + 3)) (K.2.2.2.2.2.2.2.2.2.2 (n + 4)) σc σm hrel
  refine l_aload (pc := 1037) 1 hF (zdg DLc28_law 0 (1037, .aload_n 1, 1) rfl) rfl ?_
  refine l_arg (pc := 1038) 1 hF h6 (by decide) rfl (zdg DLc28_law 1 (1038, .aload_n 0, 1) rfl) (zdg DLc28_law 2 (1039, .iload_n 3, 1) rfl) (zdg DLc28_law 3 (1040, .iconst 1, 1) rfl) (zdg DLc28_law 4 (1041, .iadd, 1) rfl) (zdg DLc28_law 5 (1042, .iaload, 1) rfl) ?_
  refine l_arg (pc := 1043) 2 hF h6 (by decide) rfl (zdg DLc28_law 6 (1043, .aload_n 0, 1) rfl) (zdg DLc28_law 7 (1044, .iload_n 3, 1) rfl) (zdg DLc28_law 8 (1045, .iconst 2, 1) rfl) (zdg DLc28_law 9 (1046, .iadd, 1) rfl) (zdg DLc28_law 10 (1047, .iaload, 1) rfl) ?_
  refine l_arg (pc := 1048) 3 hF h6 (by decide) rfl (zdg DLc28_law 11 (1048, .aload_n 0, 1) rfl) (zdg DLc28_law 12 (1049, .iload_n 3, 1) rfl) (zdg DLc28_law 13 (1050, .iconst 3, 1) rfl) (zdg DLc28_law 14 (1051, .iadd, 1) rfl) (zdg DLc28_law 15 (1052, .iaload, 1) rfl) ?_
  refine l_arg (pc := 1053) 4 hF h6 (by decide) rfl (zdg DLc28_law 16 (1053, .aload_n 0, 1) rfl) (zdg DLc28_law 17 (1054, .iload_n 3, 1) rfl) (zdg DLc28_law 18 (1055, .iconst 4, 1) rfl) (zdg DLc28_law 19 (1056, .iadd, 1) rfl) (zdg DLc28_law 20 (1057, .iaload, 1) rfl) ?_
  refine l_callC (pc := 1058) (av := [zI (K.2.2.2.2.2.2.2.2.2.2 (n + 1)), zI (K.2.2.2.2.2.2.2.2.2.2 (n + 2)), zI (K.2.2.2.2.2.2.2.2.2.2 (n + 3)), zI (K.2.2.2.2.2.2.2.2.2.2 (n + 4))]) (rest := []) (st2 := [.int r]) (v1 := (some (zI r))) (σ1 := sc) hF hCF (fun w a ha => by simp at ha; rcases ha with rfl | rfl | rfl | rfl <;> trivial) (fun l => by have h := c_X11_exposed l (K.2.2.2.2.2.2.2.2.2.2 (n + 1)) (K.2.2.2.2.2.2.2.2.2.2 (n + 2)) (K.2.2.2.2.2.2.2.2.2.2 (n + 3)) (K.2.2.2.2.2.2.2.2.2.2 (n + 4)) σc (r, sc) e1; exact h) zv_X11_exposed ll_134 rfl rfl rfl rfl rfl (by decide) ⟨by decide, by decide⟩ hcs (zdg DLc28_law 21 (1058, .invokevirtual 134, 3) rfl) ?_
  refine l_aload (pc := 1061) 2 hF (zdg DLc28_law 22 (1061, .aload_n 2, 1) rfl) rfl ?_
  refine l_arg (pc := 1062) 1 hF h6 (by decide) rfl (zdg DLc28_law 23 (1062, .aload_n 0, 1) rfl) (zdg DLc28_law 24 (1063, .iload_n 3, 1) rfl) (zdg DLc28_law 25 (1064, .iconst 1, 1) rfl) (zdg DLc28_law 26 (1065, .iadd, 1) rfl) (zdg DLc28_law 27 (1066, .iaload, 1) rfl) ?_
  refine l_arg (pc := 1067) 2 hF h6 (by decide) rfl (zdg DLc28_law 28 (1067, .aload_n 0, 1) rfl) (zdg DLc28_law 29 (1068, .iload_n 3, 1) rfl) (zdg DLc28_law 30 (1069, .iconst 2, 1) rfl) (zdg DLc28_law 31 (1070, .iadd, 1) rfl) (zdg DLc28_law 32 (1071, .iaload, 1) rfl) ?_
  refine l_arg (pc := 1072) 3 hF h6 (by decide) rfl (zdg DLc28_law 33 (1072, .aload_n 0, 1) rfl) (zdg DLc28_law 34 (1073, .iload_n 3, 1) rfl) (zdg DLc28_law 35 (1074, .iconst 3, 1) rfl) (zdg DLc28_law 36 (1075, .iadd, 1) rfl) (zdg DLc28_law 37 (1076, .iaload, 1) rfl) ?_
  refine l_arg (pc := 1077) 4 hF h6 (by decide) rfl (zdg DLc28_law 38 (1077, .aload_n 0, 1) rfl) (zdg DLc28_law 39 (1078, .iload_n 3, 1) rfl) (zdg DLc28_law 40 (1079, .iconst 4, 1) rfl) (zdg DLc28_law 41 (1080, .iadd, 1) rfl) (zdg DLc28_law 42 (1081, .iaload, 1) rfl) ?_
  refine l_callM (pc := 1082) (av := [zI (K.2.2.2.2.2.2.2.2.2.2 (n + 1)), zI (K.2.2.2.2.2.2.2.2.2.2 (n + 2)), zI (K.2.2.2.2.2.2.2.2.2.2 (n + 3)), zI (K.2.2.2.2.2.2.2.2.2.2 (n + 4))]) (rest := [.int r]) (st2 := [.int r, .int r]) (v1 := (some (zI r))) (σ1 := sm) hF hCF (fun w a ha => by simp at ha; rcases ha with rfl | rfl | rfl | rfl <;> trivial) (fun l => by have h := c_X12_exposed l (K.2.2.2.2.2.2.2.2.2.2 (n + 1)) (K.2.2.2.2.2.2.2.2.2.2 (n + 2)) (K.2.2.2.2.2.2.2.2.2.2 (n + 3)) (K.2.2.2.2.2.2.2.2.2.2 (n + 4)) σm (r, sm) e2; exact h) zv_X12_exposed ll_138 rfl rfl rfl rfl rfl (by decide) ⟨by decide, by decide⟩ hcs (zdg DLc28_law 43 (1082, .invokevirtual 138, 3) rfl) ?_
  refine l_eqI (pc := 1085) 1555 hF (zdg DLc28_law 44 (1085, .if_icmp .eq 470, 3) rfl) rfl ?_
  exact next sc sm hrel2
def Lc29_law : List (Nat × Instr × Nat) := [(1090, .aload_n 1, 1), (1091, .aload_n 0, 1), (1092, .iload_n 3, 1), (1093, .iconst 1, 1), (1094, .iadd, 1), (1095, .iaload, 1), (1096, .aload_n 0, 1), (1097, .iload_n 3, 1), (1098, .iconst 2, 1), (1099, .iadd, 1), (1100, .iaload, 1), (1101, .invokevirtual 139, 3), (1104, .aload_n 2, 1), (1105, .aload_n 0, 1), (1106, .iload_n 3, 1), (1107, .iconst 1, 1), (1108, .iadd, 1), (1109, .iaload, 1), (1110, .aload_n 0, 1), (1111, .iload_n 3, 1), (1112, .iconst 2, 1), (1113, .iadd, 1), (1114, .iaload, 1), (1115, .invokevirtual 142, 3), (1118, .lcmp, 1), (1119, .ifCond .eq 436, 3), (1122, .iconst 0, 1), (1123, .ireturn, 1)]
set_option maxRecDepth 100000 in
theorem DLc29_law : zdecs code Lc29_law = true := by decide +kernel
def PR_ghosts (Rel : zG → zG → Prop) : Prop := ∀ (x1 x2 : Int32) (σc σm : zG), Rel σc σm → ∃ (r : Int64) (sc : zG), f_X11_ghosts x1 x2 σc = some (r, sc) ∧ f_X12_ghosts x1 x2 σm = some r ∧ Rel sc σm
set_option maxRecDepth 100000 in
set_option maxHeartbeats 4000000 in
theorem law_29 (Rel : zG → zG → Prop) (hp : PR_ghosts Rel) {K : zKL} {wM wC : zW} {cs ss n : Nat} {σc σm : zG} (hF : zLF K wM) (hCF : zLC K wM wC) (h6 : n + 6 ≤ K.2.2.2.2.2.2.2.2.2.1) (hcs : cs ≤ 600000 ∧ ss ≤ 7302250) (hrel : Rel σc σm) (next : ∀ sc sm, Rel sc sm → zLL K wM wC cs ss 1555 (zal K wM wC n) [] sc sm) : zLL K wM wC cs ss 1090 (zal K wM wC n) [] σc σm := by
  obtain ⟨r, sc, e1, e2, hrel2⟩ := hp (K.2.2.2.2.2.2.2.2.2.2 (n + 1)) (K.2.2.2.2.2.2.2.2.2.2 (n + 2)) σc σm hrel
  refine l_aload (pc := 1090) 1 hF (zdg DLc29_law 0 (1090, .aload_n 1, 1) rfl) rfl ?_
  refine l_arg (pc := 1091) 1 hF h6 (by decide) rfl (zdg DLc29_law 1 (1091, .aload_n 0, 1) rfl) (zdg DLc29_law 2 (1092, .iload_n 3, 1) rfl) (zdg DLc29_law 3 (1093, .iconst 1, 1) rfl) (zdg DLc29_law 4 (1094, .iadd, 1) rfl) (zdg DLc29_law 5 (1095, .iaload, 1) rfl) ?_
  refine l_arg (pc := 1096) 2 hF h6 (by decide) rfl (zdg DLc29_law 6 (1096, .aload_n 0, 1) rfl) (zdg DLc29_law 7 (1097, .iload_n 3, 1) rfl) (zdg DLc29_law 8 (1098, .iconst 2, 1) rfl) (zdg DLc29_law 9 (1099, .iadd, 1) rfl) (zdg DLc29_law 10 (1100, .iaload, 1) rfl) ?_
  refine l_callC (pc := 1101) (av := [zI (K.2.2.2.2.2.2.2.2.2.2 (n + 1)), zI (K.2.2.2.2.2.2.2.2.2.2 (n + 2))]) (rest := []) (st2 := [.long r]) (v1 := (some (zL r))) (σ1 := sc) hF hCF (fun w a ha => by simp at ha; rcases ha with rfl | rfl <;> trivial) (fun l => by have h := c_X11_ghosts l (K.2.2.2.2.2.2.2.2.2.2 (n + 1)) (K.2.2.2.2.2.2.2.2.2.2 (n + 2)) σc (r, sc) e1; exact h) zv_X11_ghosts ll_139 rfl rfl rfl rfl rfl (by decide) ⟨by decide, by decide⟩ hcs (zdg DLc29_law 11 (1101, .invokevirtual 139, 3) rfl) ?_
  refine l_aload (pc := 1104) 2 hF (zdg DLc29_law 12 (1104, .aload_n 2, 1) rfl) rfl ?_
  refine l_arg (pc := 1105) 1 hF h6 (by decide) rfl (zdg DLc29_law 13 (1105, .aload_n 0, 1) rfl) (zdg DLc29_law 14 (1106, .iload_n 3, 1) rfl) (zdg DLc29_law 15 (1107, .iconst 1, 1) rfl) (zdg DLc29_law 16 (1108, .iadd, 1) rfl) (zdg DLc29_law 17 (1109, .iaload, 1) rfl) ?_
  refine l_arg (pc := 1110) 2 hF h6 (by decide) rfl (zdg DLc29_law 18 (1110, .aload_n 0, 1) rfl) (zdg DLc29_law 19 (1111, .iload_n 3, 1) rfl) (zdg DLc29_law 20 (1112, .iconst 2, 1) rfl) (zdg DLc29_law 21 (1113, .iadd, 1) rfl) (zdg DLc29_law 22 (1114, .iaload, 1) rfl) ?_
  refine l_callM (pc := 1115) (av := [zI (K.2.2.2.2.2.2.2.2.2.2 (n + 1)), zI (K.2.2.2.2.2.2.2.2.2.2 (n + 2))]) (rest := [.long r]) (st2 := [.long r, .long r]) (v1 := (some (zL r))) (σ1 := σm) hF hCF (fun w a ha => by simp at ha; rcases ha with rfl | rfl <;> trivial) (fun l => by have h := c_X12_ghosts l (K.2.2.2.2.2.2.2.2.2.2 (n + 1)) (K.2.2.2.2.2.2.2.2.2.2 (n + 2)) σm r e2; exact h) zv_X12_ghosts ll_142 rfl rfl rfl rfl rfl (by decide) ⟨by decide, by decide⟩ hcs (zdg DLc29_law 23 (1115, .invokevirtual 142, 3) rfl) ?_
  refine l_eqL (pc := 1118) 1555 hF (zdg DLc29_law 24 (1118, .lcmp, 1) rfl) (zdg DLc29_law 25 (1119, .ifCond .eq 436, 3) rfl) rfl ?_
  exact next sc σm hrel2
def Lc30_law : List (Nat × Instr × Nat) := [(1124, .aload_n 1, 1), (1125, .aload_n 0, 1), (1126, .iload_n 3, 1), (1127, .iconst 1, 1), (1128, .iadd, 1), (1129, .iaload, 1), (1130, .invokevirtual 143, 3), (1133, .aload_n 2, 1), (1134, .aload_n 0, 1), (1135, .iload_n 3, 1), (1136, .iconst 1, 1), (1137, .iadd, 1), (1138, .iaload, 1), (1139, .invokevirtual 146, 3), (1142, .if_icmp .eq 413, 3), (1145, .iconst 0, 1), (1146, .ireturn, 1)]
set_option maxRecDepth 100000 in
theorem DLc30_law : zdecs code Lc30_law = true := by decide +kernel
def PR_nobody (Rel : zG → zG → Prop) : Prop := ∀ (x1 : Int32) (σc σm : zG), Rel σc σm → ∃ (r : Int32), f_X11_nobody x1 σc = some r ∧ f_X12_nobody x1 σm = some r ∧ Rel σc σm
set_option maxRecDepth 100000 in
set_option maxHeartbeats 4000000 in
theorem law_30 (Rel : zG → zG → Prop) (hp : PR_nobody Rel) {K : zKL} {wM wC : zW} {cs ss n : Nat} {σc σm : zG} (hF : zLF K wM) (hCF : zLC K wM wC) (h6 : n + 6 ≤ K.2.2.2.2.2.2.2.2.2.1) (hcs : cs ≤ 600000 ∧ ss ≤ 7302250) (hrel : Rel σc σm) (next : ∀ sc sm, Rel sc sm → zLL K wM wC cs ss 1555 (zal K wM wC n) [] sc sm) : zLL K wM wC cs ss 1124 (zal K wM wC n) [] σc σm := by
  obtain ⟨r, e1, e2, hrel2⟩ := hp (K.2.2.2.2.2.2.2.2.2.2 (n + 1)) σc σm hrel
  refine l_aload (pc := 1124) 1 hF (zdg DLc30_law 0 (1124, .aload_n 1, 1) rfl) rfl ?_
  refine l_arg (pc := 1125) 1 hF h6 (by decide) rfl (zdg DLc30_law 1 (1125, .aload_n 0, 1) rfl) (zdg DLc30_law 2 (1126, .iload_n 3, 1) rfl) (zdg DLc30_law 3 (1127, .iconst 1, 1) rfl) (zdg DLc30_law 4 (1128, .iadd, 1) rfl) (zdg DLc30_law 5 (1129, .iaload, 1) rfl) ?_
  refine l_callC (pc := 1130) (av := [zI (K.2.2.2.2.2.2.2.2.2.2 (n + 1))]) (rest := []) (st2 := [.int r]) (v1 := (some (zI r))) (σ1 := σc) hF hCF (fun w a ha => by simp at ha; rcases ha with rfl <;> trivial) (fun l => by have h := c_X11_nobody l (K.2.2.2.2.2.2.2.2.2.2 (n + 1)) σc r e1; exact h) zv_X11_nobody ll_143 rfl rfl rfl rfl rfl (by decide) ⟨by decide, by decide⟩ hcs (zdg DLc30_law 6 (1130, .invokevirtual 143, 3) rfl) ?_
  refine l_aload (pc := 1133) 2 hF (zdg DLc30_law 7 (1133, .aload_n 2, 1) rfl) rfl ?_
  refine l_arg (pc := 1134) 1 hF h6 (by decide) rfl (zdg DLc30_law 8 (1134, .aload_n 0, 1) rfl) (zdg DLc30_law 9 (1135, .iload_n 3, 1) rfl) (zdg DLc30_law 10 (1136, .iconst 1, 1) rfl) (zdg DLc30_law 11 (1137, .iadd, 1) rfl) (zdg DLc30_law 12 (1138, .iaload, 1) rfl) ?_
  refine l_callM (pc := 1139) (av := [zI (K.2.2.2.2.2.2.2.2.2.2 (n + 1))]) (rest := [.int r]) (st2 := [.int r, .int r]) (v1 := (some (zI r))) (σ1 := σm) hF hCF (fun w a ha => by simp at ha; rcases ha with rfl <;> trivial) (fun l => by have h := c_X12_nobody l (K.2.2.2.2.2.2.2.2.2.2 (n + 1)) σm r e2; exact h) zv_X12_nobody ll_146 rfl rfl rfl rfl rfl (by decide) ⟨by decide, by decide⟩ hcs (zdg DLc30_law 13 (1139, .invokevirtual 146, 3) rfl) ?_
  refine l_eqI (pc := 1142) 1555 hF (zdg DLc30_law 14 (1142, .if_icmp .eq 413, 3) rfl) rfl ?_
  exact next σc σm hrel2
def Lc31_law : List (Nat × Instr × Nat) := [(1147, .aload_n 1, 1), (1148, .aload_n 0, 1), (1149, .iload_n 3, 1), (1150, .iconst 1, 1), (1151, .iadd, 1), (1152, .iaload, 1), (1153, .aload_n 0, 1), (1154, .iload_n 3, 1), (1155, .iconst 2, 1), (1156, .iadd, 1), (1157, .iaload, 1), (1158, .invokevirtual 147, 3), (1161, .aload_n 2, 1), (1162, .aload_n 0, 1), (1163, .iload_n 3, 1), (1164, .iconst 1, 1), (1165, .iadd, 1), (1166, .iaload, 1), (1167, .aload_n 0, 1), (1168, .iload_n 3, 1), (1169, .iconst 2, 1), (1170, .iadd, 1), (1171, .iaload, 1), (1172, .invokevirtual 150, 3), (1175, .if_icmp .eq 380, 3), (1178, .iconst 0, 1), (1179, .ireturn, 1)]
set_option maxRecDepth 100000 in
theorem DLc31_law : zdecs code Lc31_law = true := by decide +kernel
def PR_copies (Rel : zG → zG → Prop) : Prop := ∀ (x1 x2 : Int32) (σc σm : zG), Rel σc σm → ∃ (r : Int32) (sc : zG) (sm : zG), f_X11_copies x1 x2 σc = some (r, sc) ∧ f_X12_copies x1 x2 σm = some (r, sm) ∧ Rel sc sm
set_option maxRecDepth 100000 in
set_option maxHeartbeats 4000000 in
theorem law_31 (Rel : zG → zG → Prop) (hp : PR_copies Rel) {K : zKL} {wM wC : zW} {cs ss n : Nat} {σc σm : zG} (hF : zLF K wM) (hCF : zLC K wM wC) (h6 : n + 6 ≤ K.2.2.2.2.2.2.2.2.2.1) (hcs : cs ≤ 600000 ∧ ss ≤ 7302250) (hrel : Rel σc σm) (next : ∀ sc sm, Rel sc sm → zLL K wM wC cs ss 1555 (zal K wM wC n) [] sc sm) : zLL K wM wC cs ss 1147 (zal K wM wC n) [] σc σm := by
  obtain ⟨r, sc, sm, e1, e2, hrel2⟩ := hp (K.2.2.2.2.2.2.2.2.2.2 (n + 1)) (K.2.2.2.2.2.2.2.2.2.2 (n + 2)) σc σm hrel
  refine l_aload (pc := 1147) 1 hF (zdg DLc31_law 0 (1147, .aload_n 1, 1) rfl) rfl ?_
  refine l_arg (pc := 1148) 1 hF h6 (by decide) rfl (zdg DLc31_law 1 (1148, .aload_n 0, 1) rfl) (zdg DLc31_law 2 (1149, .iload_n 3, 1) rfl) (zdg DLc31_law 3 (1150, .iconst 1, 1) rfl) (zdg DLc31_law 4 (1151, .iadd, 1) rfl) (zdg DLc31_law 5 (1152, .iaload, 1) rfl) ?_
  refine l_arg (pc := 1153) 2 hF h6 (by decide) rfl (zdg DLc31_law 6 (1153, .aload_n 0, 1) rfl) (zdg DLc31_law 7 (1154, .iload_n 3, 1) rfl) (zdg DLc31_law 8 (1155, .iconst 2, 1) rfl) (zdg DLc31_law 9 (1156, .iadd, 1) rfl) (zdg DLc31_law 10 (1157, .iaload, 1) rfl) ?_
  refine l_callC (pc := 1158) (av := [zI (K.2.2.2.2.2.2.2.2.2.2 (n + 1)), zI (K.2.2.2.2.2.2.2.2.2.2 (n + 2))]) (rest := []) (st2 := [.int r]) (v1 := (some (zI r))) (σ1 := sc) hF hCF (fun w a ha => by simp at ha; rcases ha with rfl | rfl <;> trivial) (fun l => by have h := c_X11_copies l (K.2.2.2.2.2.2.2.2.2.2 (n + 1)) (K.2.2.2.2.2.2.2.2.2.2 (n + 2)) σc (r, sc) e1; exact h) zv_X11_copies ll_147 rfl rfl rfl rfl rfl (by decide) ⟨by decide, by decide⟩ hcs (zdg DLc31_law 11 (1158, .invokevirtual 147, 3) rfl) ?_
  refine l_aload (pc := 1161) 2 hF (zdg DLc31_law 12 (1161, .aload_n 2, 1) rfl) rfl ?_
  refine l_arg (pc := 1162) 1 hF h6 (by decide) rfl (zdg DLc31_law 13 (1162, .aload_n 0, 1) rfl) (zdg DLc31_law 14 (1163, .iload_n 3, 1) rfl) (zdg DLc31_law 15 (1164, .iconst 1, 1) rfl) (zdg DLc31_law 16 (1165, .iadd, 1) rfl) (zdg DLc31_law 17 (1166, .iaload, 1) rfl) ?_
  refine l_arg (pc := 1167) 2 hF h6 (by decide) rfl (zdg DLc31_law 18 (1167, .aload_n 0, 1) rfl) (zdg DLc31_law 19 (1168, .iload_n 3, 1) rfl) (zdg DLc31_law 20 (1169, .iconst 2, 1) rfl) (zdg DLc31_law 21 (1170, .iadd, 1) rfl) (zdg DLc31_law 22 (1171, .iaload, 1) rfl) ?_
  refine l_callM (pc := 1172) (av := [zI (K.2.2.2.2.2.2.2.2.2.2 (n + 1)), zI (K.2.2.2.2.2.2.2.2.2.2 (n + 2))]) (rest := [.int r]) (st2 := [.int r, .int r]) (v1 := (some (zI r))) (σ1 := sm) hF hCF (fun w a ha => by simp at ha; rcases ha with rfl | rfl <;> trivial) (fun l => by have h := c_X12_copies l (K.2.2.2.2.2.2.2.2.2.2 (n + 1)) (K.2.2.2.2.2.2.2.2.2.2 (n + 2)) σm (r, sm) e2; exact h) zv_X12_copies ll_150 rfl rfl rfl rfl rfl (by decide) ⟨by decide, by decide⟩ hcs (zdg DLc31_law 23 (1172, .invokevirtual 150, 3) rfl) ?_
  refine l_eqI (pc := 1175) 1555 hF (zdg DLc31_law 24 (1175, .if_icmp .eq 380, 3) rfl) rfl ?_
  exact next sc sm hrel2
def Lc32_law : List (Nat × Instr × Nat) := [(1180, .aload_n 1, 1), (1181, .aload_n 0, 1), (1182, .iload_n 3, 1), (1183, .iconst 1, 1), (1184, .iadd, 1), (1185, .iaload, 1), (1186, .aload_n 0, 1), (1187, .iload_n 3, 1), (1188, .iconst 2, 1), (1189, .iadd, 1), (1190, .iaload, 1), (1191, .invokevirtual 151, 3), (1194, .aload_n 2, 1), (1195, .aload_n 0, 1), (1196, .iload_n 3, 1), (1197, .iconst 1, 1), (1198, .iadd, 1), (1199, .iaload, 1), (1200, .aload_n 0, 1), (1201, .iload_n 3, 1), (1202, .iconst 2, 1), (1203, .iadd, 1), (1204, .iaload, 1), (1205, .invokevirtual 154, 3), (1208, .if_icmp .eq 347, 3), (1211, .iconst 0, 1), (1212, .ireturn, 1)]
set_option maxRecDepth 100000 in
theorem DLc32_law : zdecs code Lc32_law = true := by decide +kernel
def PR_enough (Rel : zG → zG → Prop) : Prop := ∀ (x1 x2 : Int32) (σc σm : zG), Rel σc σm → ∃ (r : Int32) (sc : zG) (sm : zG), f_X11_enough x1 x2 σc = some (r, sc) ∧ f_X12_enough x1 x2 σm = some (r, sm) ∧ Rel sc sm
set_option maxRecDepth 100000 in
set_option maxHeartbeats 4000000 in
theorem law_32 (Rel : zG → zG → Prop) (hp : PR_enough Rel) {K : zKL} {wM wC : zW} {cs ss n : Nat} {σc σm : zG} (hF : zLF K wM) (hCF : zLC K wM wC) (h6 : n + 6 ≤ K.2.2.2.2.2.2.2.2.2.1) (hcs : cs ≤ 600000 ∧ ss ≤ 7302250) (hrel : Rel σc σm) (next : ∀ sc sm, Rel sc sm → zLL K wM wC cs ss 1555 (zal K wM wC n) [] sc sm) : zLL K wM wC cs ss 1180 (zal K wM wC n) [] σc σm := by
  obtain ⟨r, sc, sm, e1, e2, hrel2⟩ := hp (K.2.2.2.2.2.2.2.2.2.2 (n + 1)) (K.2.2.2.2.2.2.2.2.2.2 (n + 2)) σc σm hrel
  refine l_aload (pc := 1180) 1 hF (zdg DLc32_law 0 (1180, .aload_n 1, 1) rfl) rfl ?_
  refine l_arg (pc := 1181) 1 hF h6 (by decide) rfl (zdg DLc32_law 1 (1181, .aload_n 0, 1) rfl) (zdg DLc32_law 2 (1182, .iload_n 3, 1) rfl) (zdg DLc32_law 3 (1183, .iconst 1, 1) rfl) (zdg DLc32_law 4 (1184, .iadd, 1) rfl) (zdg DLc32_law 5 (1185, .iaload, 1) rfl) ?_
  refine l_arg (pc := 1186) 2 hF h6 (by decide) rfl (zdg DLc32_law 6 (1186, .aload_n 0, 1) rfl) (zdg DLc32_law 7 (1187, .iload_n 3, 1) rfl) (zdg DLc32_law 8 (1188, .iconst 2, 1) rfl) (zdg DLc32_law 9 (1189, .iadd, 1) rfl) (zdg DLc32_law 10 (1190, .iaload, 1) rfl) ?_
  refine l_callC (pc := 1191) (av := [zI (K.2.2.2.2.2.2.2.2.2.2 (n + 1)), zI (K.2.2.2.2.2.2.2.2.2.2 (n + 2))]) (rest := []) (st2 := [.int r]) (v1 := (some (zI r))) (σ1 := sc) hF hCF (fun w a ha => by simp at ha; rcases ha with rfl | rfl <;> trivial) (fun l => by have h := c_X11_enough l (K.2.2.2.2.2.2.2.2.2.2 (n + 1)) (K.2.2.2.2.2.2.2.2.2.2 (n + 2)) σc (r, sc) e1; exact h) zv_X11_enough ll_151 rfl rfl rfl rfl rfl (by decide) ⟨by decide, by decide⟩ hcs (zdg DLc32_law 11 (1191, .invokevirtual 151, 3) rfl) ?_
  refine l_aload (pc := 1194) 2 hF (zdg DLc32_law 12 (1194, .aload_n 2, 1) rfl) rfl ?_
  refine l_arg (pc := 1195) 1 hF h6 (by decide) rfl (zdg DLc32_law 13 (1195, .aload_n 0, 1) rfl) (zdg DLc32_law 14 (1196, .iload_n 3, 1) rfl) (zdg DLc32_law 15 (1197, .iconst 1, 1) rfl) (zdg DLc32_law 16 (1198, .iadd, 1) rfl) (zdg DLc32_law 17 (1199, .iaload, 1) rfl) ?_
  refine l_arg (pc := 1200) 2 hF h6 (by decide) rfl (zdg DLc32_law 18 (1200, .aload_n 0, 1) rfl) (zdg DLc32_law 19 (1201, .iload_n 3, 1) rfl) (zdg DLc32_law 20 (1202, .iconst 2, 1) rfl) (zdg DLc32_law 21 (1203, .iadd, 1) rfl) (zdg DLc32_law 22 (1204, .iaload, 1) rfl) ?_
  refine l_callM (pc := 1205) (av := [zI (K.2.2.2.2.2.2.2.2.2.2 (n + 1)), zI (K.2.2.2.2.2.2.2.2.2.2 (n + 2))]) (rest := [.int r]) (st2 := [.int r, .int r]) (v1 := (some (zI r))) (σ1 := sm) hF hCF (fun w a ha => by simp at ha; rcases ha with rfl | rfl <;> trivial) (fun l => by have h := c_X12_enough l (K.2.2.2.2.2.2.2.2.2.2 (n + 1)) (K.2.2.2.2.2.2.2.2.2.2 (n + 2)) σm (r, sm) e2; exact h) zv_X12_enough ll_154 rfl rfl rfl rfl rfl (by decide) ⟨by decide, by decide⟩ hcs (zdg DLc32_law 23 (1205, .invokevirtual 154, 3) rfl) ?_
  refine l_eqI (pc := 1208) 1555 hF (zdg DLc32_law 24 (1208, .if_icmp .eq 347, 3) rfl) rfl ?_
  exact next sc sm hrel2
def Lc33_law : List (Nat × Instr × Nat) := [(1213, .aload_n 1, 1), (1214, .aload_n 0, 1), (1215, .iload_n 3, 1), (1216, .iconst 1, 1), (1217, .iadd, 1), (1218, .iaload, 1), (1219, .aload_n 0, 1), (1220, .iload_n 3, 1), (1221, .iconst 2, 1), (1222, .iadd, 1), (1223, .iaload, 1), (1224, .aload_n 0, 1), (1225, .iload_n 3, 1), (1226, .iconst 3, 1), (1227, .iadd, 1), (1228, .iaload, 1), (1229, .invokevirtual 155, 3), (1232, .aload_n 2, 1), (1233, .aload_n 0, 1), (1234, .iload_n 3, 1), (1235, .iconst 1, 1), (1236, .iadd, 1), (1237, .iaload, 1), (1238, .aload_n 0, 1), (1239, .iload_n 3, 1), (1240, .iconst 2, 1), (1241, .iadd, 1), (1242, .iaload, 1), (1243, .aload_n 0, 1), (1244, .iload_n 3, 1), (1245, .iconst 3, 1), (1246, .iadd, 1), (1247, .iaload, 1), (1248, .invokevirtual 158, 3), (1251, .if_icmp .eq 304, 3), (1254, .iconst 0, 1), (1255, .ireturn, 1)]
set_option maxRecDepth 100000 in
theorem DLc33_law : zdecs code Lc33_law = true := by decide +kernel
def PR_hours (Rel : zG → zG → Prop) : Prop := ∀ (x1 x2 x3 : Int32) (σc σm : zG), Rel σc σm → ∃ (r : Int32) (sc : zG) (sm : zG), f_X11_hours x1 x2 x3 σc = some (r, sc) ∧ f_X12_hours x1 x2 x3 σm = some (r, sm) ∧ Rel sc sm
set_option maxRecDepth 100000 in
set_option maxHeartbeats 4000000 in
theorem law_33 (Rel : zG → zG → Prop) (hp : PR_hours Rel) {K : zKL} {wM wC : zW} {cs ss n : Nat} {σc σm : zG} (hF : zLF K wM) (hCF : zLC K wM wC) (h6 : n + 6 ≤ K.2.2.2.2.2.2.2.2.2.1) (hcs : cs ≤ 600000 ∧ ss ≤ 7302250) (hrel : Rel σc σm) (next : ∀ sc sm, Rel sc sm → zLL K wM wC cs ss 1555 (zal K wM wC n) [] sc sm) : zLL K wM wC cs ss 1213 (zal K wM wC n) [] σc σm := by
  obtain ⟨r, sc, sm, e1, e2, hrel2⟩ := hp (K.2.2.2.2.2.2.2.2.2.2 (n + 1)) (K.2.2.2.2.2.2.2.2.2.2 (n + 2)) (K.2.2.2.2.2.2.2.2.2.2 (n + 3)) σc σm hrel
  refine l_aload (pc := 1213) 1 hF (zdg DLc33_law 0 (1213, .aload_n 1, 1) rfl) rfl ?_
  refine l_arg (pc := 1214) 1 hF h6 (by decide) rfl (zdg DLc33_law 1 (1214, .aload_n 0, 1) rfl) (zdg DLc33_law 2 (1215, .iload_n 3, 1) rfl) (zdg DLc33_law 3 (1216, .iconst 1, 1) rfl) (zdg DLc33_law 4 (1217, .iadd, 1) rfl) (zdg DLc33_law 5 (1218, .iaload, 1) rfl) ?_
  refine l_arg (pc := 1219) 2 hF h6 (by decide) rfl (zdg DLc33_law 6 (1219, .aload_n 0, 1) rfl) (zdg DLc33_law 7 (1220, .iload_n 3, 1) rfl) (zdg DLc33_law 8 (1221, .iconst 2, 1) rfl) (zdg DLc33_law 9 (1222, .iadd, 1) rfl) (zdg DLc33_law 10 (1223, .iaload, 1) rfl) ?_
  refine l_arg (pc := 1224) 3 hF h6 (by decide) rfl (zdg DLc33_law 11 (1224, .aload_n 0, 1) rfl) (zdg DLc33_law 12 (1225, .iload_n 3, 1) rfl) (zdg DLc33_law 13 (1226, .iconst 3, 1) rfl) (zdg DLc33_law 14 (1227, .iadd, 1) rfl) (zdg DLc33_law 15 (1228, .iaload, 1) rfl) ?_
  refine l_callC (pc := 1229) (av := [zI (K.2.2.2.2.2.2.2.2.2.2 (n + 1)), zI (K.2.2.2.2.2.2.2.2.2.2 (n + 2)), zI (K.2.2.2.2.2.2.2.2.2.2 (n + 3))]) (rest := []) (st2 := [.int r]) (v1 := (some (zI r))) (σ1 := sc) hF hCF (fun w a ha => by simp at ha; rcases ha with rfl | rfl | rfl <;> trivial) (fun l => by have h := c_X11_hours l (K.2.2.2.2.2.2.2.2.2.2 (n + 1)) (K.2.2.2.2.2.2.2.2.2.2 (n + 2)) (K.2.2.2.2.2.2.2.2.2.2 (n + 3)) σc (r, sc) e1; exact h) zv_X11_hours ll_155 rfl rfl rfl rfl rfl (by decide) ⟨by decide, by decide⟩ hcs (zdg DLc33_law 16 (1229, .invokevirtual 155, 3) rfl) ?_
  refine l_aload (pc := 1232) 2 hF (zdg DLc33_law 17 (1232, .aload_n 2, 1) rfl) rfl ?_
  refine l_arg (pc := 1233) 1 hF h6 (by decide) rfl (zdg DLc33_law 18 (1233, .aload_n 0, 1) rfl) (zdg DLc33_law 19 (1234, .iload_n 3, 1) rfl) (zdg DLc33_law 20 (1235, .iconst 1, 1) rfl) (zdg DLc33_law 21 (1236, .iadd, 1) rfl) (zdg DLc33_law 22 (1237, .iaload, 1) rfl) ?_
  refine l_arg (pc := 1238) 2 hF h6 (by decide) rfl (zdg DLc33_law 23 (1238, .aload_n 0, 1) rfl) (zdg DLc33_law 24 (1239, .iload_n 3, 1) rfl) (zdg DLc33_law 25 (1240, .iconst 2, 1) rfl) (zdg DLc33_law 26 (1241, .iadd, 1) rfl) (zdg DLc33_law 27 (1242, .iaload, 1) rfl) ?_
  refine l_arg (pc := 1243) 3 hF h6 (by decide) rfl (zdg DLc33_law 28 (1243, .aload_n 0, 1) rfl) (zdg DLc33_law 29 (1244, .iload_n 3, 1) rfl) (zdg DLc33_law 30 (1245, .iconst 3, 1) rfl) (zdg DLc33_law 31 (1246, .iadd, 1) rfl) (zdg DLc33_law 32 (1247, .iaload, 1) rfl) ?_
  refine l_callM (pc := 1248) (av := [zI (K.2.2.2.2.2.2.2.2.2.2 (n + 1)), zI (K.2.2.2.2.2.2.2.2.2.2 (n + 2)), zI (K.2.2.2.2.2.2.2.2.2.2 (n + 3))]) (rest := [.int r]) (st2 := [.int r, .int r]) (v1 := (some (zI r))) (σ1 := sm) hF hCF (fun w a ha => by simp at ha; rcases ha with rfl | rfl | rfl <;> trivial) (fun l => by have h := c_X12_hours l (K.2.2.2.2.2.2.2.2.2.2 (n + 1)) (K.2.2.2.2.2.2.2.2.2.2 (n + 2)) (K.2.2.2.2.2.2.2.2.2.2 (n + 3)) σm (r, sm) e2; exact h) zv_X12_hours ll_158 rfl rfl rfl rfl rfl (by decide) ⟨by decide, by decide⟩ hcs (zdg DLc33_law 33 (1248, .invokevirtual 158, 3) rfl) ?_
  refine l_eqI (pc := 1251) 1555 hF (zdg DLc33_law 34 (1251, .if_icmp .eq 304, 3) rfl) rfl ?_
  exact next sc sm hrel2
def Lc34_law : List (Nat × Instr × Nat) := [(1256, .aload_n 1, 1), (1257, .aload_n 0, 1), (1258, .iload_n 3, 1), (1259, .iconst 1, 1), (1260, .iadd, 1), (1261, .iaload, 1), (1262, .aload_n 0, 1), (1263, .iload_n 3, 1), (1264, .iconst 2, 1), (1265, .iadd, 1), (1266, .iaload, 1), (1267, .invokevirtual 159, 3), (1270, .aload_n 2, 1), (1271, .aload_n 0, 1), (1272, .iload_n 3, 1), (1273, .iconst 1, 1), (1274, .iadd, 1), (1275, .iaload, 1), (1276, .aload_n 0, 1), (1277, .iload_n 3, 1), (1278, .iconst 2, 1), (1279, .iadd, 1), (1280, .iaload, 1), (1281, .invokevirtual 162, 3), (1284, .if_icmp .eq 271, 3), (1287, .iconst 0, 1), (1288, .ireturn, 1)]
set_option maxRecDepth 100000 in
theorem DLc34_law : zdecs code Lc34_law = true := by decide +kernel
def PR_judged (Rel : zG → zG → Prop) : Prop := ∀ (x1 x2 : Int32) (σc σm : zG), Rel σc σm → ∃ (r : Int32) (sc : zG) (sm : zG), f_X11_judged x1 x2 σc = some (r, sc) ∧ f_X12_judged x1 x2 σm = some (r, sm) ∧ Rel sc sm
set_option maxRecDepth 100000 in
set_option maxHeartbeats 4000000 in
theorem law_34 (Rel : zG → zG → Prop) (hp : PR_judged Rel) {K : zKL} {wM wC : zW} {cs ss n : Nat} {σc σm : zG} (hF : zLF K wM) (hCF : zLC K wM wC) (h6 : n + 6 ≤ K.2.2.2.2.2.2.2.2.2.1) (hcs : cs ≤ 600000 ∧ ss ≤ 7302250) (hrel : Rel σc σm) (next : ∀ sc sm, Rel sc sm → zLL K wM wC cs ss 1555 (zal K wM wC n) [] sc sm) : zLL K wM wC cs ss 1256 (zal K wM wC n) [] σc σm := by
  obtain ⟨r, sc, sm, e1, e2, hrel2⟩ := hp (K.2.2.2.2.2.2.2.2.2.2 (n + 1)) (K.2.2.2.2.2.2.2.2.2.2 (n + 2)) σc σm hrel
  refine l_aload (pc := 1256) 1 hF (zdg DLc34_law 0 (1256, .aload_n 1, 1) rfl) rfl ?_
  refine l_arg (pc := 1257) 1 hF h6 (by decide) rfl (zdg DLc34_law 1 (1257, .aload_n 0, 1) rfl) (zdg DLc34_law 2 (1258, .iload_n 3, 1) rfl) (zdg DLc34_law 3 (1259, .iconst 1, 1) rfl) (zdg DLc34_law 4 (1260, .iadd, 1) rfl) (zdg DLc34_law 5 (1261, .iaload, 1) rfl) ?_
  refine l_arg (pc := 1262) 2 hF h6 (by decide) rfl (zdg DLc34_law 6 (1262, .aload_n 0, 1) rfl) (zdg DLc34_law 7 (1263, .iload_n 3, 1) rfl) (zdg DLc34_law 8 (1264, .iconst 2, 1) rfl) (zdg DLc34_law 9 (1265, .iadd, 1) rfl) (zdg DLc34_law 10 (1266, .iaload, 1) rfl) ?_
  refine l_callC (pc := 1267) (av := [zI (K.2.2.2.2.2.2.2.2.2.2 (n + 1)), zI (K.2.2.2.2.2.2.2.2.2.2 (n + 2))]) (rest := []) (st2 := [.int r]) (v1 := (some (zI r))) (σ1 := sc) hF hCF (fun w a ha => by simp at ha; rcases ha with rfl | rfl <;> trivial) (fun l => by have h := c_X11_judged l (K.2.2.2.2.2.2.2.2.2.2 (n + 1)) (K.2.2.2.2.2.2.2.2.2.2 (n + 2)) σc (r, sc) e1; exact h) zv_X11_judged ll_159 rfl rfl rfl rfl rfl (by decide) ⟨by decide, by decide⟩ hcs (zdg DLc34_law 11 (1267, .invokevirtual 159, 3) rfl) ?_
  refine l_aload (pc := 1270) 2 hF (zdg DLc34_law 12 (1270, .aload_n 2, 1) rfl) rfl ?_
  refine l_arg (pc := 1271) 1 hF h6 (by decide) rfl (zdg DLc34_law 13 (1271, .aload_n 0, 1) rfl) (zdg DLc34_law 14 (1272, .iload_n 3, 1) rfl) (zdg DLc34_law 15 (1273, .iconst 1, 1) rfl) (zdg DLc34_law 16 (1274, .iadd, 1) rfl) (zdg DLc34_law 17 (1275, .iaload, 1) rfl) ?_
  refine l_arg (pc := 1276) 2 hF h6 (by decide) rfl (zdg DLc34_law 18 (1276, .aload_n 0, 1) rfl) (zdg DLc34_law 19 (1277, .iload_n 3, 1) rfl) (zdg DLc34_law 20 (1278, .iconst 2, 1) rfl) (zdg DLc34_law 21 (1279, .iadd, 1) rfl) (zdg DLc34_law 22 (1280, .iaload, 1) rfl) ?_
  refine l_callM (pc := 1281) (av := [zI (K.2.2.2.2.2.2.2.2.2.2 (n + 1)), zI (K.2.2.2.2.2.2.2.2.2.2 (n + 2))]) (rest := [.int r]) (st2 := [.int r, .int r]) (v1 := (some (zI r))) (σ1 := sm) hF hCF (fun w a ha => by simp at ha; rcases ha with rfl | rfl <;> trivial) (fun l => by have h := c_X12_judged l (K.2.2.2.2.2.2.2.2.2.2 (n + 1)) (K.2.2.2.2.2.2.2.2.2.2 (n + 2)) σm (r, sm) e2; exact h) zv_X12_judged ll_162 rfl rfl rfl rfl rfl (by decide) ⟨by decide, by decide⟩ hcs (zdg DLc34_law 23 (1281, .invokevirtual 162, 3) rfl) ?_
  refine l_eqI (pc := 1284) 1555 hF (zdg DLc34_law 24 (1284, .if_icmp .eq 271, 3) rfl) rfl ?_
  exact next sc sm hrel2
def Lc35_law : List (Nat × Instr × Nat) := [(1289, .aload_n 1, 1), (1290, .aload_n 0, 1), (1291, .iload_n 3, 1), (1292, .iconst 1, 1), (1293, .iadd, 1), (1294, .iaload, 1), (1295, .aload_n 0, 1), (1296, .iload_n 3, 1), (1297, .iconst 2, 1), (1298, .iadd, 1), (1299, .iaload, 1), (1300, .invokevirtual 163, 3), (1303, .aload_n 2, 1), (1304, .aload_n 0, 1), (1305, .iload_n 3, 1), (1306, .iconst 1, 1), (1307, .iadd, 1), (1308, .iaload, 1), (1309, .aload_n 0, 1), (1310, .iload_n 3, 1), (1311, .iconst 2, 1), (1312, .iadd, 1), (1313, .iaload, 1), (1314, .invokevirtual 166, 3), (1317, .if_icmp .eq 238, 3), (1320, .iconst 0, 1), (1321, .ireturn, 1)]
set_option maxRecDepth 100000 in
theorem DLc35_law : zdecs code Lc35_law = true := by decide +kernel
def PR_whenShot (Rel : zG → zG → Prop) : Prop := ∀ (x1 x2 : Int32) (σc σm : zG), Rel σc σm → ∃ (r : Int32) (sc : zG) (sm : zG), f_X11_whenShot x1 x2 σc = some (r, sc) ∧ f_X12_whenShot x1 x2 σm = some (r, sm) ∧ Rel sc sm
set_option maxRecDepth 100000 in
set_option maxHeartbeats 4000000 in
theorem law_35 (Rel : zG → zG → Prop) (hp : PR_whenShot Rel) {K : zKL} {wM wC : zW} {cs ss n : Nat} {σc σm : zG} (hF : zLF K wM) (hCF : zLC K wM wC) (h6 : n + 6 ≤ K.2.2.2.2.2.2.2.2.2.1) (hcs : cs ≤ 600000 ∧ ss ≤ 7302250) (hrel : Rel σc σm) (next : ∀ sc sm, Rel sc sm → zLL K wM wC cs ss 1555 (zal K wM wC n) [] sc sm) : zLL K wM wC cs ss 1289 (zal K wM wC n) [] σc σm := by
  obtain ⟨r, sc, sm, e1, e2, hrel2⟩ := hp (K.2.2.2.2.2.2.2.2.2.2 (n + 1)) (K.2.2.2.2.2.2.2.2.2.2 (n + 2)) σc σm hrel
  refine l_aload (pc := 1289) 1 hF (zdg DLc35_law 0 (1289, .aload_n 1, 1) rfl) rfl ?_
  refine l_arg (pc := 1290) 1 hF h6 (by decide) rfl (zdg DLc35_law 1 (1290, .aload_n 0, 1) rfl) (zdg DLc35_law 2 (1291, .iload_n 3, 1) rfl) (zdg DLc35_law 3 (1292, .iconst 1, 1) rfl) (zdg DLc35_law 4 (1293, .iadd, 1) rfl) (zdg DLc35_law 5 (1294, .iaload, 1) rfl) ?_
  refine l_arg (pc := 1295) 2 hF h6 (by decide) rfl (zdg DLc35_law 6 (1295, .aload_n 0, 1) rfl) (zdg DLc35_law 7 (1296, .iload_n 3, 1) rfl) (zdg DLc35_law 8 (1297, .iconst 2, 1) rfl) (zdg DLc35_law 9 (1298, .iadd, 1) rfl) (zdg DLc35_law 10 (1299, .iaload, 1) rfl) ?_
  refine l_callC (pc := 1300) (av := [zI (K.2.2.2.2.2.2.2.2.2.2 (n + 1)), zI (K.2.2.2.2.2.2.2.2.2.2 (n + 2))]) (rest := []) (st2 := [.int r]) (v1 := (some (zI r))) (σ1 := sc) hF hCF (fun w a ha => by simp at ha; rcases ha with rfl | rfl <;> trivial) (fun l => by have h := c_X11_whenShot l (K.2.2.2.2.2.2.2.2.2.2 (n + 1)) (K.2.2.2.2.2.2.2.2.2.2 (n + 2)) σc (r, sc) e1; exact h) zv_X11_whenShot ll_163 rfl rfl rfl rfl rfl (by decide) ⟨by decide, by decide⟩ hcs (zdg DLc35_law 11 (1300, .invokevirtual 163, 3) rfl) ?_
  refine l_aload (pc := 1303) 2 hF (zdg DLc35_law 12 (1303, .aload_n 2, 1) rfl) rfl ?_
  refine l_arg (pc := 1304) 1 hF h6 (by decide) rfl (zdg DLc35_law 13 (1304, .aload_n 0, 1) rfl) (zdg DLc35_law 14 (1305, .iload_n 3, 1) rfl) (zdg DLc35_law 15 (1306, .iconst 1, 1) rfl) (zdg DLc35_law 16 (1307, .iadd, 1) rfl) (zdg DLc35_law 17 (1308, .iaload, 1) rfl) ?_
  refine l_arg (pc := 1309) 2 hF h6 (by decide) rfl (zdg DLc35_law 18 (1309, .aload_n 0, 1) rfl) (zdg DLc35_law 19 (1310, .iload_n 3, 1) rfl) (zdg DLc35_law 20 (1311, .iconst 2, 1) rfl) (zdg DLc35_law 21 (1312, .iadd, 1) rfl) (zdg DLc35_law 22 (1313, .iaload, 1) rfl) ?_
  refine l_callM (pc := 1314) (av := [zI (K.2.2.2.2.2.2.2.2.2.2 (n + 1)), zI (K.2.2.2.2.2.2.2.2.2.2 (n + 2))]) (rest := [.int r]) (st2 := [.int r, .int r]) (v1 := (some (zI r))) (σ1 := sm) hF hCF (fun w a ha => by simp at ha; rcases ha with rfl | rfl <;> trivial) (fun l => by have h := c_X12_whenShot l (K.2.2.2.2.2.2.2.2.2.2 (n + 1)) (K.2.2.2.2.2.2.2.2.2.2 (n + 2)) σm (r, sm) e2; exact h) zv_X12_whenShot ll_166 rfl rfl rfl rfl rfl (by decide) ⟨by decide, by decide⟩ hcs (zdg DLc35_law 23 (1314, .invokevirtual 166, 3) rfl) ?_
  refine l_eqI (pc := 1317) 1555 hF (zdg DLc35_law 24 (1317, .if_icmp .eq 238, 3) rfl) rfl ?_
  exact next sc sm hrel2
def Lc36_law : List (Nat × Instr × Nat) := [(1322, .aload_n 1, 1), (1323, .aload_n 0, 1), (1324, .iload_n 3, 1), (1325, .iconst 1, 1), (1326, .iadd, 1), (1327, .iaload, 1), (1328, .invokevirtual 167, 3), (1331, .aload_n 2, 1), (1332, .aload_n 0, 1), (1333, .iload_n 3, 1), (1334, .iconst 1, 1), (1335, .iadd, 1), (1336, .iaload, 1), (1337, .invokevirtual 170, 3), (1340, .if_icmp .eq 215, 3), (1343, .iconst 0, 1), (1344, .ireturn, 1)]
set_option maxRecDepth 100000 in
theorem DLc36_law : zdecs code Lc36_law = true := by decide +kernel
def PR_stander (Rel : zG → zG → Prop) : Prop := ∀ (x1 : Int32) (σc σm : zG), Rel σc σm → ∃ (r : Int32) (sm : zG), f_X11_stander x1 σc = some r ∧ f_X12_stander x1 σm = some (r, sm) ∧ Rel σc sm
set_option maxRecDepth 100000 in
set_option maxHeartbeats 4000000 in
theorem law_36 (Rel : zG → zG → Prop) (hp : PR_stander Rel) {K : zKL} {wM wC : zW} {cs ss n : Nat} {σc σm : zG} (hF : zLF K wM) (hCF : zLC K wM wC) (h6 : n + 6 ≤ K.2.2.2.2.2.2.2.2.2.1) (hcs : cs ≤ 600000 ∧ ss ≤ 7302250) (hrel : Rel σc σm) (next : ∀ sc sm, Rel sc sm → zLL K wM wC cs ss 1555 (zal K wM wC n) [] sc sm) : zLL K wM wC cs ss 1322 (zal K wM wC n) [] σc σm := by
  obtain ⟨r, sm, e1, e2, hrel2⟩ := hp (K.2.2.2.2.2.2.2.2.2.2 (n + 1)) σc σm hrel
  refine l_aload (pc := 1322) 1 hF (zdg DLc36_law 0 (1322, .aload_n 1, 1) rfl) rfl ?_
  refine l_arg (pc := 1323) 1 hF h6 (by decide) rfl (zdg DLc36_law 1 (1323, .aload_n 0, 1) rfl) (zdg DLc36_law 2 (1324, .iload_n 3, 1) rfl) (zdg DLc36_law 3 (1325, .iconst 1, 1) rfl) (zdg DLc36_law 4 (1326, .iadd, 1) rfl) (zdg DLc36_law 5 (1327, .iaload, 1) rfl) ?_
  refine l_callC (pc := 1328) (av := [zI (K.2.2.2.2.2.2.2.2.2.2 (n + 1))]) (rest := []) (st2 := [.int r]) (v1 := (some (zI r))) (σ1 := σc) hF hCF (fun w a ha => by simp at ha; rcases ha with rfl <;> trivial) (fun l => by have h := c_X11_stander l (K.2.2.2.2.2.2.2.2.2.2 (n + 1)) σc r e1; exact h) zv_X11_stander ll_167 rfl rfl rfl rfl rfl (by decide) ⟨by decide, by decide⟩ hcs (zdg DLc36_law 6 (1328, .invokevirtual 167, 3) rfl) ?_
  refine l_aload (pc := 1331) 2 hF (zdg DLc36_law 7 (1331, .aload_n 2, 1) rfl) rfl ?_
  refine l_arg (pc := 1332) 1 hF h6 (by decide) rfl (zdg DLc36_law 8 (1332, .aload_n 0, 1) rfl) (zdg DLc36_law 9 (1333, .iload_n 3, 1) rfl) (zdg DLc36_law 10 (1334, .iconst 1, 1) rfl) (zdg DLc36_law 11 (1335, .iadd, 1) rfl) (zdg DLc36_law 12 (1336, .iaload, 1) rfl) ?_
  refine l_callM (pc := 1337) (av := [zI (K.2.2.2.2.2.2.2.2.2.2 (n + 1))]) (rest := [.int r]) (st2 := [.int r, .int r]) (v1 := (some (zI r))) (σ1 := sm) hF hCF (fun w a ha => by simp at ha; rcases ha with rfl <;> trivial) (fun l => by have h := c_X12_stander l (K.2.2.2.2.2.2.2.2.2.2 (n + 1)) σm (r, sm) e2; exact h) zv_X12_stander ll_170 rfl rfl rfl rfl rfl (by decide) ⟨by decide, by decide⟩ hcs (zdg DLc36_law 13 (1337, .invokevirtual 170, 3) rfl) ?_
  refine l_eqI (pc := 1340) 1555 hF (zdg DLc36_law 14 (1340, .if_icmp .eq 215, 3) rfl) rfl ?_
  exact next σc sm hrel2
def Lc37_law : List (Nat × Instr × Nat) := [(1345, .aload_n 1, 1), (1346, .aload_n 0, 1), (1347, .iload_n 3, 1), (1348, .iconst 1, 1), (1349, .iadd, 1), (1350, .iaload, 1), (1351, .aload_n 0, 1), (1352, .iload_n 3, 1), (1353, .iconst 2, 1), (1354, .iadd, 1), (1355, .iaload, 1), (1356, .invokevirtual 171, 3), (1359, .aload_n 2, 1), (1360, .aload_n 0, 1), (1361, .iload_n 3, 1), (1362, .iconst 1, 1), (1363, .iadd, 1), (1364, .iaload, 1), (1365, .aload_n 0, 1), (1366, .iload_n 3, 1), (1367, .iconst 2, 1), (1368, .iadd, 1), (1369, .iaload, 1), (1370, .invokevirtual 174, 3), (1373, .if_icmp .eq 182, 3), (1376, .iconst 0, 1), (1377, .ireturn, 1)]
set_option maxRecDepth 100000 in
theorem DLc37_law : zdecs code Lc37_law = true := by decide +kernel
def PR_with (Rel : zG → zG → Prop) : Prop := ∀ (x1 x2 : Int32) (σc σm : zG), Rel σc σm → ∃ (r : Int32), f_X11_with x1 x2 σc = some r ∧ f_X12_with x1 x2 σm = some r ∧ Rel σc σm
set_option maxRecDepth 100000 in
set_option maxHeartbeats 4000000 in
theorem law_37 (Rel : zG → zG → Prop) (hp : PR_with Rel) {K : zKL} {wM wC : zW} {cs ss n : Nat} {σc σm : zG} (hF : zLF K wM) (hCF : zLC K wM wC) (h6 : n + 6 ≤ K.2.2.2.2.2.2.2.2.2.1) (hcs : cs ≤ 600000 ∧ ss ≤ 7302250) (hrel : Rel σc σm) (next : ∀ sc sm, Rel sc sm → zLL K wM wC cs ss 1555 (zal K wM wC n) [] sc sm) : zLL K wM wC cs ss 1345 (zal K wM wC n) [] σc σm := by
  obtain ⟨r, e1, e2, hrel2⟩ := hp (K.2.2.2.2.2.2.2.2.2.2 (n + 1)) (K.2.2.2.2.2.2.2.2.2.2 (n + 2)) σc σm hrel
  refine l_aload (pc := 1345) 1 hF (zdg DLc37_law 0 (1345, .aload_n 1, 1) rfl) rfl ?_
  refine l_arg (pc := 1346) 1 hF h6 (by decide) rfl (zdg DLc37_law 1 (1346, .aload_n 0, 1) rfl) (zdg DLc37_law 2 (1347, .iload_n 3, 1) rfl) (zdg DLc37_law 3 (1348, .iconst 1, 1) rfl) (zdg DLc37_law 4 (1349, .iadd, 1) rfl) (zdg DLc37_law 5 (1350, .iaload, 1) rfl) ?_
  refine l_arg (pc := 1351) 2 hF h6 (by decide) rfl (zdg DLc37_law 6 (1351, .aload_n 0, 1) rfl) (zdg DLc37_law 7 (1352, .iload_n 3, 1) rfl) (zdg DLc37_law 8 (1353, .iconst 2, 1) rfl) (zdg DLc37_law 9 (1354, .iadd, 1) rfl) (zdg DLc37_law 10 (1355, .iaload, 1) rfl) ?_
  refine l_callC (pc := 1356) (av := [zI (K.2.2.2.2.2.2.2.2.2.2 (n + 1)), zI (K.2.2.2.2.2.2.2.2.2.2 (n + 2))]) (rest := []) (st2 := [.int r]) (v1 := (some (zI r))) (σ1 := σc) hF hCF (fun w a ha => by simp at ha; rcases ha with rfl | rfl <;> trivial) (fun l => by have h := c_X11_with l (K.2.2.2.2.2.2.2.2.2.2 (n + 1)) (K.2.2.2.2.2.2.2.2.2.2 (n + 2)) σc r e1; exact h) zv_X11_with ll_171 rfl rfl rfl rfl rfl (by decide) ⟨by decide, by decide⟩ hcs (zdg DLc37_law 11 (1356, .invokevirtual 171, 3) rfl) ?_
  refine l_aload (pc := 1359) 2 hF (zdg DLc37_law 12 (1359, .aload_n 2, 1) rfl) rfl ?_
  refine l_arg (pc := 1360) 1 hF h6 (by decide) rfl (zdg DLc37_law 13 (1360, .aload_n 0, 1) rfl) (zdg DLc37_law 14 (1361, .iload_n 3, 1) rfl) (zdg DLc37_law 15 (1362, .iconst 1, 1) rfl) (zdg DLc37_law 16 (1363, .iadd, 1) rfl) (zdg DLc37_law 17 (1364, .iaload, 1) rfl) ?_
  refine l_arg (pc := 1365) 2 hF h6 (by decide) rfl (zdg DLc37_law 18 (1365, .aload_n 0, 1) rfl) (zdg DLc37_law 19 (1366, .iload_n 3, 1) rfl) (zdg DLc37_law 20 (1367, .iconst 2, 1) rfl) (zdg DLc37_law 21 (1368, .iadd, 1) rfl) (zdg DLc37_law 22 (1369, .iaload, 1) rfl) ?_
  refine l_callM (pc := 1370) (av := [zI (K.2.2.2.2.2.2.2.2.2.2 (n + 1)), zI (K.2.2.2.2.2.2.2.2.2.2 (n + 2))]) (rest := [.int r]) (st2 := [.int r, .int r]) (v1 := (some (zI r))) (σ1 := σm) hF hCF (fun w a ha => by simp at ha; rcases ha with rfl | rfl <;> trivial) (fun l => by have h := c_X12_with l (K.2.2.2.2.2.2.2.2.2.2 (n + 1)) (K.2.2.2.2.2.2.2.2.2.2 (n + 2)) σm r e2; exact h) zv_X12_with ll_174 rfl rfl rfl rfl rfl (by decide) ⟨by decide, by decide⟩ hcs (zdg DLc37_law 23 (1370, .invokevirtual 174, 3) rfl) ?_
  refine l_eqI (pc := 1373) 1555 hF (zdg DLc37_law 24 (1373, .if_icmp .eq 182, 3) rfl) rfl ?_
  exact next σc σm hrel2
def Lc38_law : List (Nat × Instr × Nat) := [(1378, .aload_n 1, 1), (1379, .aload_n 0, 1), (1380, .iload_n 3, 1), (1381, .iconst 1, 1), (1382, .iadd, 1), (1383, .iaload, 1), (1384, .invokevirtual 175, 3), (1387, .aload_n 2, 1), (1388, .aload_n 0, 1), (1389, .iload_n 3, 1), (1390, .iconst 1, 1), (1391, .iadd, 1), (1392, .iaload, 1), (1393, .invokevirtual 178, 3), (1396, .if_icmp .eq 159, 3), (1399, .iconst 0, 1), (1400, .ireturn, 1)]
set_option maxRecDepth 100000 in
theorem DLc38_law : zdecs code Lc38_law = true := by decide +kernel
def PR_twos (Rel : zG → zG → Prop) : Prop := ∀ (x1 : Int32) (σc σm : zG), Rel σc σm → ∃ (r : Int32), f_X11_twos x1 σc = some r ∧ f_X12_twos x1 σm = some r ∧ Rel σc σm
set_option maxRecDepth 100000 in
set_option maxHeartbeats 4000000 in
theorem law_38 (Rel : zG → zG → Prop) (hp : PR_twos Rel) {K : zKL} {wM wC : zW} {cs ss n : Nat} {σc σm : zG} (hF : zLF K wM) (hCF : zLC K wM wC) (h6 : n + 6 ≤ K.2.2.2.2.2.2.2.2.2.1) (hcs : cs ≤ 600000 ∧ ss ≤ 7302250) (hrel : Rel σc σm) (next : ∀ sc sm, Rel sc sm → zLL K wM wC cs ss 1555 (zal K wM wC n) [] sc sm) : zLL K wM wC cs ss 1378 (zal K wM wC n) [] σc σm := by
  obtain ⟨r, e1, e2, hrel2⟩ := hp (K.2.2.2.2.2.2.2.2.2.2 (n + 1)) σc σm hrel
  refine l_aload (pc := 1378) 1 hF (zdg DLc38_law 0 (1378, .aload_n 1, 1) rfl) rfl ?_
  refine l_arg (pc := 1379) 1 hF h6 (by decide) rfl (zdg DLc38_law 1 (1379, .aload_n 0, 1) rfl) (zdg DLc38_law 2 (1380, .iload_n 3, 1) rfl) (zdg DLc38_law 3 (1381, .iconst 1, 1) rfl) (zdg DLc38_law 4 (1382, .iadd, 1) rfl) (zdg DLc38_law 5 (1383, .iaload, 1) rfl) ?_
  refine l_callC (pc := 1384) (av := [zI (K.2.2.2.2.2.2.2.2.2.2 (n + 1))]) (rest := []) (st2 := [.int r]) (v1 := (some (zI r))) (σ1 := σc) hF hCF (fun w a ha => by simp at ha; rcases ha with rfl <;> trivial) (fun l => by have h := c_X11_twos l (K.2.2.2.2.2.2.2.2.2.2 (n + 1)) σc r e1; exact h) zv_X11_twos ll_175 rfl rfl rfl rfl rfl (by decide) ⟨by decide, by decide⟩ hcs (zdg DLc38_law 6 (1384, .invokevirtual 175, 3) rfl) ?_
  refine l_aload (pc := 1387) 2 hF (zdg DLc38_law 7 (1387, .aload_n 2, 1) rfl) rfl ?_
  refine l_arg (pc := 1388) 1 hF h6 (by decide) rfl (zdg DLc38_law 8 (1388, .aload_n 0, 1) rfl) (zdg DLc38_law 9 (1389, .iload_n 3, 1) rfl) (zdg DLc38_law 10 (1390, .iconst 1, 1) rfl) (zdg DLc38_law 11 (1391, .iadd, 1) rfl) (zdg DLc38_law 12 (1392, .iaload, 1) rfl) ?_
  refine l_callM (pc := 1393) (av := [zI (K.2.2.2.2.2.2.2.2.2.2 (n + 1))]) (rest := [.int r]) (st2 := [.int r, .int r]) (v1 := (some (zI r))) (σ1 := σm) hF hCF (fun w a ha => by simp at ha; rcases ha with rfl <;> trivial) (fun l => by have h := c_X12_twos l (K.2.2.2.2.2.2.2.2.2.2 (n + 1)) σm r e2; exact h) zv_X12_twos ll_178 rfl rfl rfl rfl rfl (by decide) ⟨by decide, by decide⟩ hcs (zdg DLc38_law 13 (1393, .invokevirtual 178, 3) rfl) ?_
  refine l_eqI (pc := 1396) 1555 hF (zdg DLc38_law 14 (1396, .if_icmp .eq 159, 3) rfl) rfl ?_
  exact next σc σm hrel2
def Lc39_law : List (Nat × Instr × Nat) := [(1401, .aload_n 1, 1), (1402, .aload_n 0, 1), (1403, .iload_n 3, 1), (1404, .iconst 1, 1), (1405, .iadd, 1), (1406, .iaload, 1), (1407, .invokevirtual 179, 3), (1410, .aload_n 2, 1), (1411, .aload_n 0, 1), (1412, .iload_n 3, 1), (1413, .iconst 1, 1), (1414, .iadd, 1), (1415, .iaload, 1), (1416, .invokevirtual 182, 3), (1419, .if_icmp .eq 136, 3), (1422, .iconst 0, 1), (1423, .ireturn, 1)]
set_option maxRecDepth 100000 in
theorem DLc39_law : zdecs code Lc39_law = true := by decide +kernel
def PR_two (Rel : zG → zG → Prop) : Prop := ∀ (x1 : Int32) (σc σm : zG), Rel σc σm → ∃ (r : Int32) (sc : zG) (sm : zG), f_X11_two x1 σc = some (r, sc) ∧ f_X12_two x1 σm = some (r, sm) ∧ Rel sc sm
set_option maxRecDepth 100000 in
set_option maxHeartbeats 4000000 in
theorem law_39 (Rel : zG → zG → Prop) (hp : PR_two Rel) {K : zKL} {wM wC : zW} {cs ss n : Nat} {σc σm : zG} (hF : zLF K wM) (hCF : zLC K wM wC) (h6 : n + 6 ≤ K.2.2.2.2.2.2.2.2.2.1) (hcs : cs ≤ 600000 ∧ ss ≤ 7302250) (hrel : Rel σc σm) (next : ∀ sc sm, Rel sc sm → zLL K wM wC cs ss 1555 (zal K wM wC n) [] sc sm) : zLL K wM wC cs ss 1401 (zal K wM wC n) [] σc σm := by
  obtain ⟨r, sc, sm, e1, e2, hrel2⟩ := hp (K.2.2.2.2.2.2.2.2.2.2 (n + 1)) σc σm hrel
  refine l_aload (pc := 1401) 1 hF (zdg DLc39_law 0 (1401, .aload_n 1, 1) rfl) rfl ?_
  refine l_arg (pc := 1402) 1 hF h6 (by decide) rfl (zdg DLc39_law 1 (1402, .aload_n 0, 1) rfl) (zdg DLc39_law 2 (1403, .iload_n 3, 1) rfl) (zdg DLc39_law 3 (1404, .iconst 1, 1) rfl) (zdg DLc39_law 4 (1405, .iadd, 1) rfl) (zdg DLc39_law 5 (1406, .iaload, 1) rfl) ?_
  refine l_callC (pc := 1407) (av := [zI (K.2.2.2.2.2.2.2.2.2.2 (n + 1))]) (rest := []) (st2 := [.int r]) (v1 := (some (zI r))) (σ1 := sc) hF hCF (fun w a ha => by simp at ha; rcases ha with rfl <;> trivial) (fun l => by have h := c_X11_two l (K.2.2.2.2.2.2.2.2.2.2 (n + 1)) σc (r, sc) e1; exact h) zv_X11_two ll_179 rfl rfl rfl rfl rfl (by decide) ⟨by decide, by decide⟩ hcs (zdg DLc39_law 6 (1407, .invokevirtual 179, 3) rfl) ?_
  refine l_aload (pc := 1410) 2 hF (zdg DLc39_law 7 (1410, .aload_n 2, 1) rfl) rfl ?_
  refine l_arg (pc := 1411) 1 hF h6 (by decide) rfl (zdg DLc39_law 8 (1411, .aload_n 0, 1) rfl) (zdg DLc39_law 9 (1412, .iload_n 3, 1) rfl) (zdg DLc39_law 10 (1413, .iconst 1, 1) rfl) (zdg DLc39_law 11 (1414, .iadd, 1) rfl) (zdg DLc39_law 12 (1415, .iaload, 1) rfl) ?_
  refine l_callM (pc := 1416) (av := [zI (K.2.2.2.2.2.2.2.2.2.2 (n + 1))]) (rest := [.int r]) (st2 := [.int r, .int r]) (v1 := (some (zI r))) (σ1 := sm) hF hCF (fun w a ha => by simp at ha; rcases ha with rfl <;> trivial) (fun l => by have h := c_X12_two l (K.2.2.2.2.2.2.2.2.2.2 (n + 1)) σm (r, sm) e2; exact h) zv_X12_two ll_182 rfl rfl rfl rfl rfl (by decide) ⟨by decide, by decide⟩ hcs (zdg DLc39_law 13 (1416, .invokevirtual 182, 3) rfl) ?_
  refine l_eqI (pc := 1419) 1555 hF (zdg DLc39_law 14 (1419, .if_icmp .eq 136, 3) rfl) rfl ?_
  exact next sc sm hrel2
def Lc40_law : List (Nat × Instr × Nat) := [(1424, .aload_n 1, 1), (1425, .aload_n 0, 1), (1426, .iload_n 3, 1), (1427, .iconst 1, 1), (1428, .iadd, 1), (1429, .iaload, 1), (1430, .aload_n 0, 1), (1431, .iload_n 3, 1), (1432, .iconst 2, 1), (1433, .iadd, 1), (1434, .iaload, 1), (1435, .invokevirtual 183, 3), (1438, .aload_n 2, 1), (1439, .aload_n 0, 1), (1440, .iload_n 3, 1), (1441, .iconst 1, 1), (1442, .iadd, 1), (1443, .iaload, 1), (1444, .aload_n 0, 1), (1445, .iload_n 3, 1), (1446, .iconst 2, 1), (1447, .iadd, 1), (1448, .iaload, 1), (1449, .invokevirtual 186, 3), (1452, .if_icmp .eq 103, 3), (1455, .iconst 0, 1), (1456, .ireturn, 1)]
set_option maxRecDepth 100000 in
theorem DLc40_law : zdecs code Lc40_law = true := by decide +kernel
def PR_paste (Rel : zG → zG → Prop) : Prop := ∀ (x1 x2 : Int32) (σc σm : zG), Rel σc σm → ∃ (r : Int32) (sc : zG) (sm : zG), f_X11_paste x1 x2 σc = some (r, sc) ∧ f_X12_paste x1 x2 σm = some (r, sm) ∧ Rel sc sm
set_option maxRecDepth 100000 in
set_option maxHeartbeats 4000000 in
theorem law_40 (Rel : zG → zG → Prop) (hp : PR_paste Rel) {K : zKL} {wM wC : zW} {cs ss n : Nat} {σc σm : zG} (hF : zLF K wM) (hCF : zLC K wM wC) (h6 : n + 6 ≤ K.2.2.2.2.2.2.2.2.2.1) (hcs : cs ≤ 600000 ∧ ss ≤ 7302250) (hrel : Rel σc σm) (next : ∀ sc sm, Rel sc sm → zLL K wM wC cs ss 1555 (zal K wM wC n) [] sc sm) : zLL K wM wC cs ss 1424 (zal K wM wC n) [] σc σm := by
  obtain ⟨r, sc, sm, e1, e2, hrel2⟩ := hp (K.2.2.2.2.2.2.2.2.2.2 (n + 1)) (K.2.2.2.2.2.2.2.2.2.2 (n + 2)) σc σm hrel
  refine l_aload (pc := 1424) 1 hF (zdg DLc40_law 0 (1424, .aload_n 1, 1) rfl) rfl ?_
  refine l_arg (pc := 1425) 1 hF h6 (by decide) rfl (zdg DLc40_law 1 (1425, .aload_n 0, 1) rfl) (zdg DLc40_law 2 (1426, .iload_n 3, 1) rfl) (zdg DLc40_law 3 (1427, .iconst 1, 1) rfl) (zdg DLc40_law 4 (1428, .iadd, 1) rfl) (zdg DLc40_law 5 (1429, .iaload, 1) rfl) ?_
  refine l_arg (pc := 1430) 2 hF h6 (by decide) rfl (zdg DLc40_law 6 (1430, .aload_n 0, 1) rfl) (zdg DLc40_law 7 (1431, .iload_n 3, 1) rfl) (zdg DLc40_law 8 (1432, .iconst 2, 1) rfl) (zdg DLc40_law 9 (1433, .iadd, 1) rfl) (zdg DLc40_law 10 (1434, .iaload, 1) rfl) ?_
  refine l_callC (pc := 1435) (av := [zI (K.2.2.2.2.2.2.2.2.2.2 (n + 1)), zI (K.2.2.2.2.2.2.2.2.2.2 (n + 2))]) (rest := []) (st2 := [.int r]) (v1 := (some (zI r))) (σ1 := sc) hF hCF (fun w a ha => by simp at ha; rcases ha with rfl | rfl <;> trivial) (fun l => by have h := c_X11_paste l (K.2.2.2.2.2.2.2.2.2.2 (n + 1)) (K.2.2.2.2.2.2.2.2.2.2 (n + 2)) σc (r, sc) e1; exact h) zv_X11_paste ll_183 rfl rfl rfl rfl rfl (by decide) ⟨by decide, by decide⟩ hcs (zdg DLc40_law 11 (1435, .invokevirtual 183, 3) rfl) ?_
  refine l_aload (pc := 1438) 2 hF (zdg DLc40_law 12 (1438, .aload_n 2, 1) rfl) rfl ?_
  refine l_arg (pc := 1439) 1 hF h6 (by decide) rfl (zdg DLc40_law 13 (1439, .aload_n 0, 1) rfl) (zdg DLc40_law 14 (1440, .iload_n 3, 1) rfl) (zdg DLc40_law 15 (1441, .iconst 1, 1) rfl) (zdg DLc40_law 16 (1442, .iadd, 1) rfl) (zdg DLc40_law 17 (1443, .iaload, 1) rfl) ?_
  refine l_arg (pc := 1444) 2 hF h6 (by decide) rfl (zdg DLc40_law 18 (1444, .aload_n 0, 1) rfl) (zdg DLc40_law 19 (1445, .iload_n 3, 1) rfl) (zdg DLc40_law 20 (1446, .iconst 2, 1) rfl) (zdg DLc40_law 21 (1447, .iadd, 1) rfl) (zdg DLc40_law 22 (1448, .iaload, 1) rfl) ?_
  refine l_callM (pc := 1449) (av := [zI (K.2.2.2.2.2.2.2.2.2.2 (n + 1)), zI (K.2.2.2.2.2.2.2.2.2.2 (n + 2))]) (rest := [.int r]) (st2 := [.int r, .int r]) (v1 := (some (zI r))) (σ1 := sm) hF hCF (fun w a ha => by simp at ha; rcases ha with rfl | rfl <;> trivial) (fun l => by have h := c_X12_paste l (K.2.2.2.2.2.2.2.2.2.2 (n + 1)) (K.2.2.2.2.2.2.2.2.2.2 (n + 2)) σm (r, sm) e2; exact h) zv_X12_paste ll_186 rfl rfl rfl rfl rfl (by decide) ⟨by decide, by decide⟩ hcs (zdg DLc40_law 23 (1449, .invokevirtual 186, 3) rfl) ?_
  refine l_eqI (pc := 1452) 1555 hF (zdg DLc40_law 24 (1452, .if_icmp .eq 103, 3) rfl) rfl ?_
  exact next sc sm hrel2
def Lc41_law : List (Nat × Instr × Nat) := [(1457, .aload_n 1, 1), (1458, .aload_n 0, 1), (1459, .iload_n 3, 1), (1460, .iconst 1, 1), (1461, .iadd, 1), (1462, .iaload, 1), (1463, .invokevirtual 187, 3), (1466, .aload_n 2, 1), (1467, .aload_n 0, 1), (1468, .iload_n 3, 1), (1469, .iconst 1, 1), (1470, .iadd, 1), (1471, .iaload, 1), (1472, .invokevirtual 190, 3), (1475, .if_icmp .eq 80, 3), (1478, .iconst 0, 1), (1479, .ireturn, 1)]
set_option maxRecDepth 100000 in
theorem DLc41_law : zdecs code Lc41_law = true := by decide +kernel
def PR_picture (Rel : zG → zG → Prop) : Prop := ∀ (x1 : Int32) (σc σm : zG), Rel σc σm → ∃ (r : Int32), f_X11_picture x1 σc = some r ∧ f_X12_picture x1 σm = some r ∧ Rel σc σm
set_option maxRecDepth 100000 in
set_option maxHeartbeats 4000000 in
theorem law_41 (Rel : zG → zG → Prop) (hp : PR_picture Rel) {K : zKL} {wM wC : zW} {cs ss n : Nat} {σc σm : zG} (hF : zLF K wM) (hCF : zLC K wM wC) (h6 : n + 6 ≤ K.2.2.2.2.2.2.2.2.2.1) (hcs : cs ≤ 600000 ∧ ss ≤ 7302250) (hrel : Rel σc σm) (next : ∀ sc sm, Rel sc sm → zLL K wM wC cs ss 1555 (zal K wM wC n) [] sc sm) : zLL K wM wC cs ss 1457 (zal K wM wC n) [] σc σm := by
  obtain ⟨r, e1, e2, hrel2⟩ := hp (K.2.2.2.2.2.2.2.2.2.2 (n + 1)) σc σm hrel
  refine l_aload (pc := 1457) 1 hF (zdg DLc41_law 0 (1457, .aload_n 1, 1) rfl) rfl ?_
  refine l_arg (pc := 1458) 1 hF h6 (by decide) rfl (zdg DLc41_law 1 (1458, .aload_n 0, 1) rfl) (zdg DLc41_law 2 (1459, .iload_n 3, 1) rfl) (zdg DLc41_law 3 (1460, .iconst 1, 1) rfl) (zdg DLc41_law 4 (1461, .iadd, 1) rfl) (zdg DLc41_law 5 (1462, .iaload, 1) rfl) ?_
  refine l_callC (pc := 1463) (av := [zI (K.2.2.2.2.2.2.2.2.2.2 (n + 1))]) (rest := []) (st2 := [.int r]) (v1 := (some (zI r))) (σ1 := σc) hF hCF (fun w a ha => by simp at ha; rcases ha with rfl <;> trivial) (fun l => by have h := c_X11_picture l (K.2.2.2.2.2.2.2.2.2.2 (n + 1)) σc r e1; exact h) zv_X11_picture ll_187 rfl rfl rfl rfl rfl (by decide) ⟨by decide, by decide⟩ hcs (zdg DLc41_law 6 (1463, .invokevirtual 187, 3) rfl) ?_
  refine l_aload (pc := 1466) 2 hF (zdg DLc41_law 7 (1466, .aload_n 2, 1) rfl) rfl ?_
  refine l_arg (pc := 1467) 1 hF h6 (by decide) rfl (zdg DLc41_law 8 (1467, .aload_n 0, 1) rfl) (zdg DLc41_law 9 (1468, .iload_n 3, 1) rfl) (zdg DLc41_law 10 (1469, .iconst 1, 1) rfl) (zdg DLc41_law 11 (1470, .iadd, 1) rfl) (zdg DLc41_law 12 (1471, .iaload, 1) rfl) ?_
  refine l_callM (pc := 1472) (av := [zI (K.2.2.2.2.2.2.2.2.2.2 (n + 1))]) (rest := [.int r]) (st2 := [.int r, .int r]) (v1 := (some (zI r))) (σ1 := σm) hF hCF (fun w a ha => by simp at ha; rcases ha with rfl <;> trivial) (fun l => by have h := c_X12_picture l (K.2.2.2.2.2.2.2.2.2.2 (n + 1)) σm r e2; exact h) zv_X12_picture ll_190 rfl rfl rfl rfl rfl (by decide) ⟨by decide, by decide⟩ hcs (zdg DLc41_law 13 (1472, .invokevirtual 190, 3) rfl) ?_
  refine l_eqI (pc := 1475) 1555 hF (zdg DLc41_law 14 (1475, .if_icmp .eq 80, 3) rfl) rfl ?_
  exact next σc σm hrel2
def Lc42_law : List (Nat × Instr × Nat) := [(1480, .aload_n 1, 1), (1481, .invokevirtual 191, 3), (1484, .aload_n 2, 1), (1485, .invokevirtual 195, 3), (1488, .if_icmp .eq 67, 3), (1491, .iconst 0, 1), (1492, .ireturn, 1)]
set_option maxRecDepth 100000 in
theorem DLc42_law : zdecs code Lc42_law = true := by decide +kernel
def PR_undo (Rel : zG → zG → Prop) : Prop := ∀ (σc σm : zG), Rel σc σm → ∃ (r : Int32) (sc : zG) (sm : zG), f_X11_undo σc = some (r, sc) ∧ f_X12_undo σm = some (r, sm) ∧ Rel sc sm
set_option maxRecDepth 100000 in
set_option maxHeartbeats 4000000 in
theorem law_42 (Rel : zG → zG → Prop) (hp : PR_undo Rel) {K : zKL} {wM wC : zW} {cs ss n : Nat} {σc σm : zG} (hF : zLF K wM) (hCF : zLC K wM wC) (h6 : n + 6 ≤ K.2.2.2.2.2.2.2.2.2.1) (hcs : cs ≤ 600000 ∧ ss ≤ 7302250) (hrel : Rel σc σm) (next : ∀ sc sm, Rel sc sm → zLL K wM wC cs ss 1555 (zal K wM wC n) [] sc sm) : zLL K wM wC cs ss 1480 (zal K wM wC n) [] σc σm := by
  obtain ⟨r, sc, sm, e1, e2, hrel2⟩ := hp  σc σm hrel
  refine l_aload (pc := 1480) 1 hF (zdg DLc42_law 0 (1480, .aload_n 1, 1) rfl) rfl ?_
  refine l_callC (pc := 1481) (av := []) (rest := []) (st2 := [.int r]) (v1 := (some (zI r))) (σ1 := sc) hF hCF (fun w a ha => by cases ha) (fun l => by have h := c_X11_undo l σc (r, sc) e1; exact h) zv_X11_undo ll_191 rfl rfl rfl rfl rfl (by decide) ⟨by decide, by decide⟩ hcs (zdg DLc42_law 1 (1481, .invokevirtual 191, 3) rfl) ?_
  refine l_aload (pc := 1484) 2 hF (zdg DLc42_law 2 (1484, .aload_n 2, 1) rfl) rfl ?_
  refine l_callM (pc := 1485) (av := []) (rest := [.int r]) (st2 := [.int r, .int r]) (v1 := (some (zI r))) (σ1 := sm) hF hCF (fun w a ha => by cases ha) (fun l => by have h := c_X12_undo l σm (r, sm) e2; exact h) zv_X12_undo ll_195 rfl rfl rfl rfl rfl (by decide) ⟨by decide, by decide⟩ hcs (zdg DLc42_law 3 (1485, .invokevirtual 195, 3) rfl) ?_
  refine l_eqI (pc := 1488) 1555 hF (zdg DLc42_law 4 (1488, .if_icmp .eq 67, 3) rfl) rfl ?_
  exact next sc sm hrel2
def Lc44_law : List (Nat × Instr × Nat) := [(1532, .aload_n 1, 1), (1533, .aload_n 0, 1), (1534, .iload_n 3, 1), (1535, .iconst 1, 1), (1536, .iadd, 1), (1537, .iaload, 1), (1538, .invokevirtual 201, 3), (1541, .aload_n 2, 1), (1542, .aload_n 0, 1), (1543, .iload_n 3, 1), (1544, .iconst 1, 1), (1545, .iadd, 1), (1546, .iaload, 1), (1547, .invokevirtual 204, 3), (1550, .if_icmp .eq 5, 3), (1553, .iconst 0, 1), (1554, .ireturn, 1)]
set_option maxRecDepth 100000 in
theorem DLc44_law : zdecs code Lc44_law = true := by decide +kernel
def PR_look (Rel : zG → zG → Prop) : Prop := ∀ (x1 : Int32) (σc σm : zG), Rel σc σm → ∃ (r : Int32), f_X11_look x1 σc = r ∧ f_X12_look x1 σm = some r ∧ Rel σc σm
set_option maxRecDepth 100000 in
set_option maxHeartbeats 4000000 in
theorem law_44 (Rel : zG → zG → Prop) (hp : PR_look Rel) {K : zKL} {wM wC : zW} {cs ss n : Nat} {σc σm : zG} (hF : zLF K wM) (hCF : zLC K wM wC) (h6 : n + 6 ≤ K.2.2.2.2.2.2.2.2.2.1) (hcs : cs ≤ 600000 ∧ ss ≤ 7302250) (hrel : Rel σc σm) (next : ∀ sc sm, Rel sc sm → zLL K wM wC cs ss 1555 (zal K wM wC n) [] sc sm) : zLL K wM wC cs ss 1532 (zal K wM wC n) [] σc σm := by
  obtain ⟨r, e1, e2, hrel2⟩ := hp (K.2.2.2.2.2.2.2.2.2.2 (n + 1)) σc σm hrel
  refine l_aload (pc := 1532) 1 hF (zdg DLc44_law 0 (1532, .aload_n 1, 1) rfl) rfl ?_
  refine l_arg (pc := 1533) 1 hF h6 (by decide) rfl (zdg DLc44_law 1 (1533, .aload_n 0, 1) rfl) (zdg DLc44_law 2 (1534, .iload_n 3, 1) rfl) (zdg DLc44_law 3 (1535, .iconst 1, 1) rfl) (zdg DLc44_law 4 (1536, .iadd, 1) rfl) (zdg DLc44_law 5 (1537, .iaload, 1) rfl) ?_
  refine l_callC (pc := 1538) (av := [zI (K.2.2.2.2.2.2.2.2.2.2 (n + 1))]) (rest := []) (st2 := [.int r]) (v1 := (some (zI r))) (σ1 := σc) hF hCF (fun w a ha => by simp at ha; rcases ha with rfl <;> trivial) (fun l => by have h := c_X11_look l (K.2.2.2.2.2.2.2.2.2.2 (n + 1)) σc; rw [e1] at h; exact h) zv_X11_look ll_201 rfl rfl rfl rfl rfl (by decide) ⟨by decide, by decide⟩ hcs (zdg DLc44_law 6 (1538, .invokevirtual 201, 3) rfl) ?_
  refine l_aload (pc := 1541) 2 hF (zdg DLc44_law 7 (1541, .aload_n 2, 1) rfl) rfl ?_
  refine l_arg (pc := 1542) 1 hF h6 (by decide) rfl (zdg DLc44_law 8 (1542, .aload_n 0, 1) rfl) (zdg DLc44_law 9 (1543, .iload_n 3, 1) rfl) (zdg DLc44_law 10 (1544, .iconst 1, 1) rfl) (zdg DLc44_law 11 (1545, .iadd, 1) rfl) (zdg DLc44_law 12 (1546, .iaload, 1) rfl) ?_
  refine l_callM (pc := 1547) (av := [zI (K.2.2.2.2.2.2.2.2.2.2 (n + 1))]) (rest := [.int r]) (st2 := [.int r, .int r]) (v1 := (some (zI r))) (σ1 := σm) hF hCF (fun w a ha => by simp at ha; rcases ha with rfl <;> trivial) (fun l => by have h := c_X12_look l (K.2.2.2.2.2.2.2.2.2.2 (n + 1)) σm r e2; exact h) zv_X12_look ll_204 rfl rfl rfl rfl rfl (by decide) ⟨by decide, by decide⟩ hcs (zdg DLc44_law 13 (1547, .invokevirtual 204, 3) rfl) ?_
  refine l_eqI (pc := 1550) 1555 hF (zdg DLc44_law 14 (1550, .if_icmp .eq 5, 3) rfl) rfl ?_
  exact next σc σm hrel2
