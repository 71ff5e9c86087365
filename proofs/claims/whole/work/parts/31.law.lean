/-! THE CLAIM OUT OF ONE WALK OF THE LAW'S BODY. Your part is whole_start (and what it stands on); all else here is the same for every law, but numbers. -/
def R_law : String := "NobodyThereLaw"
def lw_P (b : Addr) (xs : List Int32) (args : Array Value) (s : State) : Prop := args = #[.ref b] ∧ s.IntsAt b xs ∧ xs.length ≤ 3072 ∧ (Jvm.Cond.and given_1 narrow_1).before args s = true
def lw_Q (_ : Array Value) (s : State) (o : Outcome) (t : State) : Prop := o = .returned (some (.int 1)) ∧ Framed s o t [] 600000 7302250
def lw_Z (below : List Frame) (a : Array Value) (s : State) : State → Prop := fun t => ∃ o, t.status = .running ∧ Ended t below o ∧ lw_Q a s o t
/-- the law's own end, with 1 on the stack, nothing written that was there before, its room as the claim has it -/
theorem lw_ret {p : Program} {l : Launch} {e : Env} {s : State} {m : MethodId} {below : List Frame} {meth : Method} {c : Code} {b : Nat} (hx : p.tables.exec = Jvm.exec) (hb : c.code = code) (hr : meth.sig.returnType = ret) (hlocks : meth.locks = false) {pc : Nat} {H : Heap} {ls : Array Slot} (hdg : decode code pc = .ok (.ireturn, 1)) : W p l e room_1 s m #[Value.ref b] below meth c H [] 600000 7302250 (lw_Z below #[Value.ref b] s) (F0 m pc ls [.int 1]) := by
  intro T hT X
  obtain ⟨fs, hret, hrun, hended, hW, hframe⟩ := X.leave (v := some (.int 1)) (hlocks := hlocks) (fun h => by rw [hr] at h; cases h)
  have hmeth' : T.vm.method? m = some meth := X.method'
  refine ⟨T.setFrames fs, ?_, .returned (some (.int 1)), hrun, hended, rfl, ⟨_, rfl⟩, hW, hframe⟩
  jvm_step X.here [X.here.top, hx, hb, hdg, hmeth', hr, ret, narrow_b1]
  (try refine ⟨rfl, ?_⟩); (try refine ⟨rfl, ?_⟩)
  first | (intro acts; rw [hret _ acts rfl rfl rfl]) | rw [hret _ _ rfl rfl rfl]
  exact Steps.refl _
/-- what holds at the law's entry: the machine, the code, the tables' words (any of lw_tbl by 'hts w (by decide +kernel)'), the script of L ints xs at the cell b, what the Statement gives of the start (any of its parts by flat_of_before) -/
def lw_At (p : Program) (s : State) (m : MethodId) (meth : Method) (c : Code) (b L : Nat) (xs : Nat → Int32) : Prop :=
  p.tables.exec = Jvm.exec ∧ c.code = code ∧ meth.sig.returnType = ret ∧ c.maxLocals = 4 ∧ s.vm.findClass R_law = some m.cls ∧ (∀ w ∈ lw_tbl, w.before #[Value.ref b] s = true) ∧ va_X b L xs s s.heap ∧ b < s.heap.size ∧ meth.locks = false ∧ (Jvm.Cond.and given_1 narrow_1).before #[Value.ref b] s = true

theorem ll_13 : Cond.methodLink R_law 13 yX11_state ∈ zTB := zW_at wC_2 238 rfl rfl
theorem ll_17 : Cond.methodLink R_law 17 yX12_state ∈ zTB := zW_at wC_6 198 rfl rfl
theorem ll_18 : Cond.methodLink R_law 18 yX11_bridge ∈ zTB := zW_at wC_3 6 rfl rfl
theorem ll_22 : Cond.methodLink R_law 22 yX12_bridge ∈ zTB := zW_at wC_6 206 rfl rfl
theorem ll_23 : Cond.methodLink R_law 23 yX11_set ∈ zTB := zW_at wC_3 11 rfl rfl
theorem ll_26 : Cond.methodLink R_law 26 yX12_set ∈ zTB := zW_at wC_6 213 rfl rfl
theorem ll_27 : Cond.methodLink R_law 27 yX11_step ∈ zTB := zW_at wC_3 23 rfl rfl
theorem ll_31 : Cond.methodLink R_law 31 yX12_step ∈ zTB := zW_at wC_7 155 rfl rfl
theorem ll_32 : Cond.methodLink R_law 32 yX11_feed ∈ zTB := zW_at wC_3 38 rfl rfl
theorem ll_36 : Cond.methodLink R_law 36 yX12_feed ∈ zTB := zW_at wC_6 217 rfl rfl
theorem ll_37 : Cond.methodLink R_law 37 yX11_end ∈ zTB := zW_at wC_3 46 rfl rfl
theorem ll_40 : Cond.methodLink R_law 40 yX12_end ∈ zTB := zW_at wC_6 221 rfl rfl
theorem ll_41 : Cond.methodLink R_law 41 yX11_text ∈ zTB := zW_at wC_3 50 rfl rfl
theorem ll_44 : Cond.methodLink R_law 44 yX12_text ∈ zTB := zW_at wC_6 225 rfl rfl
theorem ll_45 : Cond.methodLink R_law 45 yX11_fault ∈ zTB := zW_at wC_4 44 rfl rfl
theorem ll_48 : Cond.methodLink R_law 48 yX12_fault ∈ zTB := zW_at wC_7 147 rfl rfl
theorem ll_49 : Cond.methodLink R_law 49 yX11_minutes ∈ zTB := zW_at wC_4 48 rfl rfl
theorem ll_52 : Cond.methodLink R_law 52 yX12_minutes ∈ zTB := zW_at wC_7 163 rfl rfl
theorem ll_53 : Cond.methodLink R_law 53 yX11_shoot ∈ zTB := zW_at wC_4 70 rfl rfl
theorem ll_57 : Cond.methodLink R_law 57 yX12_shoot ∈ zTB := zW_at wC_7 185 rfl rfl
theorem ll_58 : Cond.methodLink R_law 58 yX11_of ∈ zTB := zW_at wC_4 154 rfl rfl
theorem ll_62 : Cond.methodLink R_law 62 yX12_of ∈ zTB := zW_at wC_7 238 rfl rfl
theorem ll_63 : Cond.methodLink R_law 63 yX11_where ∈ zTB := zW_at wC_4 165 rfl rfl
theorem ll_66 : Cond.methodLink R_law 66 yX12_where ∈ zTB := zW_at wC_8 10 rfl rfl
theorem ll_67 : Cond.methodLink R_law 67 yX11_stranger ∈ zTB := zW_at wC_4 170 rfl rfl
theorem ll_70 : Cond.methodLink R_law 70 yX12_stranger ∈ zTB := zW_at wC_8 17 rfl rfl
theorem ll_71 : Cond.methodLink R_law 71 yX11_covered ∈ zTB := zW_at wC_4 174 rfl rfl
theorem ll_75 : Cond.methodLink R_law 75 yX12_covered ∈ zTB := zW_at wC_8 21 rfl rfl
theorem ll_76 : Cond.methodLink R_law 76 yX11_at ∈ zTB := zW_at wC_4 180 rfl rfl
theorem ll_80 : Cond.methodLink R_law 80 yX12_at ∈ zTB := zW_at wC_8 30 rfl rfl
theorem ll_81 : Cond.methodLink R_law 81 yX11_worth ∈ zTB := zW_at wC_4 191 rfl rfl
theorem ll_84 : Cond.methodLink R_law 84 yX12_worth ∈ zTB := zW_at wC_8 34 rfl rfl
theorem ll_85 : Cond.methodLink R_law 85 yX11_shot ∈ zTB := zW_at wC_4 218 rfl rfl
theorem ll_88 : Cond.methodLink R_law 88 yX12_shot ∈ zTB := zW_at wC_8 46 rfl rfl
theorem ll_89 : Cond.methodLink R_law 89 yX11_book ∈ zTB := zW_at wC_4 227 rfl rfl
theorem ll_92 : Cond.methodLink R_law 92 yX12_book ∈ zTB := zW_at wC_8 62 rfl rfl
theorem ll_93 : Cond.methodLink R_law 93 yX11_waits ∈ zTB := zW_at wC_4 231 rfl rfl
theorem ll_96 : Cond.methodLink R_law 96 yX12_waits ∈ zTB := zW_at wC_8 70 rfl rfl
theorem ll_97 : Cond.methodLink R_law 97 yX11_row ∈ zTB := zW_at wC_5 4 rfl rfl
theorem ll_100 : Cond.methodLink R_law 100 yX12_row ∈ zTB := zW_at wC_8 78 rfl rfl
theorem ll_101 : Cond.methodLink R_law 101 yX11_best ∈ zTB := zW_at wC_5 12 rfl rfl
theorem ll_104 : Cond.methodLink R_law 104 yX12_best ∈ zTB := zW_at wC_8 82 rfl rfl
theorem ll_105 : Cond.methodLink R_law 105 yX11_steps ∈ zTB := zW_at wC_5 21 rfl rfl
theorem ll_108 : Cond.methodLink R_law 108 yX12_steps ∈ zTB := zW_at wC_8 86 rfl rfl
theorem ll_109 : Cond.methodLink R_law 109 yX11_laid ∈ zTB := zW_at wC_5 37 rfl rfl
theorem ll_112 : Cond.methodLink R_law 112 yX12_laid ∈ zTB := zW_at wC_8 93 rfl rfl
theorem ll_113 : Cond.methodLink R_law 113 yX11_fewest ∈ zTB := zW_at wC_5 59 rfl rfl
theorem ll_116 : Cond.methodLink R_law 116 yX12_fewest ∈ zTB := zW_at wC_8 109 rfl rfl
theorem ll_117 : Cond.methodLink R_law 117 yX11_never ∈ zTB := zW_at wC_5 81 rfl rfl
theorem ll_121 : Cond.methodLink R_law 121 yX12_never ∈ zTB := zW_at wC_8 128 rfl rfl
theorem ll_122 : Cond.methodLink R_law 122 yX11_most ∈ zTB := zW_at wC_5 90 rfl rfl
theorem ll_125 : Cond.methodLink R_law 125 yX12_most ∈ zTB := zW_at wC_8 132 rfl rfl
theorem ll_126 : Cond.methodLink R_law 126 yX11_middle ∈ zTB := zW_at wC_5 103 rfl rfl
theorem ll_129 : Cond.methodLink R_law 129 yX12_middle ∈ zTB := zW_at wC_8 136 rfl rfl
theorem ll_130 : Cond.methodLink R_law 130 yX11_sure ∈ zTB := zW_at wC_5 115 rfl rfl
theorem ll_133 : Cond.methodLink R_law 133 yX12_sure ∈ zTB := zW_at wC_8 144 rfl rfl
theorem ll_134 : Cond.methodLink R_law 134 yX11_exposed ∈ zTB := zW_at wC_5 123 rfl rfl
theorem ll_138 : Cond.methodLink R_law 138 yX12_exposed ∈ zTB := zW_at wC_8 152 rfl rfl
theorem ll_139 : Cond.methodLink R_law 139 yX11_ghosts ∈ zTB := zW_at wC_5 137 rfl rfl
theorem ll_142 : Cond.methodLink R_law 142 yX12_ghosts ∈ zTB := zW_at wC_8 160 rfl rfl
theorem ll_143 : Cond.methodLink R_law 143 yX11_nobody ∈ zTB := zW_at wC_5 150 rfl rfl
theorem ll_146 : Cond.methodLink R_law 146 yX12_nobody ∈ zTB := zW_at wC_8 164 rfl rfl
theorem ll_147 : Cond.methodLink R_law 147 yX11_copies ∈ zTB := zW_at wC_5 158 rfl rfl
theorem ll_150 : Cond.methodLink R_law 150 yX12_copies ∈ zTB := zW_at wC_8 169 rfl rfl
theorem ll_151 : Cond.methodLink R_law 151 yX11_enough ∈ zTB := zW_at wC_5 168 rfl rfl
theorem ll_154 : Cond.methodLink R_law 154 yX12_enough ∈ zTB := zW_at wC_8 173 rfl rfl
theorem ll_155 : Cond.methodLink R_law 155 yX11_hours ∈ zTB := zW_at wC_5 172 rfl rfl
theorem ll_158 : Cond.methodLink R_law 158 yX12_hours ∈ zTB := zW_at wC_8 178 rfl rfl
theorem ll_159 : Cond.methodLink R_law 159 yX11_judged ∈ zTB := zW_at wC_5 192 rfl rfl
theorem ll_162 : Cond.methodLink R_law 162 yX12_judged ∈ zTB := zW_at wC_8 182 rfl rfl
theorem ll_163 : Cond.methodLink R_law 163 yX11_whenShot ∈ zTB := zW_at wC_5 201 rfl rfl
theorem ll_166 : Cond.methodLink R_law 166 yX12_whenShot ∈ zTB := zW_at wC_8 190 rfl rfl
theorem ll_167 : Cond.methodLink R_law 167 yX11_stander ∈ zTB := zW_at wC_5 210 rfl rfl
theorem ll_170 : Cond.methodLink R_law 170 yX12_stander ∈ zTB := zW_at wC_8 194 rfl rfl
theorem ll_171 : Cond.methodLink R_law 171 yX11_with ∈ zTB := zW_at wC_5 219 rfl rfl
theorem ll_174 : Cond.methodLink R_law 174 yX12_with ∈ zTB := zW_at wC_8 202 rfl rfl
theorem ll_175 : Cond.methodLink R_law 175 yX11_twos ∈ zTB := zW_at wC_5 228 rfl rfl
theorem ll_178 : Cond.methodLink R_law 178 yX12_twos ∈ zTB := zW_at wC_8 210 rfl rfl
theorem ll_179 : Cond.methodLink R_law 179 yX11_two ∈ zTB := zW_at wC_6 2 rfl rfl
theorem ll_182 : Cond.methodLink R_law 182 yX12_two ∈ zTB := zW_at wC_8 217 rfl rfl
theorem ll_183 : Cond.methodLink R_law 183 yX11_paste ∈ zTB := zW_at wC_6 11 rfl rfl
theorem ll_186 : Cond.methodLink R_law 186 yX12_paste ∈ zTB := zW_at wC_8 221 rfl rfl
theorem ll_187 : Cond.methodLink R_law 187 yX11_picture ∈ zTB := zW_at wC_6 15 rfl rfl
theorem ll_190 : Cond.methodLink R_law 190 yX12_picture ∈ zTB := zW_at wC_8 225 rfl rfl
theorem ll_191 : Cond.methodLink R_law 191 yX11_undo ∈ zTB := zW_at wC_6 41 rfl rfl
theorem ll_195 : Cond.methodLink R_law 195 yX12_undo ∈ zTB := zW_at wC_7 151 rfl rfl
theorem ll_201 : Cond.methodLink R_law 201 yX11_look ∈ zTB := zW_at wC_6 71 rfl rfl
theorem ll_204 : Cond.methodLink R_law 204 yX12_look ∈ zTB := zW_at wC_9 17 rfl rfl
/-! THE LAW's walk: two worlds side by side -/
abbrev zKL : Type := Launch × Program × Env × State × MethodId × List Frame × Method × Code × Nat × Nat × (Nat → Int32)
def zLF (K : zKL) (wM : zW) : Prop := match K with
  | (_, p, _, s, m, _, meth, c, b, L, xs) => lw_At p s m meth c b L xs ∧ L ≤ 3072 ∧ zAll zsyM wM s ∧ wM.2.2.2.2 0 0 ∧ (∀ q, zA wM q → s.heap.size ≤ q)
def zLC (K : zKL) (wM wC : zW) : Prop := match K with
  | (_, _, _, s, _, _, _, _, _, _, _) => zAll zsyC wC s ∧ wC.2.2.2.2 0 0 ∧ (∀ q, zA wC q → s.heap.size ≤ q) ∧ (∀ q, zA wC q → ¬ zA wM q)
def zLL (K : zKL) (wM wC : zW) (cs ss : Nat) (pc : Nat) (al : List (Nat × Value)) (as : List Value) (σc σm : zG) : Prop := match K with
  | (l, p, e, s, m, below, meth, c, b, _, _) => ∀ (H : Heap) (locs : List Loc) (ls : Array Slot), zGW zlyC wC σc H → zGW zlyM wM σm H → va_S (fun q => s.heap.size ≤ q) s.heap H locs → lv_has ls 4 al →
    W p l e room_1 s m #[Value.ref b] below meth c H locs cs ss (lw_Z below #[Value.ref b] s) (F0 m pc ls as)
/-- the law's locals -/
def zal (K : zKL) (wM wC : zW) (n : Nat) : List (Nat × Value) := [(0, .ref K.2.2.2.2.2.2.2.2.1), (1, .ref (wC.1 0 0)), (2, .ref (wM.1 0 0)), (3, .int (nI n))]
theorem zGW.kept {ly : zLy} {w : zW} {σ : zG} {H H1 : Heap} (h : zGW ly w σ H) (hq : ∀ q, zA w q → H1[q]? = H[q]?) : zGW ly w σ H1 := by
  intro f i hlv
  have h0 := h f i hlv
  have e := hq _ (zA_in hlv)
  unfold zAt at h0 ⊢
  cases hk : ly.1 f with
  | inl ci =>
    rw [hk] at h0
    obtain ⟨r, h1, h2⟩ := h0
    exact ⟨r, h1, h2.kept e⟩
  | inr t =>
    rw [hk] at h0
    exact ⟨e.trans h0.1, h0.2⟩
theorem zGW.lt {ly : zLy} {w : zW} {σ : zG} {H : Heap} (h : zGW ly w σ H) {q : Nat} (hq : zA w q) : q < H.size := by
  obtain ⟨f, i, hlv, rfl⟩ := hq
  have h0 := h f i hlv
  unfold zAt at h0
  cases hk : ly.1 f with
  | inl ci =>
    rw [hk] at h0
    obtain ⟨r, h1, cell, h2, -⟩ := h0
    exact (Array.getElem?_eq_some_iff.mp h2).1
  | inr t =>
    rw [hk] at h0
    exact (Array.getElem?_eq_some_iff.mp h0.1).1
section ZLW
variable {K : zKL} {wM wC : zW} {cs ss pc n : Nat} {as : List Value} {σc σm : zG}
theorem l_aload {k0 : Fin 4} (j : Nat) {a : Nat} (hF : zLF K wM) (hd : decode code pc = .ok (.aload_n k0, 1)) (hj : (zal K wM wC n)[(k0 : Nat)]? = some ((k0 : Nat), .ref a)) (k : zLL K wM wC cs ss (pc + 1) (zal K wM wC n) (.ref a :: as) σc σm) : zLL K wM wC cs ss pc (zal K wM wC n) as σc σm := by
  obtain ⟨l, p, e, s, m, below, meth, c, b, L, xs⟩ := K
  intro H locs ls hC hM hS hl
  obtain ⟨⟨hx, hb, hr, hml, hown, hts, hX, hbl, hlocks, hgv⟩, -⟩ := id hF
  exact lv_aload_n hx hb hd rfl (lv_at hl (k0 : Nat) hj) (k H locs ls hC hM hS hl)
/-- script[i + k] -/
theorem l_arg (k : Nat) {kz : Int} (hF : zLF K wM) (h6 : n + 6 ≤ K.2.2.2.2.2.2.2.2.2.1) (hk : k < 6) (hkv : Int32.ofInt kz = nI k) (d0 : decode code pc = .ok (.aload_n 0, 1)) (d1 : decode code (pc + 1) = .ok (.iload_n 3, 1)) (d2 : decode code (pc + 2) = .ok (.iconst kz, 1)) (d3 : decode code (pc + 3) = .ok (.iadd, 1)) (d4 : decode code (pc + 4) = .ok (.iaload, 1))
    (kk : zLL K wM wC cs ss (pc + 5) (zal K wM wC n) (.int (K.2.2.2.2.2.2.2.2.2.2 (n + k)) :: as) σc σm) : zLL K wM wC cs ss pc (zal K wM wC n) as σc σm := by
  obtain ⟨l, p, e, s, m, below, meth, c, b, L, xs⟩ := K
  intro H locs ls hC hM hS hl
  obtain ⟨⟨hx, hb, hr, hml, hown, hts, hX, hbl, hlocks, hgv⟩, hL, -⟩ := id hF
  change n + 6 ≤ L at h6
  refine lv_aload_n hx hb d0 rfl (lv_at hl 0 rfl) ?_
  refine lv_iload_n hx hb d1 rfl (lv_at hl 3 rfl) ?_
  refine lv_iconst hx hb d2 hkv ?_
  refine lv_iadd hx hb d3 ?_
  rw [nI_add]
  refine va_sld hx hb hX hbl (Nat.not_le.mpr hbl) hS (vp_in_nI (by omega) (by omega)) d4 ?_
  rw [nI_clamp (by omega)]
  exact kk H locs ls hC hM hS hl
theorem zrunL {p : Program} {l : Launch} {e : Env} {R : Room} {s : State} {m : MethodId} {args : Array Value} {below : List Frame} {meth : Method} {c : Code} {H H0 : Heap} {locs : List Loc} {Q : State → Prop} {ls : Array Slot} {st0 rest : List Value} {ly : zLy} {w : zW} {v1 : Option zV} {σ1 : zG} {A : Nat → Prop} (hA : ∀ q, zA w q → A q)
    (hr : va_Run p l e R s m args below meth c H locs cs ss 0 0 (F0 m pc ls st0) rest (fun st oc t => (oc = .returned (v1.map (zc w)) ∧ zGW ly w σ1 t.heap ∧ ∀ a, v1 = some a → zok w a) ∧ va_F (zA w) st t) (zA w)) (hS : va_S A H0 H locs)
    (kk : ∀ (H1 : Heap) (locs1 : List Loc), zGW ly w σ1 H1 → (∀ q, q < H.size → ¬ zA w q → H1[q]? = H[q]?) → va_S A H0 H1 locs1 → W p l e R s m args below meth c H1 locs1 cs ss Q (F0 m (pc + 3) ls ((v1.map (zc w)).toList ++ rest))) : W p l e R s m args below meth c H locs cs ss Q (F0 m pc ls st0) := by
  intro T hT X
  obtain ⟨v, st₀, t, T', L, h0, X', hL, e1, e2, ⟨⟨hv, hG, hok⟩, hz, hk⟩, st⟩ := hr T hT X
  cases hv
  rw [h0] at hz hk
  obtain ⟨t2, a1, b1⟩ := kk T'.heap (locs ++ L) (by rw [e1]; exact hG) (fun q h1 h2 => by rw [e1]; exact hk q h1 h2)
    ⟨Nat.le_trans hS.1 (by rw [e1]; exact hz), fun q h1 h2 => by rw [e1, hk q (Nat.lt_of_lt_of_le h1 hS.1) (fun z => h2 (hA q z))]; exact hS.2.1 q h1 h2, fun q hq => by
      rcases List.mem_append.mp hq with h | h
      · exact hS.2.2 q h
      · exact hA _ (hL q h)⟩ T' rfl X'
  exact ⟨t2, st t2 a1, b1⟩
theorem zallL {sy : zSy} {w : zW} {s : State} {H : Heap} {locs : List Loc} {σ : zG} {av : List zV} (hA : ∀ q, zA w q → s.heap.size ≤ q) (hAll : zAll sy w s) (hG : zGW sy.1 w σ H) (hS : va_S (fun q => s.heap.size ≤ q) s.heap H locs) : ∀ U : State, U.heap = H → s.WarmedH U.vm → va_Pc (av.map (zc w)) (fun U => zGW sy.1 w σ U.heap ∧ zAll sy w U) (av.map (zc w)).toArray U := fun U hU hW => ⟨rfl, by rw [hU]; exact hG, hAll.warm hW (fun q h1 _ => by rw [hU]; exact hS.2.1 q h1 (Nat.not_le.mpr h1))⟩
theorem l_callC {idx na : Nat} {y : MethodName} {mt' : zMT} {av : List zV} {rest st st2 : List Value} {v1 : Option zV} {σ1 : zG} {r : vw_C} (hF : zLF K wM) (hCF : zLC K wM wC) (hav : ∀ w : zW, ∀ a ∈ av, zok w a) (hM0 : ∀ l, zMet l zsyC mt' y (zR 0 0 :: av) σc v1 σ1) (hc : zcV y mt' na) (hlk0 : Cond.methodLink R_law idx y ∈ zTB) (hcl : vwCl[11]? = some r) (hry : r.1 = y.cls) (hlen : av.length = na) (hst : st = (av.reverse.map (zc wC)) ++ .ref (wC.1 0 0) :: rest) (hst2 : st2 = (v1.map (zc wC)).toList ++ rest) (hroom : (rest.map fun v => v.category).sum ≤ 8) (hR : mt'.2.2.2.1 + 1 ≤ 2048 ∧ 8 + (mt'.2.2.1 + 11) + 64 * mt'.2.2.2.1 ≤ 84000) (hcs : cs ≤ 600000 ∧ ss ≤ 7302250)
    (hd : decode code pc = .ok (.invokevirtual idx, 3)) (kk : zLL K wM wC cs ss (pc + 3) (zal K wM wC n) st2 σ1 σm) : zLL K wM wC cs ss pc (zal K wM wC n) st σc σm := by
  subst hst
  subst hst2
  obtain ⟨l, p, e, s, m, below, meth, c, b, L, xs⟩ := K
  intro H locs ls hC hM hS hl
  obtain ⟨⟨hx, hb, hr, hml, hown, hts, hX, hbl, hlocks, hgv⟩, hL, hAM, hM1, hM2⟩ := id hF
  obtain ⟨hAC, hC1, hC2, hC3⟩ := id hCF
  obtain ⟨⟨hini, hcode, hy1, hy2, hlenY⟩, hinst, hsel⟩ := hc
  have htz : ∀ w ∈ zTB, w.before #[Value.ref b] s = true := fun w hw => hts w (List.mem_filter.mp hw).1
  have hav2 : ∀ a ∈ zR 0 0 :: av, zok wC a := fun a ha => by
    rcases List.mem_cons.mp ha with h | h
    · rw [h]; exact hC1
    · exact hav wC a h
  have hat := hC 0 0 hC1
  unfold zAt at hat
  rw [show zlyC.1 0 = .inl 11 from rfl] at hat
  obtain ⟨r', h3, cell, q1, q2, q3, q4⟩ := hat
  obtain ⟨-, hfc, -⟩ := hAC.1.1 11 _ hcl
  rw [hry] at hfc
  refine zrunL (w := wC) (ly := zlyC) hC2 (va_runV (g := F0 m pc ls ((av.reverse.map (zc wC)) ++ .ref (wC.1 0 0) :: rest)) (rest := rest) (As := av.map (zc wC)) (b := wC.1 0 0) (C := y.cls) ⟨hx, hb, hml, hown, htz⟩ (hM0 l wC hav2) ⟨callB_of na htz (zGood hcode) rfl rfl rfl (htz _ hini) (htz _ hlk0) ⟨hy1, hy2, hlenY⟩ hR, htz _ hinst, htz _ hsel⟩ ⟨zblind, ⟨cell, q1, by rw [q3]; rfl, by rw [q2]; exact hfc⟩, zallL (sy := zsyC) (av := zR 0 0 :: av) hC2 hAC hC hS⟩ rfl (by rw [List.length_map]; exact hlen) hl.1 (by show _ = (av.map (zc wC)).reverse ++ _; rw [List.map_reverse]) (lv_room hroom) hd ⟨hcs.1, hcs.2⟩) hS (fun H1 locs1 hG1 hk1 hS1 => ?_)
  exact kk H1 locs1 ls hG1 (hM.kept (fun q hq => hk1 q (hM.lt hq) (fun z => hC3 q z hq))) hS1 hl
theorem l_callM {idx na : Nat} {y : MethodName} {mt' : zMT} {av : List zV} {rest st st2 : List Value} {v1 : Option zV} {σ1 : zG} {r : vw_C} (hF : zLF K wM) (hCF : zLC K wM wC) (hav : ∀ w : zW, ∀ a ∈ av, zok w a) (hM0 : ∀ l, zMet l zsyM mt' y (zR 0 0 :: av) σm v1 σ1) (hc : zcV y mt' na) (hlk0 : Cond.methodLink R_law idx y ∈ zTB) (hcl : vwCl[12]? = some r) (hry : r.1 = y.cls) (hlen : av.length = na) (hst : st = (av.reverse.map (zc wM)) ++ .ref (wM.1 0 0) :: rest) (hst2 : st2 = (v1.map (zc wM)).toList ++ rest) (hroom : (rest.map fun v => v.category).sum ≤ 8) (hR : mt'.2.2.2.1 + 1 ≤ 2048 ∧ 8 + (mt'.2.2.1 + 11) + 64 * mt'.2.2.2.1 ≤ 84000) (hcs : cs ≤ 600000 ∧ ss ≤ 7302250)
    (hd : decode code pc = .ok (.invokevirtual idx, 3)) (kk : zLL K wM wC cs ss (pc + 3) (zal K wM wC n) st2 σc σ1) : zLL K wM wC cs ss pc (zal K wM wC n) st σc σm := by
  subst hst
  subst hst2
  obtain ⟨l, p, e, s, m, below, meth, c, b, L, xs⟩ := K
  intro H locs ls hC hM hS hl
  obtain ⟨⟨hx, hb, hr, hml, hown, hts, hX, hbl, hlocks, hgv⟩, hL, hAM, hM1, hM2⟩ := id hF
  obtain ⟨hAC, hC1, hC2, hC3⟩ := id hCF
  obtain ⟨⟨hini, hcode, hy1, hy2, hlenY⟩, hinst, hsel⟩ := hc
  have htz : ∀ w ∈ zTB, w.before #[Value.ref b] s = true := fun w hw => hts w (List.mem_filter.mp hw).1
  have hav2 : ∀ a ∈ zR 0 0 :: av, zok wM a := fun a ha => by
    rcases List.mem_cons.mp ha with h | h
    · rw [h]; exact hM1
    · exact hav wM a h
  have hat := hM 0 0 hM1
  unfold zAt at hat
  rw [show zlyM.1 0 = .inl 12 from rfl] at hat
  obtain ⟨r', h3, cell, q1, q2, q3, q4⟩ := hat
  obtain ⟨-, hfc, -⟩ := hAM.1.1 12 _ hcl
  rw [hry] at hfc
  refine zrunL (w := wM) (ly := zlyM) hM2 (va_runV (g := F0 m pc ls ((av.reverse.map (zc wM)) ++ .ref (wM.1 0 0) :: rest)) (rest := rest) (As := av.map (zc wM)) (b := wM.1 0 0) (C := y.cls) ⟨hx, hb, hml, hown, htz⟩ (hM0 l wM hav2) ⟨callB_of na htz (zGood hcode) rfl rfl rfl (htz _ hini) (htz _ hlk0) ⟨hy1, hy2, hlenY⟩ hR, htz _ hinst, htz _ hsel⟩ ⟨zblind, ⟨cell, q1, by rw [q3]; rfl, by rw [q2]; exact hfc⟩, zallL (sy := zsyM) (av := zR 0 0 :: av) hM2 hAM hM hS⟩ rfl (by rw [List.length_map]; exact hlen) hl.1 (by show _ = (av.map (zc wM)).reverse ++ _; rw [List.map_reverse]) (lv_room hroom) hd ⟨hcs.1, hcs.2⟩) hS (fun H1 locs1 hG1 hk1 hS1 => ?_)
  exact kk H1 locs1 ls (hC.kept (fun q hq => hk1 q (hC.lt hq) (fun z => hC3 q hq z))) hG1 hS1 hl
theorem l_eqI {r : Int32} {off : Int} (tgt : Nat) (hF : zLF K wM) (hd : decode code pc = .ok (.if_icmp .eq off, 3)) (ht : (pc : Int) + off = (tgt : Int)) (kk : zLL K wM wC cs ss tgt (zal K wM wC n) as σc σm) : zLL K wM wC cs ss pc (zal K wM wC n) (.int r :: .int r :: as) σc σm := by
  obtain ⟨l, p, e, s, m, below, meth, c, b, L, xs⟩ := K
  intro H locs ls hC hM hS hl
  obtain ⟨⟨hx, hb, -⟩, -⟩ := id hF
  exact lv_icmp_eq hx hb hd ht (fun _ => kk H locs ls hC hM hS hl) (fun h => absurd rfl h)
theorem l_eqL {r : Int64} {off : Int} (tgt : Nat) (hF : zLF K wM) (hd0 : decode code pc = .ok (.lcmp, 1)) (hd : decode code (pc + 1) = .ok (.ifCond .eq off, 3)) (ht : ((pc + 1 : Nat) : Int) + off = (tgt : Int)) (kk : zLL K wM wC cs ss tgt (zal K wM wC n) as σc σm) : zLL K wM wC cs ss pc (zal K wM wC n) (.long r :: .long r :: as) σc σm := by
  obtain ⟨l, p, e, s, m, below, meth, c, b, L, xs⟩ := K
  intro H locs ls hC hM hS hl
  obtain ⟨⟨hx, hb, -⟩, -⟩ := id hF
  refine W.lcmp hx hb hd0 ?_
  have e0 : lg_cmp r r = 0 := by
    unfold lg_cmp
    simp
  exact lv_if_eq hx hb hd ht (fun _ => kk H locs ls hC hM hS hl) (fun h => absurd e0 h)
end ZLW

