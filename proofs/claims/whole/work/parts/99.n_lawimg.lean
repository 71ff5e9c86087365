/-! THE LAW at image -/
theorem ll_196 : Cond.methodLink R_law 196 yX11_image ∈ zTB := zW_at wC_6 49 rfl rfl
theorem ll_200 : Cond.methodLink R_law 200 yX12_image ∈ zTB := zW_at wC_9 13 rfl rfl
def Lc43_law : List (Nat × Instr × Nat) := [(1493, .aload_n 1, 1), (1494, .aload_n 0, 1), (1495, .iload_n 3, 1), (1496, .iconst 1, 1), (1497, .iadd, 1), (1498, .iaload, 1), (1499, .ifCond .eq 7, 3), (1502, .iconst 1, 1), (1503, .goto 4, 3), (1506, .iconst 0, 1), (1507, .invokevirtual 196, 3), (1510, .aload_n 2, 1), (1511, .aload_n 0, 1), (1512, .iload_n 3, 1), (1513, .iconst 1, 1), (1514, .iadd, 1), (1515, .iaload, 1), (1516, .ifCond .eq 7, 3), (1519, .iconst 1, 1), (1520, .goto 4, 3), (1523, .iconst 0, 1), (1524, .invokevirtual 200, 3), (1527, .if_icmp .eq 28, 3)]
set_option maxRecDepth 100000 in
theorem DLc43_law : zdecs code Lc43_law = true := by decide +kernel
def zLX (K : zKL) (wC : zW) : Prop := match K with
  | (_, _, _, s, _, _, _, _, _, _, _) => zSt zsyCK wC s ∧ zEn zsyCK wC (fun q => s.heap.size ≤ q) s s.heap
theorem zAllC {s : State} {w' : zW} {σ1 : zG} (hSt : zSt zsyCK w' s) (hEn : zEn zsyCK w' (fun q => s.heap.size ≤ q) s s.heap) (hI : zInj w') (hFl : zFl zlyCK w' σ1) (hS : ∀ g j, w'.2.2.2.2 g j → zSame zlyCK zlyC σ1 g j) (hA : ∀ q, zA w' q → s.heap.size ≤ q) : zAll zsyC w' s := by
  refine ⟨⟨hSt.1, fun g j ty nn hk hg => hSt.2.1 g ty nn hk, hSt.2.2.1⟩, ⟨hI, fun g j k t hg ht hrf => ?_⟩, ?_⟩
  · obtain ⟨b1, b2⟩ := hFl g j k hg
    have hkk : zlyC.2.1 g k = zlyCK.2.1 g k ∨ (zlyC.2.1 g k = 2 ∧ zlyCK.2.1 g k = 3 ∧ σ1.1 g j k ≠ 0) := by
      rcases hS g j hg with h | ⟨-, h⟩
      · exact Or.inl (h k)
      · exact h k (zlyC_sz g j k t ht hrf)
    rcases hkk with e | ⟨-, e2, e3⟩
    · exact absurd (e.symm.trans ht) b1
    · rcases b2 with b | b | b | b
      · omega
      · omega
      · exact absurd b e3
      · exact b t hrf
  · have hn : zEn zsyCK w' (zA w') s s.heap := zEn.narrow (fun q hq => hA q hq) hEn
    exact zEn.all (sy := zsyC) hn
section ZLI
variable {K : zKL} {wM wC : zW} {cs ss pc n : Nat} {as : List Value} {σc σm : zG}
theorem l_bool {a : Int32} {off1 off2 : Int} (hF : zLF K wM) (d0 : decode code pc = .ok (.ifCond .eq off1, 3)) (t0 : (pc : Int) + off1 = ((pc + 7 : Nat) : Int)) (d1 : decode code (pc + 3) = .ok (.iconst 1, 1)) (d2 : decode code (pc + 3 + 1) = .ok (.goto off2, 3)) (t2 : ((pc + 3 + 1 : Nat) : Int) + off2 = ((pc + 7 + 1 : Nat) : Int)) (d3 : decode code (pc + 7) = .ok (.iconst 0, 1)) (kk : zLL K wM wC cs ss (pc + 7 + 1) (zal K wM wC n) (.int (if a = 0 then 0 else 1) :: as) σc σm) : zLL K wM wC cs ss pc (zal K wM wC n) (.int a :: as) σc σm := by
  obtain ⟨l, p, e, s, m, below, meth, c, b, L, xs⟩ := K
  intro H locs ls hC hM hS hl
  obtain ⟨⟨hx, hb, -⟩, -⟩ := id hF
  have k := kk H locs ls hC hM hS hl
  refine lv_if_eq hx hb d0 t0 (fun h => ?_) (fun h => ?_)
  · rw [if_pos h] at k
    exact lv_iconst hx hb d3 rfl k
  · rw [if_neg h] at k
    exact lv_iconst hx hb d1 rfl (lv_goto hx hb d2 t2 k)
set_option maxHeartbeats 4000000 in
theorem l_callI {x r : Int32} {mc ms : Nat} {news : List (Nat × Nat)} {σ0 σ1 : zG} (hF : zLF K wM) (hCF : zLC K wM wC) (hX : zLX K wC) (hM0 : ∀ l, zCj l zsyCK mJ_image yX11_image 0 0 [zI x] news σ0 σ1 (.int r) mc ms) (hG0 : ∀ H, zGW zlyC wC σc H → zGW zlyCK wC σ0 H) (hFl : zFl zlyCK wC σ0) (hFr : zFr wC σ0 news) (hS1 : SmF σ1) (hcs : cs + mc ≤ 600000 ∧ ss + ms ≤ 7302250) (hd : decode code pc = .ok (.invokevirtual 196, 3))
    (kk : ∀ wC', zExt wC wC' news → zLC K wM wC' → zLX K wC' → zLL K wM wC' (cs + mc) (ss + ms) (pc + 3) (zal K wM wC' n) [.int r] σ1 σm) : zLL K wM wC cs ss pc (zal K wM wC n) [.int x, .ref (wC.1 0 0)] σc σm := by
  obtain ⟨l, p, e, s, m, below, meth, c, b, L, xs⟩ := K
  intro H locs ls hC hM hS hl
  obtain ⟨⟨hx, hb, hr, hml, hown, hts, hX0, hbl, hlocks, hgv⟩, hL, hAM, hM1, hM2⟩ := id hF
  obtain ⟨hAC, hC1, hC2, hC3⟩ := id hCF
  obtain ⟨hSt, hEn⟩ := id hX
  obtain ⟨⟨hini, hcode, hy1, hy2, hlenY⟩, hinst, hsel⟩ := zv_image
  have htz : ∀ w ∈ zTB, w.before #[Value.ref b] s = true := fun w hw => hts w (List.mem_filter.mp hw).1
  have hG := hG0 H hC
  have hI : zInj wC := hAC.2.1.1
  have hat := hC 0 0 hC1
  unfold zAt at hat
  rw [show zlyC.1 0 = .inl 11 from rfl] at hat
  obtain ⟨r', h3, cell, q1, q2, q3, q4⟩ := hat
  obtain ⟨-, hfc, -⟩ := hAC.1.1 11 (RX11, TX11, 7) rfl
  have hMet := hM0 l wC H.size hC1 (fun a ha => by simp at ha; subst ha; trivial) hI hFl hFr
  have hA2 : ∀ q, (zA wC q ∨ H.size ≤ q) → s.heap.size ≤ q := fun q h => h.elim (hC2 q) (fun h => Nat.le_trans hS.1 h)
  have hpre : ∀ U : State, U.heap = H → s.WarmedH U.vm → va_Pc ((zR 0 0 :: [zI x]).map (zc wC)) (fun U => U.heap.size = H.size ∧ zGW zsyCK.1 wC σ0 U.heap ∧ zSt zsyCK wC U ∧ zEn zsyCK wC (fun q => zA wC q ∨ H.size ≤ q) U U.heap) ((zR 0 0 :: [zI x]).map (zc wC)).toArray U := fun U hU hW => ⟨rfl, by rw [hU], by rw [hU]; exact hG, hSt.warm hW, zEn.narrow hA2 (hEn.move hW (fun q g1 g2 => by rw [hU]; exact hS.2.1 q g1 g2))⟩
  have hrun := va_runV (g := F0 m pc ls [.int x, .ref (wC.1 0 0)]) (rest := []) (As := [.int x]) (b := wC.1 0 0) (C := yX11_image.cls) (H := H) (locs := locs) (cells := cs) (slots := ss) (R := room_1) (e := e) (below := below) (meth := meth) ⟨hx, hb, hml, hown, htz⟩ hMet ⟨callB_of 1 htz (zGood hcode) rfl rfl rfl (htz _ hini) (htz _ ll_196) ⟨hy1, hy2, hlenY⟩ ⟨show 10 + 1 ≤ 2048 by decide, show 8 + (2 + 11) + 64 * 10 ≤ 84000 by decide⟩, htz _ hinst, htz _ hsel⟩ ⟨yblind, ⟨cell, q1, by rw [q3]; rfl, by rw [q2]; exact hfc⟩, hpre⟩ rfl rfl hl.1 rfl (lv_room (by decide)) hd ⟨hcs.1, hcs.2⟩
  intro T hT X
  obtain ⟨v, st₀, t, T', L', g0, X', hL', e1, e2, ⟨⟨hv, w', hE', hG', hFl', hI', hA'⟩, hz, hk⟩, step⟩ := hrun T hT X
  cases hv
  rw [g0] at hz hk
  have hSt' : zSt zsyCK w' s := by
    obtain ⟨-, -, -, x1, x2⟩ := hE'
    unfold zSt
    rw [x1, x2]
    exact hSt
  have hEn' : zEn zsyCK w' (fun q => s.heap.size ≤ q) s s.heap := by
    obtain ⟨-, -, x1, -, -⟩ := hE'
    unfold zEn zLdc
    rw [x1]
    exact hEn
  have hA3 : ∀ q, zA w' q → s.heap.size ≤ q := fun q hq => hA2 q (hA' q hq)
  have h00 : w'.2.2.2.2 0 0 := (hE'.1 0 0).mpr (Or.inr hC1)
  have hwp : w'.1 0 0 = wC.1 0 0 := hE'.2.1 0 0 hC1
  have hkept : ∀ q, zA wM q → T'.heap[q]? = H[q]? := fun q hq => by
    rw [e1]
    exact hk q (hM.lt hq) (fun z => z.elim (fun z => hC3 q z hq) (fun z => absurd (hM.lt hq) (Nat.not_lt.mpr z)))
  have hC4 : ∀ q, zA w' q → ¬ zA wM q := fun q hq hm => (hA' q hq).elim (fun z => hC3 q z hm) (fun z => absurd (hM.lt hm) (Nat.not_lt.mpr z))
  have q := kk w' hE' ⟨zAllC hSt' hEn' hI' hFl' (fun g j _ => hS1 g j) hA3, h00, hA3, hC4⟩ ⟨hSt', hEn'⟩ T'.heap (locs ++ L') ls ((zGW_K (fun g j _ => hS1 g j)).mpr (by rw [e1]; exact hG')) (hM.kept hkept)
    ⟨Nat.le_trans hS.1 (by rw [e1]; exact hz), fun q g1 g2 => by rw [e1, hk q (Nat.lt_of_lt_of_le g1 hS.1) (fun z => g2 (hA2 q z))]; exact hS.2.1 q g1 g2, fun q hq => by
      rcases List.mem_append.mp hq with h | h
      · exact hS.2.2 q h
      · exact hA2 _ (hL' q h)⟩ (by
      have : zal (l, p, e, s, m, below, meth, c, b, L, xs) wM w' n = zal (l, p, e, s, m, below, meth, c, b, L, xs) wM wC n := by unfold zal; rw [hwp]
      rw [this]
      exact hl)
  obtain ⟨t2, a1, b1⟩ := q T' rfl X'
  exact ⟨t2, step t2 a1, b1⟩
end ZLI
