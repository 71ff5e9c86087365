/-! THE START: what the tables and the Statement give (by program) -/
def flN : List Cond := flatC (Jvm.Cond.and given_1 narrow_1)
def strC (t : Term) (b : List Int32) : List Cond := .exactly t "java/lang/String" :: .eq (.field t "java/lang/String" "coder" "B") (.int 0) :: .arrayOf (.field t "java/lang/String" "value" "[B") .byte :: .eq (.length (.field t "java/lang/String" "value" "[B")) (.int (Int32.ofNat b.length)) :: (List.range b.length).map (fun j => .eq (.elem (.field t "java/lang/String" "value" "[B") (.int (Int32.ofNat j))) (.int (b.getD j 0)))
def StrQ (t : Term) (b : List Int32) (args : Array Value) (A : Nat → Prop) (s : State) (q : Nat × Nat) : Prop := t.eval args s none [] s = some (.ref q.1) ∧ va_O "java/lang/String" q.1 A s s.heap ∧ va_OF "java/lang/String" "coder" "B" (.int 0) q.1 A s s.heap ∧ va_OF "java/lang/String" "value" "[B" (.ref q.2) q.1 A s s.heap ∧ va_T .byte q.2 b.length (fun j => .int (b.getD j 0)) A s s.heap
theorem str_at {args : Array Value} {s : State} {A : Nat → Prop} {t : Term} {b : List Int32} (hs : ∀ c ∈ flN, c.before args s = true) (hA : ∀ a : Nat, a < s.heap.size → ¬ A a) (hb : b.length < 2 ^ 31) {p n : Nat} (hq : (flN.drop p).take n = strC t b) : ∃ q, StrQ t b args A s q := by
  have hm : ∀ c ∈ strC t b, c.before args s = true := fun c hc => by
    rw [← hq] at hc
    exact hs c (List.mem_of_mem_drop (List.mem_of_mem_take hc))
  obtain ⟨adK, adV, h1, h2⟩ := vk_Sof (args := args) (s := s) (N := 1) (tm := fun _ => t) (len := [b.length]) (byt := [b]) (A := A) (fun i hi => by
    have : i = 0 := by omega
    subst this
    exact hb) (fun i hi => hm _ List.mem_cons_self) (fun i hi => hm _ (List.mem_cons_of_mem _ List.mem_cons_self)) (fun i hi => hm _ (List.mem_cons_of_mem _ (List.mem_cons_of_mem _ List.mem_cons_self))) (fun i hi => by
    have : i = 0 := by omega
    subst this
    exact hm _ (List.mem_cons_of_mem _ (List.mem_cons_of_mem _ (List.mem_cons_of_mem _ List.mem_cons_self)))) (fun i hi j hj => by
    have : i = 0 := by omega
    subst this
    exact hm _ (List.mem_cons_of_mem _ (List.mem_cons_of_mem _ (List.mem_cons_of_mem _ (List.mem_cons_of_mem _ (List.mem_map.mpr ⟨j, List.mem_range.mpr hj, rfl⟩)))))) (fun i j hi hj hn => absurd (by omega : i = j) hn) hA
  obtain ⟨a1, a2, a3, a4⟩ := h1.1 0 (by decide)
  exact ⟨(adK 0, adV 0), h2 0 (by decide), a1, a2, a3, a4⟩
def ixC : List Nat := [80, 82, 84, 86, 88, 90, 92, 94, 96, 98, 100, 102, 104, 106, 108, 110, 112, 114, 116, 118, 120, 122, 124]
theorem sq_C0 : (flN.drop 35).take 10 = strC (.string RX8 80) [119, 97, 108, 107, 101, 114] := by decide +kernel
theorem sq_C1 : (flN.drop 45).take 9 = strC (.string RX8 82) [99, 111, 109, 101, 115] := by decide +kernel
theorem sq_C2 : (flN.drop 54).take 6 = strC (.string RX8 84) [97, 116] := by decide +kernel
theorem sq_C3 : (flN.drop 60).take 9 = strC (.string RX8 86) [115, 116, 97, 110, 100] := by decide +kernel
theorem sq_C4 : (flN.drop 69).take 9 = strC (.string RX8 88) [110, 111, 114, 116, 104] := by decide +kernel
theorem sq_C5 : (flN.drop 78).take 8 = strC (.string RX8 90) [101, 97, 115, 116] := by decide +kernel
theorem sq_C6 : (flN.drop 86).take 9 = strC (.string RX8 92) [115, 111, 117, 116, 104] := by decide +kernel
theorem sq_C7 : (flN.drop 95).take 8 = strC (.string RX8 94) [119, 101, 115, 116] := by decide +kernel
theorem sq_C8 : (flN.drop 103).take 9 = strC (.string RX8 96) [115, 104, 97, 100, 101] := by decide +kernel
theorem sq_C9 : (flN.drop 112).take 9 = strC (.string RX8 98) [119, 111, 114, 116, 104] := by decide +kernel
theorem sq_C10 : (flN.drop 121).take 8 = strC (.string RX8 100) [119, 104, 101, 110] := by decide +kernel
theorem sq_C11 : (flN.drop 129).take 6 = strC (.string RX8 102) [111, 114] := by decide +kernel
theorem sq_C12 : (flN.drop 135).take 7 = strC (.string RX8 104) [97, 110, 100] := by decide +kernel
theorem sq_C13 : (flN.drop 142).take 7 = strC (.string RX8 106) [110, 111, 116] := by decide +kernel
theorem sq_C14 : (flN.drop 149).take 5 = strC (.string RX8 108) [120] := by decide +kernel
theorem sq_C15 : (flN.drop 154).take 5 = strC (.string RX8 110) [121] := by decide +kernel
theorem sq_C16 : (flN.drop 159).take 8 = strC (.string RX8 112) [101, 100, 103, 101] := by decide +kernel
theorem sq_C17 : (flN.drop 167).take 10 = strC (.string RX8 114) [109, 105, 110, 117, 116, 101] := by decide +kernel
theorem sq_C18 : (flN.drop 177).take 11 = strC (.string RX8 116) [99, 111, 118, 101, 114, 101, 100] := by decide +kernel
theorem sq_C19 : (flN.drop 188).take 9 = strC (.string RX8 118) [101, 100, 103, 101, 115] := by decide +kernel
theorem sq_C20 : (flN.drop 197).take 8 = strC (.string RX8 120) [115, 116, 101, 112] := by decide +kernel
theorem sq_C21 : (flN.drop 205).take 10 = strC (.string RX8 122) [112, 101, 111, 112, 108, 101] := by decide +kernel
theorem sq_C22 : (flN.drop 215).take 4 = strC (.string RX8 124) [] := by decide +kernel
theorem strs_C {args : Array Value} {s : State} {A : Nat → Prop} (hs : ∀ c ∈ flN, c.before args s = true) (hA : ∀ a : Nat, a < s.heap.size → ¬ A a) : ∀ i, i < 23 → ∃ q, StrQ (.string RX8 (ixC.getD i 0)) (zstrC.getD i []) args A s q := fun i hi => match i, hi with
  | 0, _ => str_at hs hA (by decide) sq_C0
  | 1, _ => str_at hs hA (by decide) sq_C1
  | 2, _ => str_at hs hA (by decide) sq_C2
  | 3, _ => str_at hs hA (by decide) sq_C3
  | 4, _ => str_at hs hA (by decide) sq_C4
  | 5, _ => str_at hs hA (by decide) sq_C5
  | 6, _ => str_at hs hA (by decide) sq_C6
  | 7, _ => str_at hs hA (by decide) sq_C7
  | 8, _ => str_at hs hA (by decide) sq_C8
  | 9, _ => str_at hs hA (by decide) sq_C9
  | 10, _ => str_at hs hA (by decide) sq_C10
  | 11, _ => str_at hs hA (by decide) sq_C11
  | 12, _ => str_at hs hA (by decide) sq_C12
  | 13, _ => str_at hs hA (by decide) sq_C13
  | 14, _ => str_at hs hA (by decide) sq_C14
  | 15, _ => str_at hs hA (by decide) sq_C15
  | 16, _ => str_at hs hA (by decide) sq_C16
  | 17, _ => str_at hs hA (by decide) sq_C17
  | 18, _ => str_at hs hA (by decide) sq_C18
  | 19, _ => str_at hs hA (by decide) sq_C19
  | 20, _ => str_at hs hA (by decide) sq_C20
  | 21, _ => str_at hs hA (by decide) sq_C21
  | 22, _ => str_at hs hA (by decide) sq_C22
  | n + 23, h => absurd h (Nat.not_lt.mpr (Nat.le_add_left 23 n))
set_option maxRecDepth 100000 in
theorem ldc_C {args : Array Value} {s : State} {A : Nat → Prop} {w : zW} {ad : Nat → Nat × Nat} (hts : ∀ w ∈ lw_tbl, w.before args s = true) (h : ∀ i, i < 23 → StrQ (.string RX8 (ixC.getD i 0)) (zstrC.getD i []) args A s (ad i)) (hw : ∀ i, i < 23 → w.2.1.1 i = (ad i).1) : zLdc w zldcC s := by
  have g : ∀ q ∈ zldcC, vk_R q.1 q.2.1 q.2.2.1 (ad q.2.2.2).1 s := List.forall_mem_cons.mpr ⟨vk_R.of (hts _ (wC_3 _ (List.mem_of_getElem? (i := 83) rfl))) (h 0 (by decide)).1, List.forall_mem_cons.mpr ⟨vk_R.of (hts _ (wC_3 _ (List.mem_of_getElem? (i := 84) rfl))) (h 1 (by decide)).1, List.forall_mem_cons.mpr ⟨vk_R.of (hts _ (wC_3 _ (List.mem_of_getElem? (i := 85) rfl))) (h 2 (by decide)).1, List.forall_mem_cons.mpr ⟨vk_R.of (hts _ (wC_3 _ (List.mem_of_getElem? (i := 86) rfl))) (h 3 (by decide)).1, List.forall_mem_cons.mpr ⟨vk_R.of (hts _ (wC_3 _ (List.mem_of_getElem? (i := 87) rfl))) (h 4 (by decide)).1, List.forall_mem_cons.mpr ⟨vk_R.of (hts _ (wC_3 _ (List.mem_of_getElem? (i := 88) rfl))) (h 5 (by decide)).1, List.forall_mem_cons.mpr ⟨vk_R.of (hts _ (wC_3 _ (List.mem_of_getElem? (i := 89) rfl))) (h 6 (by decide)).1, List.forall_mem_cons.mpr ⟨vk_R.of (hts _ (wC_3 _ (List.mem_of_getElem? (i := 90) rfl))) (h 7 (by decide)).1, List.forall_mem_cons.mpr ⟨vk_R.of (hts _ (wC_3 _ (List.mem_of_getElem? (i := 91) rfl))) (h 8 (by decide)).1, List.forall_mem_cons.mpr ⟨vk_R.of (hts _ (wC_3 _ (List.mem_of_getElem? (i := 92) rfl))) (h 9 (by decide)).1, List.forall_mem_cons.mpr ⟨vk_R.of (hts _ (wC_3 _ (List.mem_of_getElem? (i := 93) rfl))) (h 10 (by decide)).1, List.forall_mem_cons.mpr ⟨vk_R.of (hts _ (wC_3 _ (List.mem_of_getElem? (i := 94) rfl))) (h 11 (by decide)).1, List.forall_mem_cons.mpr ⟨vk_R.of (hts _ (wC_3 _ (List.mem_of_getElem? (i := 95) rfl))) (h 12 (by decide)).1, List.forall_mem_cons.mpr ⟨vk_R.of (hts _ (wC_3 _ (List.mem_of_getElem? (i := 96) rfl))) (h 13 (by decide)).1, List.forall_mem_cons.mpr ⟨vk_R.of (hts _ (wC_3 _ (List.mem_of_getElem? (i := 97) rfl))) (h 14 (by decide)).1, List.forall_mem_cons.mpr ⟨vk_R.of (hts _ (wC_3 _ (List.mem_of_getElem? (i := 98) rfl))) (h 15 (by decide)).1, List.forall_mem_cons.mpr ⟨vk_R.of (hts _ (wC_3 _ (List.mem_of_getElem? (i := 99) rfl))) (h 16 (by decide)).1, List.forall_mem_cons.mpr ⟨vk_R.of (hts _ (wC_3 _ (List.mem_of_getElem? (i := 100) rfl))) (h 17 (by decide)).1, List.forall_mem_cons.mpr ⟨vk_R.of (hts _ (wC_3 _ (List.mem_of_getElem? (i := 101) rfl))) (h 18 (by decide)).1, List.forall_mem_cons.mpr ⟨vk_R.of (hts _ (wC_3 _ (List.mem_of_getElem? (i := 102) rfl))) (h 19 (by decide)).1, List.forall_mem_cons.mpr ⟨vk_R.of (hts _ (wC_3 _ (List.mem_of_getElem? (i := 103) rfl))) (h 20 (by decide)).1, List.forall_mem_cons.mpr ⟨vk_R.of (hts _ (wC_3 _ (List.mem_of_getElem? (i := 104) rfl))) (h 21 (by decide)).1, List.forall_mem_cons.mpr ⟨vk_R.of (hts _ (wC_3 _ (List.mem_of_getElem? (i := 105) rfl))) (h 22 (by decide)).1, fun _ h => absurd h List.not_mem_nil⟩⟩⟩⟩⟩⟩⟩⟩⟩⟩⟩⟩⟩⟩⟩⟩⟩⟩⟩⟩⟩⟩⟩
  have lt : ∀ q ∈ zldcC, q.2.2.2 < 23 := by decide
  intro q hq
  rw [hw _ (lt q hq)]
  exact g q hq
def ixM : List Nat := [96, 102, 104, 105, 107, 109, 111, 113, 115, 117, 119, 121, 123, 125, 127, 129, 131, 133, 141, 143, 145, 147]
theorem sq_M0 : (flN.drop 219).take 10 = strC (.string RX12 96) [119, 97, 108, 107, 101, 114] := by decide +kernel
theorem sq_M1 : (flN.drop 230).take 9 = strC (.string RX12 102) [99, 111, 109, 101, 115] := by decide +kernel
theorem sq_M2 : (flN.drop 240).take 6 = strC (.string RX12 104) [97, 116] := by decide +kernel
theorem sq_M3 : (flN.drop 247).take 9 = strC (.string RX12 105) [115, 116, 97, 110, 100] := by decide +kernel
theorem sq_M4 : (flN.drop 257).take 9 = strC (.string RX12 107) [110, 111, 114, 116, 104] := by decide +kernel
theorem sq_M5 : (flN.drop 267).take 8 = strC (.string RX12 109) [101, 97, 115, 116] := by decide +kernel
theorem sq_M6 : (flN.drop 276).take 9 = strC (.string RX12 111) [115, 111, 117, 116, 104] := by decide +kernel
theorem sq_M7 : (flN.drop 286).take 8 = strC (.string RX12 113) [119, 101, 115, 116] := by decide +kernel
theorem sq_M8 : (flN.drop 327).take 9 = strC (.string RX12 115) [115, 104, 97, 100, 101] := by decide +kernel
theorem sq_M9 : (flN.drop 337).take 5 = strC (.string RX12 117) [120] := by decide +kernel
theorem sq_M10 : (flN.drop 343).take 5 = strC (.string RX12 119) [121] := by decide +kernel
theorem sq_M11 : (flN.drop 349).take 10 = strC (.string RX12 121) [109, 105, 110, 117, 116, 101] := by decide +kernel
theorem sq_M12 : (flN.drop 360).take 8 = strC (.string RX12 123) [101, 100, 103, 101] := by decide +kernel
theorem sq_M13 : (flN.drop 369).take 9 = strC (.string RX12 125) [119, 111, 114, 116, 104] := by decide +kernel
theorem sq_M14 : (flN.drop 379).take 11 = strC (.string RX12 127) [99, 111, 118, 101, 114, 101, 100] := by decide +kernel
theorem sq_M15 : (flN.drop 391).take 9 = strC (.string RX12 129) [101, 100, 103, 101, 115] := by decide +kernel
theorem sq_M16 : (flN.drop 401).take 8 = strC (.string RX12 131) [115, 116, 101, 112] := by decide +kernel
theorem sq_M17 : (flN.drop 410).take 10 = strC (.string RX12 133) [112, 101, 111, 112, 108, 101] := by decide +kernel
theorem sq_M18 : (flN.drop 295).take 8 = strC (.string RX12 141) [119, 104, 101, 110] := by decide +kernel
theorem sq_M19 : (flN.drop 304).take 6 = strC (.string RX12 143) [111, 114] := by decide +kernel
theorem sq_M20 : (flN.drop 311).take 7 = strC (.string RX12 145) [97, 110, 100] := by decide +kernel
theorem sq_M21 : (flN.drop 319).take 7 = strC (.string RX12 147) [110, 111, 116] := by decide +kernel
theorem strs_M {args : Array Value} {s : State} {A : Nat → Prop} (hs : ∀ c ∈ flN, c.before args s = true) (hA : ∀ a : Nat, a < s.heap.size → ¬ A a) : ∀ i, i < 22 → ∃ q, StrQ (.string RX12 (ixM.getD i 0)) (zstrM.getD i []) args A s q := fun i hi => match i, hi with
  | 0, _ => str_at hs hA (by decide) sq_M0
  | 1, _ => str_at hs hA (by decide) sq_M1
  | 2, _ => str_at hs hA (by decide) sq_M2
  | 3, _ => str_at hs hA (by decide) sq_M3
  | 4, _ => str_at hs hA (by decide) sq_M4
  | 5, _ => str_at hs hA (by decide) sq_M5
  | 6, _ => str_at hs hA (by decide) sq_M6
  | 7, _ => str_at hs hA (by decide) sq_M7
  | 8, _ => str_at hs hA (by decide) sq_M8
  | 9, _ => str_at hs hA (by decide) sq_M9
  | 10, _ => str_at hs hA (by decide) sq_M10
  | 11, _ => str_at hs hA (by decide) sq_M11
  | 12, _ => str_at hs hA (by decide) sq_M12
  | 13, _ => str_at hs hA (by decide) sq_M13
  | 14, _ => str_at hs hA (by decide) sq_M14
  | 15, _ => str_at hs hA (by decide) sq_M15
  | 16, _ => str_at hs hA (by decide) sq_M16
  | 17, _ => str_at hs hA (by decide) sq_M17
  | 18, _ => str_at hs hA (by decide) sq_M18
  | 19, _ => str_at hs hA (by decide) sq_M19
  | 20, _ => str_at hs hA (by decide) sq_M20
  | 21, _ => str_at hs hA (by decide) sq_M21
  | n + 22, h => absurd h (Nat.not_lt.mpr (Nat.le_add_left 22 n))
set_option maxRecDepth 100000 in
theorem ldc_M {args : Array Value} {s : State} {A : Nat → Prop} {w : zW} {ad : Nat → Nat × Nat} (hts : ∀ w ∈ lw_tbl, w.before args s = true) (h : ∀ i, i < 22 → StrQ (.string RX12 (ixM.getD i 0)) (zstrM.getD i []) args A s (ad i)) (hw : ∀ i, i < 22 → w.2.1.1 i = (ad i).1) : zLdc w zldcM s := by
  have g : ∀ q ∈ zldcM, vk_R q.1 q.2.1 q.2.2.1 (ad q.2.2.2).1 s := List.forall_mem_cons.mpr ⟨vk_R.of (hts _ (wC_7 _ (List.mem_of_getElem? (i := 8) rfl))) (h 0 (by decide)).1, List.forall_mem_cons.mpr ⟨vk_R.of (hts _ (wC_7 _ (List.mem_of_getElem? (i := 15) rfl))) (h 1 (by decide)).1, List.forall_mem_cons.mpr ⟨vk_R.of (hts _ (wC_7 _ (List.mem_of_getElem? (i := 16) rfl))) (h 2 (by decide)).1, List.forall_mem_cons.mpr ⟨vk_R.of (hts _ (wC_7 _ (List.mem_of_getElem? (i := 17) rfl))) (h 3 (by decide)).1, List.forall_mem_cons.mpr ⟨vk_R.of (hts _ (wC_7 _ (List.mem_of_getElem? (i := 18) rfl))) (h 4 (by decide)).1, List.forall_mem_cons.mpr ⟨vk_R.of (hts _ (wC_7 _ (List.mem_of_getElem? (i := 19) rfl))) (h 5 (by decide)).1, List.forall_mem_cons.mpr ⟨vk_R.of (hts _ (wC_7 _ (List.mem_of_getElem? (i := 20) rfl))) (h 6 (by decide)).1, List.forall_mem_cons.mpr ⟨vk_R.of (hts _ (wC_7 _ (List.mem_of_getElem? (i := 21) rfl))) (h 7 (by decide)).1, List.forall_mem_cons.mpr ⟨vk_R.of (hts _ (wC_7 _ (List.mem_of_getElem? (i := 30) rfl))) (h 8 (by decide)).1, List.forall_mem_cons.mpr ⟨vk_R.of (hts _ (wC_7 _ (List.mem_of_getElem? (i := 31) rfl))) (h 9 (by decide)).1, List.forall_mem_cons.mpr ⟨vk_R.of (hts _ (wC_7 _ (List.mem_of_getElem? (i := 32) rfl))) (h 10 (by decide)).1, List.forall_mem_cons.mpr ⟨vk_R.of (hts _ (wC_7 _ (List.mem_of_getElem? (i := 33) rfl))) (h 11 (by decide)).1, List.forall_mem_cons.mpr ⟨vk_R.of (hts _ (wC_7 _ (List.mem_of_getElem? (i := 34) rfl))) (h 12 (by decide)).1, List.forall_mem_cons.mpr ⟨vk_R.of (hts _ (wC_7 _ (List.mem_of_getElem? (i := 39) rfl))) (h 13 (by decide)).1, List.forall_mem_cons.mpr ⟨vk_R.of (hts _ (wC_7 _ (List.mem_of_getElem? (i := 33) rfl))) (h 11 (by decide)).1, List.forall_mem_cons.mpr ⟨vk_R.of (hts _ (wC_7 _ (List.mem_of_getElem? (i := 40) rfl))) (h 14 (by decide)).1, List.forall_mem_cons.mpr ⟨vk_R.of (hts _ (wC_7 _ (List.mem_of_getElem? (i := 41) rfl))) (h 15 (by decide)).1, List.forall_mem_cons.mpr ⟨vk_R.of (hts _ (wC_7 _ (List.mem_of_getElem? (i := 42) rfl))) (h 16 (by decide)).1, List.forall_mem_cons.mpr ⟨vk_R.of (hts _ (wC_7 _ (List.mem_of_getElem? (i := 43) rfl))) (h 17 (by decide)).1, List.forall_mem_cons.mpr ⟨vk_R.of (hts _ (wC_7 _ (List.mem_of_getElem? (i := 22) rfl))) (h 18 (by decide)).1, List.forall_mem_cons.mpr ⟨vk_R.of (hts _ (wC_7 _ (List.mem_of_getElem? (i := 23) rfl))) (h 19 (by decide)).1, List.forall_mem_cons.mpr ⟨vk_R.of (hts _ (wC_7 _ (List.mem_of_getElem? (i := 24) rfl))) (h 20 (by decide)).1, List.forall_mem_cons.mpr ⟨vk_R.of (hts _ (wC_7 _ (List.mem_of_getElem? (i := 25) rfl))) (h 21 (by decide)).1, fun _ h => absurd h List.not_mem_nil⟩⟩⟩⟩⟩⟩⟩⟩⟩⟩⟩⟩⟩⟩⟩⟩⟩⟩⟩⟩⟩⟩⟩
  have lt : ∀ q ∈ zldcM, q.2.2.2 < 22 := by decide
  intro q hq
  rw [hw _ (lt q hq)]
  exact g q hq
set_option maxHeartbeats 4000000 in
theorem kn_all {args : Array Value} {s : State} (htz : ∀ w ∈ zTB, w.before args s = true) : ∀ c : Nat, ∃ d : ClassId × (Nat → Nat), ∀ q : vw_C, vwCl[c]? = some q → u_Kn s q.1 q.2.1 q.2.2 d.1 d.2
  | 0 => by
    obtain ⟨c, iS, h⟩ := u_known (C := RX0) (T := TX0) (N := 1) (n := 1) htz ix_X0 (htz _ (zW_at wC_2 207 rfl rfl))
    exact ⟨(c, iS), fun q hq => by cases hq; exact h⟩
  | 1 => by
    obtain ⟨c, iS, h⟩ := u_known (C := RX1) (T := TX1) (N := 17) (n := 17) htz ix_X1 (htz _ (zW_at wC_1 32 rfl rfl))
    exact ⟨(c, iS), fun q hq => by cases hq; exact h⟩
  | 2 => by
    obtain ⟨c, iS, h⟩ := u_known (C := RX2) (T := TX2) (N := 7) (n := 7) htz ix_X2 (htz _ (zW_at wC_2 68 rfl rfl))
    exact ⟨(c, iS), fun q hq => by cases hq; exact h⟩
  | 3 => by
    obtain ⟨c, iS, h⟩ := u_known (C := RX3) (T := TX3) (N := 8) (n := 8) htz ix_X3 (htz _ (zW_at wC_1 125 rfl rfl))
    exact ⟨(c, iS), fun q hq => by cases hq; exact h⟩
  | 4 => by
    obtain ⟨c, iS, h⟩ := u_known (C := RX4) (T := TX4) (N := 10) (n := 10) htz ix_X4 (htz _ (zW_at wC_2 134 rfl rfl))
    exact ⟨(c, iS), fun q hq => by cases hq; exact h⟩
  | 5 => by
    obtain ⟨c, iS, h⟩ := u_known (C := RX5) (T := TX5) (N := 2) (n := 2) htz ix_X5 (htz _ (zW_at wC_1 109 rfl rfl))
    exact ⟨(c, iS), fun q hq => by cases hq; exact h⟩
  | 6 => by
    obtain ⟨c, iS, h⟩ := u_known (C := RX6) (T := TX6) (N := 7) (n := 7) htz ix_X6 (htz _ (zW_at wC_1 161 rfl rfl))
    exact ⟨(c, iS), fun q hq => by cases hq; exact h⟩
  | 7 => by
    obtain ⟨c, iS, h⟩ := u_known (C := RX7) (T := TX7) (N := 4) (n := 4) htz ix_X7 (htz _ (zW_at wC_1 38 rfl rfl))
    exact ⟨(c, iS), fun q hq => by cases hq; exact h⟩
  | 8 => by
    obtain ⟨c, iS, h⟩ := u_known (C := RX8) (T := TX8) (N := 7) (n := 7) htz ix_X8 (htz _ (zW_at wC_2 100 rfl rfl))
    exact ⟨(c, iS), fun q hq => by cases hq; exact h⟩
  | 9 => by
    obtain ⟨c, iS, h⟩ := u_known (C := RX9) (T := TX9) (N := 7) (n := 7) htz ix_X9 (htz _ (zW_at wC_2 179 rfl rfl))
    exact ⟨(c, iS), fun q hq => by cases hq; exact h⟩
  | 10 => by
    obtain ⟨c, iS, h⟩ := u_known (C := RX10) (T := TX10) (N := 7) (n := 7) htz ix_X10 (htz _ (zW_at wC_1 63 rfl rfl))
    exact ⟨(c, iS), fun q hq => by cases hq; exact h⟩
  | 11 => by
    obtain ⟨c, iS, h⟩ := u_known (C := RX11) (T := TX11) (N := 7) (n := 7) htz ix_X11 (htz _ (zW_at wC_1 24 rfl rfl))
    exact ⟨(c, iS), fun q hq => by cases hq; exact h⟩
  | 12 => by
    obtain ⟨c, iS, h⟩ := u_known (C := RX12) (T := TX12) (N := 36) (n := 36) htz ix_X12 (htz _ (zW_at wC_6 80 rfl rfl))
    exact ⟨(c, iS), fun q hq => by cases hq; exact h⟩
  | n + 13 => ⟨(0, fun _ => 0), fun q hq => by cases hq⟩
theorem arr_p {args : Array Value} {s : State} {ty : FieldType} (h : (Cond.arrayClass ty).before args s = true) (hp : ∀ cA, va_RA s cA ty = (s.vm.findClass ("[" ++ ty.toString) = some cA)) : ∃ cA, ArrOfT s cA ty ∧ va_RA s cA ty := by
  obtain ⟨cA, kA, comp, h1, h2, h3⟩ := Cond.arrayClass_spec h
  exact ⟨cA, fun n z => ⟨fun k h => (by cases h), kA, h2, comp, h3⟩, by rw [hp]; exact h1⟩
theorem arr_o {args : Array Value} {s : State} {C : String} (h : (Cond.arrayOver (.object C)).before args s = true) : ∃ cA, ArrOfT s cA (.object C) ∧ va_RA s cA (.object C) := by
  obtain ⟨comp, cA, kA, h1, h2, h3, h4, h5⟩ := Cond.arrayOver_spec h
  exact ⟨cA, fun n z => ⟨fun k h => (by cases h), kA, h3, comp, h4⟩, kA, comp, h3, h4, h1, h5⟩
def tyL (ty : FieldType) : Prop := ty = .int ∨ ty = .byte ∨ ty = .long ∨ ty = .char ∨ ty = .object "NobodyThere$Shot" ∨ ty = .object "NobodyThere$Strangers"
theorem arr_all {args : Array Value} {s : State} (hts : ∀ w ∈ lw_tbl, w.before args s = true) : ∀ ty : FieldType, ∃ cA : ClassId, tyL ty → ArrOfT s cA ty ∧ va_RA s cA ty := fun ty => by
  by_cases h : tyL ty
  · have : ∃ cA, ArrOfT s cA ty ∧ va_RA s cA ty := by
      rcases h with rfl | rfl | rfl | rfl | rfl | rfl
      · exact arr_p (hts _ (wC_1 _ (List.mem_of_getElem? (i := 61) rfl))) (fun _ => rfl)
      · exact arr_p (hts _ (wC_1 _ (List.mem_of_getElem? (i := 122) rfl))) (fun _ => rfl)
      · exact arr_p (hts _ (wC_1 _ (List.mem_of_getElem? (i := 123) rfl))) (fun _ => rfl)
      · exact arr_p (hts _ (wC_2 _ (List.mem_of_getElem? (i := 132) rfl))) (fun _ => rfl)
      · exact arr_o (hts _ (wC_1 _ (List.mem_of_getElem? (i := 160) rfl)))
      · exact arr_o (hts _ (wC_2 _ (List.mem_of_getElem? (i := 74) rfl)))
    obtain ⟨cA, h⟩ := this
    exact ⟨cA, fun _ => h⟩
  · exact ⟨0, fun z => absurd z h⟩
set_option maxRecDepth 100000 in
theorem nest_all {args : Array Value} {s : State} (hts : ∀ w ∈ lw_tbl, w.before args s = true) : ∀ q ∈ znsC, zNestOk s q := List.forall_mem_cons.mpr ⟨va_Nw.of rfl (hts _ (wC_1 _ (List.mem_of_getElem? (i := 39) rfl))), List.forall_mem_cons.mpr ⟨va_Nw.of rfl (hts _ (wC_1 _ (List.mem_of_getElem? (i := 64) rfl))), List.forall_mem_cons.mpr ⟨va_Nw.of rfl (hts _ (wC_1 _ (List.mem_of_getElem? (i := 110) rfl))), List.forall_mem_cons.mpr ⟨va_Nw.of rfl (hts _ (wC_1 _ (List.mem_of_getElem? (i := 126) rfl))), List.forall_mem_cons.mpr ⟨va_Nw.of rfl (hts _ (wC_1 _ (List.mem_of_getElem? (i := 162) rfl))), List.forall_mem_cons.mpr ⟨va_Nw.of rfl (hts _ (wC_2 _ (List.mem_of_getElem? (i := 75) rfl))), List.forall_mem_cons.mpr ⟨va_Nw.of rfl (hts _ (wC_2 _ (List.mem_of_getElem? (i := 101) rfl))), List.forall_mem_cons.mpr ⟨va_Nw.of rfl (hts _ (wC_2 _ (List.mem_of_getElem? (i := 140) rfl))), List.forall_mem_cons.mpr ⟨va_Nw.of rfl (hts _ (wC_2 _ (List.mem_of_getElem? (i := 142) rfl))), List.forall_mem_cons.mpr ⟨va_Nw.of rfl (hts _ (wC_3 _ (List.mem_of_getElem? (i := 227) rfl))), List.forall_mem_cons.mpr ⟨va_Nw.of rfl (hts _ (wC_4 _ (List.mem_of_getElem? (i := 94) rfl))), List.forall_mem_cons.mpr ⟨va_Nw.of rfl (hts _ (wC_4 _ (List.mem_of_getElem? (i := 103) rfl))), List.forall_mem_cons.mpr ⟨va_Nw.of rfl (hts _ (wC_4 _ (List.mem_of_getElem? (i := 143) rfl))), List.forall_mem_cons.mpr ⟨va_Nw.of rfl (hts _ (wC_4 _ (List.mem_of_getElem? (i := 213) rfl))), List.forall_mem_cons.mpr ⟨va_Nw.of rfl (hts _ (wC_5 _ (List.mem_of_getElem? (i := 102) rfl))), List.forall_mem_cons.mpr ⟨va_Nw.of rfl (hts _ (wC_5 _ (List.mem_of_getElem? (i := 131) rfl))), List.forall_mem_cons.mpr ⟨va_Nw.of rfl (hts _ (wC_5 _ (List.mem_of_getElem? (i := 167) rfl))), List.forall_mem_cons.mpr ⟨va_Nw.of rfl (hts _ (wC_5 _ (List.mem_of_getElem? (i := 189) rfl))), fun _ h => absurd h List.not_mem_nil⟩⟩⟩⟩⟩⟩⟩⟩⟩⟩⟩⟩⟩⟩⟩⟩⟩⟩
theorem cmp_at {args : Array Value} {s : State} {A : Nat → Prop} (hts : ∀ w ∈ lw_tbl, w.before args s = true) (hs : ∀ c ∈ flN, c.before args s = true) (hA : ∀ a : Nat, a < s.heap.size → ¬ A a) : zCmp A s s.heap := va_Zof (hts _ (wC_3 _ (List.mem_of_getElem? (i := 119) rfl))) (hts _ (wC_1 _ (List.mem_of_getElem? (i := 16) rfl))) (va_eqt (hs (.eq (.static "java/lang/String" "COMPACT_STRINGS" "Z") (.int 1)) (List.mem_of_getElem? (i := 4) rfl))) hA
theorem sio_at {args : Array Value} {s : State} {A : Nat → Prop} (hts : ∀ w ∈ lw_tbl, w.before args s = true) (hs : ∀ c ∈ flN, c.before args s = true) (hA : ∀ a : Nat, a < s.heap.size → ¬ A a) : va_Zq "jdk/internal/util/Preconditions" "SIOOBE_FORMATTER" "Ljava/util/function/BiFunction;" A s s.heap := va_Zqof (hts _ (wC_3 _ (List.mem_of_getElem? (i := 135) rfl))) (hts _ (wC_1 _ (List.mem_of_getElem? (i := 18) rfl))) (hs (.isRef (.static "jdk/internal/util/Preconditions" "SIOOBE_FORMATTER" "Ljava/util/function/BiFunction;")) (List.mem_of_getElem? (i := 5) rfl)) hA
theorem kd_C : ∀ f ty n, zlyC.1 f = .inr (ty, n) → tyL ty := by
  intro f ty n h
  change zkdC.getD f (.inl 99) = .inr (ty, n) at h
  by_cases hf : f < 45
  · have key : ∀ f, f < 45 → (match zkdC.getD f (.inl 99) with | .inl _ => true | .inr (ty, _) => decide (ty = .int) || decide (ty = .byte) || decide (ty = .long) || decide (ty = .char) || decide (ty = .object "NobodyThere$Shot") || decide (ty = .object "NobodyThere$Strangers")) = true := by decide +kernel
    have k := key f hf
    rw [h] at k
    simp only [Bool.or_eq_true, decide_eq_true_eq] at k
    unfold tyL
    rcases k with ((((k | k) | k) | k) | k) | k
    · exact Or.inl k
    · exact Or.inr (Or.inl k)
    · exact Or.inr (Or.inr (Or.inl k))
    · exact Or.inr (Or.inr (Or.inr (Or.inl k)))
    · exact Or.inr (Or.inr (Or.inr (Or.inr (Or.inl k))))
    · exact Or.inr (Or.inr (Or.inr (Or.inr (Or.inr k))))
  · rw [List.getD_eq_getElem?_getD, List.getElem?_eq_none (by show 45 ≤ f; omega)] at h
    cases h
set_option maxHeartbeats 4000000 in
theorem start_C {args : Array Value} {s : State} (hts : ∀ w ∈ lw_tbl, w.before args s = true) (hgv : (Jvm.Cond.and given_1 narrow_1).before args s = true) : ∃ w : zW, (∀ f i, ¬ w.2.2.2.2 f i) ∧ zSt zsyCK w s ∧ zEn zsyCK w (fun q => s.heap.size ≤ q) s s.heap := by
  have hs : ∀ c ∈ flN, c.before args s = true := flat_of_before _ hgv
  have htz : ∀ w ∈ zTB, w.before args s = true := fun w hw => hts w (List.mem_filter.mp hw).1
  have hA : ∀ a : Nat, a < s.heap.size → ¬ (fun q => s.heap.size ≤ q) a := fun a h => Nat.not_le.mpr h
  obtain ⟨dd, hdd⟩ := Classical.axiomOfChoice (kn_all htz)
  obtain ⟨ar, har⟩ := Classical.axiomOfChoice (arr_all hts)
  have hst : ∀ i : Nat, ∃ q : Nat × Nat, i < 23 → StrQ (.string RX8 (ixC.getD i 0)) (zstrC.getD i []) args (fun q => s.heap.size ≤ q) s q := fun i => by
    by_cases hi : i < 23
    · obtain ⟨q, hq⟩ := strs_C hs hA i hi
      exact ⟨q, fun _ => hq⟩
    · exact ⟨(0, 0), fun z => absurd z hi⟩
  obtain ⟨ad, had⟩ := Classical.axiomOfChoice hst
  obtain ⟨so, hso⟩ : ∃ so : Nat, va_Z "jdk/internal/util/Preconditions" "SIOOBE_FORMATTER" "Ljava/util/function/BiFunction;" .null (fun q => s.heap.size ≤ q) s s.heap ∨ va_Z "jdk/internal/util/Preconditions" "SIOOBE_FORMATTER" "Ljava/util/function/BiFunction;" (.ref so) (fun q => s.heap.size ≤ q) s s.heap := by
    rcases sio_at hts hs hA with h | ⟨t, h⟩
    · exact ⟨0, Or.inl h⟩
    · exact ⟨t, Or.inr h⟩
  refine ⟨(fun _ _ => 0, (fun i => (ad i).1, fun i => if i = 999 then so else (ad i).2), (fun c => (dd c).1, fun c => (dd c).2), fun f => (match zlyC.1 f with | .inr (ty, _) => ar ty | .inl _ => 0), fun _ _ => False), fun f i h => h, ⟨fun c q hq => hdd c q hq, fun f ty n h => ?_, nest_all hts, fun f C n h => ?_⟩, fun i b hb => ?_, ldc_C (A := fun q => s.heap.size ≤ q) (ad := ad) hts (fun i hi => had i hi) (fun _ _ => rfl), cmp_at hts hs hA, hso⟩
  · have hk := kd_C f ty n h
    have e : (match zlyC.1 f with | .inr (ty, _) => ar ty | .inl _ => 0) = ar ty := by
      change zlyC.1 f = .inr (ty, n) at h
      rw [h]
    show ArrOfT s (match zlyC.1 f with | .inr (ty, _) => ar ty | .inl _ => 0) ty ∧ va_RA s (match zlyC.1 f with | .inr (ty, _) => ar ty | .inl _ => 0) ty
    rw [e]
    exact har ty hk
  · have hk := kd_C f (.object C) n h
    unfold tyL at hk
    rcases hk with hk | hk | hk | hk | hk | hk
    · cases hk
    · cases hk
    · cases hk
    · cases hk
    · cases hk; exact va_AO.of (hts _ (wC_1 _ (List.mem_of_getElem? (i := 160) rfl)))
    · cases hk; exact va_AO.of (hts _ (wC_2 _ (List.mem_of_getElem? (i := 74) rfl)))
  · change zstrC[i]? = some b at hb
    have hi : i < 23 := (List.getElem?_eq_some_iff.mp hb).1
    have eb : zstrC.getD i [] = b := by rw [List.getD_eq_getElem?_getD, hb]; rfl
    have h := had i hi
    rw [eb] at h
    obtain ⟨-, a1, a2, a3, a4⟩ := h
    have n9 : ¬ i = 999 := by omega
    refine ⟨a1, a2, ?_, ?_⟩
    · show va_OF "java/lang/String" "value" "[B" (.ref (if i = 999 then so else (ad i).2)) (ad i).1 _ s s.heap
      rw [if_neg n9]
      exact a3
    · show va_T .byte (if i = 999 then so else (ad i).2) b.length _ _ s s.heap
      rw [if_neg n9]
      exact a4
theorem kd_M : ∀ f ty n, zlyM.1 f = .inr (ty, n) → tyL ty := by
  intro f ty n h
  change zkdM.getD f (.inl 99) = .inr (ty, n) at h
  by_cases hf : f < 15
  · have key : ∀ f, f < 15 → (match zkdM.getD f (.inl 99) with | .inl _ => true | .inr (ty, _) => decide (ty = .int) || decide (ty = .byte) || decide (ty = .long) || decide (ty = .char) || decide (ty = .object "NobodyThere$Shot") || decide (ty = .object "NobodyThere$Strangers")) = true := by decide +kernel
    have k := key f hf
    rw [h] at k
    simp only [Bool.or_eq_true, decide_eq_true_eq] at k
    unfold tyL
    rcases k with ((((k | k) | k) | k) | k) | k
    · exact Or.inl k
    · exact Or.inr (Or.inl k)
    · exact Or.inr (Or.inr (Or.inl k))
    · exact Or.inr (Or.inr (Or.inr (Or.inl k)))
    · exact Or.inr (Or.inr (Or.inr (Or.inr (Or.inl k))))
    · exact Or.inr (Or.inr (Or.inr (Or.inr (Or.inr k))))
  · rw [List.getD_eq_getElem?_getD, List.getElem?_eq_none (by show 15 ≤ f; omega)] at h
    cases h
set_option maxHeartbeats 4000000 in
theorem start_M {args : Array Value} {s : State} (hts : ∀ w ∈ lw_tbl, w.before args s = true) (hgv : (Jvm.Cond.and given_1 narrow_1).before args s = true) : ∃ w : zW, (∀ f i, ¬ w.2.2.2.2 f i) ∧ zSt zsyMK w s ∧ zEn zsyMK w (fun q => s.heap.size ≤ q) s s.heap := by
  have hs : ∀ c ∈ flN, c.before args s = true := flat_of_before _ hgv
  have htz : ∀ w ∈ zTB, w.before args s = true := fun w hw => hts w (List.mem_filter.mp hw).1
  have hA : ∀ a : Nat, a < s.heap.size → ¬ (fun q => s.heap.size ≤ q) a := fun a h => Nat.not_le.mpr h
  obtain ⟨dd, hdd⟩ := Classical.axiomOfChoice (kn_all htz)
  obtain ⟨ar, har⟩ := Classical.axiomOfChoice (arr_all hts)
  have hst : ∀ i : Nat, ∃ q : Nat × Nat, i < 22 → StrQ (.string RX12 (ixM.getD i 0)) (zstrM.getD i []) args (fun q => s.heap.size ≤ q) s q := fun i => by
    by_cases hi : i < 22
    · obtain ⟨q, hq⟩ := strs_M hs hA i hi
      exact ⟨q, fun _ => hq⟩
    · exact ⟨(0, 0), fun z => absurd z hi⟩
  obtain ⟨ad, had⟩ := Classical.axiomOfChoice hst
  obtain ⟨so, hso⟩ : ∃ so : Nat, va_Z "jdk/internal/util/Preconditions" "SIOOBE_FORMATTER" "Ljava/util/function/BiFunction;" .null (fun q => s.heap.size ≤ q) s s.heap ∨ va_Z "jdk/internal/util/Preconditions" "SIOOBE_FORMATTER" "Ljava/util/function/BiFunction;" (.ref so) (fun q => s.heap.size ≤ q) s s.heap := by
    rcases sio_at hts hs hA with h | ⟨t, h⟩
    · exact ⟨0, Or.inl h⟩
    · exact ⟨t, Or.inr h⟩
  refine ⟨(fun _ _ => 0, (fun i => (ad i).1, fun i => if i = 999 then so else (ad i).2), (fun c => (dd c).1, fun c => (dd c).2), fun f => (match zlyM.1 f with | .inr (ty, _) => ar ty | .inl _ => 0), fun _ _ => False), fun f i h => h, ⟨fun c q hq => hdd c q hq, fun f ty n h => ?_, (fun q hq => (by cases hq)), fun f C n h => ?_⟩, fun i b hb => ?_, ldc_M (A := fun q => s.heap.size ≤ q) (ad := ad) hts (fun i hi => had i hi) (fun _ _ => rfl), cmp_at hts hs hA, hso⟩
  · have hk := kd_M f ty n h
    have e : (match zlyM.1 f with | .inr (ty, _) => ar ty | .inl _ => 0) = ar ty := by
      change zlyM.1 f = .inr (ty, n) at h
      rw [h]
    show ArrOfT s (match zlyM.1 f with | .inr (ty, _) => ar ty | .inl _ => 0) ty ∧ va_RA s (match zlyM.1 f with | .inr (ty, _) => ar ty | .inl _ => 0) ty
    rw [e]
    exact har ty hk
  · have hk := kd_M f (.object C) n h
    unfold tyL at hk
    rcases hk with hk | hk | hk | hk | hk | hk
    · cases hk
    · cases hk
    · cases hk
    · cases hk
    · cases hk; exact va_AO.of (hts _ (wC_1 _ (List.mem_of_getElem? (i := 160) rfl)))
    · cases hk; exact va_AO.of (hts _ (wC_2 _ (List.mem_of_getElem? (i := 74) rfl)))
  · change zstrM[i]? = some b at hb
    have hi : i < 22 := (List.getElem?_eq_some_iff.mp hb).1
    have eb : zstrM.getD i [] = b := by rw [List.getD_eq_getElem?_getD, hb]; rfl
    have h := had i hi
    rw [eb] at h
    obtain ⟨-, a1, a2, a3, a4⟩ := h
    have n9 : ¬ i = 999 := by omega
    refine ⟨a1, a2, ?_, ?_⟩
    · show va_OF "java/lang/String" "value" "[B" (.ref (if i = 999 then so else (ad i).2)) (ad i).1 _ s s.heap
      rw [if_neg n9]
      exact a3
    · show va_T .byte (if i = 999 then so else (ad i).2) b.length _ _ s s.heap
      rw [if_neg n9]
      exact a4
