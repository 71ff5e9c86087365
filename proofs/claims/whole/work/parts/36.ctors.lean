/-! CONSTRUCTORS, third part: the layouts while building, the contracts (by program) -/
def zlyCK : zLy := (zlyC.1, fun f k => if zlyC.2.1 f k = 2 then 3 else zlyC.2.1 f k, zlyC.2.2)
def zlyMK : zLy := (zlyM.1, fun f k => if zlyM.2.1 f k = 2 then 3 else zlyM.2.1 f k, zlyM.2.2)
def zsyCK : zSy := (zlyCK, znsC, zstrC, zldcC)
def zsyMK : zSy := (zlyMK, [], zstrM, zldcM)
theorem no2C (f k : Nat) : zlyCK.2.1 f k ≠ 2 := by
  show (if zlyC.2.1 f k = 2 then 3 else zlyC.2.1 f k) ≠ 2
  by_cases h : zlyC.2.1 f k = 2
  · rw [if_pos h]; decide
  · rw [if_neg h]; exact h
theorem no2M (f k : Nat) : zlyMK.2.1 f k ≠ 2 := by
  show (if zlyM.2.1 f k = 2 then 3 else zlyM.2.1 f k) ≠ 2
  by_cases h : zlyM.2.1 f k = 2
  · rw [if_pos h]; decide
  · rw [if_neg h]; exact h
theorem zwI_ne {σ : zG} {f i k g j q : Nat} {x : Int32} (h : (g, j) ≠ (f, i)) : (zwI σ f i k x).1 g j q = σ.1 g j q := by
  show (if g = f ∧ j = i ∧ q = k then x else σ.1 g j q) = _
  rw [if_neg]
  rintro ⟨rfl, rfl, -⟩
  exact h rfl
theorem zwI_2 {σ : zG} {f i k g j q : Nat} {x : Int32} : (zwI σ f i k x).2 g j q = σ.2 g j q := rfl
theorem wk_116 : Cond.initialized "NobodyThere$Strangers" ∈ zTB := zW_at wC_1 3 rfl rfl
theorem wk_117 : Cond.initialized "NobodyThere$WalkerList" ∈ zTB := zW_at wC_1 4 rfl rfl
theorem wk_118 : Cond.initialized "NobodyThere$Paths" ∈ zTB := zW_at wC_1 5 rfl rfl
theorem wk_119 : Cond.initialized "NobodyThere$Law" ∈ zTB := zW_at wC_1 6 rfl rfl
theorem wk_120 : Cond.initialized "NobodyThere$Shot" ∈ zTB := zW_at wC_1 7 rfl rfl
theorem wk_122 : Cond.initialized "NobodyThere$Kept" ∈ zTB := zW_at wC_1 9 rfl rfl
theorem wk_123 : Cond.initialized "NobodyThere$Tape" ∈ zTB := zW_at wC_1 10 rfl rfl
theorem wk_124 : Cond.initialized "NobodyThere$Parser" ∈ zTB := zW_at wC_1 11 rfl rfl
theorem wk_125 : Cond.initialized "NobodyThere$Thought" ∈ zTB := zW_at wC_1 12 rfl rfl
theorem wk_126 : Cond.initialized "NobodyThere$Album" ∈ zTB := zW_at wC_1 13 rfl rfl
theorem wk_142 : Cond.instanceMethod Lib.objectInit ∈ zTB := zW_at wC_1 29 rfl rfl
theorem wk_143 : Cond.code Lib.objectInit ⟨#[0xb1]⟩ 1 none ∈ zTB := zW_at wC_1 30 rfl rfl
theorem wk_151 : Cond.instantiable "NobodyThere$Strangers" 4 ∈ zTB := zW_at wC_1 38 rfl rfl
theorem wk_153 : Cond.instanceMethod yX7_init ∈ zTB := zW_at wC_1 40 rfl rfl
theorem wk_154 : Cond.code yX7_init cX7_init 1 none ∈ zTB := zW_at wC_1 41 rfl rfl
theorem wk_155 : Cond.methodLink RX7 3 Lib.objectInit ∈ zTB := zW_at wC_1 42 rfl rfl
theorem wk_159 : Cond.fieldLink RX7 9 "NobodyThere$Strangers" "spot" "[I" ∈ zTB := zW_at wC_1 46 rfl rfl
theorem wk_161 : Cond.fieldLink RX7 15 "NobodyThere$Strangers" "until" "[I" ∈ zTB := zW_at wC_1 48 rfl rfl
theorem wk_163 : Cond.fieldLink RX7 18 "NobodyThere$Strangers" "came" "[I" ∈ zTB := zW_at wC_1 50 rfl rfl
theorem wk_174 : Cond.arrayClass .int ∈ zTB := zW_at wC_1 61 rfl rfl
theorem wk_176 : Cond.instantiable "NobodyThere$WalkerList" 7 ∈ zTB := zW_at wC_1 63 rfl rfl
theorem wk_178 : Cond.instanceMethod yX10_init ∈ zTB := zW_at wC_1 65 rfl rfl
theorem wk_179 : Cond.code yX10_init cX10_init 1 none ∈ zTB := zW_at wC_1 66 rfl rfl
theorem wk_180 : Cond.methodLink RX10 3 Lib.objectInit ∈ zTB := zW_at wC_1 67 rfl rfl
theorem wk_187 : Cond.fieldLink RX10 9 "NobodyThere$WalkerList" "tone" "[I" ∈ zTB := zW_at wC_1 74 rfl rfl
theorem wk_191 : Cond.fieldLink RX10 15 "NobodyThere$WalkerList" "comes" "[I" ∈ zTB := zW_at wC_1 78 rfl rfl
theorem wk_195 : Cond.fieldLink RX10 18 "NobodyThere$WalkerList" "spot" "[I" ∈ zTB := zW_at wC_1 82 rfl rfl
theorem wk_199 : Cond.fieldLink RX10 21 "NobodyThere$WalkerList" "parts" "[I" ∈ zTB := zW_at wC_1 86 rfl rfl
theorem wk_202 : Cond.fieldLink RX10 24 "NobodyThere$WalkerList" "partKind" "[I" ∈ zTB := zW_at wC_1 89 rfl rfl
theorem wk_204 : Cond.fieldLink RX10 27 "NobodyThere$WalkerList" "partLasts" "[I" ∈ zTB := zW_at wC_1 91 rfl rfl
theorem wk_224 : Cond.instanceMethod yX5_init ∈ zTB := zW_at wC_1 111 rfl rfl
theorem wk_225 : Cond.code yX5_init cX5_init 1 none ∈ zTB := zW_at wC_1 112 rfl rfl
theorem wk_226 : Cond.methodLink RX5 3 Lib.objectInit ∈ zTB := zW_at wC_1 113 rfl rfl
theorem wk_227 : Cond.fieldLink RX5 9 "NobodyThere$Paths" "spots" "[B" ∈ zTB := zW_at wC_1 114 rfl rfl
theorem wk_228 : Cond.fieldLink RX5 15 "NobodyThere$Paths" "cover" "[J" ∈ zTB := zW_at wC_1 115 rfl rfl
theorem wk_235 : Cond.arrayClass .byte ∈ zTB := zW_at wC_1 122 rfl rfl
theorem wk_236 : Cond.arrayClass .long ∈ zTB := zW_at wC_1 123 rfl rfl
theorem wk_238 : Cond.instantiable "NobodyThere$Law" 8 ∈ zTB := zW_at wC_1 125 rfl rfl
theorem wk_240 : Cond.instanceMethod yX3_init ∈ zTB := zW_at wC_1 127 rfl rfl
theorem wk_241 : Cond.code yX3_init cX3_init 1 none ∈ zTB := zW_at wC_1 128 rfl rfl
theorem wk_242 : Cond.methodLink RX3 3 Lib.objectInit ∈ zTB := zW_at wC_1 129 rfl rfl
theorem wk_248 : Cond.fieldLink RX3 9 "NobodyThere$Law" "orders" "[I" ∈ zTB := zW_at wC_1 135 rfl rfl
theorem wk_249 : Cond.fieldLink RX3 15 "NobodyThere$Law" "valueFrom" "[I" ∈ zTB := zW_at wC_1 136 rfl rfl
theorem wk_250 : Cond.fieldLink RX3 18 "NobodyThere$Law" "testFrom" "[I" ∈ zTB := zW_at wC_1 137 rfl rfl
theorem wk_251 : Cond.fieldLink RX3 21 "NobodyThere$Law" "lineEnd" "[I" ∈ zTB := zW_at wC_1 138 rfl rfl
theorem wk_252 : Cond.fieldLink RX3 24 "NobodyThere$Law" "asked" "[I" ∈ zTB := zW_at wC_1 139 rfl rfl
theorem wk_254 : Cond.fieldLink RX3 27 "NobodyThere$Law" "stack" "[I" ∈ zTB := zW_at wC_1 141 rfl rfl
theorem wk_276 : Cond.instanceMethod yX6_init ∈ zTB := zW_at wC_1 163 rfl rfl
theorem wk_277 : Cond.code yX6_init cX6_init 1 none ∈ zTB := zW_at wC_1 164 rfl rfl
theorem wk_278 : Cond.methodLink RX6 3 Lib.objectInit ∈ zTB := zW_at wC_1 165 rfl rfl
theorem wk_296 : Cond.fieldLink RX6 9 "NobodyThere$Shot" "tone" "[B" ∈ zTB := zW_at wC_1 183 rfl rfl
theorem wk_301 : Cond.fieldLink RX6 15 "NobodyThere$Shot" "who" "[B" ∈ zTB := zW_at wC_1 188 rfl rfl
theorem wk_423 : Cond.instanceMethod yX2_init ∈ zTB := zW_at wC_2 70 rfl rfl
theorem wk_424 : Cond.code yX2_init cX2_init 2 none ∈ zTB := zW_at wC_2 71 rfl rfl
theorem wk_425 : Cond.methodLink RX2 3 Lib.objectInit ∈ zTB := zW_at wC_2 72 rfl rfl
theorem wk_426 : Cond.classLink RX2 24 "NobodyThere$Strangers" ∈ zTB := zW_at wC_2 73 rfl rfl
theorem wk_432 : Cond.fieldLink RX2 9 "NobodyThere$Kept" "draws" "[I" ∈ zTB := zW_at wC_2 79 rfl rfl
theorem wk_433 : Cond.fieldLink RX2 15 "NobodyThere$Kept" "minute" "[I" ∈ zTB := zW_at wC_2 80 rfl rfl
theorem wk_434 : Cond.fieldLink RX2 18 "NobodyThere$Kept" "aside" "[I" ∈ zTB := zW_at wC_2 81 rfl rfl
theorem wk_435 : Cond.fieldLink RX2 21 "NobodyThere$Kept" "shotCount" "[I" ∈ zTB := zW_at wC_2 82 rfl rfl
theorem wk_436 : Cond.fieldLink RX2 26 "NobodyThere$Kept" "strangers" "[LNobodyThere$Strangers;" ∈ zTB := zW_at wC_2 83 rfl rfl
theorem wk_455 : Cond.instanceMethod yX8_init ∈ zTB := zW_at wC_2 102 rfl rfl
theorem wk_456 : Cond.code yX8_init cX8_init 1 none ∈ zTB := zW_at wC_2 103 rfl rfl
theorem wk_457 : Cond.methodLink RX8 3 Lib.objectInit ∈ zTB := zW_at wC_2 104 rfl rfl
theorem wk_458 : Cond.fieldLink RX8 9 "NobodyThere$Tape" "bytes" "[C" ∈ zTB := zW_at wC_2 105 rfl rfl
theorem wk_461 : Cond.fieldLink RX8 15 "NobodyThere$Tape" "kinds" "[I" ∈ zTB := zW_at wC_2 108 rfl rfl
theorem wk_463 : Cond.fieldLink RX8 19 "NobodyThere$Tape" "numbers" "[I" ∈ zTB := zW_at wC_2 110 rfl rfl
theorem wk_465 : Cond.fieldLink RX8 22 "NobodyThere$Tape" "places" "[I" ∈ zTB := zW_at wC_2 112 rfl rfl
theorem wk_485 : Cond.arrayClass .char ∈ zTB := zW_at wC_2 132 rfl rfl
theorem wk_489 : Cond.instanceMethod yX4_init ∈ zTB := zW_at wC_2 136 rfl rfl
theorem wk_490 : Cond.code yX4_init cX4_init 2 none ∈ zTB := zW_at wC_2 137 rfl rfl
theorem wk_491 : Cond.methodLink RX4 3 Lib.objectInit ∈ zTB := zW_at wC_2 138 rfl rfl
theorem wk_492 : Cond.classLink RX4 9 "NobodyThere$WalkerList" ∈ zTB := zW_at wC_2 139 rfl rfl
theorem wk_494 : Cond.classLink RX4 18 "NobodyThere$Law" ∈ zTB := zW_at wC_2 141 rfl rfl
theorem wk_496 : Cond.fieldLink RX4 29 "NobodyThere$Parser" "tape" "LNobodyThere$Tape;" ∈ zTB := zW_at wC_2 143 rfl rfl
theorem wk_497 : Cond.fieldLink RX4 12 "NobodyThere$Parser" "walkers" "LNobodyThere$WalkerList;" ∈ zTB := zW_at wC_2 144 rfl rfl
theorem wk_499 : Cond.fieldLink RX4 21 "NobodyThere$Parser" "law" "LNobodyThere$Law;" ∈ zTB := zW_at wC_2 146 rfl rfl
theorem wk_503 : Cond.fieldLink RX4 25 "NobodyThere$Parser" "faultPlace" "I" ∈ zTB := zW_at wC_2 150 rfl rfl
theorem wk_534 : Cond.instanceMethod yX9_init ∈ zTB := zW_at wC_2 181 rfl rfl
theorem wk_535 : Cond.code yX9_init cX9_init 2 none ∈ zTB := zW_at wC_2 182 rfl rfl
theorem wk_536 : Cond.methodLink RX9 3 Lib.objectInit ∈ zTB := zW_at wC_2 183 rfl rfl
theorem wk_537 : Cond.fieldLink RX9 22 "NobodyThere$Thought" "now" "LNobodyThere$Bridge;" ∈ zTB := zW_at wC_2 184 rfl rfl
theorem wk_538 : Cond.fieldLink RX9 9 "NobodyThere$Thought" "counts" "[I" ∈ zTB := zW_at wC_2 185 rfl rfl
theorem wk_539 : Cond.fieldLink RX9 15 "NobodyThere$Thought" "hidden" "[J" ∈ zTB := zW_at wC_2 186 rfl rfl
theorem wk_540 : Cond.fieldLink RX9 19 "NobodyThere$Thought" "chances" "[I" ∈ zTB := zW_at wC_2 187 rfl rfl
theorem wk_562 : Cond.instanceMethod yX0_init ∈ zTB := zW_at wC_2 209 rfl rfl
theorem wk_563 : Cond.code yX0_init cX0_init 2 none ∈ zTB := zW_at wC_2 210 rfl rfl
theorem wk_564 : Cond.methodLink RX0 3 Lib.objectInit ∈ zTB := zW_at wC_2 211 rfl rfl
theorem wk_565 : Cond.fieldLink RX0 9 "NobodyThere$Album" "now" "LNobodyThere$Bridge;" ∈ zTB := zW_at wC_2 212 rfl rfl
def L_X7_init : List (Nat × Instr × Nat) := [(0, .aload_n 0, 1), (1, .invokespecial 3, 3), (4, .aload_n 0, 1), (5, .bipush 8, 2), (7, .newarray .int, 2), (9, .putfield 9, 3), (12, .aload_n 0, 1), (13, .bipush 8, 2), (15, .newarray .int, 2), (17, .putfield 15, 3), (20, .aload_n 0, 1), (21, .bipush 8, 2), (23, .newarray .int, 2), (25, .putfield 18, 3), (28, .return_, 1)]
set_option maxRecDepth 100000 in
theorem D_X7_init : zdecs cX7_init L_X7_init = true := by decide +kernel
abbrev mc_X7 : zMT := (RX7, cX7_init, 1, 2, none)
theorem zi_X7 : zcI yX7_init mc_X7 0 := ⟨⟨wk_116, wk_154, by decide +kernel, by decide +kernel, by decide +kernel⟩, wk_153, rfl, rfl⟩
def k_X7 (i : Nat) (σ : zG) : zG := zwI (zwI (zwI (σ) 7 i 1 1) 7 i 2 1) 7 i 3 1
theorem k_X7_keep (i : Nat) (σ : zG) (g j : Nat) (h1 : (g, j) ≠ (7, i)) (h2 : (g, j) ∉ ([(12, i), (13, i), (14, i)] : List (Nat × Nat))) (q : Nat) : (k_X7 i σ).1 g j q = σ.1 g j q ∧ (k_X7 i σ).2 g j q = σ.2 g j q := by

  unfold k_X7
  exact ⟨by rw [zwI_ne h1, zwI_ne h1, zwI_ne h1], by rw [zwI_2, zwI_2, zwI_2]⟩
set_option maxRecDepth 100000 in
set_option maxHeartbeats 4000000 in
theorem ct_X7 (l : Launch) (i : Nat) (σ : zG) : zCt l zsyCK mc_X7 yX7_init 7 i [] [(12, i), (13, i), (14, i)] σ (k_X7 i σ) 3 24 := by
  refine yEnter [(0, zR 7 i)] (by decide) rfl rfl (fun _ => Nat.le_of_ble_eq_true rfl) (fun _ => rfl) (fun w h => zokm rfl h) (fun K w hRm hQ => ?_)
  refine y_aload_n (pc := 0) 0 (zdg D_X7_init 0 (0, .aload_n 0, 1) rfl) rfl rfl ?_
  refine y_obj (pc := 1) ⟨wk_155, wk_142, wk_143⟩ (fun _ _ _ _ _ _ _ _ _ _ _ _ h => by rw [hRm _ _ _ _ _ _ _ _ _ _ _ _ h]; exact ⟨by decide, by decide⟩) (zdg D_X7_init 1 (1, .invokespecial 3, 3) rfl) ?_
  refine y_aload_n (pc := 4) 0 (zdg D_X7_init 2 (4, .aload_n 0, 1) rfl) rfl rfl ?_
  refine y_bipush (pc := 5) (v := 8) (zdg D_X7_init 3 (5, .bipush 8, 2) rfl) rfl ?_
  refine y_newa (pc := 7) (f := 12) (i := i) rfl (fun _ => Or.inl rfl) rfl (fun _ => rfl) (fun _ => rfl) (fun _ _ h => h) rfl rfl (by decide) wk_174 (fun _ _ _ _ _ _ _ _ _ _ _ _ h => by rw [hRm _ _ _ _ _ _ _ _ _ _ _ _ h]; exact ⟨by decide, by decide⟩) (zdg D_X7_init 4 (7, .newarray .int, 2) rfl) (fun w => ?_)
  refine y_putR (pc := 9) (k := 1) (ty := tyX7 1) ⟨RX7, TX7, 4, tyX7, rfl, ix_X7, Nat.le_of_ble_eq_true rfl, wk_159, tyX7_ok, nmX7, rfl, rfl, by decide +kernel⟩ rfl rfl rfl (fun _ => ⟨rfl, rfl⟩) (zdg D_X7_init 5 (9, .putfield 9, 3) rfl) ?_
  refine y_aload_n (pc := 12) 0 (zdg D_X7_init 6 (12, .aload_n 0, 1) rfl) rfl rfl ?_
  refine y_bipush (pc := 13) (v := 8) (zdg D_X7_init 7 (13, .bipush 8, 2) rfl) rfl ?_
  refine y_newa (pc := 15) (f := 13) (i := i) rfl (fun _ => Or.inl rfl) rfl (fun _ => rfl) (fun _ => rfl) (fun _ _ h => h) rfl rfl (by decide) wk_174 (fun _ _ _ _ _ _ _ _ _ _ _ _ h => by rw [hRm _ _ _ _ _ _ _ _ _ _ _ _ h]; exact ⟨by decide, by decide⟩) (zdg D_X7_init 8 (15, .newarray .int, 2) rfl) (fun w => ?_)
  refine y_putR (pc := 17) (k := 2) (ty := tyX7 2) ⟨RX7, TX7, 4, tyX7, rfl, ix_X7, Nat.le_of_ble_eq_true rfl, wk_161, tyX7_ok, nmX7, rfl, rfl, by decide +kernel⟩ rfl rfl rfl (fun _ => ⟨rfl, rfl⟩) (zdg D_X7_init 9 (17, .putfield 15, 3) rfl) ?_
  refine y_aload_n (pc := 20) 0 (zdg D_X7_init 10 (20, .aload_n 0, 1) rfl) rfl rfl ?_
  refine y_bipush (pc := 21) (v := 8) (zdg D_X7_init 11 (21, .bipush 8, 2) rfl) rfl ?_
  refine y_newa (pc := 23) (f := 14) (i := i) rfl (fun _ => Or.inl rfl) rfl (fun _ => rfl) (fun _ => rfl) (fun _ _ h => h) rfl rfl (by decide) wk_174 (fun _ _ _ _ _ _ _ _ _ _ _ _ h => by rw [hRm _ _ _ _ _ _ _ _ _ _ _ _ h]; exact ⟨by decide, by decide⟩) (zdg D_X7_init 12 (23, .newarray .int, 2) rfl) (fun w => ?_)
  refine y_putR (pc := 25) (k := 3) (ty := tyX7 3) ⟨RX7, TX7, 4, tyX7, rfl, ix_X7, Nat.le_of_ble_eq_true rfl, wk_163, tyX7_ok, nmX7, rfl, rfl, by decide +kernel⟩ rfl rfl rfl (fun _ => ⟨rfl, rfl⟩) (zdg D_X7_init 13 (25, .putfield 18, 3) rfl) ?_
  exact y_vret (pc := 28) rfl hQ (zdg D_X7_init 14 (28, .return_, 1) rfl)
def L_X10_init : List (Nat × Instr × Nat) := [(0, .aload_n 0, 1), (1, .invokespecial 3, 3), (4, .aload_n 0, 1), (5, .bipush 12, 2), (7, .newarray .int, 2), (9, .putfield 9, 3), (12, .aload_n 0, 1), (13, .bipush 12, 2), (15, .newarray .int, 2), (17, .putfield 15, 3), (20, .aload_n 0, 1), (21, .bipush 12, 2), (23, .newarray .int, 2), (25, .putfield 18, 3), (28, .aload_n 0, 1), (29, .bipush 12, 2), (31, .newarray .int, 2), (33, .putfield 21, 3), (36, .aload_n 0, 1), (37, .bipush 96, 2), (39, .newarray .int, 2), (41, .putfield 24, 3), (44, .aload_n 0, 1), (45, .bipush 96, 2), (47, .newarray .int, 2), (49, .putfield 27, 3), (52, .return_, 1)]
set_option maxRecDepth 100000 in
theorem D_X10_init : zdecs cX10_init L_X10_init = true := by decide +kernel
abbrev mc_X10 : zMT := (RX10, cX10_init, 1, 2, none)
theorem zi_X10 : zcI yX10_init mc_X10 0 := ⟨⟨wk_117, wk_179, by decide +kernel, by decide +kernel, by decide +kernel⟩, wk_178, rfl, rfl⟩
def k_X10 (i : Nat) (σ : zG) : zG := zwI (zwI (zwI (zwI (zwI (zwI (σ) 8 i 1 1) 8 i 2 1) 8 i 3 1) 8 i 4 1) 8 i 5 1) 8 i 6 1
theorem k_X10_keep (i : Nat) (σ : zG) (g j : Nat) (h1 : (g, j) ≠ (8, i)) (h2 : (g, j) ∉ ([(15, i), (16, i), (17, i), (18, i), (19, i), (20, i)] : List (Nat × Nat))) (q : Nat) : (k_X10 i σ).1 g j q = σ.1 g j q ∧ (k_X10 i σ).2 g j q = σ.2 g j q := by

  unfold k_X10
  exact ⟨by rw [zwI_ne h1, zwI_ne h1, zwI_ne h1, zwI_ne h1, zwI_ne h1, zwI_ne h1], by rw [zwI_2, zwI_2, zwI_2, zwI_2, zwI_2, zwI_2]⟩
set_option maxRecDepth 100000 in
set_option maxHeartbeats 4000000 in
theorem ct_X10 (l : Launch) (i : Nat) (σ : zG) : zCt l zsyCK mc_X10 yX10_init 8 i [] [(15, i), (16, i), (17, i), (18, i), (19, i), (20, i)] σ (k_X10 i σ) 6 240 := by
  refine yEnter [(0, zR 8 i)] (by decide) rfl rfl (fun _ => Nat.le_of_ble_eq_true rfl) (fun _ => rfl) (fun w h => zokm rfl h) (fun K w hRm hQ => ?_)
  refine y_aload_n (pc := 0) 0 (zdg D_X10_init 0 (0, .aload_n 0, 1) rfl) rfl rfl ?_
  refine y_obj (pc := 1) ⟨wk_180, wk_142, wk_143⟩ (fun _ _ _ _ _ _ _ _ _ _ _ _ h => by rw [hRm _ _ _ _ _ _ _ _ _ _ _ _ h]; exact ⟨by decide, by decide⟩) (zdg D_X10_init 1 (1, .invokespecial 3, 3) rfl) ?_
  refine y_aload_n (pc := 4) 0 (zdg D_X10_init 2 (4, .aload_n 0, 1) rfl) rfl rfl ?_
  refine y_bipush (pc := 5) (v := 12) (zdg D_X10_init 3 (5, .bipush 12, 2) rfl) rfl ?_
  refine y_newa (pc := 7) (f := 15) (i := i) rfl (fun _ => Or.inl rfl) rfl (fun _ => rfl) (fun _ => rfl) (fun _ _ h => h) rfl rfl (by decide) wk_174 (fun _ _ _ _ _ _ _ _ _ _ _ _ h => by rw [hRm _ _ _ _ _ _ _ _ _ _ _ _ h]; exact ⟨by decide, by decide⟩) (zdg D_X10_init 4 (7, .newarray .int, 2) rfl) (fun w => ?_)
  refine y_putR (pc := 9) (k := 1) (ty := tyX10 1) ⟨RX10, TX10, 7, tyX10, rfl, ix_X10, Nat.le_of_ble_eq_true rfl, wk_187, tyX10_ok, nmX10, rfl, rfl, by decide +kernel⟩ rfl rfl rfl (fun _ => ⟨rfl, rfl⟩) (zdg D_X10_init 5 (9, .putfield 9, 3) rfl) ?_
  refine y_aload_n (pc := 12) 0 (zdg D_X10_init 6 (12, .aload_n 0, 1) rfl) rfl rfl ?_
  refine y_bipush (pc := 13) (v := 12) (zdg D_X10_init 7 (13, .bipush 12, 2) rfl) rfl ?_
  refine y_newa (pc := 15) (f := 16) (i := i) rfl (fun _ => Or.inl rfl) rfl (fun _ => rfl) (fun _ => rfl) (fun _ _ h => h) rfl rfl (by decide) wk_174 (fun _ _ _ _ _ _ _ _ _ _ _ _ h => by rw [hRm _ _ _ _ _ _ _ _ _ _ _ _ h]; exact ⟨by decide, by decide⟩) (zdg D_X10_init 8 (15, .newarray .int, 2) rfl) (fun w => ?_)
  refine y_putR (pc := 17) (k := 2) (ty := tyX10 2) ⟨RX10, TX10, 7, tyX10, rfl, ix_X10, Nat.le_of_ble_eq_true rfl, wk_191, tyX10_ok, nmX10, rfl, rfl, by decide +kernel⟩ rfl rfl rfl (fun _ => ⟨rfl, rfl⟩) (zdg D_X10_init 9 (17, .putfield 15, 3) rfl) ?_
  refine y_aload_n (pc := 20) 0 (zdg D_X10_init 10 (20, .aload_n 0, 1) rfl) rfl rfl ?_
  refine y_bipush (pc := 21) (v := 12) (zdg D_X10_init 11 (21, .bipush 12, 2) rfl) rfl ?_
  refine y_newa (pc := 23) (f := 17) (i := i) rfl (fun _ => Or.inl rfl) rfl (fun _ => rfl) (fun _ => rfl) (fun _ _ h => h) rfl rfl (by decide) wk_174 (fun _ _ _ _ _ _ _ _ _ _ _ _ h => by rw [hRm _ _ _ _ _ _ _ _ _ _ _ _ h]; exact ⟨by decide, by decide⟩) (zdg D_X10_init 12 (23, .newarray .int, 2) rfl) (fun w => ?_)
  refine y_putR (pc := 25) (k := 3) (ty := tyX10 3) ⟨RX10, TX10, 7, tyX10, rfl, ix_X10, Nat.le_of_ble_eq_true rfl, wk_195, tyX10_ok, nmX10, rfl, rfl, by decide +kernel⟩ rfl rfl rfl (fun _ => ⟨rfl, rfl⟩) (zdg D_X10_init 13 (25, .putfield 18, 3) rfl) ?_
  refine y_aload_n (pc := 28) 0 (zdg D_X10_init 14 (28, .aload_n 0, 1) rfl) rfl rfl ?_
  refine y_bipush (pc := 29) (v := 12) (zdg D_X10_init 15 (29, .bipush 12, 2) rfl) rfl ?_
  refine y_newa (pc := 31) (f := 18) (i := i) rfl (fun _ => Or.inl rfl) rfl (fun _ => rfl) (fun _ => rfl) (fun _ _ h => h) rfl rfl (by decide) wk_174 (fun _ _ _ _ _ _ _ _ _ _ _ _ h => by rw [hRm _ _ _ _ _ _ _ _ _ _ _ _ h]; exact ⟨by decide, by decide⟩) (zdg D_X10_init 16 (31, .newarray .int, 2) rfl) (fun w => ?_)
  refine y_putR (pc := 33) (k := 4) (ty := tyX10 4) ⟨RX10, TX10, 7, tyX10, rfl, ix_X10, Nat.le_of_ble_eq_true rfl, wk_199, tyX10_ok, nmX10, rfl, rfl, by decide +kernel⟩ rfl rfl rfl (fun _ => ⟨rfl, rfl⟩) (zdg D_X10_init 17 (33, .putfield 21, 3) rfl) ?_
  refine y_aload_n (pc := 36) 0 (zdg D_X10_init 18 (36, .aload_n 0, 1) rfl) rfl rfl ?_
  refine y_bipush (pc := 37) (v := 96) (zdg D_X10_init 19 (37, .bipush 96, 2) rfl) rfl ?_
  refine y_newa (pc := 39) (f := 19) (i := i) rfl (fun _ => Or.inl rfl) rfl (fun _ => rfl) (fun _ => rfl) (fun _ _ h => h) rfl rfl (by decide) wk_174 (fun _ _ _ _ _ _ _ _ _ _ _ _ h => by rw [hRm _ _ _ _ _ _ _ _ _ _ _ _ h]; exact ⟨by decide, by decide⟩) (zdg D_X10_init 20 (39, .newarray .int, 2) rfl) (fun w => ?_)
  refine y_putR (pc := 41) (k := 5) (ty := tyX10 5) ⟨RX10, TX10, 7, tyX10, rfl, ix_X10, Nat.le_of_ble_eq_true rfl, wk_202, tyX10_ok, nmX10, rfl, rfl, by decide +kernel⟩ rfl rfl rfl (fun _ => ⟨rfl, rfl⟩) (zdg D_X10_init 21 (41, .putfield 24, 3) rfl) ?_
  refine y_aload_n (pc := 44) 0 (zdg D_X10_init 22 (44, .aload_n 0, 1) rfl) rfl rfl ?_
  refine y_bipush (pc := 45) (v := 96) (zdg D_X10_init 23 (45, .bipush 96, 2) rfl) rfl ?_
  refine y_newa (pc := 47) (f := 20) (i := i) rfl (fun _ => Or.inl rfl) rfl (fun _ => rfl) (fun _ => rfl) (fun _ _ h => h) rfl rfl (by decide) wk_174 (fun _ _ _ _ _ _ _ _ _ _ _ _ h => by rw [hRm _ _ _ _ _ _ _ _ _ _ _ _ h]; exact ⟨by decide, by decide⟩) (zdg D_X10_init 24 (47, .newarray .int, 2) rfl) (fun w => ?_)
  refine y_putR (pc := 49) (k := 6) (ty := tyX10 6) ⟨RX10, TX10, 7, tyX10, rfl, ix_X10, Nat.le_of_ble_eq_true rfl, wk_204, tyX10_ok, nmX10, rfl, rfl, by decide +kernel⟩ rfl rfl rfl (fun _ => ⟨rfl, rfl⟩) (zdg D_X10_init 25 (49, .putfield 27, 3) rfl) ?_
  exact y_vret (pc := 52) rfl hQ (zdg D_X10_init 26 (52, .return_, 1) rfl)
def L_X5_init : List (Nat × Instr × Nat) := [(0, .aload_n 0, 1), (1, .invokespecial 3, 3), (4, .aload_n 0, 1), (5, .sipush 6012, 3), (8, .newarray .byte, 2), (10, .putfield 9, 3), (13, .aload_n 0, 1), (14, .sipush 501, 3), (17, .newarray .long, 2), (19, .putfield 15, 3), (22, .return_, 1)]
set_option maxRecDepth 100000 in
theorem D_X5_init : zdecs cX5_init L_X5_init = true := by decide +kernel
abbrev mc_X5 : zMT := (RX5, cX5_init, 1, 2, none)
theorem zi_X5 : zcI yX5_init mc_X5 0 := ⟨⟨wk_118, wk_225, by decide +kernel, by decide +kernel, by decide +kernel⟩, wk_224, rfl, rfl⟩
def k_X5 (i : Nat) (σ : zG) : zG := zwI (zwI (σ) 9 i 0 1) 9 i 1 1
theorem k_X5_keep (i : Nat) (σ : zG) (g j : Nat) (h1 : (g, j) ≠ (9, i)) (h2 : (g, j) ∉ ([(21, i), (22, i)] : List (Nat × Nat))) (q : Nat) : (k_X5 i σ).1 g j q = σ.1 g j q ∧ (k_X5 i σ).2 g j q = σ.2 g j q := by

  unfold k_X5
  exact ⟨by rw [zwI_ne h1, zwI_ne h1], by rw [zwI_2, zwI_2]⟩
set_option maxRecDepth 100000 in
set_option maxHeartbeats 4000000 in
theorem ct_X5 (l : Launch) (i : Nat) (σ : zG) : zCt l zsyCK mc_X5 yX5_init 9 i [] [(21, i), (22, i)] σ (k_X5 i σ) 2 6513 := by
  refine yEnter [(0, zR 9 i)] (by decide) rfl rfl (fun _ => Nat.le_of_ble_eq_true rfl) (fun _ => rfl) (fun w h => zokm rfl h) (fun K w hRm hQ => ?_)
  refine y_aload_n (pc := 0) 0 (zdg D_X5_init 0 (0, .aload_n 0, 1) rfl) rfl rfl ?_
  refine y_obj (pc := 1) ⟨wk_226, wk_142, wk_143⟩ (fun _ _ _ _ _ _ _ _ _ _ _ _ h => by rw [hRm _ _ _ _ _ _ _ _ _ _ _ _ h]; exact ⟨by decide, by decide⟩) (zdg D_X5_init 1 (1, .invokespecial 3, 3) rfl) ?_
  refine y_aload_n (pc := 4) 0 (zdg D_X5_init 2 (4, .aload_n 0, 1) rfl) rfl rfl ?_
  refine y_sipush (pc := 5) (v := 6012) (zdg D_X5_init 3 (5, .sipush 6012, 3) rfl) rfl ?_
  refine y_newa (pc := 8) (f := 21) (i := i) rfl (fun _ => Or.inl rfl) rfl (fun _ => rfl) (fun _ => rfl) (fun _ _ h => h) rfl rfl (by decide) wk_235 (fun _ _ _ _ _ _ _ _ _ _ _ _ h => by rw [hRm _ _ _ _ _ _ _ _ _ _ _ _ h]; exact ⟨by decide, by decide⟩) (zdg D_X5_init 4 (8, .newarray .byte, 2) rfl) (fun w => ?_)
  refine y_putR (pc := 10) (k := 0) (ty := tyX5 0) ⟨RX5, TX5, 2, tyX5, rfl, ix_X5, Nat.le_of_ble_eq_true rfl, wk_227, tyX5_ok, nmX5, rfl, rfl, by decide +kernel⟩ rfl rfl rfl (fun _ => ⟨rfl, rfl⟩) (zdg D_X5_init 5 (10, .putfield 9, 3) rfl) ?_
  refine y_aload_n (pc := 13) 0 (zdg D_X5_init 6 (13, .aload_n 0, 1) rfl) rfl rfl ?_
  refine y_sipush (pc := 14) (v := 501) (zdg D_X5_init 7 (14, .sipush 501, 3) rfl) rfl ?_
  refine y_newa (pc := 17) (f := 22) (i := i) rfl (fun _ => Or.inr rfl) rfl (fun _ => rfl) (fun _ => rfl) (fun _ _ h => h) rfl rfl (by decide) wk_236 (fun _ _ _ _ _ _ _ _ _ _ _ _ h => by rw [hRm _ _ _ _ _ _ _ _ _ _ _ _ h]; exact ⟨by decide, by decide⟩) (zdg D_X5_init 8 (17, .newarray .long, 2) rfl) (fun w => ?_)
  refine y_putR (pc := 19) (k := 1) (ty := tyX5 1) ⟨RX5, TX5, 2, tyX5, rfl, ix_X5, Nat.le_of_ble_eq_true rfl, wk_228, tyX5_ok, nmX5, rfl, rfl, by decide +kernel⟩ rfl rfl rfl (fun _ => ⟨rfl, rfl⟩) (zdg D_X5_init 9 (19, .putfield 15, 3) rfl) ?_
  exact y_vret (pc := 22) rfl hQ (zdg D_X5_init 10 (22, .return_, 1) rfl)
def L_X3_init : List (Nat × Instr × Nat) := [(0, .aload_n 0, 1), (1, .invokespecial 3, 3), (4, .aload_n 0, 1), (5, .sipush 400, 3), (8, .newarray .int, 2), (10, .putfield 9, 3), (13, .aload_n 0, 1), (14, .bipush 16, 2), (16, .newarray .int, 2), (18, .putfield 15, 3), (21, .aload_n 0, 1), (22, .bipush 16, 2), (24, .newarray .int, 2), (26, .putfield 18, 3), (29, .aload_n 0, 1), (30, .bipush 16, 2), (32, .newarray .int, 2), (34, .putfield 21, 3), (37, .aload_n 0, 1), (38, .bipush 8, 2), (40, .newarray .int, 2), (42, .putfield 24, 3), (45, .aload_n 0, 1), (46, .bipush 40, 2), (48, .newarray .int, 2), (50, .putfield 27, 3), (53, .return_, 1)]
set_option maxRecDepth 100000 in
theorem D_X3_init : zdecs cX3_init L_X3_init = true := by decide +kernel
abbrev mc_X3 : zMT := (RX3, cX3_init, 1, 2, none)
theorem zi_X3 : zcI yX3_init mc_X3 0 := ⟨⟨wk_119, wk_241, by decide +kernel, by decide +kernel, by decide +kernel⟩, wk_240, rfl, rfl⟩
def k_X3 (i : Nat) (σ : zG) : zG := zwI (zwI (zwI (zwI (zwI (zwI (σ) 10 i 2 1) 10 i 3 1) 10 i 4 1) 10 i 5 1) 10 i 6 1) 10 i 7 1
theorem k_X3_keep (i : Nat) (σ : zG) (g j : Nat) (h1 : (g, j) ≠ (10, i)) (h2 : (g, j) ∉ ([(23, i), (24, i), (25, i), (26, i), (27, i), (28, i)] : List (Nat × Nat))) (q : Nat) : (k_X3 i σ).1 g j q = σ.1 g j q ∧ (k_X3 i σ).2 g j q = σ.2 g j q := by

  unfold k_X3
  exact ⟨by rw [zwI_ne h1, zwI_ne h1, zwI_ne h1, zwI_ne h1, zwI_ne h1, zwI_ne h1], by rw [zwI_2, zwI_2, zwI_2, zwI_2, zwI_2, zwI_2]⟩
set_option maxRecDepth 100000 in
set_option maxHeartbeats 4000000 in
theorem ct_X3 (l : Launch) (i : Nat) (σ : zG) : zCt l zsyCK mc_X3 yX3_init 10 i [] [(23, i), (24, i), (25, i), (26, i), (27, i), (28, i)] σ (k_X3 i σ) 6 496 := by
  refine yEnter [(0, zR 10 i)] (by decide) rfl rfl (fun _ => Nat.le_of_ble_eq_true rfl) (fun _ => rfl) (fun w h => zokm rfl h) (fun K w hRm hQ => ?_)
  refine y_aload_n (pc := 0) 0 (zdg D_X3_init 0 (0, .aload_n 0, 1) rfl) rfl rfl ?_
  refine y_obj (pc := 1) ⟨wk_242, wk_142, wk_143⟩ (fun _ _ _ _ _ _ _ _ _ _ _ _ h => by rw [hRm _ _ _ _ _ _ _ _ _ _ _ _ h]; exact ⟨by decide, by decide⟩) (zdg D_X3_init 1 (1, .invokespecial 3, 3) rfl) ?_
  refine y_aload_n (pc := 4) 0 (zdg D_X3_init 2 (4, .aload_n 0, 1) rfl) rfl rfl ?_
  refine y_sipush (pc := 5) (v := 400) (zdg D_X3_init 3 (5, .sipush 400, 3) rfl) rfl ?_
  refine y_newa (pc := 8) (f := 23) (i := i) rfl (fun _ => Or.inl rfl) rfl (fun _ => rfl) (fun _ => rfl) (fun _ _ h => h) rfl rfl (by decide) wk_174 (fun _ _ _ _ _ _ _ _ _ _ _ _ h => by rw [hRm _ _ _ _ _ _ _ _ _ _ _ _ h]; exact ⟨by decide, by decide⟩) (zdg D_X3_init 4 (8, .newarray .int, 2) rfl) (fun w => ?_)
  refine y_putR (pc := 10) (k := 2) (ty := tyX3 2) ⟨RX3, TX3, 8, tyX3, rfl, ix_X3, Nat.le_of_ble_eq_true rfl, wk_248, tyX3_ok, nmX3, rfl, rfl, by decide +kernel⟩ rfl rfl rfl (fun _ => ⟨rfl, rfl⟩) (zdg D_X3_init 5 (10, .putfield 9, 3) rfl) ?_
  refine y_aload_n (pc := 13) 0 (zdg D_X3_init 6 (13, .aload_n 0, 1) rfl) rfl rfl ?_
  refine y_bipush (pc := 14) (v := 16) (zdg D_X3_init 7 (14, .bipush 16, 2) rfl) rfl ?_
  refine y_newa (pc := 16) (f := 24) (i := i) rfl (fun _ => Or.inl rfl) rfl (fun _ => rfl) (fun _ => rfl) (fun _ _ h => h) rfl rfl (by decide) wk_174 (fun _ _ _ _ _ _ _ _ _ _ _ _ h => by rw [hRm _ _ _ _ _ _ _ _ _ _ _ _ h]; exact ⟨by decide, by decide⟩) (zdg D_X3_init 8 (16, .newarray .int, 2) rfl) (fun w => ?_)
  refine y_putR (pc := 18) (k := 3) (ty := tyX3 3) ⟨RX3, TX3, 8, tyX3, rfl, ix_X3, Nat.le_of_ble_eq_true rfl, wk_249, tyX3_ok, nmX3, rfl, rfl, by decide +kernel⟩ rfl rfl rfl (fun _ => ⟨rfl, rfl⟩) (zdg D_X3_init 9 (18, .putfield 15, 3) rfl) ?_
  refine y_aload_n (pc := 21) 0 (zdg D_X3_init 10 (21, .aload_n 0, 1) rfl) rfl rfl ?_
  refine y_bipush (pc := 22) (v := 16) (zdg D_X3_init 11 (22, .bipush 16, 2) rfl) rfl ?_
  refine y_newa (pc := 24) (f := 25) (i := i) rfl (fun _ => Or.inl rfl) rfl (fun _ => rfl) (fun _ => rfl) (fun _ _ h => h) rfl rfl (by decide) wk_174 (fun _ _ _ _ _ _ _ _ _ _ _ _ h => by rw [hRm _ _ _ _ _ _ _ _ _ _ _ _ h]; exact ⟨by decide, by decide⟩) (zdg D_X3_init 12 (24, .newarray .int, 2) rfl) (fun w => ?_)
  refine y_putR (pc := 26) (k := 4) (ty := tyX3 4) ⟨RX3, TX3, 8, tyX3, rfl, ix_X3, Nat.le_of_ble_eq_true rfl, wk_250, tyX3_ok, nmX3, rfl, rfl, by decide +kernel⟩ rfl rfl rfl (fun _ => ⟨rfl, rfl⟩) (zdg D_X3_init 13 (26, .putfield 18, 3) rfl) ?_
  refine y_aload_n (pc := 29) 0 (zdg D_X3_init 14 (29, .aload_n 0, 1) rfl) rfl rfl ?_
  refine y_bipush (pc := 30) (v := 16) (zdg D_X3_init 15 (30, .bipush 16, 2) rfl) rfl ?_
  refine y_newa (pc := 32) (f := 26) (i := i) rfl (fun _ => Or.inl rfl) rfl (fun _ => rfl) (fun _ => rfl) (fun _ _ h => h) rfl rfl (by decide) wk_174 (fun _ _ _ _ _ _ _ _ _ _ _ _ h => by rw [hRm _ _ _ _ _ _ _ _ _ _ _ _ h]; exact ⟨by decide, by decide⟩) (zdg D_X3_init 16 (32, .newarray .int, 2) rfl) (fun w => ?_)
  refine y_putR (pc := 34) (k := 5) (ty := tyX3 5) ⟨RX3, TX3, 8, tyX3, rfl, ix_X3, Nat.le_of_ble_eq_true rfl, wk_251, tyX3_ok, nmX3, rfl, rfl, by decide +kernel⟩ rfl rfl rfl (fun _ => ⟨rfl, rfl⟩) (zdg D_X3_init 17 (34, .putfield 21, 3) rfl) ?_
  refine y_aload_n (pc := 37) 0 (zdg D_X3_init 18 (37, .aload_n 0, 1) rfl) rfl rfl ?_
  refine y_bipush (pc := 38) (v := 8) (zdg D_X3_init 19 (38, .bipush 8, 2) rfl) rfl ?_
  refine y_newa (pc := 40) (f := 27) (i := i) rfl (fun _ => Or.inl rfl) rfl (fun _ => rfl) (fun _ => rfl) (fun _ _ h => h) rfl rfl (by decide) wk_174 (fun _ _ _ _ _ _ _ _ _ _ _ _ h => by rw [hRm _ _ _ _ _ _ _ _ _ _ _ _ h]; exact ⟨by decide, by decide⟩) (zdg D_X3_init 20 (40, .newarray .int, 2) rfl) (fun w => ?_)
  refine y_putR (pc := 42) (k := 6) (ty := tyX3 6) ⟨RX3, TX3, 8, tyX3, rfl, ix_X3, Nat.le_of_ble_eq_true rfl, wk_252, tyX3_ok, nmX3, rfl, rfl, by decide +kernel⟩ rfl rfl rfl (fun _ => ⟨rfl, rfl⟩) (zdg D_X3_init 21 (42, .putfield 24, 3) rfl) ?_
  refine y_aload_n (pc := 45) 0 (zdg D_X3_init 22 (45, .aload_n 0, 1) rfl) rfl rfl ?_
  refine y_bipush (pc := 46) (v := 40) (zdg D_X3_init 23 (46, .bipush 40, 2) rfl) rfl ?_
  refine y_newa (pc := 48) (f := 28) (i := i) rfl (fun _ => Or.inl rfl) rfl (fun _ => rfl) (fun _ => rfl) (fun _ _ h => h) rfl rfl (by decide) wk_174 (fun _ _ _ _ _ _ _ _ _ _ _ _ h => by rw [hRm _ _ _ _ _ _ _ _ _ _ _ _ h]; exact ⟨by decide, by decide⟩) (zdg D_X3_init 24 (48, .newarray .int, 2) rfl) (fun w => ?_)
  refine y_putR (pc := 50) (k := 7) (ty := tyX3 7) ⟨RX3, TX3, 8, tyX3, rfl, ix_X3, Nat.le_of_ble_eq_true rfl, wk_254, tyX3_ok, nmX3, rfl, rfl, by decide +kernel⟩ rfl rfl rfl (fun _ => ⟨rfl, rfl⟩) (zdg D_X3_init 25 (50, .putfield 27, 3) rfl) ?_
  exact y_vret (pc := 53) rfl hQ (zdg D_X3_init 26 (53, .return_, 1) rfl)
def L_X6_init : List (Nat × Instr × Nat) := [(0, .aload_n 0, 1), (1, .invokespecial 3, 3), (4, .aload_n 0, 1), (5, .bipush 56, 2), (7, .newarray .byte, 2), (9, .putfield 9, 3), (12, .aload_n 0, 1), (13, .bipush 56, 2), (15, .newarray .byte, 2), (17, .putfield 15, 3), (20, .return_, 1)]
set_option maxRecDepth 100000 in
theorem D_X6_init : zdecs cX6_init L_X6_init = true := by decide +kernel
abbrev mc_X6 : zMT := (RX6, cX6_init, 1, 2, none)
theorem zi_X6 : zcI yX6_init mc_X6 0 := ⟨⟨wk_120, wk_277, by decide +kernel, by decide +kernel, by decide +kernel⟩, wk_276, rfl, rfl⟩
def k_X6 (i : Nat) (σ : zG) : zG := zwI (zwI (σ) 11 i 5 1) 11 i 6 1
theorem k_X6_keep (i : Nat) (σ : zG) (g j : Nat) (h1 : (g, j) ≠ (11, i)) (h2 : (g, j) ∉ ([(29, i), (30, i)] : List (Nat × Nat))) (q : Nat) : (k_X6 i σ).1 g j q = σ.1 g j q ∧ (k_X6 i σ).2 g j q = σ.2 g j q := by

  unfold k_X6
  exact ⟨by rw [zwI_ne h1, zwI_ne h1], by rw [zwI_2, zwI_2]⟩
set_option maxRecDepth 100000 in
set_option maxHeartbeats 4000000 in
theorem ct_X6 (l : Launch) (i : Nat) (σ : zG) : zCt l zsyCK mc_X6 yX6_init 11 i [] [(29, i), (30, i)] σ (k_X6 i σ) 2 112 := by
  refine yEnter [(0, zR 11 i)] (by decide) rfl rfl (fun _ => Nat.le_of_ble_eq_true rfl) (fun _ => rfl) (fun w h => zokm rfl h) (fun K w hRm hQ => ?_)
  refine y_aload_n (pc := 0) 0 (zdg D_X6_init 0 (0, .aload_n 0, 1) rfl) rfl rfl ?_
  refine y_obj (pc := 1) ⟨wk_278, wk_142, wk_143⟩ (fun _ _ _ _ _ _ _ _ _ _ _ _ h => by rw [hRm _ _ _ _ _ _ _ _ _ _ _ _ h]; exact ⟨by decide, by decide⟩) (zdg D_X6_init 1 (1, .invokespecial 3, 3) rfl) ?_
  refine y_aload_n (pc := 4) 0 (zdg D_X6_init 2 (4, .aload_n 0, 1) rfl) rfl rfl ?_
  refine y_bipush (pc := 5) (v := 56) (zdg D_X6_init 3 (5, .bipush 56, 2) rfl) rfl ?_
  refine y_newa (pc := 7) (f := 29) (i := i) rfl (fun _ => Or.inl rfl) rfl (fun _ => rfl) (fun _ => rfl) (fun _ _ h => h) rfl rfl (by decide) wk_235 (fun _ _ _ _ _ _ _ _ _ _ _ _ h => by rw [hRm _ _ _ _ _ _ _ _ _ _ _ _ h]; exact ⟨by decide, by decide⟩) (zdg D_X6_init 4 (7, .newarray .byte, 2) rfl) (fun w => ?_)
  refine y_putR (pc := 9) (k := 5) (ty := tyX6 5) ⟨RX6, TX6, 7, tyX6, rfl, ix_X6, Nat.le_of_ble_eq_true rfl, wk_296, tyX6_ok, nmX6, rfl, rfl, by decide +kernel⟩ rfl rfl rfl (fun _ => ⟨rfl, rfl⟩) (zdg D_X6_init 5 (9, .putfield 9, 3) rfl) ?_
  refine y_aload_n (pc := 12) 0 (zdg D_X6_init 6 (12, .aload_n 0, 1) rfl) rfl rfl ?_
  refine y_bipush (pc := 13) (v := 56) (zdg D_X6_init 7 (13, .bipush 56, 2) rfl) rfl ?_
  refine y_newa (pc := 15) (f := 30) (i := i) rfl (fun _ => Or.inl rfl) rfl (fun _ => rfl) (fun _ => rfl) (fun _ _ h => h) rfl rfl (by decide) wk_235 (fun _ _ _ _ _ _ _ _ _ _ _ _ h => by rw [hRm _ _ _ _ _ _ _ _ _ _ _ _ h]; exact ⟨by decide, by decide⟩) (zdg D_X6_init 8 (15, .newarray .byte, 2) rfl) (fun w => ?_)
  refine y_putR (pc := 17) (k := 6) (ty := tyX6 6) ⟨RX6, TX6, 7, tyX6, rfl, ix_X6, Nat.le_of_ble_eq_true rfl, wk_301, tyX6_ok, nmX6, rfl, rfl, by decide +kernel⟩ rfl rfl rfl (fun _ => ⟨rfl, rfl⟩) (zdg D_X6_init 9 (17, .putfield 15, 3) rfl) ?_
  exact y_vret (pc := 20) rfl hQ (zdg D_X6_init 10 (20, .return_, 1) rfl)
def L_X8_init : List (Nat × Instr × Nat) := [(0, .aload_n 0, 1), (1, .invokespecial 3, 3), (4, .aload_n 0, 1), (5, .sipush 400, 3), (8, .newarray .char, 2), (10, .putfield 9, 3), (13, .aload_n 0, 1), (14, .sipush 401, 3), (17, .newarray .int, 2), (19, .putfield 15, 3), (22, .aload_n 0, 1), (23, .sipush 401, 3), (26, .newarray .int, 2), (28, .putfield 19, 3), (31, .aload_n 0, 1), (32, .sipush 401, 3), (35, .newarray .int, 2), (37, .putfield 22, 3), (40, .return_, 1)]
set_option maxRecDepth 100000 in
theorem D_X8_init : zdecs cX8_init L_X8_init = true := by decide +kernel
abbrev mc_X8 : zMT := (RX8, cX8_init, 1, 2, none)
theorem zi_X8 : zcI yX8_init mc_X8 0 := ⟨⟨wk_123, wk_456, by decide +kernel, by decide +kernel, by decide +kernel⟩, wk_455, rfl, rfl⟩
def k_X8 (σ : zG) : zG := zwI (zwI (zwI (zwI (σ) 3 0 0 1) 3 0 2 1) 3 0 3 1) 3 0 4 1
theorem k_X8_keep (σ : zG) (g j : Nat) (h1 : (g, j) ≠ (3, 0)) (h2 : (g, j) ∉ ([(38, 0), (39, 0), (40, 0), (41, 0)] : List (Nat × Nat))) (q : Nat) : (k_X8 σ).1 g j q = σ.1 g j q ∧ (k_X8 σ).2 g j q = σ.2 g j q := by

  unfold k_X8
  exact ⟨by rw [zwI_ne h1, zwI_ne h1, zwI_ne h1, zwI_ne h1], by rw [zwI_2, zwI_2, zwI_2, zwI_2]⟩
set_option maxRecDepth 100000 in
set_option maxHeartbeats 4000000 in
theorem ct_X8 (l : Launch) (σ : zG) : zCt l zsyCK mc_X8 yX8_init 3 0 [] [(38, 0), (39, 0), (40, 0), (41, 0)] σ (k_X8 σ) 4 1603 := by
  refine yEnter [(0, zR 3 0)] (by decide) rfl rfl (fun _ => Nat.le_of_ble_eq_true rfl) (fun _ => rfl) (fun w h => zokm rfl h) (fun K w hRm hQ => ?_)
  refine y_aload_n (pc := 0) 0 (zdg D_X8_init 0 (0, .aload_n 0, 1) rfl) rfl rfl ?_
  refine y_obj (pc := 1) ⟨wk_457, wk_142, wk_143⟩ (fun _ _ _ _ _ _ _ _ _ _ _ _ h => by rw [hRm _ _ _ _ _ _ _ _ _ _ _ _ h]; exact ⟨by decide, by decide⟩) (zdg D_X8_init 1 (1, .invokespecial 3, 3) rfl) ?_
  refine y_aload_n (pc := 4) 0 (zdg D_X8_init 2 (4, .aload_n 0, 1) rfl) rfl rfl ?_
  refine y_sipush (pc := 5) (v := 400) (zdg D_X8_init 3 (5, .sipush 400, 3) rfl) rfl ?_
  refine y_newa (pc := 8) (f := 38) (i := 0) rfl (fun _ => Or.inl rfl) rfl (fun _ => rfl) (fun _ => rfl) (fun _ _ h => h) rfl rfl (by decide) wk_485 (fun _ _ _ _ _ _ _ _ _ _ _ _ h => by rw [hRm _ _ _ _ _ _ _ _ _ _ _ _ h]; exact ⟨by decide, by decide⟩) (zdg D_X8_init 4 (8, .newarray .char, 2) rfl) (fun w => ?_)
  refine y_putR (pc := 10) (k := 0) (ty := tyX8 0) ⟨RX8, TX8, 7, tyX8, rfl, ix_X8, Nat.le_of_ble_eq_true rfl, wk_458, tyX8_ok, nmX8, rfl, rfl, by decide +kernel⟩ rfl rfl rfl (fun _ => ⟨rfl, rfl⟩) (zdg D_X8_init 5 (10, .putfield 9, 3) rfl) ?_
  refine y_aload_n (pc := 13) 0 (zdg D_X8_init 6 (13, .aload_n 0, 1) rfl) rfl rfl ?_
  refine y_sipush (pc := 14) (v := 401) (zdg D_X8_init 7 (14, .sipush 401, 3) rfl) rfl ?_
  refine y_newa (pc := 17) (f := 39) (i := 0) rfl (fun _ => Or.inl rfl) rfl (fun _ => rfl) (fun _ => rfl) (fun _ _ h => h) rfl rfl (by decide) wk_174 (fun _ _ _ _ _ _ _ _ _ _ _ _ h => by rw [hRm _ _ _ _ _ _ _ _ _ _ _ _ h]; exact ⟨by decide, by decide⟩) (zdg D_X8_init 8 (17, .newarray .int, 2) rfl) (fun w => ?_)
  refine y_putR (pc := 19) (k := 2) (ty := tyX8 2) ⟨RX8, TX8, 7, tyX8, rfl, ix_X8, Nat.le_of_ble_eq_true rfl, wk_461, tyX8_ok, nmX8, rfl, rfl, by decide +kernel⟩ rfl rfl rfl (fun _ => ⟨rfl, rfl⟩) (zdg D_X8_init 9 (19, .putfield 15, 3) rfl) ?_
  refine y_aload_n (pc := 22) 0 (zdg D_X8_init 10 (22, .aload_n 0, 1) rfl) rfl rfl ?_
  refine y_sipush (pc := 23) (v := 401) (zdg D_X8_init 11 (23, .sipush 401, 3) rfl) rfl ?_
  refine y_newa (pc := 26) (f := 40) (i := 0) rfl (fun _ => Or.inl rfl) rfl (fun _ => rfl) (fun _ => rfl) (fun _ _ h => h) rfl rfl (by decide) wk_174 (fun _ _ _ _ _ _ _ _ _ _ _ _ h => by rw [hRm _ _ _ _ _ _ _ _ _ _ _ _ h]; exact ⟨by decide, by decide⟩) (zdg D_X8_init 12 (26, .newarray .int, 2) rfl) (fun w => ?_)
  refine y_putR (pc := 28) (k := 3) (ty := tyX8 3) ⟨RX8, TX8, 7, tyX8, rfl, ix_X8, Nat.le_of_ble_eq_true rfl, wk_463, tyX8_ok, nmX8, rfl, rfl, by decide +kernel⟩ rfl rfl rfl (fun _ => ⟨rfl, rfl⟩) (zdg D_X8_init 13 (28, .putfield 19, 3) rfl) ?_
  refine y_aload_n (pc := 31) 0 (zdg D_X8_init 14 (31, .aload_n 0, 1) rfl) rfl rfl ?_
  refine y_sipush (pc := 32) (v := 401) (zdg D_X8_init 15 (32, .sipush 401, 3) rfl) rfl ?_
  refine y_newa (pc := 35) (f := 41) (i := 0) rfl (fun _ => Or.inl rfl) rfl (fun _ => rfl) (fun _ => rfl) (fun _ _ h => h) rfl rfl (by decide) wk_174 (fun _ _ _ _ _ _ _ _ _ _ _ _ h => by rw [hRm _ _ _ _ _ _ _ _ _ _ _ _ h]; exact ⟨by decide, by decide⟩) (zdg D_X8_init 16 (35, .newarray .int, 2) rfl) (fun w => ?_)
  refine y_putR (pc := 37) (k := 4) (ty := tyX8 4) ⟨RX8, TX8, 7, tyX8, rfl, ix_X8, Nat.le_of_ble_eq_true rfl, wk_465, tyX8_ok, nmX8, rfl, rfl, by decide +kernel⟩ rfl rfl rfl (fun _ => ⟨rfl, rfl⟩) (zdg D_X8_init 17 (37, .putfield 22, 3) rfl) ?_
  exact y_vret (pc := 40) rfl hQ (zdg D_X8_init 18 (40, .return_, 1) rfl)
def L_X9_init : List (Nat × Instr × Nat) := [(0, .aload_n 0, 1), (1, .invokespecial 3, 3), (4, .aload_n 0, 1), (5, .bipush 56, 2), (7, .newarray .int, 2), (9, .putfield 9, 3), (12, .aload_n 0, 1), (13, .bipush 61, 2), (15, .newarray .long, 2), (17, .putfield 15, 3), (20, .aload_n 0, 1), (21, .bipush 16, 2), (23, .newarray .int, 2), (25, .putfield 19, 3), (28, .aload_n 0, 1), (29, .aload_n 1, 1), (30, .putfield 22, 3), (33, .return_, 1)]
set_option maxRecDepth 100000 in
theorem D_X9_init : zdecs cX9_init L_X9_init = true := by decide +kernel
abbrev mc_X9 : zMT := (RX9, cX9_init, 2, 2, none)
theorem zi_X9 : zcI yX9_init mc_X9 1 := ⟨⟨wk_125, wk_535, by decide +kernel, by decide +kernel, by decide +kernel⟩, wk_534, rfl, rfl⟩
def k_X9 (σ : zG) : zG := zwI (zwI (zwI (zwI (σ) 5 0 1 1) 5 0 2 1) 5 0 3 1) 5 0 0 1
theorem k_X9_keep (σ : zG) (g j : Nat) (h1 : (g, j) ≠ (5, 0)) (h2 : (g, j) ∉ ([(42, 0), (43, 0), (44, 0)] : List (Nat × Nat))) (q : Nat) : (k_X9 σ).1 g j q = σ.1 g j q ∧ (k_X9 σ).2 g j q = σ.2 g j q := by

  unfold k_X9
  exact ⟨by rw [zwI_ne h1, zwI_ne h1, zwI_ne h1, zwI_ne h1], by rw [zwI_2, zwI_2, zwI_2, zwI_2]⟩
set_option maxRecDepth 100000 in
set_option maxHeartbeats 4000000 in
theorem ct_X9 (l : Launch) (σ : zG) : zCt l zsyCK mc_X9 yX9_init 5 0 [zR 1 0] [(42, 0), (43, 0), (44, 0)] σ (k_X9 σ) 3 133 := by
  refine yEnter [(0, zR 5 0), (1, zR 1 0)] (by decide) rfl rfl (fun _ => Nat.le_of_ble_eq_true rfl) (fun _ => rfl) (fun w h => zokm rfl h) (fun K w hRm hQ => ?_)
  refine y_aload_n (pc := 0) 0 (zdg D_X9_init 0 (0, .aload_n 0, 1) rfl) rfl rfl ?_
  refine y_obj (pc := 1) ⟨wk_536, wk_142, wk_143⟩ (fun _ _ _ _ _ _ _ _ _ _ _ _ h => by rw [hRm _ _ _ _ _ _ _ _ _ _ _ _ h]; exact ⟨by decide, by decide⟩) (zdg D_X9_init 1 (1, .invokespecial 3, 3) rfl) ?_
  refine y_aload_n (pc := 4) 0 (zdg D_X9_init 2 (4, .aload_n 0, 1) rfl) rfl rfl ?_
  refine y_bipush (pc := 5) (v := 56) (zdg D_X9_init 3 (5, .bipush 56, 2) rfl) rfl ?_
  refine y_newa (pc := 7) (f := 42) (i := 0) rfl (fun _ => Or.inl rfl) rfl (fun _ => rfl) (fun _ => rfl) (fun _ _ h => h) rfl rfl (by decide) wk_174 (fun _ _ _ _ _ _ _ _ _ _ _ _ h => by rw [hRm _ _ _ _ _ _ _ _ _ _ _ _ h]; exact ⟨by decide, by decide⟩) (zdg D_X9_init 4 (7, .newarray .int, 2) rfl) (fun w => ?_)
  refine y_putR (pc := 9) (k := 1) (ty := tyX9 1) ⟨RX9, TX9, 7, tyX9, rfl, ix_X9, Nat.le_of_ble_eq_true rfl, wk_538, tyX9_ok, nmX9, rfl, rfl, by decide +kernel⟩ rfl rfl rfl (fun _ => ⟨rfl, rfl⟩) (zdg D_X9_init 5 (9, .putfield 9, 3) rfl) ?_
  refine y_aload_n (pc := 12) 0 (zdg D_X9_init 6 (12, .aload_n 0, 1) rfl) rfl rfl ?_
  refine y_bipush (pc := 13) (v := 61) (zdg D_X9_init 7 (13, .bipush 61, 2) rfl) rfl ?_
  refine y_newa (pc := 15) (f := 43) (i := 0) rfl (fun _ => Or.inr rfl) rfl (fun _ => rfl) (fun _ => rfl) (fun _ _ h => h) rfl rfl (by decide) wk_236 (fun _ _ _ _ _ _ _ _ _ _ _ _ h => by rw [hRm _ _ _ _ _ _ _ _ _ _ _ _ h]; exact ⟨by decide, by decide⟩) (zdg D_X9_init 8 (15, .newarray .long, 2) rfl) (fun w => ?_)
  refine y_putR (pc := 17) (k := 2) (ty := tyX9 2) ⟨RX9, TX9, 7, tyX9, rfl, ix_X9, Nat.le_of_ble_eq_true rfl, wk_539, tyX9_ok, nmX9, rfl, rfl, by decide +kernel⟩ rfl rfl rfl (fun _ => ⟨rfl, rfl⟩) (zdg D_X9_init 9 (17, .putfield 15, 3) rfl) ?_
  refine y_aload_n (pc := 20) 0 (zdg D_X9_init 10 (20, .aload_n 0, 1) rfl) rfl rfl ?_
  refine y_bipush (pc := 21) (v := 16) (zdg D_X9_init 11 (21, .bipush 16, 2) rfl) rfl ?_
  refine y_newa (pc := 23) (f := 44) (i := 0) rfl (fun _ => Or.inl rfl) rfl (fun _ => rfl) (fun _ => rfl) (fun _ _ h => h) rfl rfl (by decide) wk_174 (fun _ _ _ _ _ _ _ _ _ _ _ _ h => by rw [hRm _ _ _ _ _ _ _ _ _ _ _ _ h]; exact ⟨by decide, by decide⟩) (zdg D_X9_init 12 (23, .newarray .int, 2) rfl) (fun w => ?_)
  refine y_putR (pc := 25) (k := 3) (ty := tyX9 3) ⟨RX9, TX9, 7, tyX9, rfl, ix_X9, Nat.le_of_ble_eq_true rfl, wk_540, tyX9_ok, nmX9, rfl, rfl, by decide +kernel⟩ rfl rfl rfl (fun _ => ⟨rfl, rfl⟩) (zdg D_X9_init 13 (25, .putfield 19, 3) rfl) ?_
  refine y_aload_n (pc := 28) 0 (zdg D_X9_init 14 (28, .aload_n 0, 1) rfl) rfl rfl ?_
  refine y_aload_n (pc := 29) 1 (zdg D_X9_init 15 (29, .aload_n 1, 1) rfl) rfl rfl ?_
  refine y_putR (pc := 30) (k := 0) (ty := tyX9 0) ⟨RX9, TX9, 7, tyX9, rfl, ix_X9, Nat.le_of_ble_eq_true rfl, wk_537, tyX9_ok, nmX9, rfl, rfl, by decide +kernel⟩ rfl rfl rfl (fun _ => ⟨rfl, rfl⟩) (zdg D_X9_init 16 (30, .putfield 22, 3) rfl) ?_
  exact y_vret (pc := 33) rfl hQ (zdg D_X9_init 17 (33, .return_, 1) rfl)
def L_X0_init : List (Nat × Instr × Nat) := [(0, .aload_n 0, 1), (1, .invokespecial 3, 3), (4, .aload_n 0, 1), (5, .aload_n 1, 1), (6, .putfield 9, 3), (9, .return_, 1)]
set_option maxRecDepth 100000 in
theorem D_X0_init : zdecs cX0_init L_X0_init = true := by decide +kernel
abbrev mc_X0 : zMT := (RX0, cX0_init, 2, 2, none)
theorem zi_X0 : zcI yX0_init mc_X0 1 := ⟨⟨wk_126, wk_563, by decide +kernel, by decide +kernel, by decide +kernel⟩, wk_562, rfl, rfl⟩
def k_X0 (σ : zG) : zG := zwI (σ) 6 0 0 1
theorem k_X0_keep (σ : zG) (g j : Nat) (h1 : (g, j) ≠ (6, 0)) (h2 : (g, j) ∉ ([] : List (Nat × Nat))) (q : Nat) : (k_X0 σ).1 g j q = σ.1 g j q ∧ (k_X0 σ).2 g j q = σ.2 g j q := by

  unfold k_X0
  exact ⟨by rw [zwI_ne h1], by rw [zwI_2]⟩
set_option maxRecDepth 100000 in
set_option maxHeartbeats 4000000 in
theorem ct_X0 (l : Launch) (σ : zG) : zCt l zsyCK mc_X0 yX0_init 6 0 [zR 1 0] [] σ (k_X0 σ) 0 0 := by
  refine yEnter [(0, zR 6 0), (1, zR 1 0)] (by decide) rfl rfl (fun _ => Nat.le_of_ble_eq_true rfl) (fun _ => rfl) (fun w h => zokm rfl h) (fun K w hRm hQ => ?_)
  refine y_aload_n (pc := 0) 0 (zdg D_X0_init 0 (0, .aload_n 0, 1) rfl) rfl rfl ?_
  refine y_obj (pc := 1) ⟨wk_564, wk_142, wk_143⟩ (fun _ _ _ _ _ _ _ _ _ _ _ _ h => by rw [hRm _ _ _ _ _ _ _ _ _ _ _ _ h]; exact ⟨by decide, by decide⟩) (zdg D_X0_init 1 (1, .invokespecial 3, 3) rfl) ?_
  refine y_aload_n (pc := 4) 0 (zdg D_X0_init 2 (4, .aload_n 0, 1) rfl) rfl rfl ?_
  refine y_aload_n (pc := 5) 1 (zdg D_X0_init 3 (5, .aload_n 1, 1) rfl) rfl rfl ?_
  refine y_putR (pc := 6) (k := 0) (ty := tyX0 0) ⟨RX0, TX0, 1, tyX0, rfl, ix_X0, Nat.le_of_ble_eq_true rfl, wk_565, tyX0_ok, nmX0, rfl, rfl, by decide +kernel⟩ rfl rfl rfl (fun _ => ⟨rfl, rfl⟩) (zdg D_X0_init 4 (6, .putfield 9, 3) rfl) ?_
  exact y_vret (pc := 9) rfl hQ (zdg D_X0_init 5 (9, .return_, 1) rfl)
def L_X4_init : List (Nat × Instr × Nat) := [(0, .aload_n 0, 1), (1, .invokespecial 3, 3), (4, .aload_n 0, 1), (5, .new 9, 3), (8, .dup, 1), (9, .invokespecial 11, 3), (12, .putfield 12, 3), (15, .aload_n 0, 1), (16, .new 18, 3), (19, .dup, 1), (20, .invokespecial 20, 3), (23, .putfield 21, 3), (26, .aload_n 0, 1), (27, .iconst (-1), 1), (28, .putfield 25, 3), (31, .aload_n 0, 1), (32, .aload_n 1, 1), (33, .putfield 29, 3), (36, .return_, 1)]
set_option maxRecDepth 100000 in
theorem D_X4_init : zdecs cX4_init L_X4_init = true := by decide +kernel
abbrev mc_X4 : zMT := (RX4, cX4_init, 2, 4, none)
theorem zi_X4 : zcI yX4_init mc_X4 1 := ⟨⟨wk_124, wk_490, by decide +kernel, by decide +kernel, by decide +kernel⟩, wk_489, rfl, rfl⟩
def k_X4 (σ : zG) : zG := zwI (zwI (zwI (k_X3 2 (zwI (k_X10 1 (σ)) 4 0 1 1)) 4 0 2 1) 4 0 4 (-1 : Int32)) 4 0 0 1
theorem k_X4_keep (σ : zG) (g j : Nat) (h1 : (g, j) ≠ (4, 0)) (h2 : (g, j) ∉ ([(8, 1), (15, 1), (16, 1), (17, 1), (18, 1), (19, 1), (20, 1), (10, 2), (23, 2), (24, 2), (25, 2), (26, 2), (27, 2), (28, 2)] : List (Nat × Nat))) (q : Nat) : (k_X4 σ).1 g j q = σ.1 g j q ∧ (k_X4 σ).2 g j q = σ.2 g j q := by
  have f8_1 : (g, j) ≠ (8, 1) := fun e => h2 (by rw [e]; simp)
  have f8_1n : (g, j) ∉ ([(15, 1), (16, 1), (17, 1), (18, 1), (19, 1), (20, 1)] : List (Nat × Nat)) := fun e => h2 (by simp at e ⊢; rcases e with e | e | e | e | e | e <;> simp [e])
  have f10_2 : (g, j) ≠ (10, 2) := fun e => h2 (by rw [e]; simp)
  have f10_2n : (g, j) ∉ ([(23, 2), (24, 2), (25, 2), (26, 2), (27, 2), (28, 2)] : List (Nat × Nat)) := fun e => h2 (by simp at e ⊢; rcases e with e | e | e | e | e | e <;> simp [e])
  unfold k_X4
  exact ⟨by rw [zwI_ne h1, zwI_ne h1, zwI_ne h1, (k_X3_keep 2 _ g j f10_2 f10_2n q).1, zwI_ne h1, (k_X10_keep 1 _ g j f8_1 f8_1n q).1], by rw [zwI_2, zwI_2, zwI_2, (k_X3_keep 2 _ g j f10_2 f10_2n q).2, zwI_2, (k_X10_keep 1 _ g j f8_1 f8_1n q).2]⟩
set_option maxRecDepth 100000 in
set_option maxHeartbeats 4000000 in
theorem ct_X4 (l : Launch) (σ : zG) : zCt l zsyCK mc_X4 yX4_init 4 0 [zR 3 0] [(8, 1), (15, 1), (16, 1), (17, 1), (18, 1), (19, 1), (20, 1), (10, 2), (23, 2), (24, 2), (25, 2), (26, 2), (27, 2), (28, 2)] σ (k_X4 σ) 14 751 := by
  refine yEnter [(0, zR 4 0), (1, zR 3 0)] (by decide) rfl rfl (fun _ => Nat.le_of_ble_eq_true rfl) (fun _ => rfl) (fun w h => zokm rfl h) (fun K w hRm hQ => ?_)
  refine y_aload_n (pc := 0) 0 (zdg D_X4_init 0 (0, .aload_n 0, 1) rfl) rfl rfl ?_
  refine y_obj (pc := 1) ⟨wk_491, wk_142, wk_143⟩ (fun _ _ _ _ _ _ _ _ _ _ _ _ h => by rw [hRm _ _ _ _ _ _ _ _ _ _ _ _ h]; exact ⟨by decide, by decide⟩) (zdg D_X4_init 1 (1, .invokespecial 3, 3) rfl) ?_
  refine y_aload_n (pc := 4) 0 (zdg D_X4_init 2 (4, .aload_n 0, 1) rfl) rfl rfl ?_
  refine y_new (pc := 5) (f := 8) (i := 1) (C := "NobodyThere$WalkerList") (T := TX10) (N := 7) tyX10 rfl (no2C 8) rfl ix_X10 tyX10_ok (by decide) ⟨wk_492, wk_176, wk_117⟩ (fun _ _ _ _ _ _ _ _ _ _ _ _ h => by rw [hRm _ _ _ _ _ _ _ _ _ _ _ _ h]; exact ⟨by decide, by decide⟩) (zdg D_X4_init 3 (5, .new 9, 3) rfl) (fun w => ?_)
  refine y_dup (pc := 8) rfl (zdg D_X4_init 4 (8, .dup, 1) rfl) ?_
  refine y_ctor (pc := 9) (rest := [zR 8 1, zR 4 0]) (fr := [(10, 2), (23, 2), (24, 2), (25, 2), (26, 2), (27, 2), (28, 2)]) (host := "NobodyThere") (fun l => ct_X10 l 1 _) zi_X10 (Or.inr (by decide +kernel)) rfl rfl (Nat.le_of_ble_eq_true rfl) (k_X10_keep 1 _) (fun _ _ _ _ _ _ _ _ _ _ _ _ h => by rw [hRm _ _ _ _ _ _ _ _ _ _ _ _ h]; exact ⟨⟨by decide, by decide⟩, by decide, by decide⟩) (zdg D_X4_init 5 (9, .invokespecial 11, 3) rfl) (fun w => ?_)
  refine y_putR (pc := 12) (k := 1) (ty := tyX4 1) ⟨RX4, TX4, 10, tyX4, rfl, ix_X4, Nat.le_of_ble_eq_true rfl, wk_497, tyX4_ok, nmX4, rfl, rfl, by decide +kernel⟩ rfl rfl rfl (fun _ => ⟨rfl, rfl⟩) (zdg D_X4_init 6 (12, .putfield 12, 3) rfl) ?_
  refine y_aload_n (pc := 15) 0 (zdg D_X4_init 7 (15, .aload_n 0, 1) rfl) rfl rfl ?_
  refine y_new (pc := 16) (f := 10) (i := 2) (C := "NobodyThere$Law") (T := TX3) (N := 8) tyX3 rfl (no2C 10) rfl ix_X3 tyX3_ok (by decide) ⟨wk_494, wk_238, wk_119⟩ (fun _ _ _ _ _ _ _ _ _ _ _ _ h => by rw [hRm _ _ _ _ _ _ _ _ _ _ _ _ h]; exact ⟨by decide, by decide⟩) (zdg D_X4_init 8 (16, .new 18, 3) rfl) (fun w => ?_)
  refine y_dup (pc := 19) rfl (zdg D_X4_init 9 (19, .dup, 1) rfl) ?_
  refine y_ctor (pc := 20) (rest := [zR 10 2, zR 4 0]) (fr := []) (host := "NobodyThere") (fun l => ct_X3 l 2 _) zi_X3 (Or.inr (by decide +kernel)) rfl rfl (Nat.le_of_ble_eq_true rfl) (k_X3_keep 2 _) (fun _ _ _ _ _ _ _ _ _ _ _ _ h => by rw [hRm _ _ _ _ _ _ _ _ _ _ _ _ h]; exact ⟨⟨by decide, by decide⟩, by decide, by decide⟩) (zdg D_X4_init 10 (20, .invokespecial 20, 3) rfl) (fun w => ?_)
  refine y_putR (pc := 23) (k := 2) (ty := tyX4 2) ⟨RX4, TX4, 10, tyX4, rfl, ix_X4, Nat.le_of_ble_eq_true rfl, wk_499, tyX4_ok, nmX4, rfl, rfl, by decide +kernel⟩ rfl rfl rfl (fun _ => ⟨rfl, rfl⟩) (zdg D_X4_init 11 (23, .putfield 21, 3) rfl) ?_
  refine y_aload_n (pc := 26) 0 (zdg D_X4_init 12 (26, .aload_n 0, 1) rfl) rfl rfl ?_
  refine y_iconst (pc := 27) (v := -1) (zdg D_X4_init 13 (27, .iconst (-1), 1) rfl) rfl ?_
  refine y_putI (pc := 28) (k := 4) (ty := .int) ⟨RX4, TX4, 10, tyX4, rfl, ix_X4, Nat.le_of_ble_eq_true rfl, wk_503, tyX4_ok, nmX4, rfl, by decide +kernel⟩ rfl rfl rfl rfl (zdg D_X4_init 14 (28, .putfield 25, 3) rfl) ?_
  refine y_aload_n (pc := 31) 0 (zdg D_X4_init 15 (31, .aload_n 0, 1) rfl) rfl rfl ?_
  refine y_aload_n (pc := 32) 1 (zdg D_X4_init 16 (32, .aload_n 1, 1) rfl) rfl rfl ?_
  refine y_putR (pc := 33) (k := 0) (ty := tyX4 0) ⟨RX4, TX4, 10, tyX4, rfl, ix_X4, Nat.le_of_ble_eq_true rfl, wk_496, tyX4_ok, nmX4, rfl, rfl, by decide +kernel⟩ rfl rfl rfl (fun _ => ⟨rfl, rfl⟩) (zdg D_X4_init 17 (33, .putfield 29, 3) rfl) ?_
  exact y_vret (pc := 36) rfl hQ (zdg D_X4_init 18 (36, .return_, 1) rfl)
def L_X2_init : List (Nat × Instr × Nat) := [(0, .aload_n 0, 1), (1, .invokespecial 3, 3), (4, .aload_n 0, 1), (5, .bipush 6, 2), (7, .newarray .int, 2), (9, .putfield 9, 3), (12, .aload_n 0, 1), (13, .bipush 6, 2), (15, .newarray .int, 2), (17, .putfield 15, 3), (20, .aload_n 0, 1), (21, .bipush 6, 2), (23, .newarray .int, 2), (25, .putfield 18, 3), (28, .aload_n 0, 1), (29, .bipush 6, 2), (31, .newarray .int, 2), (33, .putfield 21, 3), (36, .aload_n 0, 1), (37, .bipush 6, 2), (39, .anewarray 24, 3), (42, .putfield 26, 3), (45, .iconst 0, 1), (46, .istore_n 1, 1), (47, .iload_n 1, 1), (48, .bipush 6, 2), (50, .if_icmp .ge 22, 3), (53, .aload_n 0, 1), (54, .getfield 26, 3), (57, .iload_n 1, 1), (58, .new 24, 3), (61, .dup, 1), (62, .invokespecial 30, 3), (65, .aastore, 1), (66, .iinc 1 1, 3), (69, .goto (-22), 3), (72, .return_, 1)]
set_option maxRecDepth 100000 in
theorem D_X2_init : zdecs cX2_init L_X2_init = true := by decide +kernel
abbrev mc_X2 : zMT := (RX2, cX2_init, 2, 4, none)
theorem zi_X2 : zcI yX2_init mc_X2 0 := ⟨⟨wk_122, wk_424, by decide +kernel, by decide +kernel, by decide +kernel⟩, wk_423, rfl, rfl⟩
def k_X2 (σ : zG) : zG := zwI (k_X7 6 (zwI (k_X7 5 (zwI (k_X7 4 (zwI (k_X7 3 (zwI (k_X7 2 (zwI (k_X7 1 (zwI (zwI (zwI (zwI (zwI (σ) 2 0 2 1) 2 0 3 1) 2 0 4 1) 2 0 5 1) 2 0 6 1)) 37 0 0 1)) 37 0 1 1)) 37 0 2 1)) 37 0 3 1)) 37 0 4 1)) 37 0 5 1
theorem k_X2_keep (σ : zG) (g j : Nat) (h1 : (g, j) ≠ (2, 0)) (h2 : (g, j) ∉ ([(33, 0), (34, 0), (35, 0), (36, 0), (37, 0), (7, 1), (12, 1), (13, 1), (14, 1), (7, 2), (12, 2), (13, 2), (14, 2), (7, 3), (12, 3), (13, 3), (14, 3), (7, 4), (12, 4), (13, 4), (14, 4), (7, 5), (12, 5), (13, 5), (14, 5), (7, 6), (12, 6), (13, 6), (14, 6)] : List (Nat × Nat))) (q : Nat) : (k_X2 σ).1 g j q = σ.1 g j q ∧ (k_X2 σ).2 g j q = σ.2 g j q := by
  have f7_1 : (g, j) ≠ (7, 1) := fun e => h2 (by rw [e]; simp)
  have f7_1n : (g, j) ∉ ([(12, 1), (13, 1), (14, 1)] : List (Nat × Nat)) := fun e => h2 (by simp at e ⊢; rcases e with e | e | e <;> simp [e])
  have e37_0 : (g, j) ≠ (37, 0) := fun e => h2 (by rw [e]; simp)
  have f7_2 : (g, j) ≠ (7, 2) := fun e => h2 (by rw [e]; simp)
  have f7_2n : (g, j) ∉ ([(12, 2), (13, 2), (14, 2)] : List (Nat × Nat)) := fun e => h2 (by simp at e ⊢; rcases e with e | e | e <;> simp [e])
  have f7_3 : (g, j) ≠ (7, 3) := fun e => h2 (by rw [e]; simp)
  have f7_3n : (g, j) ∉ ([(12, 3), (13, 3), (14, 3)] : List (Nat × Nat)) := fun e => h2 (by simp at e ⊢; rcases e with e | e | e <;> simp [e])
  have f7_4 : (g, j) ≠ (7, 4) := fun e => h2 (by rw [e]; simp)
  have f7_4n : (g, j) ∉ ([(12, 4), (13, 4), (14, 4)] : List (Nat × Nat)) := fun e => h2 (by simp at e ⊢; rcases e with e | e | e <;> simp [e])
  have f7_5 : (g, j) ≠ (7, 5) := fun e => h2 (by rw [e]; simp)
  have f7_5n : (g, j) ∉ ([(12, 5), (13, 5), (14, 5)] : List (Nat × Nat)) := fun e => h2 (by simp at e ⊢; rcases e with e | e | e <;> simp [e])
  have f7_6 : (g, j) ≠ (7, 6) := fun e => h2 (by rw [e]; simp)
  have f7_6n : (g, j) ∉ ([(12, 6), (13, 6), (14, 6)] : List (Nat × Nat)) := fun e => h2 (by simp at e ⊢; rcases e with e | e | e <;> simp [e])
  unfold k_X2
  exact ⟨by rw [zwI_ne e37_0, (k_X7_keep 6 _ g j f7_6 f7_6n q).1, zwI_ne e37_0, (k_X7_keep 5 _ g j f7_5 f7_5n q).1, zwI_ne e37_0, (k_X7_keep 4 _ g j f7_4 f7_4n q).1, zwI_ne e37_0, (k_X7_keep 3 _ g j f7_3 f7_3n q).1, zwI_ne e37_0, (k_X7_keep 2 _ g j f7_2 f7_2n q).1, zwI_ne e37_0, (k_X7_keep 1 _ g j f7_1 f7_1n q).1, zwI_ne h1, zwI_ne h1, zwI_ne h1, zwI_ne h1, zwI_ne h1], by rw [zwI_2, (k_X7_keep 6 _ g j f7_6 f7_6n q).2, zwI_2, (k_X7_keep 5 _ g j f7_5 f7_5n q).2, zwI_2, (k_X7_keep 4 _ g j f7_4 f7_4n q).2, zwI_2, (k_X7_keep 3 _ g j f7_3 f7_3n q).2, zwI_2, (k_X7_keep 2 _ g j f7_2 f7_2n q).2, zwI_2, (k_X7_keep 1 _ g j f7_1 f7_1n q).2, zwI_2, zwI_2, zwI_2, zwI_2, zwI_2]⟩
set_option maxRecDepth 100000 in
set_option maxHeartbeats 4000000 in
theorem ct_X2 (l : Launch) (σ : zG) : zCt l zsyCK mc_X2 yX2_init 2 0 [] [(33, 0), (34, 0), (35, 0), (36, 0), (37, 0), (7, 1), (12, 1), (13, 1), (14, 1), (7, 2), (12, 2), (13, 2), (14, 2), (7, 3), (12, 3), (13, 3), (14, 3), (7, 4), (12, 4), (13, 4), (14, 4), (7, 5), (12, 5), (13, 5), (14, 5), (7, 6), (12, 6), (13, 6), (14, 6)] σ (k_X2 σ) 29 198 := by
  refine yEnter [(0, zR 2 0)] (by decide) rfl rfl (fun _ => Nat.le_of_ble_eq_true rfl) (fun _ => rfl) (fun w h => zokm rfl h) (fun K w hRm hQ => ?_)
  refine y_aload_n (pc := 0) 0 (zdg D_X2_init 0 (0, .aload_n 0, 1) rfl) rfl rfl ?_
  refine y_obj (pc := 1) ⟨wk_425, wk_142, wk_143⟩ (fun _ _ _ _ _ _ _ _ _ _ _ _ h => by rw [hRm _ _ _ _ _ _ _ _ _ _ _ _ h]; exact ⟨by decide, by decide⟩) (zdg D_X2_init 1 (1, .invokespecial 3, 3) rfl) ?_
  refine y_aload_n (pc := 4) 0 (zdg D_X2_init 2 (4, .aload_n 0, 1) rfl) rfl rfl ?_
  refine y_bipush (pc := 5) (v := 6) (zdg D_X2_init 3 (5, .bipush 6, 2) rfl) rfl ?_
  refine y_newa (pc := 7) (f := 33) (i := 0) rfl (fun _ => Or.inl rfl) rfl (fun _ => rfl) (fun _ => rfl) (fun _ _ h => h) rfl rfl (by decide) wk_174 (fun _ _ _ _ _ _ _ _ _ _ _ _ h => by rw [hRm _ _ _ _ _ _ _ _ _ _ _ _ h]; exact ⟨by decide, by decide⟩) (zdg D_X2_init 4 (7, .newarray .int, 2) rfl) (fun w => ?_)
  refine y_putR (pc := 9) (k := 2) (ty := tyX2 2) ⟨RX2, TX2, 7, tyX2, rfl, ix_X2, Nat.le_of_ble_eq_true rfl, wk_432, tyX2_ok, nmX2, rfl, rfl, by decide +kernel⟩ rfl rfl rfl (fun _ => ⟨rfl, rfl⟩) (zdg D_X2_init 5 (9, .putfield 9, 3) rfl) ?_
  refine y_aload_n (pc := 12) 0 (zdg D_X2_init 6 (12, .aload_n 0, 1) rfl) rfl rfl ?_
  refine y_bipush (pc := 13) (v := 6) (zdg D_X2_init 7 (13, .bipush 6, 2) rfl) rfl ?_
  refine y_newa (pc := 15) (f := 34) (i := 0) rfl (fun _ => Or.inl rfl) rfl (fun _ => rfl) (fun _ => rfl) (fun _ _ h => h) rfl rfl (by decide) wk_174 (fun _ _ _ _ _ _ _ _ _ _ _ _ h => by rw [hRm _ _ _ _ _ _ _ _ _ _ _ _ h]; exact ⟨by decide, by decide⟩) (zdg D_X2_init 8 (15, .newarray .int, 2) rfl) (fun w => ?_)
  refine y_putR (pc := 17) (k := 3) (ty := tyX2 3) ⟨RX2, TX2, 7, tyX2, rfl, ix_X2, Nat.le_of_ble_eq_true rfl, wk_433, tyX2_ok, nmX2, rfl, rfl, by decide +kernel⟩ rfl rfl rfl (fun _ => ⟨rfl, rfl⟩) (zdg D_X2_init 9 (17, .putfield 15, 3) rfl) ?_
  refine y_aload_n (pc := 20) 0 (zdg D_X2_init 10 (20, .aload_n 0, 1) rfl) rfl rfl ?_
  refine y_bipush (pc := 21) (v := 6) (zdg D_X2_init 11 (21, .bipush 6, 2) rfl) rfl ?_
  refine y_newa (pc := 23) (f := 35) (i := 0) rfl (fun _ => Or.inl rfl) rfl (fun _ => rfl) (fun _ => rfl) (fun _ _ h => h) rfl rfl (by decide) wk_174 (fun _ _ _ _ _ _ _ _ _ _ _ _ h => by rw [hRm _ _ _ _ _ _ _ _ _ _ _ _ h]; exact ⟨by decide, by decide⟩) (zdg D_X2_init 12 (23, .newarray .int, 2) rfl) (fun w => ?_)
  refine y_putR (pc := 25) (k := 4) (ty := tyX2 4) ⟨RX2, TX2, 7, tyX2, rfl, ix_X2, Nat.le_of_ble_eq_true rfl, wk_434, tyX2_ok, nmX2, rfl, rfl, by decide +kernel⟩ rfl rfl rfl (fun _ => ⟨rfl, rfl⟩) (zdg D_X2_init 13 (25, .putfield 18, 3) rfl) ?_
  refine y_aload_n (pc := 28) 0 (zdg D_X2_init 14 (28, .aload_n 0, 1) rfl) rfl rfl ?_
  refine y_bipush (pc := 29) (v := 6) (zdg D_X2_init 15 (29, .bipush 6, 2) rfl) rfl ?_
  refine y_newa (pc := 31) (f := 36) (i := 0) rfl (fun _ => Or.inl rfl) rfl (fun _ => rfl) (fun _ => rfl) (fun _ _ h => h) rfl rfl (by decide) wk_174 (fun _ _ _ _ _ _ _ _ _ _ _ _ h => by rw [hRm _ _ _ _ _ _ _ _ _ _ _ _ h]; exact ⟨by decide, by decide⟩) (zdg D_X2_init 16 (31, .newarray .int, 2) rfl) (fun w => ?_)
  refine y_putR (pc := 33) (k := 5) (ty := tyX2 5) ⟨RX2, TX2, 7, tyX2, rfl, ix_X2, Nat.le_of_ble_eq_true rfl, wk_435, tyX2_ok, nmX2, rfl, rfl, by decide +kernel⟩ rfl rfl rfl (fun _ => ⟨rfl, rfl⟩) (zdg D_X2_init 17 (33, .putfield 21, 3) rfl) ?_
  refine y_aload_n (pc := 36) 0 (zdg D_X2_init 18 (36, .aload_n 0, 1) rfl) rfl rfl ?_
  refine y_bipush (pc := 37) (v := 6) (zdg D_X2_init 19 (37, .bipush 6, 2) rfl) rfl ?_
  refine y_newq (pc := 39) (f := 37) (i := 0) rfl (fun _ => rfl) rfl rfl (by decide) wk_426 (fun _ _ _ _ _ _ _ _ _ _ _ _ h => by rw [hRm _ _ _ _ _ _ _ _ _ _ _ _ h]; exact ⟨by decide, by decide⟩) (zdg D_X2_init 20 (39, .anewarray 24, 3) rfl) (fun w => ?_)
  refine y_putR (pc := 42) (k := 6) (ty := tyX2 6) ⟨RX2, TX2, 7, tyX2, rfl, ix_X2, Nat.le_of_ble_eq_true rfl, wk_436, tyX2_ok, nmX2, rfl, rfl, by decide +kernel⟩ rfl rfl rfl (fun _ => ⟨rfl, rfl⟩) (zdg D_X2_init 21 (42, .putfield 26, 3) rfl) ?_
  refine y_iconst (pc := 45) (v := 0) (zdg D_X2_init 22 (45, .iconst 0, 1) rfl) rfl ?_
  refine y_istore_n (pc := 46) (al' := [(1, zI (0 : Int32)), (0, zR 2 0)]) (zdg D_X2_init 23 (46, .istore_n 1, 1) rfl) rfl (by decide) rfl ?_
  refine y_iload_n (pc := 47) 0 (zdg D_X2_init 24 (47, .iload_n 1, 1) rfl) rfl rfl ?_
  refine y_bipush (pc := 48) (v := 6) (zdg D_X2_init 25 (48, .bipush 6, 2) rfl) rfl ?_
  refine y_geF (pc := 50) 72 (zdg D_X2_init 26 (50, .if_icmp .ge 22, 3) rfl) rfl (by decide) ?_
  refine y_aload_n (pc := 53) 1 (zdg D_X2_init 27 (53, .aload_n 0, 1) rfl) rfl rfl ?_
  refine y_getR (pc := 54) (k := 6) (g := 37) (j := 0) ⟨RX2, TX2, 7, rfl, ix_X2, Nat.le_of_ble_eq_true rfl, wk_436⟩ rfl rfl rfl (by first | (intro h; cases h; done) | decide | (show ¬ _ = _; simp [zwI])) (zdg D_X2_init 28 (54, .getfield 26, 3) rfl) ?_
  refine y_iload_n (pc := 57) 0 (zdg D_X2_init 29 (57, .iload_n 1, 1) rfl) rfl rfl ?_
  refine y_new (pc := 58) (f := 7) (i := 1) (C := "NobodyThere$Strangers") (T := TX7) (N := 4) tyX7 rfl (no2C 7) rfl ix_X7 tyX7_ok (by decide) ⟨wk_426, wk_151, wk_116⟩ (fun _ _ _ _ _ _ _ _ _ _ _ _ h => by rw [hRm _ _ _ _ _ _ _ _ _ _ _ _ h]; exact ⟨by decide, by decide⟩) (zdg D_X2_init 30 (58, .new 24, 3) rfl) (fun w => ?_)
  refine y_dup (pc := 61) rfl (zdg D_X2_init 31 (61, .dup, 1) rfl) ?_
  refine y_ctor (pc := 62) (rest := [zR 7 1, zI (0 : Int32), zR 37 0]) (fr := [(7, 2), (12, 2), (13, 2), (14, 2), (7, 3), (12, 3), (13, 3), (14, 3), (7, 4), (12, 4), (13, 4), (14, 4), (7, 5), (12, 5), (13, 5), (14, 5), (7, 6), (12, 6), (13, 6), (14, 6)]) (host := "NobodyThere") (fun l => ct_X7 l 1 _) zi_X7 (Or.inr (by decide +kernel)) rfl rfl (Nat.le_of_ble_eq_true rfl) (k_X7_keep 1 _) (fun _ _ _ _ _ _ _ _ _ _ _ _ h => by rw [hRm _ _ _ _ _ _ _ _ _ _ _ _ h]; exact ⟨⟨by decide, by decide⟩, by decide, by decide⟩) (zdg D_X2_init 32 (62, .invokespecial 30, 3) rfl) (fun w => ?_)
  refine y_aast (pc := 65) (g := 7) (j := 1) rfl (fun _ => rfl) rfl rfl rfl rfl rfl (zdg D_X2_init 33 (65, .aastore, 1) rfl) ?_
  rw [show (0 : Int32).toNatClampNeg = 0 from rfl]
  refine y_iinc (pc := 66) (v0 := 1) (al' := [(1, zI (1 : Int32)), (0, zR 2 0)]) 0 (zdg D_X2_init 34 (66, .iinc 1 1, 3) rfl) rfl rfl (by decide) rfl ?_
  refine y_goto (pc := 69) 47 (zdg D_X2_init 35 (69, .goto (-22), 3) rfl) rfl ?_
  refine y_iload_n (pc := 47) 0 (zdg D_X2_init 24 (47, .iload_n 1, 1) rfl) rfl rfl ?_
  refine y_bipush (pc := 48) (v := 6) (zdg D_X2_init 25 (48, .bipush 6, 2) rfl) rfl ?_
  refine y_geF (pc := 50) 72 (zdg D_X2_init 26 (50, .if_icmp .ge 22, 3) rfl) rfl (by decide) ?_
  refine y_aload_n (pc := 53) 1 (zdg D_X2_init 27 (53, .aload_n 0, 1) rfl) rfl rfl ?_
  refine y_getR (pc := 54) (k := 6) (g := 37) (j := 0) ⟨RX2, TX2, 7, rfl, ix_X2, Nat.le_of_ble_eq_true rfl, wk_436⟩ rfl rfl rfl (by first | (intro h; cases h; done) | decide | (show ¬ _ = _; simp [zwI])) (zdg D_X2_init 28 (54, .getfield 26, 3) rfl) ?_
  refine y_iload_n (pc := 57) 0 (zdg D_X2_init 29 (57, .iload_n 1, 1) rfl) rfl rfl ?_
  refine y_new (pc := 58) (f := 7) (i := 2) (C := "NobodyThere$Strangers") (T := TX7) (N := 4) tyX7 rfl (no2C 7) rfl ix_X7 tyX7_ok (by decide) ⟨wk_426, wk_151, wk_116⟩ (fun _ _ _ _ _ _ _ _ _ _ _ _ h => by rw [hRm _ _ _ _ _ _ _ _ _ _ _ _ h]; exact ⟨by decide, by decide⟩) (zdg D_X2_init 30 (58, .new 24, 3) rfl) (fun w => ?_)
  refine y_dup (pc := 61) rfl (zdg D_X2_init 31 (61, .dup, 1) rfl) ?_
  refine y_ctor (pc := 62) (rest := [zR 7 2, zI (1 : Int32), zR 37 0]) (fr := [(7, 3), (12, 3), (13, 3), (14, 3), (7, 4), (12, 4), (13, 4), (14, 4), (7, 5), (12, 5), (13, 5), (14, 5), (7, 6), (12, 6), (13, 6), (14, 6)]) (host := "NobodyThere") (fun l => ct_X7 l 2 _) zi_X7 (Or.inr (by decide +kernel)) rfl rfl (Nat.le_of_ble_eq_true rfl) (k_X7_keep 2 _) (fun _ _ _ _ _ _ _ _ _ _ _ _ h => by rw [hRm _ _ _ _ _ _ _ _ _ _ _ _ h]; exact ⟨⟨by decide, by decide⟩, by decide, by decide⟩) (zdg D_X2_init 32 (62, .invokespecial 30, 3) rfl) (fun w => ?_)
  refine y_aast (pc := 65) (g := 7) (j := 2) rfl (fun _ => rfl) rfl rfl rfl rfl rfl (zdg D_X2_init 33 (65, .aastore, 1) rfl) ?_
  rw [show (1 : Int32).toNatClampNeg = 1 from rfl]
  refine y_iinc (pc := 66) (v0 := 2) (al' := [(1, zI (2 : Int32)), (0, zR 2 0)]) 0 (zdg D_X2_init 34 (66, .iinc 1 1, 3) rfl) rfl rfl (by decide) rfl ?_
  refine y_goto (pc := 69) 47 (zdg D_X2_init 35 (69, .goto (-22), 3) rfl) rfl ?_
  refine y_iload_n (pc := 47) 0 (zdg D_X2_init 24 (47, .iload_n 1, 1) rfl) rfl rfl ?_
  refine y_bipush (pc := 48) (v := 6) (zdg D_X2_init 25 (48, .bipush 6, 2) rfl) rfl ?_
  refine y_geF (pc := 50) 72 (zdg D_X2_init 26 (50, .if_icmp .ge 22, 3) rfl) rfl (by decide) ?_
  refine y_aload_n (pc := 53) 1 (zdg D_X2_init 27 (53, .aload_n 0, 1) rfl) rfl rfl ?_
  refine y_getR (pc := 54) (k := 6) (g := 37) (j := 0) ⟨RX2, TX2, 7, rfl, ix_X2, Nat.le_of_ble_eq_true rfl, wk_436⟩ rfl rfl rfl (by first | (intro h; cases h; done) | decide | (show ¬ _ = _; simp [zwI])) (zdg D_X2_init 28 (54, .getfield 26, 3) rfl) ?_
  refine y_iload_n (pc := 57) 0 (zdg D_X2_init 29 (57, .iload_n 1, 1) rfl) rfl rfl ?_
  refine y_new (pc := 58) (f := 7) (i := 3) (C := "NobodyThere$Strangers") (T := TX7) (N := 4) tyX7 rfl (no2C 7) rfl ix_X7 tyX7_ok (by decide) ⟨wk_426, wk_151, wk_116⟩ (fun _ _ _ _ _ _ _ _ _ _ _ _ h => by rw [hRm _ _ _ _ _ _ _ _ _ _ _ _ h]; exact ⟨by decide, by decide⟩) (zdg D_X2_init 30 (58, .new 24, 3) rfl) (fun w => ?_)
  refine y_dup (pc := 61) rfl (zdg D_X2_init 31 (61, .dup, 1) rfl) ?_
  refine y_ctor (pc := 62) (rest := [zR 7 3, zI (2 : Int32), zR 37 0]) (fr := [(7, 4), (12, 4), (13, 4), (14, 4), (7, 5), (12, 5), (13, 5), (14, 5), (7, 6), (12, 6), (13, 6), (14, 6)]) (host := "NobodyThere") (fun l => ct_X7 l 3 _) zi_X7 (Or.inr (by decide +kernel)) rfl rfl (Nat.le_of_ble_eq_true rfl) (k_X7_keep 3 _) (fun _ _ _ _ _ _ _ _ _ _ _ _ h => by rw [hRm _ _ _ _ _ _ _ _ _ _ _ _ h]; exact ⟨⟨by decide, by decide⟩, by decide, by decide⟩) (zdg D_X2_init 32 (62, .invokespecial 30, 3) rfl) (fun w => ?_)
  refine y_aast (pc := 65) (g := 7) (j := 3) rfl (fun _ => rfl) rfl rfl rfl rfl rfl (zdg D_X2_init 33 (65, .aastore, 1) rfl) ?_
  rw [show (2 : Int32).toNatClampNeg = 2 from rfl]
  refine y_iinc (pc := 66) (v0 := 3) (al' := [(1, zI (3 : Int32)), (0, zR 2 0)]) 0 (zdg D_X2_init 34 (66, .iinc 1 1, 3) rfl) rfl rfl (by decide) rfl ?_
  refine y_goto (pc := 69) 47 (zdg D_X2_init 35 (69, .goto (-22), 3) rfl) rfl ?_
  refine y_iload_n (pc := 47) 0 (zdg D_X2_init 24 (47, .iload_n 1, 1) rfl) rfl rfl ?_
  refine y_bipush (pc := 48) (v := 6) (zdg D_X2_init 25 (48, .bipush 6, 2) rfl) rfl ?_
  refine y_geF (pc := 50) 72 (zdg D_X2_init 26 (50, .if_icmp .ge 22, 3) rfl) rfl (by decide) ?_
  refine y_aload_n (pc := 53) 1 (zdg D_X2_init 27 (53, .aload_n 0, 1) rfl) rfl rfl ?_
  refine y_getR (pc := 54) (k := 6) (g := 37) (j := 0) ⟨RX2, TX2, 7, rfl, ix_X2, Nat.le_of_ble_eq_true rfl, wk_436⟩ rfl rfl rfl (by first | (intro h; cases h; done) | decide | (show ¬ _ = _; simp [zwI])) (zdg D_X2_init 28 (54, .getfield 26, 3) rfl) ?_
  refine y_iload_n (pc := 57) 0 (zdg D_X2_init 29 (57, .iload_n 1, 1) rfl) rfl rfl ?_
  refine y_new (pc := 58) (f := 7) (i := 4) (C := "NobodyThere$Strangers") (T := TX7) (N := 4) tyX7 rfl (no2C 7) rfl ix_X7 tyX7_ok (by decide) ⟨wk_426, wk_151, wk_116⟩ (fun _ _ _ _ _ _ _ _ _ _ _ _ h => by rw [hRm _ _ _ _ _ _ _ _ _ _ _ _ h]; exact ⟨by decide, by decide⟩) (zdg D_X2_init 30 (58, .new 24, 3) rfl) (fun w => ?_)
  refine y_dup (pc := 61) rfl (zdg D_X2_init 31 (61, .dup, 1) rfl) ?_
  refine y_ctor (pc := 62) (rest := [zR 7 4, zI (3 : Int32), zR 37 0]) (fr := [(7, 5), (12, 5), (13, 5), (14, 5), (7, 6), (12, 6), (13, 6), (14, 6)]) (host := "NobodyThere") (fun l => ct_X7 l 4 _) zi_X7 (Or.inr (by decide +kernel)) rfl rfl (Nat.le_of_ble_eq_true rfl) (k_X7_keep 4 _) (fun _ _ _ _ _ _ _ _ _ _ _ _ h => by rw [hRm _ _ _ _ _ _ _ _ _ _ _ _ h]; exact ⟨⟨by decide, by decide⟩, by decide, by decide⟩) (zdg D_X2_init 32 (62, .invokespecial 30, 3) rfl) (fun w => ?_)
  refine y_aast (pc := 65) (g := 7) (j := 4) rfl (fun _ => rfl) rfl rfl rfl rfl rfl (zdg D_X2_init 33 (65, .aastore, 1) rfl) ?_
  rw [show (3 : Int32).toNatClampNeg = 3 from rfl]
  refine y_iinc (pc := 66) (v0 := 4) (al' := [(1, zI (4 : Int32)), (0, zR 2 0)]) 0 (zdg D_X2_init 34 (66, .iinc 1 1, 3) rfl) rfl rfl (by decide) rfl ?_
  refine y_goto (pc := 69) 47 (zdg D_X2_init 35 (69, .goto (-22), 3) rfl) rfl ?_
  refine y_iload_n (pc := 47) 0 (zdg D_X2_init 24 (47, .iload_n 1, 1) rfl) rfl rfl ?_
  refine y_bipush (pc := 48) (v := 6) (zdg D_X2_init 25 (48, .bipush 6, 2) rfl) rfl ?_
  refine y_geF (pc := 50) 72 (zdg D_X2_init 26 (50, .if_icmp .ge 22, 3) rfl) rfl (by decide) ?_
  refine y_aload_n (pc := 53) 1 (zdg D_X2_init 27 (53, .aload_n 0, 1) rfl) rfl rfl ?_
  refine y_getR (pc := 54) (k := 6) (g := 37) (j := 0) ⟨RX2, TX2, 7, rfl, ix_X2, Nat.le_of_ble_eq_true rfl, wk_436⟩ rfl rfl rfl (by first | (intro h; cases h; done) | decide | (show ¬ _ = _; simp [zwI])) (zdg D_X2_init 28 (54, .getfield 26, 3) rfl) ?_
  refine y_iload_n (pc := 57) 0 (zdg D_X2_init 29 (57, .iload_n 1, 1) rfl) rfl rfl ?_
  refine y_new (pc := 58) (f := 7) (i := 5) (C := "NobodyThere$Strangers") (T := TX7) (N := 4) tyX7 rfl (no2C 7) rfl ix_X7 tyX7_ok (by decide) ⟨wk_426, wk_151, wk_116⟩ (fun _ _ _ _ _ _ _ _ _ _ _ _ h => by rw [hRm _ _ _ _ _ _ _ _ _ _ _ _ h]; exact ⟨by decide, by decide⟩) (zdg D_X2_init 30 (58, .new 24, 3) rfl) (fun w => ?_)
  refine y_dup (pc := 61) rfl (zdg D_X2_init 31 (61, .dup, 1) rfl) ?_
  refine y_ctor (pc := 62) (rest := [zR 7 5, zI (4 : Int32), zR 37 0]) (fr := [(7, 6), (12, 6), (13, 6), (14, 6)]) (host := "NobodyThere") (fun l => ct_X7 l 5 _) zi_X7 (Or.inr (by decide +kernel)) rfl rfl (Nat.le_of_ble_eq_true rfl) (k_X7_keep 5 _) (fun _ _ _ _ _ _ _ _ _ _ _ _ h => by rw [hRm _ _ _ _ _ _ _ _ _ _ _ _ h]; exact ⟨⟨by decide, by decide⟩, by decide, by decide⟩) (zdg D_X2_init 32 (62, .invokespecial 30, 3) rfl) (fun w => ?_)
  refine y_aast (pc := 65) (g := 7) (j := 5) rfl (fun _ => rfl) rfl rfl rfl rfl rfl (zdg D_X2_init 33 (65, .aastore, 1) rfl) ?_
  rw [show (4 : Int32).toNatClampNeg = 4 from rfl]
  refine y_iinc (pc := 66) (v0 := 5) (al' := [(1, zI (5 : Int32)), (0, zR 2 0)]) 0 (zdg D_X2_init 34 (66, .iinc 1 1, 3) rfl) rfl rfl (by decide) rfl ?_
  refine y_goto (pc := 69) 47 (zdg D_X2_init 35 (69, .goto (-22), 3) rfl) rfl ?_
  refine y_iload_n (pc := 47) 0 (zdg D_X2_init 24 (47, .iload_n 1, 1) rfl) rfl rfl ?_
  refine y_bipush (pc := 48) (v := 6) (zdg D_X2_init 25 (48, .bipush 6, 2) rfl) rfl ?_
  refine y_geF (pc := 50) 72 (zdg D_X2_init 26 (50, .if_icmp .ge 22, 3) rfl) rfl (by decide) ?_
  refine y_aload_n (pc := 53) 1 (zdg D_X2_init 27 (53, .aload_n 0, 1) rfl) rfl rfl ?_
  refine y_getR (pc := 54) (k := 6) (g := 37) (j := 0) ⟨RX2, TX2, 7, rfl, ix_X2, Nat.le_of_ble_eq_true rfl, wk_436⟩ rfl rfl rfl (by first | (intro h; cases h; done) | decide | (show ¬ _ = _; simp [zwI])) (zdg D_X2_init 28 (54, .getfield 26, 3) rfl) ?_
  refine y_iload_n (pc := 57) 0 (zdg D_X2_init 29 (57, .iload_n 1, 1) rfl) rfl rfl ?_
  refine y_new (pc := 58) (f := 7) (i := 6) (C := "NobodyThere$Strangers") (T := TX7) (N := 4) tyX7 rfl (no2C 7) rfl ix_X7 tyX7_ok (by decide) ⟨wk_426, wk_151, wk_116⟩ (fun _ _ _ _ _ _ _ _ _ _ _ _ h => by rw [hRm _ _ _ _ _ _ _ _ _ _ _ _ h]; exact ⟨by decide, by decide⟩) (zdg D_X2_init 30 (58, .new 24, 3) rfl) (fun w => ?_)
  refine y_dup (pc := 61) rfl (zdg D_X2_init 31 (61, .dup, 1) rfl) ?_
  refine y_ctor (pc := 62) (rest := [zR 7 6, zI (5 : Int32), zR 37 0]) (fr := []) (host := "NobodyThere") (fun l => ct_X7 l 6 _) zi_X7 (Or.inr (by decide +kernel)) rfl rfl (Nat.le_of_ble_eq_true rfl) (k_X7_keep 6 _) (fun _ _ _ _ _ _ _ _ _ _ _ _ h => by rw [hRm _ _ _ _ _ _ _ _ _ _ _ _ h]; exact ⟨⟨by decide, by decide⟩, by decide, by decide⟩) (zdg D_X2_init 32 (62, .invokespecial 30, 3) rfl) (fun w => ?_)
  refine y_aast (pc := 65) (g := 7) (j := 6) rfl (fun _ => rfl) rfl rfl rfl rfl rfl (zdg D_X2_init 33 (65, .aastore, 1) rfl) ?_
  rw [show (5 : Int32).toNatClampNeg = 5 from rfl]
  refine y_iinc (pc := 66) (v0 := 6) (al' := [(1, zI (6 : Int32)), (0, zR 2 0)]) 0 (zdg D_X2_init 34 (66, .iinc 1 1, 3) rfl) rfl rfl (by decide) rfl ?_
  refine y_goto (pc := 69) 47 (zdg D_X2_init 35 (69, .goto (-22), 3) rfl) rfl ?_
  refine y_iload_n (pc := 47) 0 (zdg D_X2_init 24 (47, .iload_n 1, 1) rfl) rfl rfl ?_
  refine y_bipush (pc := 48) (v := 6) (zdg D_X2_init 25 (48, .bipush 6, 2) rfl) rfl ?_
  refine y_geT (pc := 50) 72 (zdg D_X2_init 26 (50, .if_icmp .ge 22, 3) rfl) rfl (by decide) ?_
  exact y_vret (pc := 72) rfl hQ (zdg D_X2_init 36 (72, .return_, 1) rfl)
