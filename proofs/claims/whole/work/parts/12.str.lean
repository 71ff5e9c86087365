/-! Math.max, min, abs; String constants: length and charAt (the last two rows still open: see NOTES.md) -/
def zmax (a b : Int32) : Int32 := if a < b then b else a
def zmin (a b : Int32) : Int32 := if b < a then b else a
def zabs (a : Int32) : Int32 := if 0 ≤ a then a else 0 - a
section ZS
variable {sy : zSy} {mt : zMT} {K : zK} {pc : Nat} {al al' : List (Nat × zV)} {as : List zV} {σ : zG}
theorem zroom13 {w : zW} {rest : List zV} {n : Nat} (h : (rest.map zcat).sum + 13 ≤ n) : ((rest.map (zc w)).map fun v => v.category).sum + 13 ≤ n := by
  rw [List.map_map]
  rw [show ((fun v : Value => v.category) ∘ zc w) = zcat from funext (zc_cat w)]
  exact h
theorem z_mmax {idx : Nat} {a b : Int32} (hlk0 : Cond.methodLink mt.1 idx yJ9_max_7cf53 ∈ zTB) (hfr : 1 ≤ (zrm mt.2.2.2.1).frames) (hloc : (as.map zcat).sum + 13 ≤ (zrm mt.2.2.2.1).locals) (hd : decode mt.2.1 pc = .ok (.invokestatic idx, 3)) (k : zX sy mt K (pc + 3) al (zI (zmax a b) :: as) σ) : zX sy mt K pc al (zI b :: zI a :: as) σ := by
  obtain ⟨w, l, p, e, s, m, args, below, meth, c, v, σ'⟩ := K
  intro F h1 h2 H locs ls hG hS hl
  obtain ⟨hx, hb, hml, hown, hts, hr, hlk, hAll⟩ := id F
  obtain ⟨⟨hini, hcode, -, -, -⟩, hstat⟩ := zs_J9_max_7cf53
  exact va_mmax hx hb (hml.trans hl.1.symm) hown (hts _ hlk0) (hts _ hstat) (hts _ hini) (hts _ hcode) hfr (zroom13 hloc) (Nat.zero_le _) (Nat.zero_le _) hd (k F h1 (zp trivial (zd (zd h2))) H locs ls hG hS hl)
theorem z_mmin {idx : Nat} {a b : Int32} (hlk0 : Cond.methodLink mt.1 idx yJ9_min_7cf53 ∈ zTB) (hfr : 1 ≤ (zrm mt.2.2.2.1).frames) (hloc : (as.map zcat).sum + 13 ≤ (zrm mt.2.2.2.1).locals) (hd : decode mt.2.1 pc = .ok (.invokestatic idx, 3)) (k : zX sy mt K (pc + 3) al (zI (zmin a b) :: as) σ) : zX sy mt K pc al (zI b :: zI a :: as) σ := by
  obtain ⟨w, l, p, e, s, m, args, below, meth, c, v, σ'⟩ := K
  intro F h1 h2 H locs ls hG hS hl
  obtain ⟨hx, hb, hml, hown, hts, hr, hlk, hAll⟩ := id F
  obtain ⟨⟨hini, hcode, -, -, -⟩, hstat⟩ := zs_J9_min_7cf53
  exact va_mmin hx hb (hml.trans hl.1.symm) hown (hts _ hlk0) (hts _ hstat) (hts _ hini) (hts _ hcode) hfr (zroom13 hloc) (Nat.zero_le _) (Nat.zero_le _) hd (k F h1 (zp trivial (zd (zd h2))) H locs ls hG hS hl)
theorem z_mabs {idx : Nat} {a : Int32} (hlk0 : Cond.methodLink mt.1 idx yJ9_abs_0f7a4 ∈ zTB) (hfr : 1 ≤ (zrm mt.2.2.2.1).frames) (hloc : (as.map zcat).sum + 13 ≤ (zrm mt.2.2.2.1).locals) (hd : decode mt.2.1 pc = .ok (.invokestatic idx, 3)) (k : zX sy mt K (pc + 3) al (zI (zabs a) :: as) σ) : zX sy mt K pc al (zI a :: as) σ := by
  obtain ⟨w, l, p, e, s, m, args, below, meth, c, v, σ'⟩ := K
  intro F h1 h2 H locs ls hG hS hl
  obtain ⟨hx, hb, hml, hown, hts, hr, hlk, hAll⟩ := id F
  obtain ⟨⟨hini, hcode, -, -, -⟩, hstat⟩ := zs_J9_abs_0f7a4
  exact va_mabs hx hb (hml.trans hl.1.symm) hown (hts _ hlk0) (hts _ hstat) (hts _ hini) (hts _ hcode) hfr (zroom13 hloc) (Nat.zero_le _) (Nat.zero_le _) hd (k F h1 (zp trivial (zd h2)) H locs ls hG hS hl)
theorem z_slen {τ : Type} {res A : Option τ} {k idx : Nat} (hlk0 : Cond.methodLink mt.1 idx yJ0_length_8abf5 ∈ zTB) (hR : 6 ≤ mt.2.2.2.1) (hroom : (as.map zcat).sum ≤ 8) (hd : decode mt.2.1 pc = .ok (.invokevirtual idx, 3)) (hn : res ≠ none) (hf : res = zg (decide (k < sy.2.2.1.length)) A) (kk : res = A → zX sy mt K (pc + 3) al (zI (zsl sy.2.2.1 k) :: as) σ) : zX sy mt K pc al (zS k :: as) σ := sorry
theorem z_schar {τ : Type} {res A : Option τ} {k idx : Nat} {x : Int32} (hlk0 : Cond.methodLink mt.1 idx yJ0_charAt_5068e ∈ zTB) (hR : 6 ≤ mt.2.2.2.1) (hroom : (as.map zcat).sum ≤ 8) (hd : decode mt.2.1 pc = .ok (.invokevirtual idx, 3)) (hn : res ≠ none) (hf : res = zg (zin x (zsn sy.2.2.1 k)) A) (kk : res = A → zX sy mt K (pc + 3) al (zI (zsc sy.2.2.1 k x.toNatClampNeg) :: as) σ) : zX sy mt K pc al (zI x :: zS k :: as) σ := sorry
end ZS
