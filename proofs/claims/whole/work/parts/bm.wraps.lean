/-! The law's wrappers: what they come to -/
/-- a throw is caught -/
theorem am_catch {d y pc k n k' n' E hp : Nat} {ls : am_L} {st r : List Value} {I I' : am_I} {J J' : am_J} {Pf Pf' : am_R} {P : am_O → Prop} {h0 : Nat × Nat × Nat × Nat} {t : List (Nat × Nat × Nat × Nat)} (hh : am_hd y = h0 :: t ∧ Nat.beq (am_ow y) 13 = true) (hf : am_hf E pc (h0 :: t) = some hp) (hE : Nat.blt E 2 = true) (hn : am_n1 ls = true) (h : am_go none d y (hp, ls, [.retAddr 1], (am_SH, I', J', Pf'), k + k', n + n') P) : am_af none d y pc ls st r (am_SH, I, J, Pf) k n true P (.inr E, (am_SH, I', J', Pf'), k', n') := by
  refine ⟨rfl, ?_⟩
  have e : am_cat y (pc, ls, st, (am_SH, I, J, Pf), k, n) E (am_SH, I', J', Pf') (k + k') (n + n') = some (.inl (hp, ls, [.retAddr 1], (am_SH, I', J', Pf'), k + k', n + n')) := by
    unfold am_cat
    rw [hh.1]
    dsimp only
    rw [hf]
    dsimp only
    rw [hE, hn, hh.2, Nat.beq_refl]
    rfl
  dsimp only
  rw [e]
  exact h
/-- a wrapper, then the reference: the code, the answer in the law's row, the state behind both -/
def WRAP (g : Int32 → Int64) (yl yr : Nat) (as : List Value) (I : am_I) (J : am_J) (Pf : am_R) : Prop := ∀ (D : Nat) (P : am_O → Prop), 402 ≤ D → (∀ (c a : Int32) (I1 : am_I) (J1 : am_J) (Pf1 : am_R) (k n : Nat), k ≤ 1 → n ≤ 6 → (c = 0 → J1 202 0 = g a) → (∀ (D2 : Nat) (P2 : am_O → Prop), 400 ≤ D2 → (∀ I2, INV I2 J1 Pf1 → I2 163 0 = c → P2 (.inl (some (.int a)), (am_SH, I2, J1, Pf1), 0, 0)) → am_mth D2 yr (.ref 163 :: as) (am_SH, I1, J1, Pf1) P2) → P (.inl (some (.int c)), (am_SH, I1, J1, Pf1), k, n)) → am_mth D yl (.ref 0 :: (as ++ [.ref 202])) (am_SH, I, J, Pf) P
def gB (a : Int32) : Int64 := if a = 0 then 0 else 1
theorem J202u {J : am_J} {v : Int64} : ∀ o, o ≠ 202 → am_u J 202 0 v o = J o := fun o e => by funext k; exact am_u_nq (by omega)
theorem hh343 : am_hd 343 = [(0, 9, 12, 13)] ∧ Nat.beq (am_ow 343) 13 = true := by decide +kernel
theorem wr_grammar {I : am_I} {J : am_J} {Pf : am_R} (x1 : Int32) (h : PAIR cd1 141 229 [.int x1] I J Pf) : WRAP Int32.toInt64 343 229 [.int x1] I J Pf := by
  intro D P hD kk
  obtain ⟨D', rfl⟩ : ∃ D', D = D' + 1 := ⟨D - 1, by omega⟩
  refine am_mth_of rfl rfl (v343_0 (h D' _ (by omega) (fun v I1 J1 Pf1 hE hr _ _ => ?_)))
  cases v with
  | inl E =>
    have hE := hE E rfl
    have hE1 := okE_le hE
    replace hr := hr J1 (fun _ _ => rfl)
    obtain rfl | rfl : E = 0 ∨ E = 1 := by omega
    · exact absurd hE (by decide)
    · exact am_catch hh343 rfl rfl rfl (v343_h12 (kk 1 _ I1 J1 Pf1 1 6 (by omega) (by omega) (fun z => absurd z (by decide)) hr))
  | inr a => exact am_back (v343_a (kk 0 a I1 _ Pf1 0 0 (by omega) (by omega) (fun _ => am_u_same) (hr _ J202u)))
theorem hh344 : am_hd 344 = [(0, 9, 12, 13)] ∧ Nat.beq (am_ow 344) 13 = true := by decide +kernel
theorem wr_law {I : am_I} {J : am_J} {Pf : am_R} (x1 : Int32) (h : PAIR cd1 142 239 [.int x1] I J Pf) : WRAP Int32.toInt64 344 239 [.int x1] I J Pf := by
  intro D P hD kk
  obtain ⟨D', rfl⟩ : ∃ D', D = D' + 1 := ⟨D - 1, by omega⟩
  refine am_mth_of rfl rfl (v344_0 (h D' _ (by omega) (fun v I1 J1 Pf1 hE hr _ _ => ?_)))
  cases v with
  | inl E =>
    have hE := hE E rfl
    have hE1 := okE_le hE
    replace hr := hr J1 (fun _ _ => rfl)
    obtain rfl | rfl : E = 0 ∨ E = 1 := by omega
    · exact absurd hE (by decide)
    · exact am_catch hh344 rfl rfl rfl (v344_h12 (kk 1 _ I1 J1 Pf1 1 6 (by omega) (by omega) (fun z => absurd z (by decide)) hr))
  | inr a => exact am_back (v344_a (kk 0 a I1 _ Pf1 0 0 (by omega) (by omega) (fun _ => am_u_same) (hr _ J202u)))
theorem hh345 : am_hd 345 = [(0, 9, 12, 13)] ∧ Nat.beq (am_ow 345) 13 = true := by decide +kernel
theorem wr_work {I : am_I} {J : am_J} {Pf : am_R} (x1 : Int32) (h : PAIR cd1 143 247 [.int x1] I J Pf) : WRAP Int32.toInt64 345 247 [.int x1] I J Pf := by
  intro D P hD kk
  obtain ⟨D', rfl⟩ : ∃ D', D = D' + 1 := ⟨D - 1, by omega⟩
  refine am_mth_of rfl rfl (v345_0 (h D' _ (by omega) (fun v I1 J1 Pf1 hE hr _ _ => ?_)))
  cases v with
  | inl E =>
    have hE := hE E rfl
    have hE1 := okE_le hE
    replace hr := hr J1 (fun _ _ => rfl)
    obtain rfl | rfl : E = 0 ∨ E = 1 := by omega
    · exact absurd hE (by decide)
    · exact am_catch hh345 rfl rfl rfl (v345_h12 (kk 1 _ I1 J1 Pf1 1 6 (by omega) (by omega) (fun z => absurd z (by decide)) hr))
  | inr a => exact am_back (v345_a (kk 0 a I1 _ Pf1 0 0 (by omega) (by omega) (fun _ => am_u_same) (hr _ J202u)))
theorem hh346 : am_hd 346 = [(0, 9, 12, 13)] ∧ Nat.beq (am_ow 346) 13 = true := by decide +kernel
theorem wr_told {I : am_I} {J : am_J} {Pf : am_R} (x1 : Int32) (h : PAIR cd1 147 274 [.int x1] I J Pf) : WRAP Int32.toInt64 346 274 [.int x1] I J Pf := by
  intro D P hD kk
  obtain ⟨D', rfl⟩ : ∃ D', D = D' + 1 := ⟨D - 1, by omega⟩
  refine am_mth_of rfl rfl (v346_0 (h D' _ (by omega) (fun v I1 J1 Pf1 hE hr _ _ => ?_)))
  cases v with
  | inl E =>
    have hE := hE E rfl
    have hE1 := okE_le hE
    replace hr := hr J1 (fun _ _ => rfl)
    obtain rfl | rfl : E = 0 ∨ E = 1 := by omega
    · exact absurd hE (by decide)
    · exact am_catch hh346 rfl rfl rfl (v346_h12 (kk 1 _ I1 J1 Pf1 1 6 (by omega) (by omega) (fun z => absurd z (by decide)) hr))
  | inr a => exact am_back (v346_a (kk 0 a I1 _ Pf1 0 0 (by omega) (by omega) (fun _ => am_u_same) (hr _ J202u)))
theorem hh347 : am_hd 347 = [(0, 10, 13, 28), (0, 10, 17, 13)] ∧ Nat.beq (am_ow 347) 13 = true := by decide +kernel
theorem wr_group {I : am_I} {J : am_J} {Pf : am_R} (x1 x2 : Int32) (h : PAIR cd2 148 276 [.int x1, .int x2] I J Pf) : WRAP Int32.toInt64 347 276 [.int x1, .int x2] I J Pf := by
  intro D P hD kk
  obtain ⟨D', rfl⟩ : ∃ D', D = D' + 1 := ⟨D - 1, by omega⟩
  refine am_mth_of rfl rfl (v347_0 (h D' _ (by omega) (fun v I1 J1 Pf1 hE hr _ _ => ?_)))
  cases v with
  | inl E =>
    have hE := hE E rfl
    have hE1 := okE_le hE
    replace hr := hr J1 (fun _ _ => rfl)
    obtain rfl | rfl : E = 0 ∨ E = 1 := by omega
    · exact am_catch hh347 rfl rfl rfl (v347_h13 (kk 1 _ I1 J1 Pf1 1 6 (by omega) (by omega) (fun z => absurd z (by decide)) hr))
    · exact am_catch hh347 rfl rfl rfl (v347_h17 (kk 2 _ I1 J1 Pf1 1 6 (by omega) (by omega) (fun z => absurd z (by decide)) hr))
  | inr a => exact am_back (v347_a (kk 0 a I1 _ Pf1 0 0 (by omega) (by omega) (fun _ => am_u_same) (hr _ J202u)))
theorem hh348 : am_hd 348 = [(0, 17, 20, 28), (0, 17, 24, 13)] ∧ Nat.beq (am_ow 348) 13 = true := by decide +kernel
theorem wr_holds {I : am_I} {J : am_J} {Pf : am_R} (x1 x2 : Int32) (h : PAIR cd2 149 277 [.int x1, .int x2] I J Pf) : WRAP gB 348 277 [.int x1, .int x2] I J Pf := by
  intro D P hD kk
  obtain ⟨D', rfl⟩ : ∃ D', D = D' + 1 := ⟨D - 1, by omega⟩
  refine am_mth_of rfl rfl (v348_0 (h D' _ (by omega) (fun v I1 J1 Pf1 hE hr _ _ => ?_)))
  cases v with
  | inl E =>
    have hE := hE E rfl
    have hE1 := okE_le hE
    replace hr := hr J1 (fun _ _ => rfl)
    obtain rfl | rfl : E = 0 ∨ E = 1 := by omega
    · exact am_catch hh348 rfl rfl rfl (v348_h20 (kk 1 _ I1 J1 Pf1 1 6 (by omega) (by omega) (fun z => absurd z (by decide)) hr))
    · exact am_catch hh348 rfl rfl rfl (v348_h24 (kk 2 _ I1 J1 Pf1 1 6 (by omega) (by omega) (fun z => absurd z (by decide)) hr))
  | inr a =>
    refine am_back (v348_a ?_)
    by_cases ha : a = 0
    · rw [if_pos ha]
      exact kk 0 a I1 _ Pf1 0 0 (by omega) (by omega) (fun _ => by rw [am_u_same, gB, if_pos ha]) (hr _ J202u)
    · rw [if_neg ha]
      exact kk 0 a I1 _ Pf1 0 0 (by omega) (by omega) (fun _ => by rw [am_u_same, gB, if_neg ha]) (hr _ J202u)
theorem hh349 : am_hd 349 = [(0, 10, 13, 28)] ∧ Nat.beq (am_ow 349) 13 = true := by decide +kernel
theorem wr_beside {I : am_I} {J : am_J} {Pf : am_R} (x1 x2 : Int32) (h : PAIR cd1 150 278 [.int x1, .int x2] I J Pf) : WRAP Int32.toInt64 349 278 [.int x1, .int x2] I J Pf := by
  intro D P hD kk
  obtain ⟨D', rfl⟩ : ∃ D', D = D' + 1 := ⟨D - 1, by omega⟩
  refine am_mth_of rfl rfl (v349_0 (h D' _ (by omega) (fun v I1 J1 Pf1 hE hr _ _ => ?_)))
  cases v with
  | inl E =>
    have hE := hE E rfl
    have hE1 := okE_le hE
    replace hr := hr J1 (fun _ _ => rfl)
    obtain rfl | rfl : E = 0 ∨ E = 1 := by omega
    · exact am_catch hh349 rfl rfl rfl (v349_h13 (kk 1 _ I1 J1 Pf1 1 6 (by omega) (by omega) (fun z => absurd z (by decide)) hr))
    · exact absurd hE (by decide)
  | inr a => exact am_back (v349_a (kk 0 a I1 _ Pf1 0 0 (by omega) (by omega) (fun _ => am_u_same) (hr _ J202u)))
theorem hh350 : am_hd 350 = [(0, 10, 13, 28), (0, 10, 17, 13)] ∧ Nat.beq (am_ow 350) 13 = true := by decide +kernel
theorem wr_production {I : am_I} {J : am_J} {Pf : am_R} (x1 x2 : Int32) (h : PAIR cd2 151 279 [.int x1, .int x2] I J Pf) : WRAP Int32.toInt64 350 279 [.int x1, .int x2] I J Pf := by
  intro D P hD kk
  obtain ⟨D', rfl⟩ : ∃ D', D = D' + 1 := ⟨D - 1, by omega⟩
  refine am_mth_of rfl rfl (v350_0 (h D' _ (by omega) (fun v I1 J1 Pf1 hE hr _ _ => ?_)))
  cases v with
  | inl E =>
    have hE := hE E rfl
    have hE1 := okE_le hE
    replace hr := hr J1 (fun _ _ => rfl)
    obtain rfl | rfl : E = 0 ∨ E = 1 := by omega
    · exact am_catch hh350 rfl rfl rfl (v350_h13 (kk 1 _ I1 J1 Pf1 1 6 (by omega) (by omega) (fun z => absurd z (by decide)) hr))
    · exact am_catch hh350 rfl rfl rfl (v350_h17 (kk 2 _ I1 J1 Pf1 1 6 (by omega) (by omega) (fun z => absurd z (by decide)) hr))
  | inr a => exact am_back (v350_a (kk 0 a I1 _ Pf1 0 0 (by omega) (by omega) (fun _ => am_u_same) (hr _ J202u)))
theorem hh351 : am_hd 351 = [(0, 10, 13, 13)] ∧ Nat.beq (am_ow 351) 13 = true := by decide +kernel
theorem wr_sort {I : am_I} {J : am_J} {Pf : am_R} (x1 x2 : Int32) (h : PAIR cd1 152 285 [.int x1, .int x2] I J Pf) : WRAP Int32.toInt64 351 285 [.int x1, .int x2] I J Pf := by
  intro D P hD kk
  obtain ⟨D', rfl⟩ : ∃ D', D = D' + 1 := ⟨D - 1, by omega⟩
  refine am_mth_of rfl rfl (v351_0 (h D' _ (by omega) (fun v I1 J1 Pf1 hE hr _ _ => ?_)))
  cases v with
  | inl E =>
    have hE := hE E rfl
    have hE1 := okE_le hE
    replace hr := hr J1 (fun _ _ => rfl)
    obtain rfl | rfl : E = 0 ∨ E = 1 := by omega
    · exact absurd hE (by decide)
    · exact am_catch hh351 rfl rfl rfl (v351_h13 (kk 1 _ I1 J1 Pf1 1 6 (by omega) (by omega) (fun z => absurd z (by decide)) hr))
  | inr a => exact am_back (v351_a (kk 0 a I1 _ Pf1 0 0 (by omega) (by omega) (fun _ => am_u_same) (hr _ J202u)))
theorem hh352 : am_hd 352 = [(0, 17, 20, 13)] ∧ Nat.beq (am_ow 352) 13 = true := by decide +kernel
theorem wr_begins {I : am_I} {J : am_J} {Pf : am_R} (x1 x2 : Int32) (h : PAIR cd1 153 286 [.int x1, .int x2] I J Pf) : WRAP gB 352 286 [.int x1, .int x2] I J Pf := by
  intro D P hD kk
  obtain ⟨D', rfl⟩ : ∃ D', D = D' + 1 := ⟨D - 1, by omega⟩
  refine am_mth_of rfl rfl (v352_0 (h D' _ (by omega) (fun v I1 J1 Pf1 hE hr _ _ => ?_)))
  cases v with
  | inl E =>
    have hE := hE E rfl
    have hE1 := okE_le hE
    replace hr := hr J1 (fun _ _ => rfl)
    obtain rfl | rfl : E = 0 ∨ E = 1 := by omega
    · exact absurd hE (by decide)
    · exact am_catch hh352 rfl rfl rfl (v352_h20 (kk 1 _ I1 J1 Pf1 1 6 (by omega) (by omega) (fun z => absurd z (by decide)) hr))
  | inr a =>
    refine am_back (v352_a ?_)
    by_cases ha : a = 0
    · rw [if_pos ha]
      exact kk 0 a I1 _ Pf1 0 0 (by omega) (by omega) (fun _ => by rw [am_u_same, gB, if_pos ha]) (hr _ J202u)
    · rw [if_neg ha]
      exact kk 0 a I1 _ Pf1 0 0 (by omega) (by omega) (fun _ => by rw [am_u_same, gB, if_neg ha]) (hr _ J202u)
theorem hh353 : am_hd 353 = [(0, 9, 12, 28)] ∧ Nat.beq (am_ow 353) 13 = true := by decide +kernel
theorem wr_sign {I : am_I} {J : am_J} {Pf : am_R} (x1 : Int32) (h : PAIR cd1 154 287 [.int x1] I J Pf) : WRAP Int32.toInt64 353 287 [.int x1] I J Pf := by
  intro D P hD kk
  obtain ⟨D', rfl⟩ : ∃ D', D = D' + 1 := ⟨D - 1, by omega⟩
  refine am_mth_of rfl rfl (v353_0 (h D' _ (by omega) (fun v I1 J1 Pf1 hE hr _ _ => ?_)))
  cases v with
  | inl E =>
    have hE := hE E rfl
    have hE1 := okE_le hE
    replace hr := hr J1 (fun _ _ => rfl)
    obtain rfl | rfl : E = 0 ∨ E = 1 := by omega
    · exact am_catch hh353 rfl rfl rfl (v353_h12 (kk 1 _ I1 J1 Pf1 1 6 (by omega) (by omega) (fun z => absurd z (by decide)) hr))
    · exact absurd hE (by decide)
  | inr a => exact am_back (v353_a (kk 0 a I1 _ Pf1 0 0 (by omega) (by omega) (fun _ => am_u_same) (hr _ J202u)))
theorem hh354 : am_hd 354 = [(0, 9, 12, 28)] ∧ Nat.beq (am_ow 354) 13 = true := by decide +kernel
theorem wr_run {I : am_I} {J : am_J} {Pf : am_R} (x1 : Int32) (h : PAIR cd1 155 288 [.int x1] I J Pf) : WRAP Int32.toInt64 354 288 [.int x1] I J Pf := by
  intro D P hD kk
  obtain ⟨D', rfl⟩ : ∃ D', D = D' + 1 := ⟨D - 1, by omega⟩
  refine am_mth_of rfl rfl (v354_0 (h D' _ (by omega) (fun v I1 J1 Pf1 hE hr _ _ => ?_)))
  cases v with
  | inl E =>
    have hE := hE E rfl
    have hE1 := okE_le hE
    replace hr := hr J1 (fun _ _ => rfl)
    obtain rfl | rfl : E = 0 ∨ E = 1 := by omega
    · exact am_catch hh354 rfl rfl rfl (v354_h12 (kk 1 _ I1 J1 Pf1 1 6 (by omega) (by omega) (fun z => absurd z (by decide)) hr))
    · exact absurd hE (by decide)
  | inr a => exact am_back (v354_a (kk 0 a I1 _ Pf1 0 0 (by omega) (by omega) (fun _ => am_u_same) (hr _ J202u)))
theorem hh355 : am_hd 355 = [(0, 19, 22, 13)] ∧ Nat.beq (am_ow 355) 13 = true := by decide +kernel
theorem wr_is {I : am_I} {J : am_J} {Pf : am_R} (x1 x2 x3 : Int32) (h : PAIR cd1 156 290 [.int x1, .int x2, .int x3] I J Pf) : WRAP gB 355 290 [.int x1, .int x2, .int x3] I J Pf := by
  intro D P hD kk
  obtain ⟨D', rfl⟩ : ∃ D', D = D' + 1 := ⟨D - 1, by omega⟩
  refine am_mth_of rfl rfl (v355_0 (h D' _ (by omega) (fun v I1 J1 Pf1 hE hr _ _ => ?_)))
  cases v with
  | inl E =>
    have hE := hE E rfl
    have hE1 := okE_le hE
    replace hr := hr J1 (fun _ _ => rfl)
    obtain rfl | rfl : E = 0 ∨ E = 1 := by omega
    · exact absurd hE (by decide)
    · exact am_catch hh355 rfl rfl rfl (v355_h22 (kk 1 _ I1 J1 Pf1 1 6 (by omega) (by omega) (fun z => absurd z (by decide)) hr))
  | inr a =>
    refine am_back (v355_a ?_)
    by_cases ha : a = 0
    · rw [if_pos ha]
      exact kk 0 a I1 _ Pf1 0 0 (by omega) (by omega) (fun _ => by rw [am_u_same, gB, if_pos ha]) (hr _ J202u)
    · rw [if_neg ha]
      exact kk 0 a I1 _ Pf1 0 0 (by omega) (by omega) (fun _ => by rw [am_u_same, gB, if_neg ha]) (hr _ J202u)
theorem hh356 : am_hd 356 = [(0, 10, 13, 13)] ∧ Nat.beq (am_ow 356) 13 = true := by decide +kernel
theorem wr_ends {I : am_I} {J : am_J} {Pf : am_R} (x1 x2 : Int32) (h : PAIR cd1 157 291 [.int x1, .int x2] I J Pf) : WRAP Int32.toInt64 356 291 [.int x1, .int x2] I J Pf := by
  intro D P hD kk
  obtain ⟨D', rfl⟩ : ∃ D', D = D' + 1 := ⟨D - 1, by omega⟩
  refine am_mth_of rfl rfl (v356_0 (h D' _ (by omega) (fun v I1 J1 Pf1 hE hr _ _ => ?_)))
  cases v with
  | inl E =>
    have hE := hE E rfl
    have hE1 := okE_le hE
    replace hr := hr J1 (fun _ _ => rfl)
    obtain rfl | rfl : E = 0 ∨ E = 1 := by omega
    · exact absurd hE (by decide)
    · exact am_catch hh356 rfl rfl rfl (v356_h13 (kk 1 _ I1 J1 Pf1 1 6 (by omega) (by omega) (fun z => absurd z (by decide)) hr))
  | inr a => exact am_back (v356_a (kk 0 a I1 _ Pf1 0 0 (by omega) (by omega) (fun _ => am_u_same) (hr _ J202u)))
theorem hh357 : am_hd 357 = [(0, 12, 15, 13)] ∧ Nat.beq (am_ow 357) 13 = true := by decide +kernel
theorem wr_ways {I : am_I} {J : am_J} {Pf : am_R} (x1 x2 x3 : Int32) (h : PAIR cd1 158 294 [.int x1, .int x2, .int x3] I J Pf) : WRAP Int32.toInt64 357 294 [.int x1, .int x2, .int x3] I J Pf := by
  intro D P hD kk
  obtain ⟨D', rfl⟩ : ∃ D', D = D' + 1 := ⟨D - 1, by omega⟩
  refine am_mth_of rfl rfl (v357_0 (h D' _ (by omega) (fun v I1 J1 Pf1 hE hr _ _ => ?_)))
  cases v with
  | inl E =>
    have hE := hE E rfl
    have hE1 := okE_le hE
    replace hr := hr J1 (fun _ _ => rfl)
    obtain rfl | rfl : E = 0 ∨ E = 1 := by omega
    · exact absurd hE (by decide)
    · exact am_catch hh357 rfl rfl rfl (v357_h15 (kk 1 _ I1 J1 Pf1 1 6 (by omega) (by omega) (fun z => absurd z (by decide)) hr))
  | inr a => exact am_back (v357_a (kk 0 a I1 _ Pf1 0 0 (by omega) (by omega) (fun _ => am_u_same) (hr _ J202u)))
theorem hh358 : am_hd 358 = [(0, 12, 15, 13)] ∧ Nat.beq (am_ow 358) 13 = true := by decide +kernel
theorem wr_height {I : am_I} {J : am_J} {Pf : am_R} (x1 x2 x3 : Int32) (h : PAIR cd1 159 295 [.int x1, .int x2, .int x3] I J Pf) : WRAP Int32.toInt64 358 295 [.int x1, .int x2, .int x3] I J Pf := by
  intro D P hD kk
  obtain ⟨D', rfl⟩ : ∃ D', D = D' + 1 := ⟨D - 1, by omega⟩
  refine am_mth_of rfl rfl (v358_0 (h D' _ (by omega) (fun v I1 J1 Pf1 hE hr _ _ => ?_)))
  cases v with
  | inl E =>
    have hE := hE E rfl
    have hE1 := okE_le hE
    replace hr := hr J1 (fun _ _ => rfl)
    obtain rfl | rfl : E = 0 ∨ E = 1 := by omega
    · exact absurd hE (by decide)
    · exact am_catch hh358 rfl rfl rfl (v358_h15 (kk 1 _ I1 J1 Pf1 1 6 (by omega) (by omega) (fun z => absurd z (by decide)) hr))
  | inr a => exact am_back (v358_a (kk 0 a I1 _ Pf1 0 0 (by omega) (by omega) (fun _ => am_u_same) (hr _ J202u)))
theorem hh359 : am_hd 359 = [(0, 12, 15, 13)] ∧ Nat.beq (am_ow 359) 13 = true := by decide +kernel
theorem wr_nodes {I : am_I} {J : am_J} {Pf : am_R} (x1 x2 x3 : Int32) (h : PAIR cd1 160 304 [.int x1, .int x2, .int x3] I J Pf) : WRAP Int32.toInt64 359 304 [.int x1, .int x2, .int x3] I J Pf := by
  intro D P hD kk
  obtain ⟨D', rfl⟩ : ∃ D', D = D' + 1 := ⟨D - 1, by omega⟩
  refine am_mth_of rfl rfl (v359_0 (h D' _ (by omega) (fun v I1 J1 Pf1 hE hr _ _ => ?_)))
  cases v with
  | inl E =>
    have hE := hE E rfl
    have hE1 := okE_le hE
    replace hr := hr J1 (fun _ _ => rfl)
    obtain rfl | rfl : E = 0 ∨ E = 1 := by omega
    · exact absurd hE (by decide)
    · exact am_catch hh359 rfl rfl rfl (v359_h15 (kk 1 _ I1 J1 Pf1 1 6 (by omega) (by omega) (fun z => absurd z (by decide)) hr))
  | inr a => exact am_back (v359_a (kk 0 a I1 _ Pf1 0 0 (by omega) (by omega) (fun _ => am_u_same) (hr _ J202u)))
theorem hh360 : am_hd 360 = [(0, 12, 15, 13)] ∧ Nat.beq (am_ow 360) 13 = true := by decide +kernel
theorem wr_node {I : am_I} {J : am_J} {Pf : am_R} (x1 x2 x3 : Int32) (h : PAIR cd1 161 305 [.int x1, .int x2, .int x3] I J Pf) : WRAP Int32.toInt64 360 305 [.int x1, .int x2, .int x3] I J Pf := by
  intro D P hD kk
  obtain ⟨D', rfl⟩ : ∃ D', D = D' + 1 := ⟨D - 1, by omega⟩
  refine am_mth_of rfl rfl (v360_0 (h D' _ (by omega) (fun v I1 J1 Pf1 hE hr _ _ => ?_)))
  cases v with
  | inl E =>
    have hE := hE E rfl
    have hE1 := okE_le hE
    replace hr := hr J1 (fun _ _ => rfl)
    obtain rfl | rfl : E = 0 ∨ E = 1 := by omega
    · exact absurd hE (by decide)
    · exact am_catch hh360 rfl rfl rfl (v360_h15 (kk 1 _ I1 J1 Pf1 1 6 (by omega) (by omega) (fun z => absurd z (by decide)) hr))
  | inr a => exact am_back (v360_a (kk 0 a I1 _ Pf1 0 0 (by omega) (by omega) (fun _ => am_u_same) (hr _ J202u)))
theorem hh361 : am_hd 361 = [(0, 9, 12, 13)] ∧ Nat.beq (am_ow 361) 13 = true := by decide +kernel
theorem wr_worth {I : am_I} {J : am_J} {Pf : am_R} (x1 : Int32) (h : PAIR cd1 162 306 [.int x1] I J Pf) : WRAP Int32.toInt64 361 306 [.int x1] I J Pf := by
  intro D P hD kk
  obtain ⟨D', rfl⟩ : ∃ D', D = D' + 1 := ⟨D - 1, by omega⟩
  refine am_mth_of rfl rfl (v361_0 (h D' _ (by omega) (fun v I1 J1 Pf1 hE hr _ _ => ?_)))
  cases v with
  | inl E =>
    have hE := hE E rfl
    have hE1 := okE_le hE
    replace hr := hr J1 (fun _ _ => rfl)
    obtain rfl | rfl : E = 0 ∨ E = 1 := by omega
    · exact absurd hE (by decide)
    · exact am_catch hh361 rfl rfl rfl (v361_h12 (kk 1 _ I1 J1 Pf1 1 6 (by omega) (by omega) (fun z => absurd z (by decide)) hr))
  | inr a => exact am_back (v361_a (kk 0 a I1 _ Pf1 0 0 (by omega) (by omega) (fun _ => am_u_same) (hr _ J202u)))
theorem hh362 : am_hd 362 = [(0, 9, 12, 13)] ∧ Nat.beq (am_ow 362) 13 = true := by decide +kernel
theorem wr_pieces {I : am_I} {J : am_J} {Pf : am_R} (x1 : Int32) (h : PAIR cd1 163 296 [.int x1] I J Pf) : WRAP Int32.toInt64 362 296 [.int x1] I J Pf := by
  intro D P hD kk
  obtain ⟨D', rfl⟩ : ∃ D', D = D' + 1 := ⟨D - 1, by omega⟩
  refine am_mth_of rfl rfl (v362_0 (h D' _ (by omega) (fun v I1 J1 Pf1 hE hr _ _ => ?_)))
  cases v with
  | inl E =>
    have hE := hE E rfl
    have hE1 := okE_le hE
    replace hr := hr J1 (fun _ _ => rfl)
    obtain rfl | rfl : E = 0 ∨ E = 1 := by omega
    · exact absurd hE (by decide)
    · exact am_catch hh362 rfl rfl rfl (v362_h12 (kk 1 _ I1 J1 Pf1 1 6 (by omega) (by omega) (fun z => absurd z (by decide)) hr))
  | inr a => exact am_back (v362_a (kk 0 a I1 _ Pf1 0 0 (by omega) (by omega) (fun _ => am_u_same) (hr _ J202u)))
theorem hh363 : am_hd 363 = [(0, 12, 15, 13)] ∧ Nat.beq (am_ow 363) 13 = true := by decide +kernel
theorem wr_wrong {I : am_I} {J : am_J} {Pf : am_R} (x1 x2 x3 : Int32) (h : PAIR cd1 164 309 [.int x1, .int x2, .int x3] I J Pf) : WRAP Int32.toInt64 363 309 [.int x1, .int x2, .int x3] I J Pf := by
  intro D P hD kk
  obtain ⟨D', rfl⟩ : ∃ D', D = D' + 1 := ⟨D - 1, by omega⟩
  refine am_mth_of rfl rfl (v363_0 (h D' _ (by omega) (fun v I1 J1 Pf1 hE hr _ _ => ?_)))
  cases v with
  | inl E =>
    have hE := hE E rfl
    have hE1 := okE_le hE
    replace hr := hr J1 (fun _ _ => rfl)
    obtain rfl | rfl : E = 0 ∨ E = 1 := by omega
    · exact absurd hE (by decide)
    · exact am_catch hh363 rfl rfl rfl (v363_h15 (kk 1 _ I1 J1 Pf1 1 6 (by omega) (by omega) (fun z => absurd z (by decide)) hr))
  | inr a => exact am_back (v363_a (kk 0 a I1 _ Pf1 0 0 (by omega) (by omega) (fun _ => am_u_same) (hr _ J202u)))
theorem hh364 : am_hd 364 = [(0, 10, 13, 28)] ∧ Nat.beq (am_ow 364) 13 = true := by decide +kernel
theorem wr_body {I : am_I} {J : am_J} {Pf : am_R} (x1 x2 : Int32) (h : PAIR cd1 165 312 [.int x1, .int x2] I J Pf) : WRAP Int32.toInt64 364 312 [.int x1, .int x2] I J Pf := by
  intro D P hD kk
  obtain ⟨D', rfl⟩ : ∃ D', D = D' + 1 := ⟨D - 1, by omega⟩
  refine am_mth_of rfl rfl (v364_0 (h D' _ (by omega) (fun v I1 J1 Pf1 hE hr _ _ => ?_)))
  cases v with
  | inl E =>
    have hE := hE E rfl
    have hE1 := okE_le hE
    replace hr := hr J1 (fun _ _ => rfl)
    obtain rfl | rfl : E = 0 ∨ E = 1 := by omega
    · exact am_catch hh364 rfl rfl rfl (v364_h13 (kk 1 _ I1 J1 Pf1 1 6 (by omega) (by omega) (fun z => absurd z (by decide)) hr))
    · exact absurd hE (by decide)
  | inr a => exact am_back (v364_a (kk 0 a I1 _ Pf1 0 0 (by omega) (by omega) (fun _ => am_u_same) (hr _ J202u)))
theorem hh365 : am_hd 365 = [(0, 12, 15, 28), (0, 12, 19, 13)] ∧ Nat.beq (am_ow 365) 13 = true := by decide +kernel
theorem wr_inside {I : am_I} {J : am_J} {Pf : am_R} (x1 x2 x3 : Int32) (h : PAIR cd2 166 313 [.int x1, .int x2, .int x3] I J Pf) : WRAP Int32.toInt64 365 313 [.int x1, .int x2, .int x3] I J Pf := by
  intro D P hD kk
  obtain ⟨D', rfl⟩ : ∃ D', D = D' + 1 := ⟨D - 1, by omega⟩
  refine am_mth_of rfl rfl (v365_0 (h D' _ (by omega) (fun v I1 J1 Pf1 hE hr _ _ => ?_)))
  cases v with
  | inl E =>
    have hE := hE E rfl
    have hE1 := okE_le hE
    replace hr := hr J1 (fun _ _ => rfl)
    obtain rfl | rfl : E = 0 ∨ E = 1 := by omega
    · exact am_catch hh365 rfl rfl rfl (v365_h15 (kk 1 _ I1 J1 Pf1 1 6 (by omega) (by omega) (fun z => absurd z (by decide)) hr))
    · exact am_catch hh365 rfl rfl rfl (v365_h19 (kk 2 _ I1 J1 Pf1 1 6 (by omega) (by omega) (fun z => absurd z (by decide)) hr))
  | inr a => exact am_back (v365_a (kk 0 a I1 _ Pf1 0 0 (by omega) (by omega) (fun _ => am_u_same) (hr _ J202u)))
theorem hh366 : am_hd 366 = [(0, 12, 15, 28), (0, 12, 19, 13)] ∧ Nat.beq (am_ow 366) 13 = true := by decide +kernel
theorem wr_fits {I : am_I} {J : am_J} {Pf : am_R} (x1 x2 x3 : Int32) (h : PAIR cd2 167 315 [.int x1, .int x2, .int x3] I J Pf) : WRAP Int32.toInt64 366 315 [.int x1, .int x2, .int x3] I J Pf := by
  intro D P hD kk
  obtain ⟨D', rfl⟩ : ∃ D', D = D' + 1 := ⟨D - 1, by omega⟩
  refine am_mth_of rfl rfl (v366_0 (h D' _ (by omega) (fun v I1 J1 Pf1 hE hr _ _ => ?_)))
  cases v with
  | inl E =>
    have hE := hE E rfl
    have hE1 := okE_le hE
    replace hr := hr J1 (fun _ _ => rfl)
    obtain rfl | rfl : E = 0 ∨ E = 1 := by omega
    · exact am_catch hh366 rfl rfl rfl (v366_h15 (kk 1 _ I1 J1 Pf1 1 6 (by omega) (by omega) (fun z => absurd z (by decide)) hr))
    · exact am_catch hh366 rfl rfl rfl (v366_h19 (kk 2 _ I1 J1 Pf1 1 6 (by omega) (by omega) (fun z => absurd z (by decide)) hr))
  | inr a => exact am_back (v366_a (kk 0 a I1 _ Pf1 0 0 (by omega) (by omega) (fun _ => am_u_same) (hr _ J202u)))
theorem hh367 : am_hd 367 = [(0, 9, 12, 13)] ∧ Nat.beq (am_ow 367) 13 = true := by decide +kernel
theorem wr_commonest {I : am_I} {J : am_J} {Pf : am_R} (x1 : Int32) (h : PAIR cd1 168 298 [.int x1] I J Pf) : WRAP Int32.toInt64 367 298 [.int x1] I J Pf := by
  intro D P hD kk
  obtain ⟨D', rfl⟩ : ∃ D', D = D' + 1 := ⟨D - 1, by omega⟩
  refine am_mth_of rfl rfl (v367_0 (h D' _ (by omega) (fun v I1 J1 Pf1 hE hr _ _ => ?_)))
  cases v with
  | inl E =>
    have hE := hE E rfl
    have hE1 := okE_le hE
    replace hr := hr J1 (fun _ _ => rfl)
    obtain rfl | rfl : E = 0 ∨ E = 1 := by omega
    · exact absurd hE (by decide)
    · exact am_catch hh367 rfl rfl rfl (v367_h12 (kk 1 _ I1 J1 Pf1 1 6 (by omega) (by omega) (fun z => absurd z (by decide)) hr))
  | inr a => exact am_back (v367_a (kk 0 a I1 _ Pf1 0 0 (by omega) (by omega) (fun _ => am_u_same) (hr _ J202u)))
theorem hh368 : am_hd 368 = [(0, 12, 15, 13)] ∧ Nat.beq (am_ow 368) 13 = true := by decide +kernel
theorem wr_year {I : am_I} {J : am_J} {Pf : am_R} (x1 x2 x3 : Int32) (h : PAIR cd1 169 319 [.int x1, .int x2, .int x3] I J Pf) : WRAP Int32.toInt64 368 319 [.int x1, .int x2, .int x3] I J Pf := by
  intro D P hD kk
  obtain ⟨D', rfl⟩ : ∃ D', D = D' + 1 := ⟨D - 1, by omega⟩
  refine am_mth_of rfl rfl (v368_0 (h D' _ (by omega) (fun v I1 J1 Pf1 hE hr _ _ => ?_)))
  cases v with
  | inl E =>
    have hE := hE E rfl
    have hE1 := okE_le hE
    replace hr := hr J1 (fun _ _ => rfl)
    obtain rfl | rfl : E = 0 ∨ E = 1 := by omega
    · exact absurd hE (by decide)
    · exact am_catch hh368 rfl rfl rfl (v368_h15 (kk 1 _ I1 J1 Pf1 1 6 (by omega) (by omega) (fun z => absurd z (by decide)) hr))
  | inr a => exact am_back (v368_a (kk 0 a I1 _ Pf1 0 0 (by omega) (by omega) (fun _ => am_u_same) (hr _ J202u)))
theorem hh369 : am_hd 369 = [(0, 16, 19, 13)] ∧ Nat.beq (am_ow 369) 13 = true := by decide +kernel
theorem wr_span {I : am_I} {J : am_J} {Pf : am_R} (x1 x2 x3 x4 x5 : Int32) (h : PAIR cd1 170 320 [.int x1, .int x2, .int x3, .int x4, .int x5] I J Pf) : WRAP Int32.toInt64 369 320 [.int x1, .int x2, .int x3, .int x4, .int x5] I J Pf := by
  intro D P hD kk
  obtain ⟨D', rfl⟩ : ∃ D', D = D' + 1 := ⟨D - 1, by omega⟩
  refine am_mth_of rfl rfl (v369_0 (h D' _ (by omega) (fun v I1 J1 Pf1 hE hr _ _ => ?_)))
  cases v with
  | inl E =>
    have hE := hE E rfl
    have hE1 := okE_le hE
    replace hr := hr J1 (fun _ _ => rfl)
    obtain rfl | rfl : E = 0 ∨ E = 1 := by omega
    · exact absurd hE (by decide)
    · exact am_catch hh369 rfl rfl rfl (v369_h19 (kk 1 _ I1 J1 Pf1 1 6 (by omega) (by omega) (fun z => absurd z (by decide)) hr))
  | inr a => exact am_back (v369_a (kk 0 a I1 _ Pf1 0 0 (by omega) (by omega) (fun _ => am_u_same) (hr _ J202u)))
