/-! The law: one turn of its loop, what it asks of both -/
abbrev lwL (i : Nat) (l5 l6 : Option Value) : am_L := [some (.retAddr 0), some (.ref 0), some (.ref 163), some (.ref 202), some (.int (ni i)), l5, l6]
def STEP (pc : Nat) : Prop := ∀ (L : Nat) (xs : Nat → Int32) (d i k n : Nat) (I : am_I) (J : am_J) (Pf : am_R) (l5 l6 : Option Value) (P : am_O → Prop), 402 ≤ d → i + 6 ≤ L → L ≤ 3072 → INV I J Pf → (∀ (I' : am_I) (J' : am_J) (Pf' : am_R) (k' n' : Nat) (l5' l6' : Option Value), INV I' J' Pf' → k' ≤ k + 1 → n' ≤ n + 6 → am_go (some (L, xs)) d 370 (2277, lwL i l5' l6', [], (am_SH, I', J', Pf'), k', n') P) → am_go (some (L, xs)) d 370 (pc, lwL i l5 l6, [], (am_SH, I, J, Pf), k, n) P
theorem am_s_sci {L : Nat} {xs : Nat → Int32} {d y pc k n j : Nat} {x : Int32} {ls : am_L} {st : List Value} {w : am_W} {P : am_O → Prop} (hd : decode (am_by y) pc = .ok (.iaload, 1)) (hx : x = ni j) (hj : j < L) (hL : L ≤ 3072) (kk : am_go (some (L, xs)) d y (pc + 1, ls, .int (xs j) :: st, w, k, n) P) : am_go (some (L, xs)) d y (pc, ls, .int x :: .retAddr 0 :: st, w, k, n) P := by
  subst hx
  refine am_go_xo hd ?_ kk
  show am_ck 1 1 (am_if (am_in (ni j) L) (some (pc + 1, ls, .int (xs (ni j).toNatClampNeg) :: st))) = _
  rw [ni_in (by omega) hj, ni_nat (by omega)]
  rfl
theorem am_s_scl {L : Nat} {xs : Nat → Int32} {d y pc k n : Nat} {ls : am_L} {st : List Value} {w : am_W} {P : am_O → Prop} (hd : decode (am_by y) pc = .ok (.arraylength, 1)) (kk : am_go (some (L, xs)) d y (pc + 1, ls, .int (ni L) :: st, w, k, n) P) : am_go (some (L, xs)) d y (pc, ls, .retAddr 0 :: st, w, k, n) P := am_go_xo hd rfl kk
/-- a place of the script, read -/
theorem am_lwa {L : Nat} {xs : Nat → Int32} {d pc k n i j : Nat} {v : Int} {l5 l6 : Option Value} {st : List Value} {w : am_W} {P : am_O → Prop} (h1 : decode (am_by 370) pc = .ok (.aload_n 0, 1)) (h2 : decode (am_by 370) (pc + 1) = .ok (.iload 4, 2)) (h3 : decode (am_by 370) (pc + 3) = .ok (.iconst v, 1)) (h4 : decode (am_by 370) (pc + 4) = .ok (.iadd, 1)) (h5 : decode (am_by 370) (pc + 5) = .ok (.iaload, 1)) (hv : Int32.ofInt v = ni j) (hj : i + j < L) (hL : L ≤ 3072) (kk : am_go (some (L, xs)) d 370 (pc + 6, lwL i l5 l6, .int (xs (i + j)) :: st, w, k, n) P) : am_go (some (L, xs)) d 370 (pc, lwL i l5 l6, st, w, k, n) P := by
  refine am_s_aload_nT rfl h1 ?_
  refine am_s_iload rfl h2 ?_
  refine am_s_iconst hv h3 ?_
  refine am_s_iadd h4 ?_
  exact am_s_sci h5 (ni_add i j) hj hL kk
theorem lg_cmp_self (x : Int64) : lg_cmp x x = 0 := by
  unfold lg_cmp
  simp
theorem am_m188 {d : Nat} {I : am_I} {J : am_J} {Pf : am_R} {P : am_O → Prop} (hI : INV I J Pf) (kk : P (.inl (some (.int (I 163 0))), (am_SH, I, J, Pf), 0, 0)) : am_mth (d + 1) 188 [.ref 163] (am_SH, I, J, Pf) P := by
  have hp : am_PF Pf := by obtain ⟨r, la, w, T, p, m, q, c, ms, L, h1, -⟩ := hI; exact h1.1
  exact am_mth_of rfl rfl (t188_0 hp kk)
theorem okENo {yc E : Nat} (h : [140, 144, 145, 146, 171, 172, 173, 174].contains yc = true) : ¬ okE yc E = true := by
  simp only [List.contains_eq_mem, List.mem_cons, List.not_mem_nil, or_false, decide_eq_true_eq] at h
  intro hE
  have := okE_le hE
  obtain rfl | rfl : E = 0 ∨ E = 1 := by omega
  · rcases h with rfl | rfl | rfl | rfl | rfl | rfl | rfl | rfl <;> exact absurd hE (by decide)
  · rcases h with rfl | rfl | rfl | rfl | rfl | rfl | rfl | rfl <;> exact absurd hE (by decide)
theorem lw_cmp {L i : Nat} (hL : L ≤ 3072) (hi : i ≤ 4000) : (ni L - 6 < ni i) ↔ L < i + 6 := by
  by_cases h : 6 ≤ L
  · rw [show (6 : Int32) = ni 6 from rfl, ni_sub h, ni_lt (by omega) (by omega)]
    omega
  · have e : ∃ z : Int, (ni L - 6).toInt = z ∧ z < 0 := by
      obtain rfl | rfl | rfl | rfl | rfl | rfl : L = 0 ∨ L = 1 ∨ L = 2 ∨ L = 3 ∨ L = 4 ∨ L = 5 := by omega
      all_goals exact ⟨_, rfl, by decide⟩
    obtain ⟨z, e1, e2⟩ := e
    rw [Int32.lt_iff_toInt_lt, e1, ni_int (by omega)]
    omega
theorem st_0 : STEP 196 := by
  intro L xs d i k n I J Pf l5 l6 P hd hi hL hI kk
  refine am_s_aload_n rfl dc370_3.1.1.2 ?_
  refine am_lwa (j := 1) dc370_3.1.2.1 dc370_3.1.2.2 dc370_3.2.1.1 dc370_3.2.1.2 dc370_3.2.2.1 rfl (by omega) hL ?_
  refine am_lwa (j := 2) dc370_3.2.2.2 dc370_4.1.1.1 dc370_4.1.1.2 dc370_4.1.2.1 dc370_4.1.2.2 rfl (by omega) hL ?_
  refine am_lwa (j := 3) dc370_4.2.1.1 dc370_4.2.1.2 dc370_4.2.2.1 dc370_4.2.2.2 dc370_5.1.1.1 rfl (by omega) hL ?_
  refine am_lwa (j := 4) dc370_5.1.1.2 dc370_5.1.2.1 dc370_5.1.2.2 dc370_5.2.1.1 dc370_5.2.1.2 rfl (by omega) hL ?_
  refine am_lwa (j := 5) dc370_5.2.2.1 dc370_5.2.2.2 dc370_6.1.1.1 dc370_6.1.1.2 dc370_6.1.2.1 rfl (by omega) hL ?_
  refine am_s_virtual true dc370_6.1.2.2 rfl (by decide) rfl rfl rfl (pr_feed hI (xs (i + 1)) (xs (i + 2)) (xs (i + 3)) (xs (i + 4)) (xs (i + 5)) d _ (by omega) (fun v I1 J1 Pf1 hE hr _ _ => ?_))
  cases v with
  | inl E => exact absurd (hE E rfl) (okENo (by decide))
  | inr a =>
    refine am_back ?_
    replace hr := hr J1 (fun _ _ => rfl)
    refine am_s_aload_n rfl dc370_6.2.1.1 ?_
    refine am_lwa (j := 1) dc370_6.2.1.2 dc370_6.2.2.1 dc370_6.2.2.2 dc370_7.1.1.1 dc370_7.1.1.2 rfl (by omega) hL ?_
    refine am_lwa (j := 2) dc370_7.1.2.1 dc370_7.1.2.2 dc370_7.2.1.1 dc370_7.2.1.2 dc370_7.2.2.1 rfl (by omega) hL ?_
    refine am_lwa (j := 3) dc370_7.2.2.2 dc370_8.1.1.1 dc370_8.1.1.2 dc370_8.1.2.1 dc370_8.1.2.2 rfl (by omega) hL ?_
    refine am_lwa (j := 4) dc370_8.2.1.1 dc370_8.2.1.2 dc370_8.2.2.1 dc370_8.2.2.2 dc370_9.1.1.1 rfl (by omega) hL ?_
    refine am_lwa (j := 5) dc370_9.1.1.2 dc370_9.1.2.1 dc370_9.1.2.2 dc370_9.2.1.1 dc370_9.2.1.2 rfl (by omega) hL ?_
    refine am_s_virtual true dc370_9.2.2.1 rfl (by decide) rfl rfl rfl (hr d _ (by omega) (fun I2 hI2 _ => am_bkI ?_))
    exact am_s_ic_eq dc370_9.2.2.2 rfl (fun _ => kk I2 J1 Pf1 _ _ _ _ hI2 (by omega) (by omega)) (fun z => absurd rfl z)
theorem st_1 : STEP 269 := by
  intro L xs d i k n I J Pf l5 l6 P hd hi hL hI kk
  refine am_s_aload_n rfl dc370_10.1.2.1 ?_
  refine am_lwa (j := 1) dc370_10.1.2.2 dc370_10.2.1.1 dc370_10.2.1.2 dc370_10.2.2.1 dc370_10.2.2.2 rfl (by omega) hL ?_
  refine am_s_aload_n rfl dc370_11.1.1.1 ?_
  refine am_s_static dc370_11.1.1.2 rfl rfl rfl (wr_grammar (xs (i + 1)) (pr_grammar hI (xs (i + 1))) d _ hd (fun c a I1 J1 Pf1 k1 n1 hk1 hn1 h0 hR => ?_))
  refine am_back ?_
  refine am_s_istore (ls' := lwL i (some (.int c)) l6) rfl rfl dc370_11.1.2.1 ?_
  refine am_s_aload_n rfl dc370_11.1.2.2 ?_
  refine am_lwa (j := 1) dc370_11.2.1.1 dc370_11.2.1.2 dc370_11.2.2.1 dc370_11.2.2.2 dc370_12.1.1.1 rfl (by omega) hL ?_
  refine am_s_virtual true dc370_12.1.1.2 rfl (by decide) rfl rfl rfl (hR d _ (by omega) (fun I2 hI2 hc => am_bkI ?_))
  obtain ⟨d, rfl⟩ : ∃ D, d = D + 1 := ⟨d - 1, by omega⟩
  refine am_s_istore (ls' := lwL i (some (.int c)) (some (.int a))) rfl rfl dc370_12.1.2.1 ?_
  refine am_s_aload_n rfl dc370_12.1.2.2 ?_
  refine am_s_virtual true dc370_12.2.1.1 rfl (by decide) rfl rfl rfl (am_m188 hI2 (am_bkI ?_))
  refine am_s_iload rfl dc370_12.2.1.2 ?_
  refine am_s_ic_eq dc370_12.2.2.1 rfl (fun _ => ?_) (fun z => absurd hc z)
  refine am_s_iload rfl dc370_13.1.1.2 ?_
  have kk := kk I2 J1 Pf1 (k + k1) (n + n1) (some (.int c)) (some (.int a)) hI2 (by omega) (by omega)
  refine am_s_if_ne dc370_13.1.2.1 rfl (fun _ => am_s_goto rfl dc370_14.2.1.1 kk) (fun z => ?_)
  replace h0 := h0 (Decidable.not_not.mp z)
  refine am_s_aload_n rfl dc370_13.1.2.2 ?_
  refine am_s_iconst am_cc0 dc370_13.2.1.1 ?_
  refine am_s_laload dc370_13.2.1.2 rfl (by decide) am_cN0 ?_
  refine am_s_iload rfl dc370_13.2.2.1 ?_
  refine am_s_i2l dc370_13.2.2.2 ?_
  refine am_s_lcmp dc370_14.1.1.1 ?_
  exact am_s_if_eq dc370_14.1.1.2 rfl (fun _ => am_s_goto rfl dc370_14.2.1.1 kk) (fun z => absurd (by rw [h0]; exact lg_cmp_self _) z)
theorem st_2 : STEP 325 := by
  intro L xs d i k n I J Pf l5 l6 P hd hi hL hI kk
  refine am_s_aload_n rfl dc370_14.2.1.2 ?_
  refine am_lwa (j := 1) dc370_14.2.2.1 dc370_14.2.2.2 dc370_15.1.1.1 dc370_15.1.1.2 dc370_15.1.2.1 rfl (by omega) hL ?_
  refine am_s_aload_n rfl dc370_15.1.2.2 ?_
  refine am_s_static dc370_15.2.1.1 rfl rfl rfl (wr_law (xs (i + 1)) (pr_law hI (xs (i + 1))) d _ hd (fun c a I1 J1 Pf1 k1 n1 hk1 hn1 h0 hR => ?_))
  refine am_back ?_
  refine am_s_istore (ls' := lwL i (some (.int c)) l6) rfl rfl dc370_15.2.1.2 ?_
  refine am_s_aload_n rfl dc370_15.2.2.1 ?_
  refine am_lwa (j := 1) dc370_15.2.2.2 dc370_16.1.1.1 dc370_16.1.1.2 dc370_16.1.2.1 dc370_16.1.2.2 rfl (by omega) hL ?_
  refine am_s_virtual true dc370_16.2.1.1 rfl (by decide) rfl rfl rfl (hR d _ (by omega) (fun I2 hI2 hc => am_bkI ?_))
  obtain ⟨d, rfl⟩ : ∃ D, d = D + 1 := ⟨d - 1, by omega⟩
  refine am_s_istore (ls' := lwL i (some (.int c)) (some (.int a))) rfl rfl dc370_16.2.1.2 ?_
  refine am_s_aload_n rfl dc370_16.2.2.1 ?_
  refine am_s_virtual true dc370_16.2.2.2 rfl (by decide) rfl rfl rfl (am_m188 hI2 (am_bkI ?_))
  refine am_s_iload rfl dc370_17.1.1.1 ?_
  refine am_s_ic_eq dc370_17.1.1.2 rfl (fun _ => ?_) (fun z => absurd hc z)
  refine am_s_iload rfl dc370_17.2.1.1 ?_
  have kk := kk I2 J1 Pf1 (k + k1) (n + n1) (some (.int c)) (some (.int a)) hI2 (by omega) (by omega)
  refine am_s_if_ne dc370_17.2.1.2 rfl (fun _ => am_s_goto rfl dc370_18.2.2.2 kk) (fun z => ?_)
  replace h0 := h0 (Decidable.not_not.mp z)
  refine am_s_aload_n rfl dc370_17.2.2.1 ?_
  refine am_s_iconst am_cc0 dc370_17.2.2.2 ?_
  refine am_s_laload dc370_18.1.1.1 rfl (by decide) am_cN0 ?_
  refine am_s_iload rfl dc370_18.1.1.2 ?_
  refine am_s_i2l dc370_18.1.2.1 ?_
  refine am_s_lcmp dc370_18.1.2.2 ?_
  exact am_s_if_eq dc370_18.2.1.1 rfl (fun _ => am_s_goto rfl dc370_18.2.2.2 kk) (fun z => absurd (by rw [h0]; exact lg_cmp_self _) z)
theorem st_3 : STEP 381 := by
  intro L xs d i k n I J Pf l5 l6 P hd hi hL hI kk
  refine am_s_aload_n rfl dc370_19.1.1.1 ?_
  refine am_lwa (j := 1) dc370_19.1.1.2 dc370_19.1.2.1 dc370_19.1.2.2 dc370_19.2.1.1 dc370_19.2.1.2 rfl (by omega) hL ?_
  refine am_s_aload_n rfl dc370_19.2.2.1 ?_
  refine am_s_static dc370_19.2.2.2 rfl rfl rfl (wr_work (xs (i + 1)) (pr_work hI (xs (i + 1))) d _ hd (fun c a I1 J1 Pf1 k1 n1 hk1 hn1 h0 hR => ?_))
  refine am_back ?_
  refine am_s_istore (ls' := lwL i (some (.int c)) l6) rfl rfl dc370_20.1.1.1 ?_
  refine am_s_aload_n rfl dc370_20.1.1.2 ?_
  refine am_lwa (j := 1) dc370_20.1.2.1 dc370_20.1.2.2 dc370_20.2.1.1 dc370_20.2.1.2 dc370_20.2.2.1 rfl (by omega) hL ?_
  refine am_s_virtual true dc370_20.2.2.2 rfl (by decide) rfl rfl rfl (hR d _ (by omega) (fun I2 hI2 hc => am_bkI ?_))
  obtain ⟨d, rfl⟩ : ∃ D, d = D + 1 := ⟨d - 1, by omega⟩
  refine am_s_istore (ls' := lwL i (some (.int c)) (some (.int a))) rfl rfl dc370_21.1.1.1 ?_
  refine am_s_aload_n rfl dc370_21.1.1.2 ?_
  refine am_s_virtual true dc370_21.1.2.1 rfl (by decide) rfl rfl rfl (am_m188 hI2 (am_bkI ?_))
  refine am_s_iload rfl dc370_21.1.2.2 ?_
  refine am_s_ic_eq dc370_21.2.1.1 rfl (fun _ => ?_) (fun z => absurd hc z)
  refine am_s_iload rfl dc370_21.2.2.2 ?_
  have kk := kk I2 J1 Pf1 (k + k1) (n + n1) (some (.int c)) (some (.int a)) hI2 (by omega) (by omega)
  refine am_s_if_ne dc370_22.1.1.1 rfl (fun _ => am_s_goto rfl dc370_23.1.2.1 kk) (fun z => ?_)
  replace h0 := h0 (Decidable.not_not.mp z)
  refine am_s_aload_n rfl dc370_22.1.1.2 ?_
  refine am_s_iconst am_cc0 dc370_22.1.2.1 ?_
  refine am_s_laload dc370_22.1.2.2 rfl (by decide) am_cN0 ?_
  refine am_s_iload rfl dc370_22.2.1.1 ?_
  refine am_s_i2l dc370_22.2.1.2 ?_
  refine am_s_lcmp dc370_22.2.2.1 ?_
  exact am_s_if_eq dc370_22.2.2.2 rfl (fun _ => am_s_goto rfl dc370_23.1.2.1 kk) (fun z => absurd (by rw [h0]; exact lg_cmp_self _) z)
theorem st_4 : STEP 437 := by
  intro L xs d i k n I J Pf l5 l6 P hd hi hL hI kk
  refine am_s_aload_n rfl dc370_23.1.2.2 ?_
  refine am_s_virtual true dc370_23.2.1.1 rfl (by decide) rfl rfl rfl (pr_fault hI  d _ (by omega) (fun v I1 J1 Pf1 hE hr _ _ => ?_))
  cases v with
  | inl E => exact absurd (hE E rfl) (okENo (by decide))
  | inr a =>
    refine am_back ?_
    replace hr := hr J1 (fun _ _ => rfl)
    refine am_s_aload_n rfl dc370_23.2.1.2 ?_
    refine am_s_virtual true dc370_23.2.2.1 rfl (by decide) rfl rfl rfl (hr d _ (by omega) (fun I2 hI2 _ => am_bkI ?_))
    exact am_s_ic_eq dc370_23.2.2.2 rfl (fun _ => kk I2 J1 Pf1 _ _ _ _ hI2 (by omega) (by omega)) (fun z => absurd rfl z)
theorem st_5 : STEP 450 := by
  intro L xs d i k n I J Pf l5 l6 P hd hi hL hI kk
  refine am_s_aload_n rfl dc370_24.1.2.1 ?_
  refine am_s_virtual true dc370_24.1.2.2 rfl (by decide) rfl rfl rfl (pr_faulted hI  d _ (by omega) (fun v I1 J1 Pf1 hE hr _ _ => ?_))
  cases v with
  | inl E => exact absurd (hE E rfl) (okENo (by decide))
  | inr a =>
    refine am_back ?_
    replace hr := hr J1 (fun _ _ => rfl)
    refine am_s_aload_n rfl dc370_24.2.1.1 ?_
    refine am_s_virtual true dc370_24.2.1.2 rfl (by decide) rfl rfl rfl (hr d _ (by omega) (fun I2 hI2 _ => am_bkI ?_))
    exact am_s_ic_eq dc370_24.2.2.1 rfl (fun _ => kk I2 J1 Pf1 _ _ _ _ hI2 (by omega) (by omega)) (fun z => absurd rfl z)
theorem st_6 : STEP 463 := by
  intro L xs d i k n I J Pf l5 l6 P hd hi hL hI kk
  refine am_s_aload_n rfl dc370_25.1.1.2 ?_
  refine am_s_virtual true dc370_25.1.2.1 rfl (by decide) rfl rfl rfl (pr_undo hI  d _ (by omega) (fun v I1 J1 Pf1 hE hr _ _ => ?_))
  cases v with
  | inl E => exact absurd (hE E rfl) (okENo (by decide))
  | inr a =>
    refine am_back ?_
    replace hr := hr J1 (fun _ _ => rfl)
    refine am_s_aload_n rfl dc370_25.1.2.2 ?_
    refine am_s_virtual true dc370_25.2.1.1 rfl (by decide) rfl rfl rfl (hr d _ (by omega) (fun I2 hI2 _ => am_bkI ?_))
    exact am_s_ic_eq dc370_25.2.1.2 rfl (fun _ => kk I2 J1 Pf1 _ _ _ _ hI2 (by omega) (by omega)) (fun z => absurd rfl z)
theorem st_7 : STEP 476 := by
  intro L xs d i k n I J Pf l5 l6 P hd hi hL hI kk
  refine am_s_aload_n rfl dc370_26.1.1.1 ?_
  refine am_lwa (j := 1) dc370_26.1.1.2 dc370_26.1.2.1 dc370_26.1.2.2 dc370_26.2.1.1 dc370_26.2.1.2 rfl (by omega) hL ?_
  refine am_s_aload_n rfl dc370_26.2.2.1 ?_
  refine am_s_static dc370_26.2.2.2 rfl rfl rfl (wr_told (xs (i + 1)) (pr_told hI (xs (i + 1))) d _ hd (fun c a I1 J1 Pf1 k1 n1 hk1 hn1 h0 hR => ?_))
  refine am_back ?_
  refine am_s_istore (ls' := lwL i (some (.int c)) l6) rfl rfl dc370_27.1.1.1 ?_
  refine am_s_aload_n rfl dc370_27.1.1.2 ?_
  refine am_lwa (j := 1) dc370_27.1.2.1 dc370_27.1.2.2 dc370_27.2.1.1 dc370_27.2.1.2 dc370_27.2.2.1 rfl (by omega) hL ?_
  refine am_s_virtual true dc370_27.2.2.2 rfl (by decide) rfl rfl rfl (hR d _ (by omega) (fun I2 hI2 hc => am_bkI ?_))
  obtain ⟨d, rfl⟩ : ∃ D, d = D + 1 := ⟨d - 1, by omega⟩
  refine am_s_istore (ls' := lwL i (some (.int c)) (some (.int a))) rfl rfl dc370_28.1.1.1 ?_
  refine am_s_aload_n rfl dc370_28.1.1.2 ?_
  refine am_s_virtual true dc370_28.1.2.1 rfl (by decide) rfl rfl rfl (am_m188 hI2 (am_bkI ?_))
  refine am_s_iload rfl dc370_28.1.2.2 ?_
  refine am_s_ic_eq dc370_28.2.1.1 rfl (fun _ => ?_) (fun z => absurd hc z)
  refine am_s_iload rfl dc370_28.2.2.2 ?_
  have kk := kk I2 J1 Pf1 (k + k1) (n + n1) (some (.int c)) (some (.int a)) hI2 (by omega) (by omega)
  refine am_s_if_ne dc370_29.1.1.1 rfl (fun _ => am_s_goto rfl dc370_30.1.2.1 kk) (fun z => ?_)
  replace h0 := h0 (Decidable.not_not.mp z)
  refine am_s_aload_n rfl dc370_29.1.1.2 ?_
  refine am_s_iconst am_cc0 dc370_29.1.2.1 ?_
  refine am_s_laload dc370_29.1.2.2 rfl (by decide) am_cN0 ?_
  refine am_s_iload rfl dc370_29.2.1.1 ?_
  refine am_s_i2l dc370_29.2.1.2 ?_
  refine am_s_lcmp dc370_29.2.2.1 ?_
  exact am_s_if_eq dc370_29.2.2.2 rfl (fun _ => am_s_goto rfl dc370_30.1.2.1 kk) (fun z => absurd (by rw [h0]; exact lg_cmp_self _) z)
theorem st_8 : STEP 532 := by
  intro L xs d i k n I J Pf l5 l6 P hd hi hL hI kk
  refine am_s_aload_n rfl dc370_30.1.2.2 ?_
  refine am_lwa (j := 1) dc370_30.2.1.1 dc370_30.2.1.2 dc370_30.2.2.1 dc370_30.2.2.2 dc370_31.1.1.1 rfl (by omega) hL ?_
  refine am_lwa (j := 2) dc370_31.1.1.2 dc370_31.1.2.1 dc370_31.1.2.2 dc370_31.2.1.1 dc370_31.2.1.2 rfl (by omega) hL ?_
  refine am_s_aload_n rfl dc370_31.2.2.1 ?_
  refine am_s_static dc370_31.2.2.2 rfl rfl rfl (wr_group (xs (i + 1)) (xs (i + 2)) (pr_group hI (xs (i + 1)) (xs (i + 2))) d _ hd (fun c a I1 J1 Pf1 k1 n1 hk1 hn1 h0 hR => ?_))
  refine am_back ?_
  refine am_s_istore (ls' := lwL i (some (.int c)) l6) rfl rfl dc370_32.1.1.1 ?_
  refine am_s_aload_n rfl dc370_32.1.1.2 ?_
  refine am_lwa (j := 1) dc370_32.1.2.1 dc370_32.1.2.2 dc370_32.2.1.1 dc370_32.2.1.2 dc370_32.2.2.1 rfl (by omega) hL ?_
  refine am_lwa (j := 2) dc370_32.2.2.2 dc370_33.1.1.1 dc370_33.1.1.2 dc370_33.1.2.1 dc370_33.1.2.2 rfl (by omega) hL ?_
  refine am_s_virtual true dc370_33.2.1.1 rfl (by decide) rfl rfl rfl (hR d _ (by omega) (fun I2 hI2 hc => am_bkI ?_))
  obtain ⟨d, rfl⟩ : ∃ D, d = D + 1 := ⟨d - 1, by omega⟩
  refine am_s_istore (ls' := lwL i (some (.int c)) (some (.int a))) rfl rfl dc370_33.2.1.2 ?_
  refine am_s_aload_n rfl dc370_33.2.2.1 ?_
  refine am_s_virtual true dc370_33.2.2.2 rfl (by decide) rfl rfl rfl (am_m188 hI2 (am_bkI ?_))
  refine am_s_iload rfl dc370_34.1.1.1 ?_
  refine am_s_ic_eq dc370_34.1.1.2 rfl (fun _ => ?_) (fun z => absurd hc z)
  refine am_s_iload rfl dc370_34.2.1.1 ?_
  have kk := kk I2 J1 Pf1 (k + k1) (n + n1) (some (.int c)) (some (.int a)) hI2 (by omega) (by omega)
  refine am_s_if_ne dc370_34.2.1.2 rfl (fun _ => am_s_goto rfl dc370_35.2.2.2 kk) (fun z => ?_)
  replace h0 := h0 (Decidable.not_not.mp z)
  refine am_s_aload_n rfl dc370_34.2.2.1 ?_
  refine am_s_iconst am_cc0 dc370_34.2.2.2 ?_
  refine am_s_laload dc370_35.1.1.1 rfl (by decide) am_cN0 ?_
  refine am_s_iload rfl dc370_35.1.1.2 ?_
  refine am_s_i2l dc370_35.1.2.1 ?_
  refine am_s_lcmp dc370_35.1.2.2 ?_
  exact am_s_if_eq dc370_35.2.1.1 rfl (fun _ => am_s_goto rfl dc370_35.2.2.2 kk) (fun z => absurd (by rw [h0]; exact lg_cmp_self _) z)
theorem st_9 : STEP 600 := by
  intro L xs d i k n I J Pf l5 l6 P hd hi hL hI kk
  refine am_s_aload_n rfl dc370_36.1.1.1 ?_
  refine am_lwa (j := 1) dc370_36.1.1.2 dc370_36.1.2.1 dc370_36.1.2.2 dc370_36.2.1.1 dc370_36.2.1.2 rfl (by omega) hL ?_
  refine am_lwa (j := 2) dc370_36.2.2.1 dc370_36.2.2.2 dc370_37.1.1.1 dc370_37.1.1.2 dc370_37.1.2.1 rfl (by omega) hL ?_
  refine am_s_aload_n rfl dc370_37.1.2.2 ?_
  refine am_s_static dc370_37.2.1.1 rfl rfl rfl (wr_holds (xs (i + 1)) (xs (i + 2)) (pr_holds hI (xs (i + 1)) (xs (i + 2))) d _ hd (fun c a I1 J1 Pf1 k1 n1 hk1 hn1 h0 hR => ?_))
  refine am_back ?_
  refine am_s_istore (ls' := lwL i (some (.int c)) l6) rfl rfl dc370_37.2.1.2 ?_
  refine am_s_aload_n rfl dc370_37.2.2.1 ?_
  refine am_lwa (j := 1) dc370_37.2.2.2 dc370_38.1.1.1 dc370_38.1.1.2 dc370_38.1.2.1 dc370_38.1.2.2 rfl (by omega) hL ?_
  refine am_lwa (j := 2) dc370_38.2.1.1 dc370_38.2.1.2 dc370_38.2.2.1 dc370_38.2.2.2 dc370_39.1.1.1 rfl (by omega) hL ?_
  refine am_s_virtual true dc370_39.1.1.2 rfl (by decide) rfl rfl rfl (hR d _ (by omega) (fun I2 hI2 hc => am_bkI ?_))
  obtain ⟨d, rfl⟩ : ∃ D, d = D + 1 := ⟨d - 1, by omega⟩
  refine am_s_istore (ls' := lwL i (some (.int c)) (some (.int a))) rfl rfl dc370_39.1.2.1 ?_
  refine am_s_aload_n rfl dc370_39.1.2.2 ?_
  refine am_s_virtual true dc370_39.2.1.1 rfl (by decide) rfl rfl rfl (am_m188 hI2 (am_bkI ?_))
  refine am_s_iload rfl dc370_39.2.1.2 ?_
  refine am_s_ic_eq dc370_39.2.2.1 rfl (fun _ => ?_) (fun z => absurd hc z)
  refine am_s_iload rfl dc370_40.1.1.2 ?_
  have kk := kk I2 J1 Pf1 (k + k1) (n + n1) (some (.int c)) (some (.int a)) hI2 (by omega) (by omega)
  refine am_s_if_ne dc370_40.1.2.1 rfl (fun _ => am_s_goto rfl dc370_41.2.2.2 kk) (fun z => ?_)
  replace h0 := h0 (Decidable.not_not.mp z)
  refine am_s_aload_n rfl dc370_40.1.2.2 ?_
  refine am_s_iconst am_cc0 dc370_40.2.1.1 ?_
  refine am_s_laload dc370_40.2.1.2 rfl (by decide) am_cN0 ?_
  refine am_s_iload rfl dc370_40.2.2.1 ?_
  refine am_s_if_eq dc370_40.2.2.2 rfl (fun za => ?_) (fun za => ?_)
  · refine am_s_lconst (x := 0) (by decide) dc370_41.1.2.1 ?_
    refine am_s_lcmp dc370_41.1.2.2 ?_
    exact am_s_if_eq dc370_41.2.1.1 rfl (fun _ => am_s_goto rfl dc370_41.2.2.2 kk) (fun z => absurd (by rw [h0, gB, if_pos za]; exact lg_cmp_self _) z)
  · refine am_s_lconst (x := 1) (by decide) dc370_41.1.1.1 ?_
    refine am_s_goto rfl dc370_41.1.1.2 ?_
    refine am_s_lcmp dc370_41.1.2.2 ?_
    exact am_s_if_eq dc370_41.2.1.1 rfl (fun _ => am_s_goto rfl dc370_41.2.2.2 kk) (fun z => absurd (by rw [h0, gB, if_neg za]; exact lg_cmp_self _) z)
theorem st_10 : STEP 675 := by
  intro L xs d i k n I J Pf l5 l6 P hd hi hL hI kk
  refine am_s_aload_n rfl dc370_42.1.1.1 ?_
  refine am_lwa (j := 1) dc370_42.1.1.2 dc370_42.1.2.1 dc370_42.1.2.2 dc370_42.2.1.1 dc370_42.2.1.2 rfl (by omega) hL ?_
  refine am_lwa (j := 2) dc370_42.2.2.1 dc370_42.2.2.2 dc370_43.1.1.1 dc370_43.1.1.2 dc370_43.1.2.1 rfl (by omega) hL ?_
  refine am_s_aload_n rfl dc370_43.1.2.2 ?_
  refine am_s_static dc370_43.2.1.1 rfl rfl rfl (wr_beside (xs (i + 1)) (xs (i + 2)) (pr_beside hI (xs (i + 1)) (xs (i + 2))) d _ hd (fun c a I1 J1 Pf1 k1 n1 hk1 hn1 h0 hR => ?_))
  refine am_back ?_
  refine am_s_istore (ls' := lwL i (some (.int c)) l6) rfl rfl dc370_43.2.1.2 ?_
  refine am_s_aload_n rfl dc370_43.2.2.1 ?_
  refine am_lwa (j := 1) dc370_43.2.2.2 dc370_44.1.1.1 dc370_44.1.1.2 dc370_44.1.2.1 dc370_44.1.2.2 rfl (by omega) hL ?_
  refine am_lwa (j := 2) dc370_44.2.1.1 dc370_44.2.1.2 dc370_44.2.2.1 dc370_44.2.2.2 dc370_45.1.1.1 rfl (by omega) hL ?_
  refine am_s_virtual true dc370_45.1.1.2 rfl (by decide) rfl rfl rfl (hR d _ (by omega) (fun I2 hI2 hc => am_bkI ?_))
  obtain ⟨d, rfl⟩ : ∃ D, d = D + 1 := ⟨d - 1, by omega⟩
  refine am_s_istore (ls' := lwL i (some (.int c)) (some (.int a))) rfl rfl dc370_45.1.2.1 ?_
  refine am_s_aload_n rfl dc370_45.1.2.2 ?_
  refine am_s_virtual true dc370_45.2.1.1 rfl (by decide) rfl rfl rfl (am_m188 hI2 (am_bkI ?_))
  refine am_s_iload rfl dc370_45.2.1.2 ?_
  refine am_s_ic_eq dc370_45.2.2.1 rfl (fun _ => ?_) (fun z => absurd hc z)
  refine am_s_iload rfl dc370_46.1.1.2 ?_
  have kk := kk I2 J1 Pf1 (k + k1) (n + n1) (some (.int c)) (some (.int a)) hI2 (by omega) (by omega)
  refine am_s_if_ne dc370_46.1.2.1 rfl (fun _ => am_s_goto rfl dc370_47.2.1.1 kk) (fun z => ?_)
  replace h0 := h0 (Decidable.not_not.mp z)
  refine am_s_aload_n rfl dc370_46.1.2.2 ?_
  refine am_s_iconst am_cc0 dc370_46.2.1.1 ?_
  refine am_s_laload dc370_46.2.1.2 rfl (by decide) am_cN0 ?_
  refine am_s_iload rfl dc370_46.2.2.1 ?_
  refine am_s_i2l dc370_46.2.2.2 ?_
  refine am_s_lcmp dc370_47.1.1.1 ?_
  exact am_s_if_eq dc370_47.1.1.2 rfl (fun _ => am_s_goto rfl dc370_47.2.1.1 kk) (fun z => absurd (by rw [h0]; exact lg_cmp_self _) z)
theorem st_11 : STEP 743 := by
  intro L xs d i k n I J Pf l5 l6 P hd hi hL hI kk
  refine am_s_aload_n rfl dc370_47.2.1.2 ?_
  refine am_lwa (j := 1) dc370_47.2.2.1 dc370_47.2.2.2 dc370_48.1.1.1 dc370_48.1.1.2 dc370_48.1.2.1 rfl (by omega) hL ?_
  refine am_lwa (j := 2) dc370_48.1.2.2 dc370_48.2.1.1 dc370_48.2.1.2 dc370_48.2.2.1 dc370_48.2.2.2 rfl (by omega) hL ?_
  refine am_s_aload_n rfl dc370_49.1.1.1 ?_
  refine am_s_static dc370_49.1.1.2 rfl rfl rfl (wr_production (xs (i + 1)) (xs (i + 2)) (pr_production hI (xs (i + 1)) (xs (i + 2))) d _ hd (fun c a I1 J1 Pf1 k1 n1 hk1 hn1 h0 hR => ?_))
  refine am_back ?_
  refine am_s_istore (ls' := lwL i (some (.int c)) l6) rfl rfl dc370_49.1.2.1 ?_
  refine am_s_aload_n rfl dc370_49.1.2.2 ?_
  refine am_lwa (j := 1) dc370_49.2.1.1 dc370_49.2.1.2 dc370_49.2.2.1 dc370_49.2.2.2 dc370_50.1.1.1 rfl (by omega) hL ?_
  refine am_lwa (j := 2) dc370_50.1.1.2 dc370_50.1.2.1 dc370_50.1.2.2 dc370_50.2.1.1 dc370_50.2.1.2 rfl (by omega) hL ?_
  refine am_s_virtual true dc370_50.2.2.1 rfl (by decide) rfl rfl rfl (hR d _ (by omega) (fun I2 hI2 hc => am_bkI ?_))
  obtain ⟨d, rfl⟩ : ∃ D, d = D + 1 := ⟨d - 1, by omega⟩
  refine am_s_istore (ls' := lwL i (some (.int c)) (some (.int a))) rfl rfl dc370_50.2.2.2 ?_
  refine am_s_aload_n rfl dc370_51.1.1.1 ?_
  refine am_s_virtual true dc370_51.1.1.2 rfl (by decide) rfl rfl rfl (am_m188 hI2 (am_bkI ?_))
  refine am_s_iload rfl dc370_51.1.2.1 ?_
  refine am_s_ic_eq dc370_51.1.2.2 rfl (fun _ => ?_) (fun z => absurd hc z)
  refine am_s_iload rfl dc370_51.2.2.1 ?_
  have kk := kk I2 J1 Pf1 (k + k1) (n + n1) (some (.int c)) (some (.int a)) hI2 (by omega) (by omega)
  refine am_s_if_ne dc370_51.2.2.2 rfl (fun _ => am_s_goto rfl dc370_53.1.1.2 kk) (fun z => ?_)
  replace h0 := h0 (Decidable.not_not.mp z)
  refine am_s_aload_n rfl dc370_52.1.1.1 ?_
  refine am_s_iconst am_cc0 dc370_52.1.1.2 ?_
  refine am_s_laload dc370_52.1.2.1 rfl (by decide) am_cN0 ?_
  refine am_s_iload rfl dc370_52.1.2.2 ?_
  refine am_s_i2l dc370_52.2.1.1 ?_
  refine am_s_lcmp dc370_52.2.1.2 ?_
  exact am_s_if_eq dc370_52.2.2.1 rfl (fun _ => am_s_goto rfl dc370_53.1.1.2 kk) (fun z => absurd (by rw [h0]; exact lg_cmp_self _) z)
