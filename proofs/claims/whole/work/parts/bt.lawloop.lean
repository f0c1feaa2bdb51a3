/-! The law: its loop -/
theorem lw_turn {L : Nat} {xs : Nat → Int32} {d i k n : Nat} {I : am_I} {J : am_J} {Pf : am_R} {l5 l6 : Option Value} {P : am_O → Prop} (hd : 402 ≤ d) (hi : i + 6 ≤ L) (hL : L ≤ 3072) (hI : INV I J Pf) (kk : ∀ (I' : am_I) (J' : am_J) (Pf' : am_R) (k' n' : Nat) (l5' l6' : Option Value), INV I' J' Pf' → k' ≤ k + 1 → n' ≤ n + 6 → am_go (some (L, xs)) d 370 (2277, lwL i l5' l6', [], (am_SH, I', J', Pf'), k', n') P) : am_go (some (L, xs)) d 370 (33, lwL i l5 l6, [], (am_SH, I, J, Pf), k, n) P := by
  refine am_s_aload_nT rfl dc370_2.1.2.2 ?_
  refine am_s_iload rfl dc370_2.2.1.1 ?_
  refine am_s_sci dc370_2.2.1.2 rfl (by omega) hL ?_
  refine am_s_bipush am_cb63 dc370_2.2.2.1 ?_
  refine am_s_iand dc370_2.2.2.2 ?_
  generalize xs i &&& 63 = x
  by_cases c0 : x = 0
  · exact am_s_tsw (v := 0) dc370_3.1.1.1 (by rw [c0]; decide) rfl rfl rfl (st_0 L xs d i k n I J Pf l5 l6 P hd hi hL hI kk)
  by_cases c1 : x = 1
  · exact am_s_tsw (v := 1) dc370_3.1.1.1 (by rw [c1]; decide) rfl rfl rfl (st_1 L xs d i k n I J Pf l5 l6 P hd hi hL hI kk)
  by_cases c2 : x = 2
  · exact am_s_tsw (v := 2) dc370_3.1.1.1 (by rw [c2]; decide) rfl rfl rfl (st_2 L xs d i k n I J Pf l5 l6 P hd hi hL hI kk)
  by_cases c3 : x = 3
  · exact am_s_tsw (v := 3) dc370_3.1.1.1 (by rw [c3]; decide) rfl rfl rfl (st_3 L xs d i k n I J Pf l5 l6 P hd hi hL hI kk)
  by_cases c4 : x = 4
  · exact am_s_tsw (v := 4) dc370_3.1.1.1 (by rw [c4]; decide) rfl rfl rfl (st_4 L xs d i k n I J Pf l5 l6 P hd hi hL hI kk)
  by_cases c5 : x = 5
  · exact am_s_tsw (v := 5) dc370_3.1.1.1 (by rw [c5]; decide) rfl rfl rfl (st_5 L xs d i k n I J Pf l5 l6 P hd hi hL hI kk)
  by_cases c6 : x = 6
  · exact am_s_tsw (v := 6) dc370_3.1.1.1 (by rw [c6]; decide) rfl rfl rfl (st_6 L xs d i k n I J Pf l5 l6 P hd hi hL hI kk)
  by_cases c7 : x = 7
  · exact am_s_tsw (v := 7) dc370_3.1.1.1 (by rw [c7]; decide) rfl rfl rfl (st_7 L xs d i k n I J Pf l5 l6 P hd hi hL hI kk)
  by_cases c8 : x = 8
  · exact am_s_tsw (v := 8) dc370_3.1.1.1 (by rw [c8]; decide) rfl rfl rfl (st_8 L xs d i k n I J Pf l5 l6 P hd hi hL hI kk)
  by_cases c9 : x = 9
  · exact am_s_tsw (v := 9) dc370_3.1.1.1 (by rw [c9]; decide) rfl rfl rfl (st_9 L xs d i k n I J Pf l5 l6 P hd hi hL hI kk)
  by_cases c10 : x = 10
  · exact am_s_tsw (v := 10) dc370_3.1.1.1 (by rw [c10]; decide) rfl rfl rfl (st_10 L xs d i k n I J Pf l5 l6 P hd hi hL hI kk)
  by_cases c11 : x = 11
  · exact am_s_tsw (v := 11) dc370_3.1.1.1 (by rw [c11]; decide) rfl rfl rfl (st_11 L xs d i k n I J Pf l5 l6 P hd hi hL hI kk)
  by_cases c12 : x = 12
  · exact am_s_tsw (v := 12) dc370_3.1.1.1 (by rw [c12]; decide) rfl rfl rfl (st_12 L xs d i k n I J Pf l5 l6 P hd hi hL hI kk)
  by_cases c13 : x = 13
  · exact am_s_tsw (v := 13) dc370_3.1.1.1 (by rw [c13]; decide) rfl rfl rfl (st_13 L xs d i k n I J Pf l5 l6 P hd hi hL hI kk)
  by_cases c14 : x = 14
  · exact am_s_tsw (v := 14) dc370_3.1.1.1 (by rw [c14]; decide) rfl rfl rfl (st_14 L xs d i k n I J Pf l5 l6 P hd hi hL hI kk)
  by_cases c15 : x = 15
  · exact am_s_tsw (v := 15) dc370_3.1.1.1 (by rw [c15]; decide) rfl rfl rfl (st_15 L xs d i k n I J Pf l5 l6 P hd hi hL hI kk)
  by_cases c16 : x = 16
  · exact am_s_tsw (v := 16) dc370_3.1.1.1 (by rw [c16]; decide) rfl rfl rfl (st_16 L xs d i k n I J Pf l5 l6 P hd hi hL hI kk)
  by_cases c17 : x = 17
  · exact am_s_tsw (v := 17) dc370_3.1.1.1 (by rw [c17]; decide) rfl rfl rfl (st_17 L xs d i k n I J Pf l5 l6 P hd hi hL hI kk)
  by_cases c18 : x = 18
  · exact am_s_tsw (v := 18) dc370_3.1.1.1 (by rw [c18]; decide) rfl rfl rfl (st_18 L xs d i k n I J Pf l5 l6 P hd hi hL hI kk)
  by_cases c19 : x = 19
  · exact am_s_tsw (v := 19) dc370_3.1.1.1 (by rw [c19]; decide) rfl rfl rfl (st_19 L xs d i k n I J Pf l5 l6 P hd hi hL hI kk)
  by_cases c20 : x = 20
  · exact am_s_tsw (v := 20) dc370_3.1.1.1 (by rw [c20]; decide) rfl rfl rfl (st_20 L xs d i k n I J Pf l5 l6 P hd hi hL hI kk)
  by_cases c21 : x = 21
  · exact am_s_tsw (v := 21) dc370_3.1.1.1 (by rw [c21]; decide) rfl rfl rfl (st_21 L xs d i k n I J Pf l5 l6 P hd hi hL hI kk)
  by_cases c22 : x = 22
  · exact am_s_tsw (v := 22) dc370_3.1.1.1 (by rw [c22]; decide) rfl rfl rfl (st_22 L xs d i k n I J Pf l5 l6 P hd hi hL hI kk)
  by_cases c23 : x = 23
  · exact am_s_tsw (v := 23) dc370_3.1.1.1 (by rw [c23]; decide) rfl rfl rfl (st_23 L xs d i k n I J Pf l5 l6 P hd hi hL hI kk)
  by_cases c24 : x = 24
  · exact am_s_tsw (v := 24) dc370_3.1.1.1 (by rw [c24]; decide) rfl rfl rfl (st_24 L xs d i k n I J Pf l5 l6 P hd hi hL hI kk)
  by_cases c25 : x = 25
  · exact am_s_tsw (v := 25) dc370_3.1.1.1 (by rw [c25]; decide) rfl rfl rfl (st_25 L xs d i k n I J Pf l5 l6 P hd hi hL hI kk)
  by_cases c26 : x = 26
  · exact am_s_tsw (v := 26) dc370_3.1.1.1 (by rw [c26]; decide) rfl rfl rfl (st_26 L xs d i k n I J Pf l5 l6 P hd hi hL hI kk)
  by_cases c27 : x = 27
  · exact am_s_tsw (v := 27) dc370_3.1.1.1 (by rw [c27]; decide) rfl rfl rfl (st_27 L xs d i k n I J Pf l5 l6 P hd hi hL hI kk)
  by_cases c28 : x = 28
  · exact am_s_tsw (v := 28) dc370_3.1.1.1 (by rw [c28]; decide) rfl rfl rfl (st_28 L xs d i k n I J Pf l5 l6 P hd hi hL hI kk)
  by_cases c29 : x = 29
  · exact am_s_tsw (v := 29) dc370_3.1.1.1 (by rw [c29]; decide) rfl rfl rfl (st_29 L xs d i k n I J Pf l5 l6 P hd hi hL hI kk)
  by_cases c30 : x = 30
  · exact am_s_tsw (v := 30) dc370_3.1.1.1 (by rw [c30]; decide) rfl rfl rfl (st_30 L xs d i k n I J Pf l5 l6 P hd hi hL hI kk)
  by_cases c31 : x = 31
  · exact am_s_tsw (v := 31) dc370_3.1.1.1 (by rw [c31]; decide) rfl rfl rfl (st_31 L xs d i k n I J Pf l5 l6 P hd hi hL hI kk)
  by_cases c32 : x = 32
  · exact am_s_tsw (v := 32) dc370_3.1.1.1 (by rw [c32]; decide) rfl rfl rfl (st_32 L xs d i k n I J Pf l5 l6 P hd hi hL hI kk)
  by_cases c33 : x = 33
  · exact am_s_tsw (v := 33) dc370_3.1.1.1 (by rw [c33]; decide) rfl rfl rfl (st_33 L xs d i k n I J Pf l5 l6 P hd hi hL hI kk)
  by_cases c34 : x = 34
  · exact am_s_tsw (v := 34) dc370_3.1.1.1 (by rw [c34]; decide) rfl rfl rfl (st_34 L xs d i k n I J Pf l5 l6 P hd hi hL hI kk)
  refine am_s_tswd dc370_3.1.1.1 (by have e0 := sw_n c0 (i := 0) (by decide); have e1 := sw_n c1 (i := 1) (by decide); have e2 := sw_n c2 (i := 2) (by decide); have e3 := sw_n c3 (i := 3) (by decide); have e4 := sw_n c4 (i := 4) (by decide); have e5 := sw_n c5 (i := 5) (by decide); have e6 := sw_n c6 (i := 6) (by decide); have e7 := sw_n c7 (i := 7) (by decide); have e8 := sw_n c8 (i := 8) (by decide); have e9 := sw_n c9 (i := 9) (by decide); have e10 := sw_n c10 (i := 10) (by decide); have e11 := sw_n c11 (i := 11) (by decide); have e12 := sw_n c12 (i := 12) (by decide); have e13 := sw_n c13 (i := 13) (by decide); have e14 := sw_n c14 (i := 14) (by decide); have e15 := sw_n c15 (i := 15) (by decide); have e16 := sw_n c16 (i := 16) (by decide); have e17 := sw_n c17 (i := 17) (by decide); have e18 := sw_n c18 (i := 18) (by decide); have e19 := sw_n c19 (i := 19) (by decide); have e20 := sw_n c20 (i := 20) (by decide); have e21 := sw_n c21 (i := 21) (by decide); have e22 := sw_n c22 (i := 22) (by decide); have e23 := sw_n c23 (i := 23) (by decide); have e24 := sw_n c24 (i := 24) (by decide); have e25 := sw_n c25 (i := 25) (by decide); have e26 := sw_n c26 (i := 26) (by decide); have e27 := sw_n c27 (i := 27) (by decide); have e28 := sw_n c28 (i := 28) (by decide); have e29 := sw_n c29 (i := 29) (by decide); have e30 := sw_n c30 (i := 30) (by decide); have e31 := sw_n c31 (i := 31) (by decide); have e32 := sw_n c32 (i := 32) (by decide); have e33 := sw_n c33 (i := 33) (by decide); have e34 := sw_n c34 (i := 34) (by decide); simp only [Bool.or_eq_true, decide_eq_true_eq]; omega) rfl ?_
  exact kk I J Pf k n l5 l6 hI (by omega) (by omega)
/-- the loop's end, with 1, in the room that is left -/
theorem lw_loop {L : Nat} {xs : Nat → Int32} {d : Nat} {P : am_O → Prop} (hd : 402 ≤ d) (hL : L ≤ 3072) : ∀ (m i k n : Nat) (I : am_I) (J : am_J) (Pf : am_R) (l5 l6 : Option Value), L < i + 6 * m + 6 → i ≤ 4000 → INV I J Pf → (∀ (w : am_W) (k' n' : Nat), k' ≤ k + m → n' ≤ n + 6 * m → P (.inl (some (.int 1)), w, k', n')) → am_go (some (L, xs)) d 370 (23, lwL i l5 l6, [], (am_SH, I, J, Pf), k, n) P := by
  intro m
  induction m with
  | zero =>
    intro i k n I J Pf l5 l6 h1 h2 hI kk
    refine am_s_iload rfl dc370_1.2.1.2 ?_
    refine am_s_aload_nT rfl dc370_1.2.2.1 ?_
    refine am_s_scl dc370_1.2.2.2 ?_
    refine am_s_bipush am_cb6 dc370_2.1.1.1 ?_
    refine am_s_isub dc370_2.1.1.2 ?_
    refine am_s_ic_gt dc370_2.1.2.1 rfl (fun _ => ?_) (fun z => absurd ((lw_cmp hL h2).mpr (by omega)) z)
    refine am_s_iconst am_cc1 dc370_175.2.2.2 ?_
    exact am_s_zreturn dc370_176 rfl (Or.inr rfl) (kk _ _ _ (by omega) (by omega))
  | succ m ih =>
    intro i k n I J Pf l5 l6 h1 h2 hI kk
    refine am_s_iload rfl dc370_1.2.1.2 ?_
    refine am_s_aload_nT rfl dc370_1.2.2.1 ?_
    refine am_s_scl dc370_1.2.2.2 ?_
    refine am_s_bipush am_cb6 dc370_2.1.1.1 ?_
    refine am_s_isub dc370_2.1.1.2 ?_
    refine am_s_ic_gt dc370_2.1.2.1 rfl (fun _ => ?_) (fun z => ?_)
    · refine am_s_iconst am_cc1 dc370_175.2.2.2 ?_
      exact am_s_zreturn dc370_176 rfl (Or.inr rfl) (kk _ _ _ (by omega) (by omega))
    · have hi : i + 6 ≤ L := by
        have := mt (lw_cmp hL h2).mpr z
        omega
      refine lw_turn hd hi hL hI (fun I' J' Pf' k' n' l5' l6' hI' hk' hn' => ?_)
      refine am_s_iinc (c := 6) (ls' := lwL (i + 6) l5' l6') (by decide) rfl (by rw [show (6 : Int32) = ni 6 from rfl, ni_add]; rfl) dc370_175.2.1.2 ?_
      refine am_s_goto rfl dc370_175.2.2.1 ?_
      exact ih (i + 6) k' n' I' J' Pf' l5' l6' (by omega) (by omega) hI' (fun w k2 n2 a1 a2 => kk w k2 n2 (by omega) (by omega))
