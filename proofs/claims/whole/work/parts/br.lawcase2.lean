/-! The law: its cases, on -/
theorem st_12 : STEP 811 := by
  intro L xs d i k n I J Pf l5 l6 P hd hi hL hI kk
  refine am_s_aload_n rfl dc370_53.1.2.1 ?_
  refine am_lwa (j := 1) dc370_53.1.2.2 dc370_53.2.1.1 dc370_53.2.1.2 dc370_53.2.2.1 dc370_53.2.2.2 rfl (by omega) hL ?_
  refine am_lwa (j := 2) dc370_54.1.1.1 dc370_54.1.1.2 dc370_54.1.2.1 dc370_54.1.2.2 dc370_54.2.1.1 rfl (by omega) hL ?_
  refine am_s_aload_n rfl dc370_54.2.1.2 ?_
  refine am_s_static dc370_54.2.2.1 rfl rfl rfl (wr_sort (xs (i + 1)) (xs (i + 2)) (pr_sort hI (xs (i + 1)) (xs (i + 2))) d _ hd (fun c a I1 J1 Pf1 k1 n1 hk1 hn1 h0 hR => ?_))
  refine am_back ?_
  refine am_s_istore (ls' := lwL i (some (.int c)) l6) rfl rfl dc370_54.2.2.2 ?_
  refine am_s_aload_n rfl dc370_55.1.1.1 ?_
  refine am_lwa (j := 1) dc370_55.1.1.2 dc370_55.1.2.1 dc370_55.1.2.2 dc370_55.2.1.1 dc370_55.2.1.2 rfl (by omega) hL ?_
  refine am_lwa (j := 2) dc370_55.2.2.1 dc370_55.2.2.2 dc370_56.1.1.1 dc370_56.1.1.2 dc370_56.1.2.1 rfl (by omega) hL ?_
  refine am_s_virtual true dc370_56.1.2.2 rfl (by decide) rfl rfl rfl (hR d _ (by omega) (fun I2 hI2 hc => am_bkI ?_))
  obtain ⟨d, rfl⟩ : ∃ D, d = D + 1 := ⟨d - 1, by omega⟩
  refine am_s_istore (ls' := lwL i (some (.int c)) (some (.int a))) rfl rfl dc370_56.2.1.1 ?_
  refine am_s_aload_n rfl dc370_56.2.1.2 ?_
  refine am_s_virtual true dc370_56.2.2.1 rfl (by decide) rfl rfl rfl (am_m188 hI2 (am_bkI ?_))
  refine am_s_iload rfl dc370_56.2.2.2 ?_
  refine am_s_ic_eq dc370_57.1.1.1 rfl (fun _ => ?_) (fun z => absurd hc z)
  refine am_s_iload rfl dc370_57.1.2.2 ?_
  have kk := kk I2 J1 Pf1 (k + k1) (n + n1) (some (.int c)) (some (.int a)) hI2 (by omega) (by omega)
  refine am_s_if_ne dc370_57.2.1.1 rfl (fun _ => am_s_goto rfl dc370_58.2.2.1 kk) (fun z => ?_)
  replace h0 := h0 (Decidable.not_not.mp z)
  refine am_s_aload_n rfl dc370_57.2.1.2 ?_
  refine am_s_iconst am_cc0 dc370_57.2.2.1 ?_
  refine am_s_laload dc370_57.2.2.2 rfl (by decide) am_cN0 ?_
  refine am_s_iload rfl dc370_58.1.1.1 ?_
  refine am_s_i2l dc370_58.1.1.2 ?_
  refine am_s_lcmp dc370_58.1.2.1 ?_
  exact am_s_if_eq dc370_58.1.2.2 rfl (fun _ => am_s_goto rfl dc370_58.2.2.1 kk) (fun z => absurd (by rw [h0]; exact lg_cmp_self _) z)
theorem st_13 : STEP 879 := by
  intro L xs d i k n I J Pf l5 l6 P hd hi hL hI kk
  refine am_s_aload_n rfl dc370_58.2.2.2 ?_
  refine am_lwa (j := 1) dc370_59.1.1.1 dc370_59.1.1.2 dc370_59.1.2.1 dc370_59.1.2.2 dc370_59.2.1.1 rfl (by omega) hL ?_
  refine am_lwa (j := 2) dc370_59.2.1.2 dc370_59.2.2.1 dc370_59.2.2.2 dc370_60.1.1.1 dc370_60.1.1.2 rfl (by omega) hL ?_
  refine am_s_aload_n rfl dc370_60.1.2.1 ?_
  refine am_s_static dc370_60.1.2.2 rfl rfl rfl (wr_begins (xs (i + 1)) (xs (i + 2)) (pr_begins hI (xs (i + 1)) (xs (i + 2))) d _ hd (fun c a I1 J1 Pf1 k1 n1 hk1 hn1 h0 hR => ?_))
  refine am_back ?_
  refine am_s_istore (ls' := lwL i (some (.int c)) l6) rfl rfl dc370_60.2.1.1 ?_
  refine am_s_aload_n rfl dc370_60.2.1.2 ?_
  refine am_lwa (j := 1) dc370_60.2.2.1 dc370_60.2.2.2 dc370_61.1.1.1 dc370_61.1.1.2 dc370_61.1.2.1 rfl (by omega) hL ?_
  refine am_lwa (j := 2) dc370_61.1.2.2 dc370_61.2.1.1 dc370_61.2.1.2 dc370_61.2.2.1 dc370_61.2.2.2 rfl (by omega) hL ?_
  refine am_s_virtual true dc370_62.1.1.1 rfl (by decide) rfl rfl rfl (hR d _ (by omega) (fun I2 hI2 hc => am_bkI ?_))
  obtain ⟨d, rfl⟩ : ∃ D, d = D + 1 := ⟨d - 1, by omega⟩
  refine am_s_istore (ls' := lwL i (some (.int c)) (some (.int a))) rfl rfl dc370_62.1.1.2 ?_
  refine am_s_aload_n rfl dc370_62.1.2.1 ?_
  refine am_s_virtual true dc370_62.1.2.2 rfl (by decide) rfl rfl rfl (am_m188 hI2 (am_bkI ?_))
  refine am_s_iload rfl dc370_62.2.1.1 ?_
  refine am_s_ic_eq dc370_62.2.1.2 rfl (fun _ => ?_) (fun z => absurd hc z)
  refine am_s_iload rfl dc370_63.1.1.1 ?_
  have kk := kk I2 J1 Pf1 (k + k1) (n + n1) (some (.int c)) (some (.int a)) hI2 (by omega) (by omega)
  refine am_s_if_ne dc370_63.1.1.2 rfl (fun _ => am_s_goto rfl dc370_64.2.2.1 kk) (fun z => ?_)
  replace h0 := h0 (Decidable.not_not.mp z)
  refine am_s_aload_n rfl dc370_63.1.2.1 ?_
  refine am_s_iconst am_cc0 dc370_63.1.2.2 ?_
  refine am_s_laload dc370_63.2.1.1 rfl (by decide) am_cN0 ?_
  refine am_s_iload rfl dc370_63.2.1.2 ?_
  refine am_s_if_eq dc370_63.2.2.1 rfl (fun za => ?_) (fun za => ?_)
  · refine am_s_lconst (x := 0) (by decide) dc370_64.1.1.2 ?_
    refine am_s_lcmp dc370_64.1.2.1 ?_
    exact am_s_if_eq dc370_64.1.2.2 rfl (fun _ => am_s_goto rfl dc370_64.2.2.1 kk) (fun z => absurd (by rw [h0, gB, if_pos za]; exact lg_cmp_self _) z)
  · refine am_s_lconst (x := 1) (by decide) dc370_63.2.2.2 ?_
    refine am_s_goto rfl dc370_64.1.1.1 ?_
    refine am_s_lcmp dc370_64.1.2.1 ?_
    exact am_s_if_eq dc370_64.1.2.2 rfl (fun _ => am_s_goto rfl dc370_64.2.2.1 kk) (fun z => absurd (by rw [h0, gB, if_neg za]; exact lg_cmp_self _) z)
theorem st_14 : STEP 954 := by
  intro L xs d i k n I J Pf l5 l6 P hd hi hL hI kk
  refine am_s_aload_n rfl dc370_64.2.2.2 ?_
  refine am_lwa (j := 1) dc370_65.1.1.1 dc370_65.1.1.2 dc370_65.1.2.1 dc370_65.1.2.2 dc370_65.2.1.1 rfl (by omega) hL ?_
  refine am_s_aload_n rfl dc370_65.2.1.2 ?_
  refine am_s_static dc370_65.2.2.1 rfl rfl rfl (wr_sign (xs (i + 1)) (pr_sign hI (xs (i + 1))) d _ hd (fun c a I1 J1 Pf1 k1 n1 hk1 hn1 h0 hR => ?_))
  refine am_back ?_
  refine am_s_istore (ls' := lwL i (some (.int c)) l6) rfl rfl dc370_65.2.2.2 ?_
  refine am_s_aload_n rfl dc370_66.1.1.1 ?_
  refine am_lwa (j := 1) dc370_66.1.1.2 dc370_66.1.2.1 dc370_66.1.2.2 dc370_66.2.1.1 dc370_66.2.1.2 rfl (by omega) hL ?_
  refine am_s_virtual true dc370_66.2.2.1 rfl (by decide) rfl rfl rfl (hR d _ (by omega) (fun I2 hI2 hc => am_bkI ?_))
  obtain ⟨d, rfl⟩ : ∃ D, d = D + 1 := ⟨d - 1, by omega⟩
  refine am_s_istore (ls' := lwL i (some (.int c)) (some (.int a))) rfl rfl dc370_66.2.2.2 ?_
  refine am_s_aload_n rfl dc370_67.1.1.1 ?_
  refine am_s_virtual true dc370_67.1.1.2 rfl (by decide) rfl rfl rfl (am_m188 hI2 (am_bkI ?_))
  refine am_s_iload rfl dc370_67.1.2.1 ?_
  refine am_s_ic_eq dc370_67.1.2.2 rfl (fun _ => ?_) (fun z => absurd hc z)
  refine am_s_iload rfl dc370_67.2.2.1 ?_
  have kk := kk I2 J1 Pf1 (k + k1) (n + n1) (some (.int c)) (some (.int a)) hI2 (by omega) (by omega)
  refine am_s_if_ne dc370_67.2.2.2 rfl (fun _ => am_s_goto rfl dc370_69.1.1.2 kk) (fun z => ?_)
  replace h0 := h0 (Decidable.not_not.mp z)
  refine am_s_aload_n rfl dc370_68.1.1.1 ?_
  refine am_s_iconst am_cc0 dc370_68.1.1.2 ?_
  refine am_s_laload dc370_68.1.2.1 rfl (by decide) am_cN0 ?_
  refine am_s_iload rfl dc370_68.1.2.2 ?_
  refine am_s_i2l dc370_68.2.1.1 ?_
  refine am_s_lcmp dc370_68.2.1.2 ?_
  exact am_s_if_eq dc370_68.2.2.1 rfl (fun _ => am_s_goto rfl dc370_69.1.1.2 kk) (fun z => absurd (by rw [h0]; exact lg_cmp_self _) z)
theorem st_15 : STEP 1010 := by
  intro L xs d i k n I J Pf l5 l6 P hd hi hL hI kk
  refine am_s_aload_n rfl dc370_69.1.2.1 ?_
  refine am_lwa (j := 1) dc370_69.1.2.2 dc370_69.2.1.1 dc370_69.2.1.2 dc370_69.2.2.1 dc370_69.2.2.2 rfl (by omega) hL ?_
  refine am_s_aload_n rfl dc370_70.1.1.1 ?_
  refine am_s_static dc370_70.1.1.2 rfl rfl rfl (wr_run (xs (i + 1)) (pr_run hI (xs (i + 1))) d _ hd (fun c a I1 J1 Pf1 k1 n1 hk1 hn1 h0 hR => ?_))
  refine am_back ?_
  refine am_s_istore (ls' := lwL i (some (.int c)) l6) rfl rfl dc370_70.1.2.1 ?_
  refine am_s_aload_n rfl dc370_70.1.2.2 ?_
  refine am_lwa (j := 1) dc370_70.2.1.1 dc370_70.2.1.2 dc370_70.2.2.1 dc370_70.2.2.2 dc370_71.1.1.1 rfl (by omega) hL ?_
  refine am_s_virtual true dc370_71.1.1.2 rfl (by decide) rfl rfl rfl (hR d _ (by omega) (fun I2 hI2 hc => am_bkI ?_))
  obtain ⟨d, rfl⟩ : ∃ D, d = D + 1 := ⟨d - 1, by omega⟩
  refine am_s_istore (ls' := lwL i (some (.int c)) (some (.int a))) rfl rfl dc370_71.1.2.1 ?_
  refine am_s_aload_n rfl dc370_71.1.2.2 ?_
  refine am_s_virtual true dc370_71.2.1.1 rfl (by decide) rfl rfl rfl (am_m188 hI2 (am_bkI ?_))
  refine am_s_iload rfl dc370_71.2.1.2 ?_
  refine am_s_ic_eq dc370_71.2.2.1 rfl (fun _ => ?_) (fun z => absurd hc z)
  refine am_s_iload rfl dc370_72.1.1.2 ?_
  have kk := kk I2 J1 Pf1 (k + k1) (n + n1) (some (.int c)) (some (.int a)) hI2 (by omega) (by omega)
  refine am_s_if_ne dc370_72.1.2.1 rfl (fun _ => am_s_goto rfl dc370_73.2.1.1 kk) (fun z => ?_)
  replace h0 := h0 (Decidable.not_not.mp z)
  refine am_s_aload_n rfl dc370_72.1.2.2 ?_
  refine am_s_iconst am_cc0 dc370_72.2.1.1 ?_
  refine am_s_laload dc370_72.2.1.2 rfl (by decide) am_cN0 ?_
  refine am_s_iload rfl dc370_72.2.2.1 ?_
  refine am_s_i2l dc370_72.2.2.2 ?_
  refine am_s_lcmp dc370_73.1.1.1 ?_
  exact am_s_if_eq dc370_73.1.1.2 rfl (fun _ => am_s_goto rfl dc370_73.2.1.1 kk) (fun z => absurd (by rw [h0]; exact lg_cmp_self _) z)
theorem st_16 : STEP 1066 := by
  intro L xs d i k n I J Pf l5 l6 P hd hi hL hI kk
  refine am_s_aload_n rfl dc370_73.2.1.2 ?_
  refine am_lwa (j := 1) dc370_73.2.2.1 dc370_73.2.2.2 dc370_74.1.1.1 dc370_74.1.1.2 dc370_74.1.2.1 rfl (by omega) hL ?_
  refine am_lwa (j := 2) dc370_74.1.2.2 dc370_74.2.1.1 dc370_74.2.1.2 dc370_74.2.2.1 dc370_74.2.2.2 rfl (by omega) hL ?_
  refine am_lwa (j := 3) dc370_75.1.1.1 dc370_75.1.1.2 dc370_75.1.2.1 dc370_75.1.2.2 dc370_75.2.1.1 rfl (by omega) hL ?_
  refine am_s_aload_n rfl dc370_75.2.1.2 ?_
  refine am_s_static dc370_75.2.2.1 rfl rfl rfl (wr_is (xs (i + 1)) (xs (i + 2)) (xs (i + 3)) (pr_is hI (xs (i + 1)) (xs (i + 2)) (xs (i + 3))) d _ hd (fun c a I1 J1 Pf1 k1 n1 hk1 hn1 h0 hR => ?_))
  refine am_back ?_
  refine am_s_istore (ls' := lwL i (some (.int c)) l6) rfl rfl dc370_75.2.2.2 ?_
  refine am_s_aload_n rfl dc370_76.1.1.1 ?_
  refine am_lwa (j := 1) dc370_76.1.1.2 dc370_76.1.2.1 dc370_76.1.2.2 dc370_76.2.1.1 dc370_76.2.1.2 rfl (by omega) hL ?_
  refine am_lwa (j := 2) dc370_76.2.2.1 dc370_76.2.2.2 dc370_77.1.1.1 dc370_77.1.1.2 dc370_77.1.2.1 rfl (by omega) hL ?_
  refine am_lwa (j := 3) dc370_77.1.2.2 dc370_77.2.1.1 dc370_77.2.1.2 dc370_77.2.2.1 dc370_77.2.2.2 rfl (by omega) hL ?_
  refine am_s_virtual true dc370_78.1.1.1 rfl (by decide) rfl rfl rfl (hR d _ (by omega) (fun I2 hI2 hc => am_bkI ?_))
  obtain ⟨d, rfl⟩ : ∃ D, d = D + 1 := ⟨d - 1, by omega⟩
  refine am_s_istore (ls' := lwL i (some (.int c)) (some (.int a))) rfl rfl dc370_78.1.1.2 ?_
  refine am_s_aload_n rfl dc370_78.1.2.1 ?_
  refine am_s_virtual true dc370_78.1.2.2 rfl (by decide) rfl rfl rfl (am_m188 hI2 (am_bkI ?_))
  refine am_s_iload rfl dc370_78.2.1.1 ?_
  refine am_s_ic_eq dc370_78.2.1.2 rfl (fun _ => ?_) (fun z => absurd hc z)
  refine am_s_iload rfl dc370_79.1.1.1 ?_
  have kk := kk I2 J1 Pf1 (k + k1) (n + n1) (some (.int c)) (some (.int a)) hI2 (by omega) (by omega)
  refine am_s_if_ne dc370_79.1.1.2 rfl (fun _ => am_s_goto rfl dc370_80.2.2.1 kk) (fun z => ?_)
  replace h0 := h0 (Decidable.not_not.mp z)
  refine am_s_aload_n rfl dc370_79.1.2.1 ?_
  refine am_s_iconst am_cc0 dc370_79.1.2.2 ?_
  refine am_s_laload dc370_79.2.1.1 rfl (by decide) am_cN0 ?_
  refine am_s_iload rfl dc370_79.2.1.2 ?_
  refine am_s_if_eq dc370_79.2.2.1 rfl (fun za => ?_) (fun za => ?_)
  · refine am_s_lconst (x := 0) (by decide) dc370_80.1.1.2 ?_
    refine am_s_lcmp dc370_80.1.2.1 ?_
    exact am_s_if_eq dc370_80.1.2.2 rfl (fun _ => am_s_goto rfl dc370_80.2.2.1 kk) (fun z => absurd (by rw [h0, gB, if_pos za]; exact lg_cmp_self _) z)
  · refine am_s_lconst (x := 1) (by decide) dc370_79.2.2.2 ?_
    refine am_s_goto rfl dc370_80.1.1.1 ?_
    refine am_s_lcmp dc370_80.1.2.1 ?_
    exact am_s_if_eq dc370_80.1.2.2 rfl (fun _ => am_s_goto rfl dc370_80.2.2.1 kk) (fun z => absurd (by rw [h0, gB, if_neg za]; exact lg_cmp_self _) z)
theorem st_17 : STEP 1153 := by
  intro L xs d i k n I J Pf l5 l6 P hd hi hL hI kk
  refine am_s_aload_n rfl dc370_80.2.2.2 ?_
  refine am_lwa (j := 1) dc370_81.1.1.1 dc370_81.1.1.2 dc370_81.1.2.1 dc370_81.1.2.2 dc370_81.2.1.1 rfl (by omega) hL ?_
  refine am_lwa (j := 2) dc370_81.2.1.2 dc370_81.2.2.1 dc370_81.2.2.2 dc370_82.1.1.1 dc370_82.1.1.2 rfl (by omega) hL ?_
  refine am_s_aload_n rfl dc370_82.1.2.1 ?_
  refine am_s_static dc370_82.1.2.2 rfl rfl rfl (wr_ends (xs (i + 1)) (xs (i + 2)) (pr_ends hI (xs (i + 1)) (xs (i + 2))) d _ hd (fun c a I1 J1 Pf1 k1 n1 hk1 hn1 h0 hR => ?_))
  refine am_back ?_
  refine am_s_istore (ls' := lwL i (some (.int c)) l6) rfl rfl dc370_82.2.1.1 ?_
  refine am_s_aload_n rfl dc370_82.2.1.2 ?_
  refine am_lwa (j := 1) dc370_82.2.2.1 dc370_82.2.2.2 dc370_83.1.1.1 dc370_83.1.1.2 dc370_83.1.2.1 rfl (by omega) hL ?_
  refine am_lwa (j := 2) dc370_83.1.2.2 dc370_83.2.1.1 dc370_83.2.1.2 dc370_83.2.2.1 dc370_83.2.2.2 rfl (by omega) hL ?_
  refine am_s_virtual true dc370_84.1.1.1 rfl (by decide) rfl rfl rfl (hR d _ (by omega) (fun I2 hI2 hc => am_bkI ?_))
  obtain ⟨d, rfl⟩ : ∃ D, d = D + 1 := ⟨d - 1, by omega⟩
  refine am_s_istore (ls' := lwL i (some (.int c)) (some (.int a))) rfl rfl dc370_84.1.1.2 ?_
  refine am_s_aload_n rfl dc370_84.1.2.1 ?_
  refine am_s_virtual true dc370_84.1.2.2 rfl (by decide) rfl rfl rfl (am_m188 hI2 (am_bkI ?_))
  refine am_s_iload rfl dc370_84.2.1.1 ?_
  refine am_s_ic_eq dc370_84.2.1.2 rfl (fun _ => ?_) (fun z => absurd hc z)
  refine am_s_iload rfl dc370_85.1.1.1 ?_
  have kk := kk I2 J1 Pf1 (k + k1) (n + n1) (some (.int c)) (some (.int a)) hI2 (by omega) (by omega)
  refine am_s_if_ne dc370_85.1.1.2 rfl (fun _ => am_s_goto rfl dc370_86.1.2.2 kk) (fun z => ?_)
  replace h0 := h0 (Decidable.not_not.mp z)
  refine am_s_aload_n rfl dc370_85.1.2.1 ?_
  refine am_s_iconst am_cc0 dc370_85.1.2.2 ?_
  refine am_s_laload dc370_85.2.1.1 rfl (by decide) am_cN0 ?_
  refine am_s_iload rfl dc370_85.2.1.2 ?_
  refine am_s_i2l dc370_85.2.2.1 ?_
  refine am_s_lcmp dc370_85.2.2.2 ?_
  exact am_s_if_eq dc370_86.1.1.1 rfl (fun _ => am_s_goto rfl dc370_86.1.2.2 kk) (fun z => absurd (by rw [h0]; exact lg_cmp_self _) z)
theorem st_18 : STEP 1221 := by
  intro L xs d i k n I J Pf l5 l6 P hd hi hL hI kk
  refine am_s_aload_n rfl dc370_86.2.1.1 ?_
  refine am_lwa (j := 1) dc370_86.2.1.2 dc370_86.2.2.1 dc370_86.2.2.2 dc370_87.1.1.1 dc370_87.1.1.2 rfl (by omega) hL ?_
  refine am_lwa (j := 2) dc370_87.1.2.1 dc370_87.1.2.2 dc370_87.2.1.1 dc370_87.2.1.2 dc370_87.2.2.1 rfl (by omega) hL ?_
  refine am_lwa (j := 3) dc370_87.2.2.2 dc370_88.1.1.1 dc370_88.1.1.2 dc370_88.1.2.1 dc370_88.1.2.2 rfl (by omega) hL ?_
  refine am_s_aload_n rfl dc370_88.2.1.1 ?_
  refine am_s_static dc370_88.2.1.2 rfl rfl rfl (wr_ways (xs (i + 1)) (xs (i + 2)) (xs (i + 3)) (pr_ways hI (xs (i + 1)) (xs (i + 2)) (xs (i + 3))) d _ hd (fun c a I1 J1 Pf1 k1 n1 hk1 hn1 h0 hR => ?_))
  refine am_back ?_
  refine am_s_istore (ls' := lwL i (some (.int c)) l6) rfl rfl dc370_88.2.2.1 ?_
  refine am_s_aload_n rfl dc370_88.2.2.2 ?_
  refine am_lwa (j := 1) dc370_89.1.1.1 dc370_89.1.1.2 dc370_89.1.2.1 dc370_89.1.2.2 dc370_89.2.1.1 rfl (by omega) hL ?_
  refine am_lwa (j := 2) dc370_89.2.1.2 dc370_89.2.2.1 dc370_89.2.2.2 dc370_90.1.1.1 dc370_90.1.1.2 rfl (by omega) hL ?_
  refine am_lwa (j := 3) dc370_90.1.2.1 dc370_90.1.2.2 dc370_90.2.1.1 dc370_90.2.1.2 dc370_90.2.2.1 rfl (by omega) hL ?_
  refine am_s_virtual true dc370_90.2.2.2 rfl (by decide) rfl rfl rfl (hR d _ (by omega) (fun I2 hI2 hc => am_bkI ?_))
  obtain ⟨d, rfl⟩ : ∃ D, d = D + 1 := ⟨d - 1, by omega⟩
  refine am_s_istore (ls' := lwL i (some (.int c)) (some (.int a))) rfl rfl dc370_91.1.1.1 ?_
  refine am_s_aload_n rfl dc370_91.1.1.2 ?_
  refine am_s_virtual true dc370_91.1.2.1 rfl (by decide) rfl rfl rfl (am_m188 hI2 (am_bkI ?_))
  refine am_s_iload rfl dc370_91.1.2.2 ?_
  refine am_s_ic_eq dc370_91.2.1.1 rfl (fun _ => ?_) (fun z => absurd hc z)
  refine am_s_iload rfl dc370_91.2.2.2 ?_
  have kk := kk I2 J1 Pf1 (k + k1) (n + n1) (some (.int c)) (some (.int a)) hI2 (by omega) (by omega)
  refine am_s_if_ne dc370_92.1.1.1 rfl (fun _ => am_s_goto rfl dc370_93.1.2.1 kk) (fun z => ?_)
  replace h0 := h0 (Decidable.not_not.mp z)
  refine am_s_aload_n rfl dc370_92.1.1.2 ?_
  refine am_s_iconst am_cc0 dc370_92.1.2.1 ?_
  refine am_s_laload dc370_92.1.2.2 rfl (by decide) am_cN0 ?_
  refine am_s_iload rfl dc370_92.2.1.1 ?_
  refine am_s_i2l dc370_92.2.1.2 ?_
  refine am_s_lcmp dc370_92.2.2.1 ?_
  exact am_s_if_eq dc370_92.2.2.2 rfl (fun _ => am_s_goto rfl dc370_93.1.2.1 kk) (fun z => absurd (by rw [h0]; exact lg_cmp_self _) z)
theorem st_19 : STEP 1301 := by
  intro L xs d i k n I J Pf l5 l6 P hd hi hL hI kk
  refine am_s_aload_n rfl dc370_93.1.2.2 ?_
  refine am_lwa (j := 1) dc370_93.2.1.1 dc370_93.2.1.2 dc370_93.2.2.1 dc370_93.2.2.2 dc370_94.1.1.1 rfl (by omega) hL ?_
  refine am_lwa (j := 2) dc370_94.1.1.2 dc370_94.1.2.1 dc370_94.1.2.2 dc370_94.2.1.1 dc370_94.2.1.2 rfl (by omega) hL ?_
  refine am_lwa (j := 3) dc370_94.2.2.1 dc370_94.2.2.2 dc370_95.1.1.1 dc370_95.1.1.2 dc370_95.1.2.1 rfl (by omega) hL ?_
  refine am_s_aload_n rfl dc370_95.1.2.2 ?_
  refine am_s_static dc370_95.2.1.1 rfl rfl rfl (wr_height (xs (i + 1)) (xs (i + 2)) (xs (i + 3)) (pr_height hI (xs (i + 1)) (xs (i + 2)) (xs (i + 3))) d _ hd (fun c a I1 J1 Pf1 k1 n1 hk1 hn1 h0 hR => ?_))
  refine am_back ?_
  refine am_s_istore (ls' := lwL i (some (.int c)) l6) rfl rfl dc370_95.2.1.2 ?_
  refine am_s_aload_n rfl dc370_95.2.2.1 ?_
  refine am_lwa (j := 1) dc370_95.2.2.2 dc370_96.1.1.1 dc370_96.1.1.2 dc370_96.1.2.1 dc370_96.1.2.2 rfl (by omega) hL ?_
  refine am_lwa (j := 2) dc370_96.2.1.1 dc370_96.2.1.2 dc370_96.2.2.1 dc370_96.2.2.2 dc370_97.1.1.1 rfl (by omega) hL ?_
  refine am_lwa (j := 3) dc370_97.1.1.2 dc370_97.1.2.1 dc370_97.1.2.2 dc370_97.2.1.1 dc370_97.2.1.2 rfl (by omega) hL ?_
  refine am_s_virtual true dc370_97.2.2.1 rfl (by decide) rfl rfl rfl (hR d _ (by omega) (fun I2 hI2 hc => am_bkI ?_))
  obtain ⟨d, rfl⟩ : ∃ D, d = D + 1 := ⟨d - 1, by omega⟩
  refine am_s_istore (ls' := lwL i (some (.int c)) (some (.int a))) rfl rfl dc370_97.2.2.2 ?_
  refine am_s_aload_n rfl dc370_98.1.1.1 ?_
  refine am_s_virtual true dc370_98.1.1.2 rfl (by decide) rfl rfl rfl (am_m188 hI2 (am_bkI ?_))
  refine am_s_iload rfl dc370_98.1.2.1 ?_
  refine am_s_ic_eq dc370_98.1.2.2 rfl (fun _ => ?_) (fun z => absurd hc z)
  refine am_s_iload rfl dc370_98.2.2.1 ?_
  have kk := kk I2 J1 Pf1 (k + k1) (n + n1) (some (.int c)) (some (.int a)) hI2 (by omega) (by omega)
  refine am_s_if_ne dc370_98.2.2.2 rfl (fun _ => am_s_goto rfl dc370_100.1.1.2 kk) (fun z => ?_)
  replace h0 := h0 (Decidable.not_not.mp z)
  refine am_s_aload_n rfl dc370_99.1.1.1 ?_
  refine am_s_iconst am_cc0 dc370_99.1.1.2 ?_
  refine am_s_laload dc370_99.1.2.1 rfl (by decide) am_cN0 ?_
  refine am_s_iload rfl dc370_99.1.2.2 ?_
  refine am_s_i2l dc370_99.2.1.1 ?_
  refine am_s_lcmp dc370_99.2.1.2 ?_
  exact am_s_if_eq dc370_99.2.2.1 rfl (fun _ => am_s_goto rfl dc370_100.1.1.2 kk) (fun z => absurd (by rw [h0]; exact lg_cmp_self _) z)
theorem st_20 : STEP 1381 := by
  intro L xs d i k n I J Pf l5 l6 P hd hi hL hI kk
  refine am_s_aload_n rfl dc370_100.1.2.1 ?_
  refine am_lwa (j := 1) dc370_100.1.2.2 dc370_100.2.1.1 dc370_100.2.1.2 dc370_100.2.2.1 dc370_100.2.2.2 rfl (by omega) hL ?_
  refine am_lwa (j := 2) dc370_101.1.1.1 dc370_101.1.1.2 dc370_101.1.2.1 dc370_101.1.2.2 dc370_101.2.1.1 rfl (by omega) hL ?_
  refine am_lwa (j := 3) dc370_101.2.1.2 dc370_101.2.2.1 dc370_101.2.2.2 dc370_102.1.1.1 dc370_102.1.1.2 rfl (by omega) hL ?_
  refine am_s_aload_n rfl dc370_102.1.2.1 ?_
  refine am_s_static dc370_102.1.2.2 rfl rfl rfl (wr_nodes (xs (i + 1)) (xs (i + 2)) (xs (i + 3)) (pr_nodes hI (xs (i + 1)) (xs (i + 2)) (xs (i + 3))) d _ hd (fun c a I1 J1 Pf1 k1 n1 hk1 hn1 h0 hR => ?_))
  refine am_back ?_
  refine am_s_istore (ls' := lwL i (some (.int c)) l6) rfl rfl dc370_102.2.1.1 ?_
  refine am_s_aload_n rfl dc370_102.2.1.2 ?_
  refine am_lwa (j := 1) dc370_102.2.2.1 dc370_102.2.2.2 dc370_103.1.1.1 dc370_103.1.1.2 dc370_103.1.2.1 rfl (by omega) hL ?_
  refine am_lwa (j := 2) dc370_103.1.2.2 dc370_103.2.1.1 dc370_103.2.1.2 dc370_103.2.2.1 dc370_103.2.2.2 rfl (by omega) hL ?_
  refine am_lwa (j := 3) dc370_104.1.1.1 dc370_104.1.1.2 dc370_104.1.2.1 dc370_104.1.2.2 dc370_104.2.1.1 rfl (by omega) hL ?_
  refine am_s_virtual true dc370_104.2.1.2 rfl (by decide) rfl rfl rfl (hR d _ (by omega) (fun I2 hI2 hc => am_bkI ?_))
  obtain ⟨d, rfl⟩ : ∃ D, d = D + 1 := ⟨d - 1, by omega⟩
  refine am_s_istore (ls' := lwL i (some (.int c)) (some (.int a))) rfl rfl dc370_104.2.2.1 ?_
  refine am_s_aload_n rfl dc370_104.2.2.2 ?_
  refine am_s_virtual true dc370_105.1.1.1 rfl (by decide) rfl rfl rfl (am_m188 hI2 (am_bkI ?_))
  refine am_s_iload rfl dc370_105.1.1.2 ?_
  refine am_s_ic_eq dc370_105.1.2.1 rfl (fun _ => ?_) (fun z => absurd hc z)
  refine am_s_iload rfl dc370_105.2.1.2 ?_
  have kk := kk I2 J1 Pf1 (k + k1) (n + n1) (some (.int c)) (some (.int a)) hI2 (by omega) (by omega)
  refine am_s_if_ne dc370_105.2.2.1 rfl (fun _ => am_s_goto rfl dc370_107.1.1.1 kk) (fun z => ?_)
  replace h0 := h0 (Decidable.not_not.mp z)
  refine am_s_aload_n rfl dc370_105.2.2.2 ?_
  refine am_s_iconst am_cc0 dc370_106.1.1.1 ?_
  refine am_s_laload dc370_106.1.1.2 rfl (by decide) am_cN0 ?_
  refine am_s_iload rfl dc370_106.1.2.1 ?_
  refine am_s_i2l dc370_106.1.2.2 ?_
  refine am_s_lcmp dc370_106.2.1.1 ?_
  exact am_s_if_eq dc370_106.2.1.2 rfl (fun _ => am_s_goto rfl dc370_107.1.1.1 kk) (fun z => absurd (by rw [h0]; exact lg_cmp_self _) z)
theorem st_21 : STEP 1461 := by
  intro L xs d i k n I J Pf l5 l6 P hd hi hL hI kk
  refine am_s_aload_n rfl dc370_107.1.1.2 ?_
  refine am_lwa (j := 1) dc370_107.1.2.1 dc370_107.1.2.2 dc370_107.2.1.1 dc370_107.2.1.2 dc370_107.2.2.1 rfl (by omega) hL ?_
  refine am_lwa (j := 2) dc370_107.2.2.2 dc370_108.1.1.1 dc370_108.1.1.2 dc370_108.1.2.1 dc370_108.1.2.2 rfl (by omega) hL ?_
  refine am_lwa (j := 3) dc370_108.2.1.1 dc370_108.2.1.2 dc370_108.2.2.1 dc370_108.2.2.2 dc370_109.1.1.1 rfl (by omega) hL ?_
  refine am_s_aload_n rfl dc370_109.1.1.2 ?_
  refine am_s_static dc370_109.1.2.1 rfl rfl rfl (wr_node (xs (i + 1)) (xs (i + 2)) (xs (i + 3)) (pr_node hI (xs (i + 1)) (xs (i + 2)) (xs (i + 3))) d _ hd (fun c a I1 J1 Pf1 k1 n1 hk1 hn1 h0 hR => ?_))
  refine am_back ?_
  refine am_s_istore (ls' := lwL i (some (.int c)) l6) rfl rfl dc370_109.1.2.2 ?_
  refine am_s_aload_n rfl dc370_109.2.1.1 ?_
  refine am_lwa (j := 1) dc370_109.2.1.2 dc370_109.2.2.1 dc370_109.2.2.2 dc370_110.1.1.1 dc370_110.1.1.2 rfl (by omega) hL ?_
  refine am_lwa (j := 2) dc370_110.1.2.1 dc370_110.1.2.2 dc370_110.2.1.1 dc370_110.2.1.2 dc370_110.2.2.1 rfl (by omega) hL ?_
  refine am_lwa (j := 3) dc370_110.2.2.2 dc370_111.1.1.1 dc370_111.1.1.2 dc370_111.1.2.1 dc370_111.1.2.2 rfl (by omega) hL ?_
  refine am_s_virtual true dc370_111.2.1.1 rfl (by decide) rfl rfl rfl (hR d _ (by omega) (fun I2 hI2 hc => am_bkI ?_))
  obtain ⟨d, rfl⟩ : ∃ D, d = D + 1 := ⟨d - 1, by omega⟩
  refine am_s_istore (ls' := lwL i (some (.int c)) (some (.int a))) rfl rfl dc370_111.2.1.2 ?_
  refine am_s_aload_n rfl dc370_111.2.2.1 ?_
  refine am_s_virtual true dc370_111.2.2.2 rfl (by decide) rfl rfl rfl (am_m188 hI2 (am_bkI ?_))
  refine am_s_iload rfl dc370_112.1.1.1 ?_
  refine am_s_ic_eq dc370_112.1.1.2 rfl (fun _ => ?_) (fun z => absurd hc z)
  refine am_s_iload rfl dc370_112.2.1.1 ?_
  have kk := kk I2 J1 Pf1 (k + k1) (n + n1) (some (.int c)) (some (.int a)) hI2 (by omega) (by omega)
  refine am_s_if_ne dc370_112.2.1.2 rfl (fun _ => am_s_goto rfl dc370_113.2.2.2 kk) (fun z => ?_)
  replace h0 := h0 (Decidable.not_not.mp z)
  refine am_s_aload_n rfl dc370_112.2.2.1 ?_
  refine am_s_iconst am_cc0 dc370_112.2.2.2 ?_
  refine am_s_laload dc370_113.1.1.1 rfl (by decide) am_cN0 ?_
  refine am_s_iload rfl dc370_113.1.1.2 ?_
  refine am_s_i2l dc370_113.1.2.1 ?_
  refine am_s_lcmp dc370_113.1.2.2 ?_
  exact am_s_if_eq dc370_113.2.1.1 rfl (fun _ => am_s_goto rfl dc370_113.2.2.2 kk) (fun z => absurd (by rw [h0]; exact lg_cmp_self _) z)
theorem st_22 : STEP 1541 := by
  intro L xs d i k n I J Pf l5 l6 P hd hi hL hI kk
  refine am_s_aload_n rfl dc370_114.1.1.1 ?_
  refine am_lwa (j := 1) dc370_114.1.1.2 dc370_114.1.2.1 dc370_114.1.2.2 dc370_114.2.1.1 dc370_114.2.1.2 rfl (by omega) hL ?_
  refine am_s_aload_n rfl dc370_114.2.2.1 ?_
  refine am_s_static dc370_114.2.2.2 rfl rfl rfl (wr_worth (xs (i + 1)) (pr_worth hI (xs (i + 1))) d _ hd (fun c a I1 J1 Pf1 k1 n1 hk1 hn1 h0 hR => ?_))
  refine am_back ?_
  refine am_s_istore (ls' := lwL i (some (.int c)) l6) rfl rfl dc370_115.1.1.1 ?_
  refine am_s_aload_n rfl dc370_115.1.1.2 ?_
  refine am_lwa (j := 1) dc370_115.1.2.1 dc370_115.1.2.2 dc370_115.2.1.1 dc370_115.2.1.2 dc370_115.2.2.1 rfl (by omega) hL ?_
  refine am_s_virtual true dc370_115.2.2.2 rfl (by decide) rfl rfl rfl (hR d _ (by omega) (fun I2 hI2 hc => am_bkI ?_))
  obtain ⟨d, rfl⟩ : ∃ D, d = D + 1 := ⟨d - 1, by omega⟩
  refine am_s_istore (ls' := lwL i (some (.int c)) (some (.int a))) rfl rfl dc370_116.1.1.1 ?_
  refine am_s_aload_n rfl dc370_116.1.1.2 ?_
  refine am_s_virtual true dc370_116.1.2.1 rfl (by decide) rfl rfl rfl (am_m188 hI2 (am_bkI ?_))
  refine am_s_iload rfl dc370_116.1.2.2 ?_
  refine am_s_ic_eq dc370_116.2.1.1 rfl (fun _ => ?_) (fun z => absurd hc z)
  refine am_s_iload rfl dc370_116.2.2.2 ?_
  have kk := kk I2 J1 Pf1 (k + k1) (n + n1) (some (.int c)) (some (.int a)) hI2 (by omega) (by omega)
  refine am_s_if_ne dc370_117.1.1.1 rfl (fun _ => am_s_goto rfl dc370_118.1.2.1 kk) (fun z => ?_)
  replace h0 := h0 (Decidable.not_not.mp z)
  refine am_s_aload_n rfl dc370_117.1.1.2 ?_
  refine am_s_iconst am_cc0 dc370_117.1.2.1 ?_
  refine am_s_laload dc370_117.1.2.2 rfl (by decide) am_cN0 ?_
  refine am_s_iload rfl dc370_117.2.1.1 ?_
  refine am_s_i2l dc370_117.2.1.2 ?_
  refine am_s_lcmp dc370_117.2.2.1 ?_
  exact am_s_if_eq dc370_117.2.2.2 rfl (fun _ => am_s_goto rfl dc370_118.1.2.1 kk) (fun z => absurd (by rw [h0]; exact lg_cmp_self _) z)
theorem st_23 : STEP 1597 := by
  intro L xs d i k n I J Pf l5 l6 P hd hi hL hI kk
  refine am_s_aload_n rfl dc370_118.1.2.2 ?_
  refine am_lwa (j := 1) dc370_118.2.1.1 dc370_118.2.1.2 dc370_118.2.2.1 dc370_118.2.2.2 dc370_119.1.1.1 rfl (by omega) hL ?_
  refine am_s_aload_n rfl dc370_119.1.1.2 ?_
  refine am_s_static dc370_119.1.2.1 rfl rfl rfl (wr_pieces (xs (i + 1)) (pr_pieces hI (xs (i + 1))) d _ hd (fun c a I1 J1 Pf1 k1 n1 hk1 hn1 h0 hR => ?_))
  refine am_back ?_
  refine am_s_istore (ls' := lwL i (some (.int c)) l6) rfl rfl dc370_119.1.2.2 ?_
  refine am_s_aload_n rfl dc370_119.2.1.1 ?_
  refine am_lwa (j := 1) dc370_119.2.1.2 dc370_119.2.2.1 dc370_119.2.2.2 dc370_120.1.1.1 dc370_120.1.1.2 rfl (by omega) hL ?_
  refine am_s_virtual true dc370_120.1.2.1 rfl (by decide) rfl rfl rfl (hR d _ (by omega) (fun I2 hI2 hc => am_bkI ?_))
  obtain ⟨d, rfl⟩ : ∃ D, d = D + 1 := ⟨d - 1, by omega⟩
  refine am_s_istore (ls' := lwL i (some (.int c)) (some (.int a))) rfl rfl dc370_120.1.2.2 ?_
  refine am_s_aload_n rfl dc370_120.2.1.1 ?_
  refine am_s_virtual true dc370_120.2.1.2 rfl (by decide) rfl rfl rfl (am_m188 hI2 (am_bkI ?_))
  refine am_s_iload rfl dc370_120.2.2.1 ?_
  refine am_s_ic_eq dc370_120.2.2.2 rfl (fun _ => ?_) (fun z => absurd hc z)
  refine am_s_iload rfl dc370_121.1.2.1 ?_
  have kk := kk I2 J1 Pf1 (k + k1) (n + n1) (some (.int c)) (some (.int a)) hI2 (by omega) (by omega)
  refine am_s_if_ne dc370_121.1.2.2 rfl (fun _ => am_s_goto rfl dc370_122.2.1.2 kk) (fun z => ?_)
  replace h0 := h0 (Decidable.not_not.mp z)
  refine am_s_aload_n rfl dc370_121.2.1.1 ?_
  refine am_s_iconst am_cc0 dc370_121.2.1.2 ?_
  refine am_s_laload dc370_121.2.2.1 rfl (by decide) am_cN0 ?_
  refine am_s_iload rfl dc370_121.2.2.2 ?_
  refine am_s_i2l dc370_122.1.1.1 ?_
  refine am_s_lcmp dc370_122.1.1.2 ?_
  exact am_s_if_eq dc370_122.1.2.1 rfl (fun _ => am_s_goto rfl dc370_122.2.1.2 kk) (fun z => absurd (by rw [h0]; exact lg_cmp_self _) z)
