/-! The law: its cases, on -/
theorem st_24 : STEP 1653 := by
  intro L xs d i k n I J Pf l5 l6 P hd hi hL hI kk
  refine am_s_aload_n rfl dc370_122.2.2.1 ?_
  refine am_lwa (j := 1) dc370_122.2.2.2 dc370_123.1.1.1 dc370_123.1.1.2 dc370_123.1.2.1 dc370_123.1.2.2 rfl (by omega) hL ?_
  refine am_lwa (j := 2) dc370_123.2.1.1 dc370_123.2.1.2 dc370_123.2.2.1 dc370_123.2.2.2 dc370_124.1.1.1 rfl (by omega) hL ?_
  refine am_lwa (j := 3) dc370_124.1.1.2 dc370_124.1.2.1 dc370_124.1.2.2 dc370_124.2.1.1 dc370_124.2.1.2 rfl (by omega) hL ?_
  refine am_s_aload_n rfl dc370_124.2.2.1 ?_
  refine am_s_static dc370_124.2.2.2 rfl rfl rfl (wr_wrong (xs (i + 1)) (xs (i + 2)) (xs (i + 3)) (pr_wrong hI (xs (i + 1)) (xs (i + 2)) (xs (i + 3))) d _ hd (fun c a I1 J1 Pf1 k1 n1 hk1 hn1 h0 hR => ?_))
  refine am_back ?_
  refine am_s_istore (ls' := lwL i (some (.int c)) l6) rfl rfl dc370_125.1.1.1 ?_
  refine am_s_aload_n rfl dc370_125.1.1.2 ?_
  refine am_lwa (j := 1) dc370_125.1.2.1 dc370_125.1.2.2 dc370_125.2.1.1 dc370_125.2.1.2 dc370_125.2.2.1 rfl (by omega) hL ?_
  refine am_lwa (j := 2) dc370_125.2.2.2 dc370_126.1.1.1 dc370_126.1.1.2 dc370_126.1.2.1 dc370_126.1.2.2 rfl (by omega) hL ?_
  refine am_lwa (j := 3) dc370_126.2.1.1 dc370_126.2.1.2 dc370_126.2.2.1 dc370_126.2.2.2 dc370_127.1.1.1 rfl (by omega) hL ?_
  refine am_s_virtual true dc370_127.1.1.2 rfl (by decide) rfl rfl rfl (hR d _ (by omega) (fun I2 hI2 hc => am_bkI ?_))
  obtain ⟨d, rfl⟩ : ∃ D, d = D + 1 := ⟨d - 1, by omega⟩
  refine am_s_istore (ls' := lwL i (some (.int c)) (some (.int a))) rfl rfl dc370_127.1.2.1 ?_
  refine am_s_aload_n rfl dc370_127.1.2.2 ?_
  refine am_s_virtual true dc370_127.2.1.1 rfl (by decide) rfl rfl rfl (am_m188 hI2 (am_bkI ?_))
  refine am_s_iload rfl dc370_127.2.1.2 ?_
  refine am_s_ic_eq dc370_127.2.2.1 rfl (fun _ => ?_) (fun z => absurd hc z)
  refine am_s_iload rfl dc370_128.1.1.2 ?_
  have kk := kk I2 J1 Pf1 (k + k1) (n + n1) (some (.int c)) (some (.int a)) hI2 (by omega) (by omega)
  refine am_s_if_ne dc370_128.1.2.1 rfl (fun _ => am_s_goto rfl dc370_129.2.1.1 kk) (fun z => ?_)
  replace h0 := h0 (Decidable.not_not.mp z)
  refine am_s_aload_n rfl dc370_128.1.2.2 ?_
  refine am_s_iconst am_cc0 dc370_128.2.1.1 ?_
  refine am_s_laload dc370_128.2.1.2 rfl (by decide) am_cN0 ?_
  refine am_s_iload rfl dc370_128.2.2.1 ?_
  refine am_s_i2l dc370_128.2.2.2 ?_
  refine am_s_lcmp dc370_129.1.1.1 ?_
  exact am_s_if_eq dc370_129.1.1.2 rfl (fun _ => am_s_goto rfl dc370_129.2.1.1 kk) (fun z => absurd (by rw [h0]; exact lg_cmp_self _) z)
theorem st_25 : STEP 1733 := by
  intro L xs d i k n I J Pf l5 l6 P hd hi hL hI kk
  refine am_s_aload_n rfl dc370_129.2.1.2 ?_
  refine am_lwa (j := 1) dc370_129.2.2.1 dc370_129.2.2.2 dc370_130.1.1.1 dc370_130.1.1.2 dc370_130.1.2.1 rfl (by omega) hL ?_
  refine am_lwa (j := 2) dc370_130.1.2.2 dc370_130.2.1.1 dc370_130.2.1.2 dc370_130.2.2.1 dc370_130.2.2.2 rfl (by omega) hL ?_
  refine am_s_aload_n rfl dc370_131.1.1.1 ?_
  refine am_s_static dc370_131.1.1.2 rfl rfl rfl (wr_body (xs (i + 1)) (xs (i + 2)) (pr_body hI (xs (i + 1)) (xs (i + 2))) d _ hd (fun c a I1 J1 Pf1 k1 n1 hk1 hn1 h0 hR => ?_))
  refine am_back ?_
  refine am_s_istore (ls' := lwL i (some (.int c)) l6) rfl rfl dc370_131.1.2.1 ?_
  refine am_s_aload_n rfl dc370_131.1.2.2 ?_
  refine am_lwa (j := 1) dc370_131.2.1.1 dc370_131.2.1.2 dc370_131.2.2.1 dc370_131.2.2.2 dc370_132.1.1.1 rfl (by omega) hL ?_
  refine am_lwa (j := 2) dc370_132.1.1.2 dc370_132.1.2.1 dc370_132.1.2.2 dc370_132.2.1.1 dc370_132.2.1.2 rfl (by omega) hL ?_
  refine am_s_virtual true dc370_132.2.2.1 rfl (by decide) rfl rfl rfl (hR d _ (by omega) (fun I2 hI2 hc => am_bkI ?_))
  obtain ⟨d, rfl⟩ : ∃ D, d = D + 1 := ⟨d - 1, by omega⟩
  refine am_s_istore (ls' := lwL i (some (.int c)) (some (.int a))) rfl rfl dc370_132.2.2.2 ?_
  refine am_s_aload_n rfl dc370_133.1.1.1 ?_
  refine am_s_virtual true dc370_133.1.1.2 rfl (by decide) rfl rfl rfl (am_m188 hI2 (am_bkI ?_))
  refine am_s_iload rfl dc370_133.1.2.1 ?_
  refine am_s_ic_eq dc370_133.1.2.2 rfl (fun _ => ?_) (fun z => absurd hc z)
  refine am_s_iload rfl dc370_133.2.2.1 ?_
  have kk := kk I2 J1 Pf1 (k + k1) (n + n1) (some (.int c)) (some (.int a)) hI2 (by omega) (by omega)
  refine am_s_if_ne dc370_133.2.2.2 rfl (fun _ => am_s_goto rfl dc370_135.1.1.2 kk) (fun z => ?_)
  replace h0 := h0 (Decidable.not_not.mp z)
  refine am_s_aload_n rfl dc370_134.1.1.1 ?_
  refine am_s_iconst am_cc0 dc370_134.1.1.2 ?_
  refine am_s_laload dc370_134.1.2.1 rfl (by decide) am_cN0 ?_
  refine am_s_iload rfl dc370_134.1.2.2 ?_
  refine am_s_i2l dc370_134.2.1.1 ?_
  refine am_s_lcmp dc370_134.2.1.2 ?_
  exact am_s_if_eq dc370_134.2.2.1 rfl (fun _ => am_s_goto rfl dc370_135.1.1.2 kk) (fun z => absurd (by rw [h0]; exact lg_cmp_self _) z)
theorem st_26 : STEP 1801 := by
  intro L xs d i k n I J Pf l5 l6 P hd hi hL hI kk
  refine am_s_aload_n rfl dc370_135.1.2.1 ?_
  refine am_lwa (j := 1) dc370_135.1.2.2 dc370_135.2.1.1 dc370_135.2.1.2 dc370_135.2.2.1 dc370_135.2.2.2 rfl (by omega) hL ?_
  refine am_lwa (j := 2) dc370_136.1.1.1 dc370_136.1.1.2 dc370_136.1.2.1 dc370_136.1.2.2 dc370_136.2.1.1 rfl (by omega) hL ?_
  refine am_lwa (j := 3) dc370_136.2.1.2 dc370_136.2.2.1 dc370_136.2.2.2 dc370_137.1.1.1 dc370_137.1.1.2 rfl (by omega) hL ?_
  refine am_s_aload_n rfl dc370_137.1.2.1 ?_
  refine am_s_static dc370_137.1.2.2 rfl rfl rfl (wr_inside (xs (i + 1)) (xs (i + 2)) (xs (i + 3)) (pr_inside hI (xs (i + 1)) (xs (i + 2)) (xs (i + 3))) d _ hd (fun c a I1 J1 Pf1 k1 n1 hk1 hn1 h0 hR => ?_))
  refine am_back ?_
  refine am_s_istore (ls' := lwL i (some (.int c)) l6) rfl rfl dc370_137.2.1.1 ?_
  refine am_s_aload_n rfl dc370_137.2.1.2 ?_
  refine am_lwa (j := 1) dc370_137.2.2.1 dc370_137.2.2.2 dc370_138.1.1.1 dc370_138.1.1.2 dc370_138.1.2.1 rfl (by omega) hL ?_
  refine am_lwa (j := 2) dc370_138.1.2.2 dc370_138.2.1.1 dc370_138.2.1.2 dc370_138.2.2.1 dc370_138.2.2.2 rfl (by omega) hL ?_
  refine am_lwa (j := 3) dc370_139.1.1.1 dc370_139.1.1.2 dc370_139.1.2.1 dc370_139.1.2.2 dc370_139.2.1.1 rfl (by omega) hL ?_
  refine am_s_virtual true dc370_139.2.1.2 rfl (by decide) rfl rfl rfl (hR d _ (by omega) (fun I2 hI2 hc => am_bkI ?_))
  obtain ⟨d, rfl⟩ : ∃ D, d = D + 1 := ⟨d - 1, by omega⟩
  refine am_s_istore (ls' := lwL i (some (.int c)) (some (.int a))) rfl rfl dc370_139.2.2.1 ?_
  refine am_s_aload_n rfl dc370_139.2.2.2 ?_
  refine am_s_virtual true dc370_140.1.1.1 rfl (by decide) rfl rfl rfl (am_m188 hI2 (am_bkI ?_))
  refine am_s_iload rfl dc370_140.1.1.2 ?_
  refine am_s_ic_eq dc370_140.1.2.1 rfl (fun _ => ?_) (fun z => absurd hc z)
  refine am_s_iload rfl dc370_140.2.1.2 ?_
  have kk := kk I2 J1 Pf1 (k + k1) (n + n1) (some (.int c)) (some (.int a)) hI2 (by omega) (by omega)
  refine am_s_if_ne dc370_140.2.2.1 rfl (fun _ => am_s_goto rfl dc370_142.1.1.1 kk) (fun z => ?_)
  replace h0 := h0 (Decidable.not_not.mp z)
  refine am_s_aload_n rfl dc370_140.2.2.2 ?_
  refine am_s_iconst am_cc0 dc370_141.1.1.1 ?_
  refine am_s_laload dc370_141.1.1.2 rfl (by decide) am_cN0 ?_
  refine am_s_iload rfl dc370_141.1.2.1 ?_
  refine am_s_i2l dc370_141.1.2.2 ?_
  refine am_s_lcmp dc370_141.2.1.1 ?_
  exact am_s_if_eq dc370_141.2.1.2 rfl (fun _ => am_s_goto rfl dc370_142.1.1.1 kk) (fun z => absurd (by rw [h0]; exact lg_cmp_self _) z)
theorem st_27 : STEP 1881 := by
  intro L xs d i k n I J Pf l5 l6 P hd hi hL hI kk
  refine am_s_aload_n rfl dc370_142.1.1.2 ?_
  refine am_lwa (j := 1) dc370_142.1.2.1 dc370_142.1.2.2 dc370_142.2.1.1 dc370_142.2.1.2 dc370_142.2.2.1 rfl (by omega) hL ?_
  refine am_lwa (j := 2) dc370_142.2.2.2 dc370_143.1.1.1 dc370_143.1.1.2 dc370_143.1.2.1 dc370_143.1.2.2 rfl (by omega) hL ?_
  refine am_lwa (j := 3) dc370_143.2.1.1 dc370_143.2.1.2 dc370_143.2.2.1 dc370_143.2.2.2 dc370_144.1.1.1 rfl (by omega) hL ?_
  refine am_s_aload_n rfl dc370_144.1.1.2 ?_
  refine am_s_static dc370_144.1.2.1 rfl rfl rfl (wr_fits (xs (i + 1)) (xs (i + 2)) (xs (i + 3)) (pr_fits hI (xs (i + 1)) (xs (i + 2)) (xs (i + 3))) d _ hd (fun c a I1 J1 Pf1 k1 n1 hk1 hn1 h0 hR => ?_))
  refine am_back ?_
  refine am_s_istore (ls' := lwL i (some (.int c)) l6) rfl rfl dc370_144.1.2.2 ?_
  refine am_s_aload_n rfl dc370_144.2.1.1 ?_
  refine am_lwa (j := 1) dc370_144.2.1.2 dc370_144.2.2.1 dc370_144.2.2.2 dc370_145.1.1.1 dc370_145.1.1.2 rfl (by omega) hL ?_
  refine am_lwa (j := 2) dc370_145.1.2.1 dc370_145.1.2.2 dc370_145.2.1.1 dc370_145.2.1.2 dc370_145.2.2.1 rfl (by omega) hL ?_
  refine am_lwa (j := 3) dc370_145.2.2.2 dc370_146.1.1.1 dc370_146.1.1.2 dc370_146.1.2.1 dc370_146.1.2.2 rfl (by omega) hL ?_
  refine am_s_virtual true dc370_146.2.1.1 rfl (by decide) rfl rfl rfl (hR d _ (by omega) (fun I2 hI2 hc => am_bkI ?_))
  obtain ⟨d, rfl⟩ : ∃ D, d = D + 1 := ⟨d - 1, by omega⟩
  refine am_s_istore (ls' := lwL i (some (.int c)) (some (.int a))) rfl rfl dc370_146.2.1.2 ?_
  refine am_s_aload_n rfl dc370_146.2.2.1 ?_
  refine am_s_virtual true dc370_146.2.2.2 rfl (by decide) rfl rfl rfl (am_m188 hI2 (am_bkI ?_))
  refine am_s_iload rfl dc370_147.1.1.1 ?_
  refine am_s_ic_eq dc370_147.1.1.2 rfl (fun _ => ?_) (fun z => absurd hc z)
  refine am_s_iload rfl dc370_147.2.1.1 ?_
  have kk := kk I2 J1 Pf1 (k + k1) (n + n1) (some (.int c)) (some (.int a)) hI2 (by omega) (by omega)
  refine am_s_if_ne dc370_147.2.1.2 rfl (fun _ => am_s_goto rfl dc370_148.2.2.2 kk) (fun z => ?_)
  replace h0 := h0 (Decidable.not_not.mp z)
  refine am_s_aload_n rfl dc370_147.2.2.1 ?_
  refine am_s_iconst am_cc0 dc370_147.2.2.2 ?_
  refine am_s_laload dc370_148.1.1.1 rfl (by decide) am_cN0 ?_
  refine am_s_iload rfl dc370_148.1.1.2 ?_
  refine am_s_i2l dc370_148.1.2.1 ?_
  refine am_s_lcmp dc370_148.1.2.2 ?_
  exact am_s_if_eq dc370_148.2.1.1 rfl (fun _ => am_s_goto rfl dc370_148.2.2.2 kk) (fun z => absurd (by rw [h0]; exact lg_cmp_self _) z)
theorem st_28 : STEP 1961 := by
  intro L xs d i k n I J Pf l5 l6 P hd hi hL hI kk
  refine am_s_aload_n rfl dc370_149.1.1.1 ?_
  refine am_lwa (j := 1) dc370_149.1.1.2 dc370_149.1.2.1 dc370_149.1.2.2 dc370_149.2.1.1 dc370_149.2.1.2 rfl (by omega) hL ?_
  refine am_s_aload_n rfl dc370_149.2.2.1 ?_
  refine am_s_static dc370_149.2.2.2 rfl rfl rfl (wr_commonest (xs (i + 1)) (pr_commonest hI (xs (i + 1))) d _ hd (fun c a I1 J1 Pf1 k1 n1 hk1 hn1 h0 hR => ?_))
  refine am_back ?_
  refine am_s_istore (ls' := lwL i (some (.int c)) l6) rfl rfl dc370_150.1.1.1 ?_
  refine am_s_aload_n rfl dc370_150.1.1.2 ?_
  refine am_lwa (j := 1) dc370_150.1.2.1 dc370_150.1.2.2 dc370_150.2.1.1 dc370_150.2.1.2 dc370_150.2.2.1 rfl (by omega) hL ?_
  refine am_s_virtual true dc370_150.2.2.2 rfl (by decide) rfl rfl rfl (hR d _ (by omega) (fun I2 hI2 hc => am_bkI ?_))
  obtain ⟨d, rfl⟩ : ∃ D, d = D + 1 := ⟨d - 1, by omega⟩
  refine am_s_istore (ls' := lwL i (some (.int c)) (some (.int a))) rfl rfl dc370_151.1.1.1 ?_
  refine am_s_aload_n rfl dc370_151.1.1.2 ?_
  refine am_s_virtual true dc370_151.1.2.1 rfl (by decide) rfl rfl rfl (am_m188 hI2 (am_bkI ?_))
  refine am_s_iload rfl dc370_151.1.2.2 ?_
  refine am_s_ic_eq dc370_151.2.1.1 rfl (fun _ => ?_) (fun z => absurd hc z)
  refine am_s_iload rfl dc370_151.2.2.2 ?_
  have kk := kk I2 J1 Pf1 (k + k1) (n + n1) (some (.int c)) (some (.int a)) hI2 (by omega) (by omega)
  refine am_s_if_ne dc370_152.1.1.1 rfl (fun _ => am_s_goto rfl dc370_153.1.2.1 kk) (fun z => ?_)
  replace h0 := h0 (Decidable.not_not.mp z)
  refine am_s_aload_n rfl dc370_152.1.1.2 ?_
  refine am_s_iconst am_cc0 dc370_152.1.2.1 ?_
  refine am_s_laload dc370_152.1.2.2 rfl (by decide) am_cN0 ?_
  refine am_s_iload rfl dc370_152.2.1.1 ?_
  refine am_s_i2l dc370_152.2.1.2 ?_
  refine am_s_lcmp dc370_152.2.2.1 ?_
  exact am_s_if_eq dc370_152.2.2.2 rfl (fun _ => am_s_goto rfl dc370_153.1.2.1 kk) (fun z => absurd (by rw [h0]; exact lg_cmp_self _) z)
theorem st_29 : STEP 2017 := by
  intro L xs d i k n I J Pf l5 l6 P hd hi hL hI kk
  refine am_s_aload_n rfl dc370_153.1.2.2 ?_
  refine am_lwa (j := 1) dc370_153.2.1.1 dc370_153.2.1.2 dc370_153.2.2.1 dc370_153.2.2.2 dc370_154.1.1.1 rfl (by omega) hL ?_
  refine am_lwa (j := 2) dc370_154.1.1.2 dc370_154.1.2.1 dc370_154.1.2.2 dc370_154.2.1.1 dc370_154.2.1.2 rfl (by omega) hL ?_
  refine am_lwa (j := 3) dc370_154.2.2.1 dc370_154.2.2.2 dc370_155.1.1.1 dc370_155.1.1.2 dc370_155.1.2.1 rfl (by omega) hL ?_
  refine am_s_aload_n rfl dc370_155.1.2.2 ?_
  refine am_s_static dc370_155.2.1.1 rfl rfl rfl (wr_year (xs (i + 1)) (xs (i + 2)) (xs (i + 3)) (pr_year hI (xs (i + 1)) (xs (i + 2)) (xs (i + 3))) d _ hd (fun c a I1 J1 Pf1 k1 n1 hk1 hn1 h0 hR => ?_))
  refine am_back ?_
  refine am_s_istore (ls' := lwL i (some (.int c)) l6) rfl rfl dc370_155.2.1.2 ?_
  refine am_s_aload_n rfl dc370_155.2.2.1 ?_
  refine am_lwa (j := 1) dc370_155.2.2.2 dc370_156.1.1.1 dc370_156.1.1.2 dc370_156.1.2.1 dc370_156.1.2.2 rfl (by omega) hL ?_
  refine am_lwa (j := 2) dc370_156.2.1.1 dc370_156.2.1.2 dc370_156.2.2.1 dc370_156.2.2.2 dc370_157.1.1.1 rfl (by omega) hL ?_
  refine am_lwa (j := 3) dc370_157.1.1.2 dc370_157.1.2.1 dc370_157.1.2.2 dc370_157.2.1.1 dc370_157.2.1.2 rfl (by omega) hL ?_
  refine am_s_virtual true dc370_157.2.2.1 rfl (by decide) rfl rfl rfl (hR d _ (by omega) (fun I2 hI2 hc => am_bkI ?_))
  obtain ⟨d, rfl⟩ : ∃ D, d = D + 1 := ⟨d - 1, by omega⟩
  refine am_s_istore (ls' := lwL i (some (.int c)) (some (.int a))) rfl rfl dc370_157.2.2.2 ?_
  refine am_s_aload_n rfl dc370_158.1.1.1 ?_
  refine am_s_virtual true dc370_158.1.1.2 rfl (by decide) rfl rfl rfl (am_m188 hI2 (am_bkI ?_))
  refine am_s_iload rfl dc370_158.1.2.1 ?_
  refine am_s_ic_eq dc370_158.1.2.2 rfl (fun _ => ?_) (fun z => absurd hc z)
  refine am_s_iload rfl dc370_158.2.2.1 ?_
  have kk := kk I2 J1 Pf1 (k + k1) (n + n1) (some (.int c)) (some (.int a)) hI2 (by omega) (by omega)
  refine am_s_if_ne dc370_158.2.2.2 rfl (fun _ => am_s_goto rfl dc370_160.1.1.2 kk) (fun z => ?_)
  replace h0 := h0 (Decidable.not_not.mp z)
  refine am_s_aload_n rfl dc370_159.1.1.1 ?_
  refine am_s_iconst am_cc0 dc370_159.1.1.2 ?_
  refine am_s_laload dc370_159.1.2.1 rfl (by decide) am_cN0 ?_
  refine am_s_iload rfl dc370_159.1.2.2 ?_
  refine am_s_i2l dc370_159.2.1.1 ?_
  refine am_s_lcmp dc370_159.2.1.2 ?_
  exact am_s_if_eq dc370_159.2.2.1 rfl (fun _ => am_s_goto rfl dc370_160.1.1.2 kk) (fun z => absurd (by rw [h0]; exact lg_cmp_self _) z)
theorem st_30 : STEP 2097 := by
  intro L xs d i k n I J Pf l5 l6 P hd hi hL hI kk
  refine am_s_aload_n rfl dc370_160.1.2.1 ?_
  refine am_lwa (j := 1) dc370_160.1.2.2 dc370_160.2.1.1 dc370_160.2.1.2 dc370_160.2.2.1 dc370_160.2.2.2 rfl (by omega) hL ?_
  refine am_lwa (j := 2) dc370_161.1.1.1 dc370_161.1.1.2 dc370_161.1.2.1 dc370_161.1.2.2 dc370_161.2.1.1 rfl (by omega) hL ?_
  refine am_lwa (j := 3) dc370_161.2.1.2 dc370_161.2.2.1 dc370_161.2.2.2 dc370_162.1.1.1 dc370_162.1.1.2 rfl (by omega) hL ?_
  refine am_lwa (j := 4) dc370_162.1.2.1 dc370_162.1.2.2 dc370_162.2.1.1 dc370_162.2.1.2 dc370_162.2.2.1 rfl (by omega) hL ?_
  refine am_lwa (j := 5) dc370_162.2.2.2 dc370_163.1.1.1 dc370_163.1.1.2 dc370_163.1.2.1 dc370_163.1.2.2 rfl (by omega) hL ?_
  refine am_s_aload_n rfl dc370_163.2.1.1 ?_
  refine am_s_static dc370_163.2.1.2 rfl rfl rfl (wr_span (xs (i + 1)) (xs (i + 2)) (xs (i + 3)) (xs (i + 4)) (xs (i + 5)) (pr_span hI (xs (i + 1)) (xs (i + 2)) (xs (i + 3)) (xs (i + 4)) (xs (i + 5))) d _ hd (fun c a I1 J1 Pf1 k1 n1 hk1 hn1 h0 hR => ?_))
  refine am_back ?_
  refine am_s_istore (ls' := lwL i (some (.int c)) l6) rfl rfl dc370_163.2.2.1 ?_
  refine am_s_aload_n rfl dc370_163.2.2.2 ?_
  refine am_lwa (j := 1) dc370_164.1.1.1 dc370_164.1.1.2 dc370_164.1.2.1 dc370_164.1.2.2 dc370_164.2.1.1 rfl (by omega) hL ?_
  refine am_lwa (j := 2) dc370_164.2.1.2 dc370_164.2.2.1 dc370_164.2.2.2 dc370_165.1.1.1 dc370_165.1.1.2 rfl (by omega) hL ?_
  refine am_lwa (j := 3) dc370_165.1.2.1 dc370_165.1.2.2 dc370_165.2.1.1 dc370_165.2.1.2 dc370_165.2.2.1 rfl (by omega) hL ?_
  refine am_lwa (j := 4) dc370_165.2.2.2 dc370_166.1.1.1 dc370_166.1.1.2 dc370_166.1.2.1 dc370_166.1.2.2 rfl (by omega) hL ?_
  refine am_lwa (j := 5) dc370_166.2.1.1 dc370_166.2.1.2 dc370_166.2.2.1 dc370_166.2.2.2 dc370_167.1.1.1 rfl (by omega) hL ?_
  refine am_s_virtual true dc370_167.1.1.2 rfl (by decide) rfl rfl rfl (hR d _ (by omega) (fun I2 hI2 hc => am_bkI ?_))
  obtain ⟨d, rfl⟩ : ∃ D, d = D + 1 := ⟨d - 1, by omega⟩
  refine am_s_istore (ls' := lwL i (some (.int c)) (some (.int a))) rfl rfl dc370_167.1.2.1 ?_
  refine am_s_aload_n rfl dc370_167.1.2.2 ?_
  refine am_s_virtual true dc370_167.2.1.1 rfl (by decide) rfl rfl rfl (am_m188 hI2 (am_bkI ?_))
  refine am_s_iload rfl dc370_167.2.1.2 ?_
  refine am_s_ic_eq dc370_167.2.2.1 rfl (fun _ => ?_) (fun z => absurd hc z)
  refine am_s_iload rfl dc370_168.1.1.2 ?_
  have kk := kk I2 J1 Pf1 (k + k1) (n + n1) (some (.int c)) (some (.int a)) hI2 (by omega) (by omega)
  refine am_s_if_ne dc370_168.1.2.1 rfl (fun _ => am_s_goto rfl dc370_169.2.1.1 kk) (fun z => ?_)
  replace h0 := h0 (Decidable.not_not.mp z)
  refine am_s_aload_n rfl dc370_168.1.2.2 ?_
  refine am_s_iconst am_cc0 dc370_168.2.1.1 ?_
  refine am_s_laload dc370_168.2.1.2 rfl (by decide) am_cN0 ?_
  refine am_s_iload rfl dc370_168.2.2.1 ?_
  refine am_s_i2l dc370_168.2.2.2 ?_
  refine am_s_lcmp dc370_169.1.1.1 ?_
  exact am_s_if_eq dc370_169.1.1.2 rfl (fun _ => am_s_goto rfl dc370_169.2.1.1 kk) (fun z => absurd (by rw [h0]; exact lg_cmp_self _) z)
theorem st_31 : STEP 2201 := by
  intro L xs d i k n I J Pf l5 l6 P hd hi hL hI kk
  refine am_s_aload_n rfl dc370_169.2.1.2 ?_
  refine am_s_virtual true dc370_169.2.2.1 rfl (by decide) rfl rfl rfl (pr_image hI  d _ (by omega) (fun v I1 J1 Pf1 hE hr _ _ => ?_))
  cases v with
  | inl E => exact absurd (hE E rfl) (okENo (by decide))
  | inr a =>
    refine am_back ?_
    replace hr := hr J1 (fun _ _ => rfl)
    refine am_s_aload_n rfl dc370_169.2.2.2 ?_
    refine am_s_virtual true dc370_170.1.1.1 rfl (by decide) rfl rfl rfl (hr d _ (by omega) (fun I2 hI2 _ => am_bkI ?_))
    exact am_s_ic_eq dc370_170.1.1.2 rfl (fun _ => kk I2 J1 Pf1 _ _ _ _ hI2 (by omega) (by omega)) (fun z => absurd rfl z)
theorem st_32 : STEP 2214 := by
  intro L xs d i k n I J Pf l5 l6 P hd hi hL hI kk
  refine am_s_aload_n rfl dc370_170.2.1.1 ?_
  refine am_s_virtual true dc370_170.2.1.2 rfl (by decide) rfl rfl rfl (pr_restore hI  d _ (by omega) (fun v I1 J1 Pf1 hE hr _ _ => ?_))
  cases v with
  | inl E => exact absurd (hE E rfl) (okENo (by decide))
  | inr a =>
    refine am_back ?_
    replace hr := hr J1 (fun _ _ => rfl)
    refine am_s_aload_n rfl dc370_170.2.2.1 ?_
    refine am_s_virtual true dc370_170.2.2.2 rfl (by decide) rfl rfl rfl (hr d _ (by omega) (fun I2 hI2 _ => am_bkI ?_))
    exact am_s_ic_eq dc370_171.1.1.1 rfl (fun _ => kk I2 J1 Pf1 _ _ _ _ hI2 (by omega) (by omega)) (fun z => absurd rfl z)
theorem st_33 : STEP 2227 := by
  intro L xs d i k n I J Pf l5 l6 P hd hi hL hI kk
  refine am_s_aload_n rfl dc370_171.1.2.2 ?_
  refine am_lwa (j := 1) dc370_171.2.1.1 dc370_171.2.1.2 dc370_171.2.2.1 dc370_171.2.2.2 dc370_172.1.1.1 rfl (by omega) hL ?_
  refine am_s_virtual true dc370_172.1.1.2 rfl (by decide) rfl rfl rfl (pr_status hI (xs (i + 1)) d _ (by omega) (fun v I1 J1 Pf1 hE hr _ _ => ?_))
  cases v with
  | inl E => exact absurd (hE E rfl) (okENo (by decide))
  | inr a =>
    refine am_back ?_
    replace hr := hr J1 (fun _ _ => rfl)
    refine am_s_aload_n rfl dc370_172.1.2.1 ?_
    refine am_lwa (j := 1) dc370_172.1.2.2 dc370_172.2.1.1 dc370_172.2.1.2 dc370_172.2.2.1 dc370_172.2.2.2 rfl (by omega) hL ?_
    refine am_s_virtual true dc370_173.1.1.1 rfl (by decide) rfl rfl rfl (hr d _ (by omega) (fun I2 hI2 _ => am_bkI ?_))
    exact am_s_ic_eq dc370_173.1.1.2 rfl (fun _ => kk I2 J1 Pf1 _ _ _ _ hI2 (by omega) (by omega)) (fun z => absurd rfl z)
theorem st_34 : STEP 2252 := by
  intro L xs d i k n I J Pf l5 l6 P hd hi hL hI kk
  refine am_s_aload_n rfl dc370_173.2.1.1 ?_
  refine am_lwa (j := 1) dc370_173.2.1.2 dc370_173.2.2.1 dc370_173.2.2.2 dc370_174.1.1.1 dc370_174.1.1.2 rfl (by omega) hL ?_
  refine am_s_virtual true dc370_174.1.2.1 rfl (by decide) rfl rfl rfl (pr_count hI (xs (i + 1)) d _ (by omega) (fun v I1 J1 Pf1 hE hr _ _ => ?_))
  cases v with
  | inl E => exact absurd (hE E rfl) (okENo (by decide))
  | inr a =>
    refine am_back ?_
    replace hr := hr J1 (fun _ _ => rfl)
    refine am_s_aload_n rfl dc370_174.1.2.2 ?_
    refine am_lwa (j := 1) dc370_174.2.1.1 dc370_174.2.1.2 dc370_174.2.2.1 dc370_174.2.2.2 dc370_175.1.1.1 rfl (by omega) hL ?_
    refine am_s_virtual true dc370_175.1.1.2 rfl (by decide) rfl rfl rfl (hr d _ (by omega) (fun I2 hI2 _ => am_bkI ?_))
    exact am_s_ic_eq dc370_175.1.2.1 rfl (fun _ => kk I2 J1 Pf1 _ _ _ _ hI2 (by omega) (by omega)) (fun z => absurd rfl z)
