/-! The law's wrappers: walks -/
theorem dc343_0 : (((decode (am_by 343) 0 = .ok (.aload_n 2, 1)) ∧ (decode (am_by 343) 1 = .ok (.iconst 0, 1))) ∧ ((decode (am_by 343) 2 = .ok (.aload_n 0, 1)) ∧ (decode (am_by 343) 3 = .ok (.iload_n 1, 1)))) ∧ (((decode (am_by 343) 4 = .ok (.invokevirtual 7, 3)) ∧ (decode (am_by 343) 7 = .ok (.i2l, 1))) ∧ ((decode (am_by 343) 8 = .ok (.lastore, 1)) ∧ (decode (am_by 343) 9 = .ok (.goto 6, 3)))) := by decide +kernel
theorem dc343_1 : ((decode (am_by 343) 12 = .ok (.astore_n 3, 1)) ∧ (decode (am_by 343) 13 = .ok (.iconst 1, 1))) ∧ ((decode (am_by 343) 14 = .ok (.ireturn, 1)) ∧ ((decode (am_by 343) 15 = .ok (.iconst 0, 1)) ∧ (decode (am_by 343) 16 = .ok (.ireturn, 1)))) := by decide +kernel
theorem v343_0 {sc : Option (Nat × (Nat → Int32))} {d k n : Nat} {P : am_O → Prop} {I : am_I} {J : am_J} {Pf : am_R} {x1 : Int32} {l3 : Option Value} (q : (am_mth d 141 [.ref 0, .int x1] (am_SH, I, J, Pf) (am_af sc d 343 4 [some (.ref 0), some (.int x1), some (.ref 202), l3] [.int x1, .ref 0, .int 0, .ref 202] [.int 0, .ref 202] (am_SH, I, J, Pf) k n true P))) : am_go sc d 343 (0, [some (.ref 0), some (.int x1), some (.ref 202), l3], [], (am_SH, I, J, Pf), k, n) P := by
  refine am_s_aload_n rfl dc343_0.1.1.1 ?_
  refine am_s_iconst am_cc0 dc343_0.1.1.2 ?_
  refine am_s_aload_n rfl dc343_0.1.2.1 ?_
  refine am_s_iload_n rfl dc343_0.1.2.2 ?_
  exact am_s_virtual true dc343_0.2.1.1 rfl (by decide) rfl rfl rfl (q)
theorem v343_a {sc : Option (Nat × (Nat → Int32))} {d k n : Nat} {P : am_O → Prop} {I : am_I} {J : am_J} {Pf : am_R} {x1 : Int32} {l3 : Option Value} {a : Int32} (q : (P (.inl (some (.int 0)), (am_SH, I, am_u J 202 0 (Int32.toInt64 a), Pf), k, n))) : am_go sc d 343 (7, [some (.ref 0), some (.int x1), some (.ref 202), l3], [.int a, .int 0, .ref 202], (am_SH, I, J, Pf), k, n) P := by
  refine am_s_i2l dc343_0.2.1.2 ?_
  refine am_s_lastore dc343_0.2.2.1 rfl (by decide +kernel) am_cN0 ?_
  refine am_s_goto rfl dc343_0.2.2.2 ?_
  refine am_s_iconst am_cc0 dc343_1.2.2.1 ?_
  exact am_s_ireturn dc343_1.2.2.2 rfl (q)
theorem v343_h12 {sc : Option (Nat × (Nat → Int32))} {d k n : Nat} {P : am_O → Prop} {I : am_I} {J : am_J} {Pf : am_R} {x1 : Int32} {l3 : Option Value} (q : (P (.inl (some (.int 1)), (am_SH, I, J, Pf), k, n))) : am_go sc d 343 (12, [some (.ref 0), some (.int x1), some (.ref 202), l3], [.retAddr 1], (am_SH, I, J, Pf), k, n) P := by
  refine am_s_astore_nT (ls' := [some (.ref 0), some (.int x1), some (.ref 202), some (.retAddr 1)]) rfl rfl dc343_1.1.1 ?_
  refine am_s_iconst am_cc1 dc343_1.1.2 ?_
  exact am_s_ireturn dc343_1.2.1 rfl (q)
theorem dc344_0 : (((decode (am_by 344) 0 = .ok (.aload_n 2, 1)) ∧ (decode (am_by 344) 1 = .ok (.iconst 0, 1))) ∧ ((decode (am_by 344) 2 = .ok (.aload_n 0, 1)) ∧ (decode (am_by 344) 3 = .ok (.iload_n 1, 1)))) ∧ (((decode (am_by 344) 4 = .ok (.invokevirtual 15, 3)) ∧ (decode (am_by 344) 7 = .ok (.i2l, 1))) ∧ ((decode (am_by 344) 8 = .ok (.lastore, 1)) ∧ (decode (am_by 344) 9 = .ok (.goto 6, 3)))) := by decide +kernel
theorem dc344_1 : ((decode (am_by 344) 12 = .ok (.astore_n 3, 1)) ∧ (decode (am_by 344) 13 = .ok (.iconst 1, 1))) ∧ ((decode (am_by 344) 14 = .ok (.ireturn, 1)) ∧ ((decode (am_by 344) 15 = .ok (.iconst 0, 1)) ∧ (decode (am_by 344) 16 = .ok (.ireturn, 1)))) := by decide +kernel
theorem v344_0 {sc : Option (Nat × (Nat → Int32))} {d k n : Nat} {P : am_O → Prop} {I : am_I} {J : am_J} {Pf : am_R} {x1 : Int32} {l3 : Option Value} (q : (am_mth d 142 [.ref 0, .int x1] (am_SH, I, J, Pf) (am_af sc d 344 4 [some (.ref 0), some (.int x1), some (.ref 202), l3] [.int x1, .ref 0, .int 0, .ref 202] [.int 0, .ref 202] (am_SH, I, J, Pf) k n true P))) : am_go sc d 344 (0, [some (.ref 0), some (.int x1), some (.ref 202), l3], [], (am_SH, I, J, Pf), k, n) P := by
  refine am_s_aload_n rfl dc344_0.1.1.1 ?_
  refine am_s_iconst am_cc0 dc344_0.1.1.2 ?_
  refine am_s_aload_n rfl dc344_0.1.2.1 ?_
  refine am_s_iload_n rfl dc344_0.1.2.2 ?_
  exact am_s_virtual true dc344_0.2.1.1 rfl (by decide) rfl rfl rfl (q)
theorem v344_a {sc : Option (Nat × (Nat → Int32))} {d k n : Nat} {P : am_O → Prop} {I : am_I} {J : am_J} {Pf : am_R} {x1 : Int32} {l3 : Option Value} {a : Int32} (q : (P (.inl (some (.int 0)), (am_SH, I, am_u J 202 0 (Int32.toInt64 a), Pf), k, n))) : am_go sc d 344 (7, [some (.ref 0), some (.int x1), some (.ref 202), l3], [.int a, .int 0, .ref 202], (am_SH, I, J, Pf), k, n) P := by
  refine am_s_i2l dc344_0.2.1.2 ?_
  refine am_s_lastore dc344_0.2.2.1 rfl (by decide +kernel) am_cN0 ?_
  refine am_s_goto rfl dc344_0.2.2.2 ?_
  refine am_s_iconst am_cc0 dc344_1.2.2.1 ?_
  exact am_s_ireturn dc344_1.2.2.2 rfl (q)
theorem v344_h12 {sc : Option (Nat × (Nat → Int32))} {d k n : Nat} {P : am_O → Prop} {I : am_I} {J : am_J} {Pf : am_R} {x1 : Int32} {l3 : Option Value} (q : (P (.inl (some (.int 1)), (am_SH, I, J, Pf), k, n))) : am_go sc d 344 (12, [some (.ref 0), some (.int x1), some (.ref 202), l3], [.retAddr 1], (am_SH, I, J, Pf), k, n) P := by
  refine am_s_astore_nT (ls' := [some (.ref 0), some (.int x1), some (.ref 202), some (.retAddr 1)]) rfl rfl dc344_1.1.1 ?_
  refine am_s_iconst am_cc1 dc344_1.1.2 ?_
  exact am_s_ireturn dc344_1.2.1 rfl (q)
theorem dc345_0 : (((decode (am_by 345) 0 = .ok (.aload_n 2, 1)) ∧ (decode (am_by 345) 1 = .ok (.iconst 0, 1))) ∧ ((decode (am_by 345) 2 = .ok (.aload_n 0, 1)) ∧ (decode (am_by 345) 3 = .ok (.iload_n 1, 1)))) ∧ (((decode (am_by 345) 4 = .ok (.invokevirtual 18, 3)) ∧ (decode (am_by 345) 7 = .ok (.i2l, 1))) ∧ ((decode (am_by 345) 8 = .ok (.lastore, 1)) ∧ (decode (am_by 345) 9 = .ok (.goto 6, 3)))) := by decide +kernel
theorem dc345_1 : ((decode (am_by 345) 12 = .ok (.astore_n 3, 1)) ∧ (decode (am_by 345) 13 = .ok (.iconst 1, 1))) ∧ ((decode (am_by 345) 14 = .ok (.ireturn, 1)) ∧ ((decode (am_by 345) 15 = .ok (.iconst 0, 1)) ∧ (decode (am_by 345) 16 = .ok (.ireturn, 1)))) := by decide +kernel
theorem v345_0 {sc : Option (Nat × (Nat → Int32))} {d k n : Nat} {P : am_O → Prop} {I : am_I} {J : am_J} {Pf : am_R} {x1 : Int32} {l3 : Option Value} (q : (am_mth d 143 [.ref 0, .int x1] (am_SH, I, J, Pf) (am_af sc d 345 4 [some (.ref 0), some (.int x1), some (.ref 202), l3] [.int x1, .ref 0, .int 0, .ref 202] [.int 0, .ref 202] (am_SH, I, J, Pf) k n true P))) : am_go sc d 345 (0, [some (.ref 0), some (.int x1), some (.ref 202), l3], [], (am_SH, I, J, Pf), k, n) P := by
  refine am_s_aload_n rfl dc345_0.1.1.1 ?_
  refine am_s_iconst am_cc0 dc345_0.1.1.2 ?_
  refine am_s_aload_n rfl dc345_0.1.2.1 ?_
  refine am_s_iload_n rfl dc345_0.1.2.2 ?_
  exact am_s_virtual true dc345_0.2.1.1 rfl (by decide) rfl rfl rfl (q)
theorem v345_a {sc : Option (Nat × (Nat → Int32))} {d k n : Nat} {P : am_O → Prop} {I : am_I} {J : am_J} {Pf : am_R} {x1 : Int32} {l3 : Option Value} {a : Int32} (q : (P (.inl (some (.int 0)), (am_SH, I, am_u J 202 0 (Int32.toInt64 a), Pf), k, n))) : am_go sc d 345 (7, [some (.ref 0), some (.int x1), some (.ref 202), l3], [.int a, .int 0, .ref 202], (am_SH, I, J, Pf), k, n) P := by
  refine am_s_i2l dc345_0.2.1.2 ?_
  refine am_s_lastore dc345_0.2.2.1 rfl (by decide +kernel) am_cN0 ?_
  refine am_s_goto rfl dc345_0.2.2.2 ?_
  refine am_s_iconst am_cc0 dc345_1.2.2.1 ?_
  exact am_s_ireturn dc345_1.2.2.2 rfl (q)
theorem v345_h12 {sc : Option (Nat × (Nat → Int32))} {d k n : Nat} {P : am_O → Prop} {I : am_I} {J : am_J} {Pf : am_R} {x1 : Int32} {l3 : Option Value} (q : (P (.inl (some (.int 1)), (am_SH, I, J, Pf), k, n))) : am_go sc d 345 (12, [some (.ref 0), some (.int x1), some (.ref 202), l3], [.retAddr 1], (am_SH, I, J, Pf), k, n) P := by
  refine am_s_astore_nT (ls' := [some (.ref 0), some (.int x1), some (.ref 202), some (.retAddr 1)]) rfl rfl dc345_1.1.1 ?_
  refine am_s_iconst am_cc1 dc345_1.1.2 ?_
  exact am_s_ireturn dc345_1.2.1 rfl (q)
theorem dc346_0 : (((decode (am_by 346) 0 = .ok (.aload_n 2, 1)) ∧ (decode (am_by 346) 1 = .ok (.iconst 0, 1))) ∧ ((decode (am_by 346) 2 = .ok (.aload_n 0, 1)) ∧ (decode (am_by 346) 3 = .ok (.iload_n 1, 1)))) ∧ (((decode (am_by 346) 4 = .ok (.invokevirtual 21, 3)) ∧ (decode (am_by 346) 7 = .ok (.i2l, 1))) ∧ ((decode (am_by 346) 8 = .ok (.lastore, 1)) ∧ (decode (am_by 346) 9 = .ok (.goto 6, 3)))) := by decide +kernel
theorem dc346_1 : ((decode (am_by 346) 12 = .ok (.astore_n 3, 1)) ∧ (decode (am_by 346) 13 = .ok (.iconst 1, 1))) ∧ ((decode (am_by 346) 14 = .ok (.ireturn, 1)) ∧ ((decode (am_by 346) 15 = .ok (.iconst 0, 1)) ∧ (decode (am_by 346) 16 = .ok (.ireturn, 1)))) := by decide +kernel
theorem v346_0 {sc : Option (Nat × (Nat → Int32))} {d k n : Nat} {P : am_O → Prop} {I : am_I} {J : am_J} {Pf : am_R} {x1 : Int32} {l3 : Option Value} (q : (am_mth d 147 [.ref 0, .int x1] (am_SH, I, J, Pf) (am_af sc d 346 4 [some (.ref 0), some (.int x1), some (.ref 202), l3] [.int x1, .ref 0, .int 0, .ref 202] [.int 0, .ref 202] (am_SH, I, J, Pf) k n true P))) : am_go sc d 346 (0, [some (.ref 0), some (.int x1), some (.ref 202), l3], [], (am_SH, I, J, Pf), k, n) P := by
  refine am_s_aload_n rfl dc346_0.1.1.1 ?_
  refine am_s_iconst am_cc0 dc346_0.1.1.2 ?_
  refine am_s_aload_n rfl dc346_0.1.2.1 ?_
  refine am_s_iload_n rfl dc346_0.1.2.2 ?_
  exact am_s_virtual true dc346_0.2.1.1 rfl (by decide) rfl rfl rfl (q)
theorem v346_a {sc : Option (Nat × (Nat → Int32))} {d k n : Nat} {P : am_O → Prop} {I : am_I} {J : am_J} {Pf : am_R} {x1 : Int32} {l3 : Option Value} {a : Int32} (q : (P (.inl (some (.int 0)), (am_SH, I, am_u J 202 0 (Int32.toInt64 a), Pf), k, n))) : am_go sc d 346 (7, [some (.ref 0), some (.int x1), some (.ref 202), l3], [.int a, .int 0, .ref 202], (am_SH, I, J, Pf), k, n) P := by
  refine am_s_i2l dc346_0.2.1.2 ?_
  refine am_s_lastore dc346_0.2.2.1 rfl (by decide +kernel) am_cN0 ?_
  refine am_s_goto rfl dc346_0.2.2.2 ?_
  refine am_s_iconst am_cc0 dc346_1.2.2.1 ?_
  exact am_s_ireturn dc346_1.2.2.2 rfl (q)
theorem v346_h12 {sc : Option (Nat × (Nat → Int32))} {d k n : Nat} {P : am_O → Prop} {I : am_I} {J : am_J} {Pf : am_R} {x1 : Int32} {l3 : Option Value} (q : (P (.inl (some (.int 1)), (am_SH, I, J, Pf), k, n))) : am_go sc d 346 (12, [some (.ref 0), some (.int x1), some (.ref 202), l3], [.retAddr 1], (am_SH, I, J, Pf), k, n) P := by
  refine am_s_astore_nT (ls' := [some (.ref 0), some (.int x1), some (.ref 202), some (.retAddr 1)]) rfl rfl dc346_1.1.1 ?_
  refine am_s_iconst am_cc1 dc346_1.1.2 ?_
  exact am_s_ireturn dc346_1.2.1 rfl (q)
theorem dc347_0 : (((decode (am_by 347) 0 = .ok (.aload_n 3, 1)) ∧ (decode (am_by 347) 1 = .ok (.iconst 0, 1))) ∧ ((decode (am_by 347) 2 = .ok (.aload_n 0, 1)) ∧ (decode (am_by 347) 3 = .ok (.iload_n 1, 1)))) ∧ (((decode (am_by 347) 4 = .ok (.iload_n 2, 1)) ∧ (decode (am_by 347) 5 = .ok (.invokevirtual 24, 3))) ∧ ((decode (am_by 347) 8 = .ok (.i2l, 1)) ∧ (decode (am_by 347) 9 = .ok (.lastore, 1)))) := by decide +kernel
theorem dc347_1 : (((decode (am_by 347) 10 = .ok (.goto 11, 3)) ∧ (decode (am_by 347) 13 = .ok (.astore 4, 2))) ∧ ((decode (am_by 347) 15 = .ok (.iconst 1, 1)) ∧ (decode (am_by 347) 16 = .ok (.ireturn, 1)))) ∧ (((decode (am_by 347) 17 = .ok (.astore 4, 2)) ∧ (decode (am_by 347) 19 = .ok (.iconst 2, 1))) ∧ ((decode (am_by 347) 20 = .ok (.ireturn, 1)) ∧ (decode (am_by 347) 21 = .ok (.iconst 0, 1)))) := by decide +kernel
theorem dc347_2 : decode (am_by 347) 22 = .ok (.ireturn, 1) := by decide +kernel
theorem v347_0 {sc : Option (Nat × (Nat → Int32))} {d k n : Nat} {P : am_O → Prop} {I : am_I} {J : am_J} {Pf : am_R} {x1 : Int32} {x2 : Int32} {l4 : Option Value} (q : (am_mth d 148 [.ref 0, .int x1, .int x2] (am_SH, I, J, Pf) (am_af sc d 347 5 [some (.ref 0), some (.int x1), some (.int x2), some (.ref 202), l4] [.int x2, .int x1, .ref 0, .int 0, .ref 202] [.int 0, .ref 202] (am_SH, I, J, Pf) k n true P))) : am_go sc d 347 (0, [some (.ref 0), some (.int x1), some (.int x2), some (.ref 202), l4], [], (am_SH, I, J, Pf), k, n) P := by
  refine am_s_aload_n rfl dc347_0.1.1.1 ?_
  refine am_s_iconst am_cc0 dc347_0.1.1.2 ?_
  refine am_s_aload_n rfl dc347_0.1.2.1 ?_
  refine am_s_iload_n rfl dc347_0.1.2.2 ?_
  refine am_s_iload_n rfl dc347_0.2.1.1 ?_
  exact am_s_virtual true dc347_0.2.1.2 rfl (by decide) rfl rfl rfl (q)
theorem v347_a {sc : Option (Nat × (Nat → Int32))} {d k n : Nat} {P : am_O → Prop} {I : am_I} {J : am_J} {Pf : am_R} {x1 : Int32} {x2 : Int32} {l4 : Option Value} {a : Int32} (q : (P (.inl (some (.int 0)), (am_SH, I, am_u J 202 0 (Int32.toInt64 a), Pf), k, n))) : am_go sc d 347 (8, [some (.ref 0), some (.int x1), some (.int x2), some (.ref 202), l4], [.int a, .int 0, .ref 202], (am_SH, I, J, Pf), k, n) P := by
  refine am_s_i2l dc347_0.2.2.1 ?_
  refine am_s_lastore dc347_0.2.2.2 rfl (by decide +kernel) am_cN0 ?_
  refine am_s_goto rfl dc347_1.1.1.1 ?_
  refine am_s_iconst am_cc0 dc347_1.2.2.2 ?_
  exact am_s_ireturn dc347_2 rfl (q)
theorem v347_h13 {sc : Option (Nat × (Nat → Int32))} {d k n : Nat} {P : am_O → Prop} {I : am_I} {J : am_J} {Pf : am_R} {x1 : Int32} {x2 : Int32} {l4 : Option Value} (q : (P (.inl (some (.int 1)), (am_SH, I, J, Pf), k, n))) : am_go sc d 347 (13, [some (.ref 0), some (.int x1), some (.int x2), some (.ref 202), l4], [.retAddr 1], (am_SH, I, J, Pf), k, n) P := by
  refine am_s_astoreT (ls' := [some (.ref 0), some (.int x1), some (.int x2), some (.ref 202), some (.retAddr 1)]) rfl rfl dc347_1.1.1.2 ?_
  refine am_s_iconst am_cc1 dc347_1.1.2.1 ?_
  exact am_s_ireturn dc347_1.1.2.2 rfl (q)
theorem v347_h17 {sc : Option (Nat × (Nat → Int32))} {d k n : Nat} {P : am_O → Prop} {I : am_I} {J : am_J} {Pf : am_R} {x1 : Int32} {x2 : Int32} {l4 : Option Value} (q : (P (.inl (some (.int 2)), (am_SH, I, J, Pf), k, n))) : am_go sc d 347 (17, [some (.ref 0), some (.int x1), some (.int x2), some (.ref 202), l4], [.retAddr 1], (am_SH, I, J, Pf), k, n) P := by
  refine am_s_astoreT (ls' := [some (.ref 0), some (.int x1), some (.int x2), some (.ref 202), some (.retAddr 1)]) rfl rfl dc347_1.2.1.1 ?_
  refine am_s_iconst am_cc2 dc347_1.2.1.2 ?_
  exact am_s_ireturn dc347_1.2.2.1 rfl (q)
theorem dc348_0 : (((decode (am_by 348) 0 = .ok (.aload_n 3, 1)) ∧ (decode (am_by 348) 1 = .ok (.iconst 0, 1))) ∧ ((decode (am_by 348) 2 = .ok (.aload_n 0, 1)) ∧ (decode (am_by 348) 3 = .ok (.iload_n 1, 1)))) ∧ (((decode (am_by 348) 4 = .ok (.iload_n 2, 1)) ∧ (decode (am_by 348) 5 = .ok (.invokevirtual 30, 3))) ∧ ((decode (am_by 348) 8 = .ok (.ifCond .eq 7, 3)) ∧ (decode (am_by 348) 11 = .ok (.lconst 1, 1)))) := by decide +kernel
theorem dc348_1 : (((decode (am_by 348) 12 = .ok (.goto 4, 3)) ∧ (decode (am_by 348) 15 = .ok (.lconst 0, 1))) ∧ ((decode (am_by 348) 16 = .ok (.lastore, 1)) ∧ (decode (am_by 348) 17 = .ok (.goto 11, 3)))) ∧ (((decode (am_by 348) 20 = .ok (.astore 4, 2)) ∧ (decode (am_by 348) 22 = .ok (.iconst 1, 1))) ∧ ((decode (am_by 348) 23 = .ok (.ireturn, 1)) ∧ (decode (am_by 348) 24 = .ok (.astore 4, 2)))) := by decide +kernel
theorem dc348_2 : ((decode (am_by 348) 26 = .ok (.iconst 2, 1)) ∧ (decode (am_by 348) 27 = .ok (.ireturn, 1))) ∧ ((decode (am_by 348) 28 = .ok (.iconst 0, 1)) ∧ (decode (am_by 348) 29 = .ok (.ireturn, 1))) := by decide +kernel
theorem v348_0 {sc : Option (Nat × (Nat → Int32))} {d k n : Nat} {P : am_O → Prop} {I : am_I} {J : am_J} {Pf : am_R} {x1 : Int32} {x2 : Int32} {l4 : Option Value} (q : (am_mth d 149 [.ref 0, .int x1, .int x2] (am_SH, I, J, Pf) (am_af sc d 348 5 [some (.ref 0), some (.int x1), some (.int x2), some (.ref 202), l4] [.int x2, .int x1, .ref 0, .int 0, .ref 202] [.int 0, .ref 202] (am_SH, I, J, Pf) k n true P))) : am_go sc d 348 (0, [some (.ref 0), some (.int x1), some (.int x2), some (.ref 202), l4], [], (am_SH, I, J, Pf), k, n) P := by
  refine am_s_aload_n rfl dc348_0.1.1.1 ?_
  refine am_s_iconst am_cc0 dc348_0.1.1.2 ?_
  refine am_s_aload_n rfl dc348_0.1.2.1 ?_
  refine am_s_iload_n rfl dc348_0.1.2.2 ?_
  refine am_s_iload_n rfl dc348_0.2.1.1 ?_
  exact am_s_virtual true dc348_0.2.1.2 rfl (by decide) rfl rfl rfl (q)
theorem v348_a {sc : Option (Nat × (Nat → Int32))} {d k n : Nat} {P : am_O → Prop} {I : am_I} {J : am_J} {Pf : am_R} {x1 : Int32} {x2 : Int32} {l4 : Option Value} {a : Int32} (q : (if a = 0 then (P (.inl (some (.int 0)), (am_SH, I, am_u J 202 0 0, Pf), k, n)) else (P (.inl (some (.int 0)), (am_SH, I, am_u J 202 0 1, Pf), k, n)))) : am_go sc d 348 (8, [some (.ref 0), some (.int x1), some (.int x2), some (.ref 202), l4], [.int a, .int 0, .ref 202], (am_SH, I, J, Pf), k, n) P := by
  refine am_s_if_eq dc348_0.2.2.1 rfl (fun c1 => ?_) (fun c1 => ?_)
  · refine am_s_lconst (x := 0) (by decide) dc348_1.1.1.2 ?_
    refine am_s_lastore dc348_1.1.2.1 rfl (by decide +kernel) am_cN0 ?_
    refine am_s_goto rfl dc348_1.1.2.2 ?_
    refine am_s_iconst am_cc0 dc348_2.2.1 ?_
    exact am_s_ireturn dc348_2.2.2 rfl ((vi_t q c1))
  · refine am_s_lconst (x := 1) (by decide) dc348_0.2.2.2 ?_
    refine am_s_goto rfl dc348_1.1.1.1 ?_
    refine am_s_lastore dc348_1.1.2.1 rfl (by decide +kernel) am_cN0 ?_
    refine am_s_goto rfl dc348_1.1.2.2 ?_
    refine am_s_iconst am_cc0 dc348_2.2.1 ?_
    exact am_s_ireturn dc348_2.2.2 rfl ((vi_f q c1))
theorem v348_h20 {sc : Option (Nat × (Nat → Int32))} {d k n : Nat} {P : am_O → Prop} {I : am_I} {J : am_J} {Pf : am_R} {x1 : Int32} {x2 : Int32} {l4 : Option Value} (q : (P (.inl (some (.int 1)), (am_SH, I, J, Pf), k, n))) : am_go sc d 348 (20, [some (.ref 0), some (.int x1), some (.int x2), some (.ref 202), l4], [.retAddr 1], (am_SH, I, J, Pf), k, n) P := by
  refine am_s_astoreT (ls' := [some (.ref 0), some (.int x1), some (.int x2), some (.ref 202), some (.retAddr 1)]) rfl rfl dc348_1.2.1.1 ?_
  refine am_s_iconst am_cc1 dc348_1.2.1.2 ?_
  exact am_s_ireturn dc348_1.2.2.1 rfl (q)
theorem v348_h24 {sc : Option (Nat × (Nat → Int32))} {d k n : Nat} {P : am_O → Prop} {I : am_I} {J : am_J} {Pf : am_R} {x1 : Int32} {x2 : Int32} {l4 : Option Value} (q : (P (.inl (some (.int 2)), (am_SH, I, J, Pf), k, n))) : am_go sc d 348 (24, [some (.ref 0), some (.int x1), some (.int x2), some (.ref 202), l4], [.retAddr 1], (am_SH, I, J, Pf), k, n) P := by
  refine am_s_astoreT (ls' := [some (.ref 0), some (.int x1), some (.int x2), some (.ref 202), some (.retAddr 1)]) rfl rfl dc348_1.2.2.2 ?_
  refine am_s_iconst am_cc2 dc348_2.1.1 ?_
  exact am_s_ireturn dc348_2.1.2 rfl (q)
theorem dc349_0 : (((decode (am_by 349) 0 = .ok (.aload_n 3, 1)) ∧ (decode (am_by 349) 1 = .ok (.iconst 0, 1))) ∧ ((decode (am_by 349) 2 = .ok (.aload_n 0, 1)) ∧ (decode (am_by 349) 3 = .ok (.iload_n 1, 1)))) ∧ (((decode (am_by 349) 4 = .ok (.iload_n 2, 1)) ∧ (decode (am_by 349) 5 = .ok (.invokevirtual 34, 3))) ∧ ((decode (am_by 349) 8 = .ok (.i2l, 1)) ∧ (decode (am_by 349) 9 = .ok (.lastore, 1)))) := by decide +kernel
theorem dc349_1 : ((decode (am_by 349) 10 = .ok (.goto 7, 3)) ∧ ((decode (am_by 349) 13 = .ok (.astore 4, 2)) ∧ (decode (am_by 349) 15 = .ok (.iconst 1, 1)))) ∧ ((decode (am_by 349) 16 = .ok (.ireturn, 1)) ∧ ((decode (am_by 349) 17 = .ok (.iconst 0, 1)) ∧ (decode (am_by 349) 18 = .ok (.ireturn, 1)))) := by decide +kernel
theorem v349_0 {sc : Option (Nat × (Nat → Int32))} {d k n : Nat} {P : am_O → Prop} {I : am_I} {J : am_J} {Pf : am_R} {x1 : Int32} {x2 : Int32} {l4 : Option Value} (q : (am_mth d 150 [.ref 0, .int x1, .int x2] (am_SH, I, J, Pf) (am_af sc d 349 5 [some (.ref 0), some (.int x1), some (.int x2), some (.ref 202), l4] [.int x2, .int x1, .ref 0, .int 0, .ref 202] [.int 0, .ref 202] (am_SH, I, J, Pf) k n true P))) : am_go sc d 349 (0, [some (.ref 0), some (.int x1), some (.int x2), some (.ref 202), l4], [], (am_SH, I, J, Pf), k, n) P := by
  refine am_s_aload_n rfl dc349_0.1.1.1 ?_
  refine am_s_iconst am_cc0 dc349_0.1.1.2 ?_
  refine am_s_aload_n rfl dc349_0.1.2.1 ?_
  refine am_s_iload_n rfl dc349_0.1.2.2 ?_
  refine am_s_iload_n rfl dc349_0.2.1.1 ?_
  exact am_s_virtual true dc349_0.2.1.2 rfl (by decide) rfl rfl rfl (q)
theorem v349_a {sc : Option (Nat × (Nat → Int32))} {d k n : Nat} {P : am_O → Prop} {I : am_I} {J : am_J} {Pf : am_R} {x1 : Int32} {x2 : Int32} {l4 : Option Value} {a : Int32} (q : (P (.inl (some (.int 0)), (am_SH, I, am_u J 202 0 (Int32.toInt64 a), Pf), k, n))) : am_go sc d 349 (8, [some (.ref 0), some (.int x1), some (.int x2), some (.ref 202), l4], [.int a, .int 0, .ref 202], (am_SH, I, J, Pf), k, n) P := by
  refine am_s_i2l dc349_0.2.2.1 ?_
  refine am_s_lastore dc349_0.2.2.2 rfl (by decide +kernel) am_cN0 ?_
  refine am_s_goto rfl dc349_1.1.1 ?_
  refine am_s_iconst am_cc0 dc349_1.2.2.1 ?_
  exact am_s_ireturn dc349_1.2.2.2 rfl (q)
theorem v349_h13 {sc : Option (Nat × (Nat → Int32))} {d k n : Nat} {P : am_O → Prop} {I : am_I} {J : am_J} {Pf : am_R} {x1 : Int32} {x2 : Int32} {l4 : Option Value} (q : (P (.inl (some (.int 1)), (am_SH, I, J, Pf), k, n))) : am_go sc d 349 (13, [some (.ref 0), some (.int x1), some (.int x2), some (.ref 202), l4], [.retAddr 1], (am_SH, I, J, Pf), k, n) P := by
  refine am_s_astoreT (ls' := [some (.ref 0), some (.int x1), some (.int x2), some (.ref 202), some (.retAddr 1)]) rfl rfl dc349_1.1.2.1 ?_
  refine am_s_iconst am_cc1 dc349_1.1.2.2 ?_
  exact am_s_ireturn dc349_1.2.1 rfl (q)
theorem dc350_0 : (((decode (am_by 350) 0 = .ok (.aload_n 3, 1)) ∧ (decode (am_by 350) 1 = .ok (.iconst 0, 1))) ∧ ((decode (am_by 350) 2 = .ok (.aload_n 0, 1)) ∧ (decode (am_by 350) 3 = .ok (.iload_n 1, 1)))) ∧ (((decode (am_by 350) 4 = .ok (.iload_n 2, 1)) ∧ (decode (am_by 350) 5 = .ok (.invokevirtual 37, 3))) ∧ ((decode (am_by 350) 8 = .ok (.i2l, 1)) ∧ (decode (am_by 350) 9 = .ok (.lastore, 1)))) := by decide +kernel
theorem dc350_1 : (((decode (am_by 350) 10 = .ok (.goto 11, 3)) ∧ (decode (am_by 350) 13 = .ok (.astore 4, 2))) ∧ ((decode (am_by 350) 15 = .ok (.iconst 1, 1)) ∧ (decode (am_by 350) 16 = .ok (.ireturn, 1)))) ∧ (((decode (am_by 350) 17 = .ok (.astore 4, 2)) ∧ (decode (am_by 350) 19 = .ok (.iconst 2, 1))) ∧ ((decode (am_by 350) 20 = .ok (.ireturn, 1)) ∧ (decode (am_by 350) 21 = .ok (.iconst 0, 1)))) := by decide +kernel
theorem dc350_2 : decode (am_by 350) 22 = .ok (.ireturn, 1) := by decide +kernel
theorem v350_0 {sc : Option (Nat × (Nat → Int32))} {d k n : Nat} {P : am_O → Prop} {I : am_I} {J : am_J} {Pf : am_R} {x1 : Int32} {x2 : Int32} {l4 : Option Value} (q : (am_mth d 151 [.ref 0, .int x1, .int x2] (am_SH, I, J, Pf) (am_af sc d 350 5 [some (.ref 0), some (.int x1), some (.int x2), some (.ref 202), l4] [.int x2, .int x1, .ref 0, .int 0, .ref 202] [.int 0, .ref 202] (am_SH, I, J, Pf) k n true P))) : am_go sc d 350 (0, [some (.ref 0), some (.int x1), some (.int x2), some (.ref 202), l4], [], (am_SH, I, J, Pf), k, n) P := by
  refine am_s_aload_n rfl dc350_0.1.1.1 ?_
  refine am_s_iconst am_cc0 dc350_0.1.1.2 ?_
  refine am_s_aload_n rfl dc350_0.1.2.1 ?_
  refine am_s_iload_n rfl dc350_0.1.2.2 ?_
  refine am_s_iload_n rfl dc350_0.2.1.1 ?_
  exact am_s_virtual true dc350_0.2.1.2 rfl (by decide) rfl rfl rfl (q)
theorem v350_a {sc : Option (Nat × (Nat → Int32))} {d k n : Nat} {P : am_O → Prop} {I : am_I} {J : am_J} {Pf : am_R} {x1 : Int32} {x2 : Int32} {l4 : Option Value} {a : Int32} (q : (P (.inl (some (.int 0)), (am_SH, I, am_u J 202 0 (Int32.toInt64 a), Pf), k, n))) : am_go sc d 350 (8, [some (.ref 0), some (.int x1), some (.int x2), some (.ref 202), l4], [.int a, .int 0, .ref 202], (am_SH, I, J, Pf), k, n) P := by
  refine am_s_i2l dc350_0.2.2.1 ?_
  refine am_s_lastore dc350_0.2.2.2 rfl (by decide +kernel) am_cN0 ?_
  refine am_s_goto rfl dc350_1.1.1.1 ?_
  refine am_s_iconst am_cc0 dc350_1.2.2.2 ?_
  exact am_s_ireturn dc350_2 rfl (q)
theorem v350_h13 {sc : Option (Nat × (Nat → Int32))} {d k n : Nat} {P : am_O → Prop} {I : am_I} {J : am_J} {Pf : am_R} {x1 : Int32} {x2 : Int32} {l4 : Option Value} (q : (P (.inl (some (.int 1)), (am_SH, I, J, Pf), k, n))) : am_go sc d 350 (13, [some (.ref 0), some (.int x1), some (.int x2), some (.ref 202), l4], [.retAddr 1], (am_SH, I, J, Pf), k, n) P := by
  refine am_s_astoreT (ls' := [some (.ref 0), some (.int x1), some (.int x2), some (.ref 202), some (.retAddr 1)]) rfl rfl dc350_1.1.1.2 ?_
  refine am_s_iconst am_cc1 dc350_1.1.2.1 ?_
  exact am_s_ireturn dc350_1.1.2.2 rfl (q)
theorem v350_h17 {sc : Option (Nat × (Nat → Int32))} {d k n : Nat} {P : am_O → Prop} {I : am_I} {J : am_J} {Pf : am_R} {x1 : Int32} {x2 : Int32} {l4 : Option Value} (q : (P (.inl (some (.int 2)), (am_SH, I, J, Pf), k, n))) : am_go sc d 350 (17, [some (.ref 0), some (.int x1), some (.int x2), some (.ref 202), l4], [.retAddr 1], (am_SH, I, J, Pf), k, n) P := by
  refine am_s_astoreT (ls' := [some (.ref 0), some (.int x1), some (.int x2), some (.ref 202), some (.retAddr 1)]) rfl rfl dc350_1.2.1.1 ?_
  refine am_s_iconst am_cc2 dc350_1.2.1.2 ?_
  exact am_s_ireturn dc350_1.2.2.1 rfl (q)
theorem dc351_0 : (((decode (am_by 351) 0 = .ok (.aload_n 3, 1)) ∧ (decode (am_by 351) 1 = .ok (.iconst 0, 1))) ∧ ((decode (am_by 351) 2 = .ok (.aload_n 0, 1)) ∧ (decode (am_by 351) 3 = .ok (.iload_n 1, 1)))) ∧ (((decode (am_by 351) 4 = .ok (.iload_n 2, 1)) ∧ (decode (am_by 351) 5 = .ok (.invokevirtual 40, 3))) ∧ ((decode (am_by 351) 8 = .ok (.i2l, 1)) ∧ (decode (am_by 351) 9 = .ok (.lastore, 1)))) := by decide +kernel
theorem dc351_1 : ((decode (am_by 351) 10 = .ok (.goto 7, 3)) ∧ ((decode (am_by 351) 13 = .ok (.astore 4, 2)) ∧ (decode (am_by 351) 15 = .ok (.iconst 1, 1)))) ∧ ((decode (am_by 351) 16 = .ok (.ireturn, 1)) ∧ ((decode (am_by 351) 17 = .ok (.iconst 0, 1)) ∧ (decode (am_by 351) 18 = .ok (.ireturn, 1)))) := by decide +kernel
theorem v351_0 {sc : Option (Nat × (Nat → Int32))} {d k n : Nat} {P : am_O → Prop} {I : am_I} {J : am_J} {Pf : am_R} {x1 : Int32} {x2 : Int32} {l4 : Option Value} (q : (am_mth d 152 [.ref 0, .int x1, .int x2] (am_SH, I, J, Pf) (am_af sc d 351 5 [some (.ref 0), some (.int x1), some (.int x2), some (.ref 202), l4] [.int x2, .int x1, .ref 0, .int 0, .ref 202] [.int 0, .ref 202] (am_SH, I, J, Pf) k n true P))) : am_go sc d 351 (0, [some (.ref 0), some (.int x1), some (.int x2), some (.ref 202), l4], [], (am_SH, I, J, Pf), k, n) P := by
  refine am_s_aload_n rfl dc351_0.1.1.1 ?_
  refine am_s_iconst am_cc0 dc351_0.1.1.2 ?_
  refine am_s_aload_n rfl dc351_0.1.2.1 ?_
  refine am_s_iload_n rfl dc351_0.1.2.2 ?_
  refine am_s_iload_n rfl dc351_0.2.1.1 ?_
  exact am_s_virtual true dc351_0.2.1.2 rfl (by decide) rfl rfl rfl (q)
theorem v351_a {sc : Option (Nat × (Nat → Int32))} {d k n : Nat} {P : am_O → Prop} {I : am_I} {J : am_J} {Pf : am_R} {x1 : Int32} {x2 : Int32} {l4 : Option Value} {a : Int32} (q : (P (.inl (some (.int 0)), (am_SH, I, am_u J 202 0 (Int32.toInt64 a), Pf), k, n))) : am_go sc d 351 (8, [some (.ref 0), some (.int x1), some (.int x2), some (.ref 202), l4], [.int a, .int 0, .ref 202], (am_SH, I, J, Pf), k, n) P := by
  refine am_s_i2l dc351_0.2.2.1 ?_
  refine am_s_lastore dc351_0.2.2.2 rfl (by decide +kernel) am_cN0 ?_
  refine am_s_goto rfl dc351_1.1.1 ?_
  refine am_s_iconst am_cc0 dc351_1.2.2.1 ?_
  exact am_s_ireturn dc351_1.2.2.2 rfl (q)
theorem v351_h13 {sc : Option (Nat × (Nat → Int32))} {d k n : Nat} {P : am_O → Prop} {I : am_I} {J : am_J} {Pf : am_R} {x1 : Int32} {x2 : Int32} {l4 : Option Value} (q : (P (.inl (some (.int 1)), (am_SH, I, J, Pf), k, n))) : am_go sc d 351 (13, [some (.ref 0), some (.int x1), some (.int x2), some (.ref 202), l4], [.retAddr 1], (am_SH, I, J, Pf), k, n) P := by
  refine am_s_astoreT (ls' := [some (.ref 0), some (.int x1), some (.int x2), some (.ref 202), some (.retAddr 1)]) rfl rfl dc351_1.1.2.1 ?_
  refine am_s_iconst am_cc1 dc351_1.1.2.2 ?_
  exact am_s_ireturn dc351_1.2.1 rfl (q)
theorem dc352_0 : (((decode (am_by 352) 0 = .ok (.aload_n 3, 1)) ∧ (decode (am_by 352) 1 = .ok (.iconst 0, 1))) ∧ ((decode (am_by 352) 2 = .ok (.aload_n 0, 1)) ∧ (decode (am_by 352) 3 = .ok (.iload_n 1, 1)))) ∧ (((decode (am_by 352) 4 = .ok (.iload_n 2, 1)) ∧ (decode (am_by 352) 5 = .ok (.invokevirtual 43, 3))) ∧ ((decode (am_by 352) 8 = .ok (.ifCond .eq 7, 3)) ∧ (decode (am_by 352) 11 = .ok (.lconst 1, 1)))) := by decide +kernel
theorem dc352_1 : (((decode (am_by 352) 12 = .ok (.goto 4, 3)) ∧ (decode (am_by 352) 15 = .ok (.lconst 0, 1))) ∧ ((decode (am_by 352) 16 = .ok (.lastore, 1)) ∧ (decode (am_by 352) 17 = .ok (.goto 7, 3)))) ∧ (((decode (am_by 352) 20 = .ok (.astore 4, 2)) ∧ (decode (am_by 352) 22 = .ok (.iconst 1, 1))) ∧ ((decode (am_by 352) 23 = .ok (.ireturn, 1)) ∧ (decode (am_by 352) 24 = .ok (.iconst 0, 1)))) := by decide +kernel
theorem dc352_2 : decode (am_by 352) 25 = .ok (.ireturn, 1) := by decide +kernel
theorem v352_0 {sc : Option (Nat × (Nat → Int32))} {d k n : Nat} {P : am_O → Prop} {I : am_I} {J : am_J} {Pf : am_R} {x1 : Int32} {x2 : Int32} {l4 : Option Value} (q : (am_mth d 153 [.ref 0, .int x1, .int x2] (am_SH, I, J, Pf) (am_af sc d 352 5 [some (.ref 0), some (.int x1), some (.int x2), some (.ref 202), l4] [.int x2, .int x1, .ref 0, .int 0, .ref 202] [.int 0, .ref 202] (am_SH, I, J, Pf) k n true P))) : am_go sc d 352 (0, [some (.ref 0), some (.int x1), some (.int x2), some (.ref 202), l4], [], (am_SH, I, J, Pf), k, n) P := by
  refine am_s_aload_n rfl dc352_0.1.1.1 ?_
  refine am_s_iconst am_cc0 dc352_0.1.1.2 ?_
  refine am_s_aload_n rfl dc352_0.1.2.1 ?_
  refine am_s_iload_n rfl dc352_0.1.2.2 ?_
  refine am_s_iload_n rfl dc352_0.2.1.1 ?_
  exact am_s_virtual true dc352_0.2.1.2 rfl (by decide) rfl rfl rfl (q)
theorem v352_a {sc : Option (Nat × (Nat → Int32))} {d k n : Nat} {P : am_O → Prop} {I : am_I} {J : am_J} {Pf : am_R} {x1 : Int32} {x2 : Int32} {l4 : Option Value} {a : Int32} (q : (if a = 0 then (P (.inl (some (.int 0)), (am_SH, I, am_u J 202 0 0, Pf), k, n)) else (P (.inl (some (.int 0)), (am_SH, I, am_u J 202 0 1, Pf), k, n)))) : am_go sc d 352 (8, [some (.ref 0), some (.int x1), some (.int x2), some (.ref 202), l4], [.int a, .int 0, .ref 202], (am_SH, I, J, Pf), k, n) P := by
  refine am_s_if_eq dc352_0.2.2.1 rfl (fun c1 => ?_) (fun c1 => ?_)
  · refine am_s_lconst (x := 0) (by decide) dc352_1.1.1.2 ?_
    refine am_s_lastore dc352_1.1.2.1 rfl (by decide +kernel) am_cN0 ?_
    refine am_s_goto rfl dc352_1.1.2.2 ?_
    refine am_s_iconst am_cc0 dc352_1.2.2.2 ?_
    exact am_s_ireturn dc352_2 rfl ((vi_t q c1))
  · refine am_s_lconst (x := 1) (by decide) dc352_0.2.2.2 ?_
    refine am_s_goto rfl dc352_1.1.1.1 ?_
    refine am_s_lastore dc352_1.1.2.1 rfl (by decide +kernel) am_cN0 ?_
    refine am_s_goto rfl dc352_1.1.2.2 ?_
    refine am_s_iconst am_cc0 dc352_1.2.2.2 ?_
    exact am_s_ireturn dc352_2 rfl ((vi_f q c1))
theorem v352_h20 {sc : Option (Nat × (Nat → Int32))} {d k n : Nat} {P : am_O → Prop} {I : am_I} {J : am_J} {Pf : am_R} {x1 : Int32} {x2 : Int32} {l4 : Option Value} (q : (P (.inl (some (.int 1)), (am_SH, I, J, Pf), k, n))) : am_go sc d 352 (20, [some (.ref 0), some (.int x1), some (.int x2), some (.ref 202), l4], [.retAddr 1], (am_SH, I, J, Pf), k, n) P := by
  refine am_s_astoreT (ls' := [some (.ref 0), some (.int x1), some (.int x2), some (.ref 202), some (.retAddr 1)]) rfl rfl dc352_1.2.1.1 ?_
  refine am_s_iconst am_cc1 dc352_1.2.1.2 ?_
  exact am_s_ireturn dc352_1.2.2.1 rfl (q)
theorem dc353_0 : (((decode (am_by 353) 0 = .ok (.aload_n 2, 1)) ∧ (decode (am_by 353) 1 = .ok (.iconst 0, 1))) ∧ ((decode (am_by 353) 2 = .ok (.aload_n 0, 1)) ∧ (decode (am_by 353) 3 = .ok (.iload_n 1, 1)))) ∧ (((decode (am_by 353) 4 = .ok (.invokevirtual 46, 3)) ∧ (decode (am_by 353) 7 = .ok (.i2l, 1))) ∧ ((decode (am_by 353) 8 = .ok (.lastore, 1)) ∧ (decode (am_by 353) 9 = .ok (.goto 6, 3)))) := by decide +kernel
theorem dc353_1 : ((decode (am_by 353) 12 = .ok (.astore_n 3, 1)) ∧ (decode (am_by 353) 13 = .ok (.iconst 1, 1))) ∧ ((decode (am_by 353) 14 = .ok (.ireturn, 1)) ∧ ((decode (am_by 353) 15 = .ok (.iconst 0, 1)) ∧ (decode (am_by 353) 16 = .ok (.ireturn, 1)))) := by decide +kernel
theorem v353_0 {sc : Option (Nat × (Nat → Int32))} {d k n : Nat} {P : am_O → Prop} {I : am_I} {J : am_J} {Pf : am_R} {x1 : Int32} {l3 : Option Value} (q : (am_mth d 154 [.ref 0, .int x1] (am_SH, I, J, Pf) (am_af sc d 353 4 [some (.ref 0), some (.int x1), some (.ref 202), l3] [.int x1, .ref 0, .int 0, .ref 202] [.int 0, .ref 202] (am_SH, I, J, Pf) k n true P))) : am_go sc d 353 (0, [some (.ref 0), some (.int x1), some (.ref 202), l3], [], (am_SH, I, J, Pf), k, n) P := by
  refine am_s_aload_n rfl dc353_0.1.1.1 ?_
  refine am_s_iconst am_cc0 dc353_0.1.1.2 ?_
  refine am_s_aload_n rfl dc353_0.1.2.1 ?_
  refine am_s_iload_n rfl dc353_0.1.2.2 ?_
  exact am_s_virtual true dc353_0.2.1.1 rfl (by decide) rfl rfl rfl (q)
theorem v353_a {sc : Option (Nat × (Nat → Int32))} {d k n : Nat} {P : am_O → Prop} {I : am_I} {J : am_J} {Pf : am_R} {x1 : Int32} {l3 : Option Value} {a : Int32} (q : (P (.inl (some (.int 0)), (am_SH, I, am_u J 202 0 (Int32.toInt64 a), Pf), k, n))) : am_go sc d 353 (7, [some (.ref 0), some (.int x1), some (.ref 202), l3], [.int a, .int 0, .ref 202], (am_SH, I, J, Pf), k, n) P := by
  refine am_s_i2l dc353_0.2.1.2 ?_
  refine am_s_lastore dc353_0.2.2.1 rfl (by decide +kernel) am_cN0 ?_
  refine am_s_goto rfl dc353_0.2.2.2 ?_
  refine am_s_iconst am_cc0 dc353_1.2.2.1 ?_
  exact am_s_ireturn dc353_1.2.2.2 rfl (q)
theorem v353_h12 {sc : Option (Nat × (Nat → Int32))} {d k n : Nat} {P : am_O → Prop} {I : am_I} {J : am_J} {Pf : am_R} {x1 : Int32} {l3 : Option Value} (q : (P (.inl (some (.int 1)), (am_SH, I, J, Pf), k, n))) : am_go sc d 353 (12, [some (.ref 0), some (.int x1), some (.ref 202), l3], [.retAddr 1], (am_SH, I, J, Pf), k, n) P := by
  refine am_s_astore_nT (ls' := [some (.ref 0), some (.int x1), some (.ref 202), some (.retAddr 1)]) rfl rfl dc353_1.1.1 ?_
  refine am_s_iconst am_cc1 dc353_1.1.2 ?_
  exact am_s_ireturn dc353_1.2.1 rfl (q)
theorem dc354_0 : (((decode (am_by 354) 0 = .ok (.aload_n 2, 1)) ∧ (decode (am_by 354) 1 = .ok (.iconst 0, 1))) ∧ ((decode (am_by 354) 2 = .ok (.aload_n 0, 1)) ∧ (decode (am_by 354) 3 = .ok (.iload_n 1, 1)))) ∧ (((decode (am_by 354) 4 = .ok (.invokevirtual 49, 3)) ∧ (decode (am_by 354) 7 = .ok (.i2l, 1))) ∧ ((decode (am_by 354) 8 = .ok (.lastore, 1)) ∧ (decode (am_by 354) 9 = .ok (.goto 6, 3)))) := by decide +kernel
theorem dc354_1 : ((decode (am_by 354) 12 = .ok (.astore_n 3, 1)) ∧ (decode (am_by 354) 13 = .ok (.iconst 1, 1))) ∧ ((decode (am_by 354) 14 = .ok (.ireturn, 1)) ∧ ((decode (am_by 354) 15 = .ok (.iconst 0, 1)) ∧ (decode (am_by 354) 16 = .ok (.ireturn, 1)))) := by decide +kernel
theorem v354_0 {sc : Option (Nat × (Nat → Int32))} {d k n : Nat} {P : am_O → Prop} {I : am_I} {J : am_J} {Pf : am_R} {x1 : Int32} {l3 : Option Value} (q : (am_mth d 155 [.ref 0, .int x1] (am_SH, I, J, Pf) (am_af sc d 354 4 [some (.ref 0), some (.int x1), some (.ref 202), l3] [.int x1, .ref 0, .int 0, .ref 202] [.int 0, .ref 202] (am_SH, I, J, Pf) k n true P))) : am_go sc d 354 (0, [some (.ref 0), some (.int x1), some (.ref 202), l3], [], (am_SH, I, J, Pf), k, n) P := by
  refine am_s_aload_n rfl dc354_0.1.1.1 ?_
  refine am_s_iconst am_cc0 dc354_0.1.1.2 ?_
  refine am_s_aload_n rfl dc354_0.1.2.1 ?_
  refine am_s_iload_n rfl dc354_0.1.2.2 ?_
  exact am_s_virtual true dc354_0.2.1.1 rfl (by decide) rfl rfl rfl (q)
theorem v354_a {sc : Option (Nat × (Nat → Int32))} {d k n : Nat} {P : am_O → Prop} {I : am_I} {J : am_J} {Pf : am_R} {x1 : Int32} {l3 : Option Value} {a : Int32} (q : (P (.inl (some (.int 0)), (am_SH, I, am_u J 202 0 (Int32.toInt64 a), Pf), k, n))) : am_go sc d 354 (7, [some (.ref 0), some (.int x1), some (.ref 202), l3], [.int a, .int 0, .ref 202], (am_SH, I, J, Pf), k, n) P := by
  refine am_s_i2l dc354_0.2.1.2 ?_
  refine am_s_lastore dc354_0.2.2.1 rfl (by decide +kernel) am_cN0 ?_
  refine am_s_goto rfl dc354_0.2.2.2 ?_
  refine am_s_iconst am_cc0 dc354_1.2.2.1 ?_
  exact am_s_ireturn dc354_1.2.2.2 rfl (q)
theorem v354_h12 {sc : Option (Nat × (Nat → Int32))} {d k n : Nat} {P : am_O → Prop} {I : am_I} {J : am_J} {Pf : am_R} {x1 : Int32} {l3 : Option Value} (q : (P (.inl (some (.int 1)), (am_SH, I, J, Pf), k, n))) : am_go sc d 354 (12, [some (.ref 0), some (.int x1), some (.ref 202), l3], [.retAddr 1], (am_SH, I, J, Pf), k, n) P := by
  refine am_s_astore_nT (ls' := [some (.ref 0), some (.int x1), some (.ref 202), some (.retAddr 1)]) rfl rfl dc354_1.1.1 ?_
  refine am_s_iconst am_cc1 dc354_1.1.2 ?_
  exact am_s_ireturn dc354_1.2.1 rfl (q)
theorem dc355_0 : (((decode (am_by 355) 0 = .ok (.aload 4, 2)) ∧ (decode (am_by 355) 2 = .ok (.iconst 0, 1))) ∧ ((decode (am_by 355) 3 = .ok (.aload_n 0, 1)) ∧ (decode (am_by 355) 4 = .ok (.iload_n 1, 1)))) ∧ (((decode (am_by 355) 5 = .ok (.iload_n 2, 1)) ∧ (decode (am_by 355) 6 = .ok (.iload_n 3, 1))) ∧ ((decode (am_by 355) 7 = .ok (.invokevirtual 52, 3)) ∧ (decode (am_by 355) 10 = .ok (.ifCond .eq 7, 3)))) := by decide +kernel
theorem dc355_1 : (((decode (am_by 355) 13 = .ok (.lconst 1, 1)) ∧ (decode (am_by 355) 14 = .ok (.goto 4, 3))) ∧ ((decode (am_by 355) 17 = .ok (.lconst 0, 1)) ∧ (decode (am_by 355) 18 = .ok (.lastore, 1)))) ∧ (((decode (am_by 355) 19 = .ok (.goto 7, 3)) ∧ (decode (am_by 355) 22 = .ok (.astore 5, 2))) ∧ ((decode (am_by 355) 24 = .ok (.iconst 1, 1)) ∧ (decode (am_by 355) 25 = .ok (.ireturn, 1)))) := by decide +kernel
theorem dc355_2 : (decode (am_by 355) 26 = .ok (.iconst 0, 1)) ∧ (decode (am_by 355) 27 = .ok (.ireturn, 1)) := by decide +kernel
theorem v355_0 {sc : Option (Nat × (Nat → Int32))} {d k n : Nat} {P : am_O → Prop} {I : am_I} {J : am_J} {Pf : am_R} {x1 : Int32} {x2 : Int32} {x3 : Int32} {l5 : Option Value} (q : (am_mth d 156 [.ref 0, .int x1, .int x2, .int x3] (am_SH, I, J, Pf) (am_af sc d 355 7 [some (.ref 0), some (.int x1), some (.int x2), some (.int x3), some (.ref 202), l5] [.int x3, .int x2, .int x1, .ref 0, .int 0, .ref 202] [.int 0, .ref 202] (am_SH, I, J, Pf) k n true P))) : am_go sc d 355 (0, [some (.ref 0), some (.int x1), some (.int x2), some (.int x3), some (.ref 202), l5], [], (am_SH, I, J, Pf), k, n) P := by
  refine am_s_aload rfl dc355_0.1.1.1 ?_
  refine am_s_iconst am_cc0 dc355_0.1.1.2 ?_
  refine am_s_aload_n rfl dc355_0.1.2.1 ?_
  refine am_s_iload_n rfl dc355_0.1.2.2 ?_
  refine am_s_iload_n rfl dc355_0.2.1.1 ?_
  refine am_s_iload_n rfl dc355_0.2.1.2 ?_
  exact am_s_virtual true dc355_0.2.2.1 rfl (by decide) rfl rfl rfl (q)
theorem v355_a {sc : Option (Nat × (Nat → Int32))} {d k n : Nat} {P : am_O → Prop} {I : am_I} {J : am_J} {Pf : am_R} {x1 : Int32} {x2 : Int32} {x3 : Int32} {l5 : Option Value} {a : Int32} (q : (if a = 0 then (P (.inl (some (.int 0)), (am_SH, I, am_u J 202 0 0, Pf), k, n)) else (P (.inl (some (.int 0)), (am_SH, I, am_u J 202 0 1, Pf), k, n)))) : am_go sc d 355 (10, [some (.ref 0), some (.int x1), some (.int x2), some (.int x3), some (.ref 202), l5], [.int a, .int 0, .ref 202], (am_SH, I, J, Pf), k, n) P := by
  refine am_s_if_eq dc355_0.2.2.2 rfl (fun c1 => ?_) (fun c1 => ?_)
  · refine am_s_lconst (x := 0) (by decide) dc355_1.1.2.1 ?_
    refine am_s_lastore dc355_1.1.2.2 rfl (by decide +kernel) am_cN0 ?_
    refine am_s_goto rfl dc355_1.2.1.1 ?_
    refine am_s_iconst am_cc0 dc355_2.1 ?_
    exact am_s_ireturn dc355_2.2 rfl ((vi_t q c1))
  · refine am_s_lconst (x := 1) (by decide) dc355_1.1.1.1 ?_
    refine am_s_goto rfl dc355_1.1.1.2 ?_
    refine am_s_lastore dc355_1.1.2.2 rfl (by decide +kernel) am_cN0 ?_
    refine am_s_goto rfl dc355_1.2.1.1 ?_
    refine am_s_iconst am_cc0 dc355_2.1 ?_
    exact am_s_ireturn dc355_2.2 rfl ((vi_f q c1))
theorem v355_h22 {sc : Option (Nat × (Nat → Int32))} {d k n : Nat} {P : am_O → Prop} {I : am_I} {J : am_J} {Pf : am_R} {x1 : Int32} {x2 : Int32} {x3 : Int32} {l5 : Option Value} (q : (P (.inl (some (.int 1)), (am_SH, I, J, Pf), k, n))) : am_go sc d 355 (22, [some (.ref 0), some (.int x1), some (.int x2), some (.int x3), some (.ref 202), l5], [.retAddr 1], (am_SH, I, J, Pf), k, n) P := by
  refine am_s_astoreT (ls' := [some (.ref 0), some (.int x1), some (.int x2), some (.int x3), some (.ref 202), some (.retAddr 1)]) rfl rfl dc355_1.2.1.2 ?_
  refine am_s_iconst am_cc1 dc355_1.2.2.1 ?_
  exact am_s_ireturn dc355_1.2.2.2 rfl (q)
theorem dc356_0 : (((decode (am_by 356) 0 = .ok (.aload_n 3, 1)) ∧ (decode (am_by 356) 1 = .ok (.iconst 0, 1))) ∧ ((decode (am_by 356) 2 = .ok (.aload_n 0, 1)) ∧ (decode (am_by 356) 3 = .ok (.iload_n 1, 1)))) ∧ (((decode (am_by 356) 4 = .ok (.iload_n 2, 1)) ∧ (decode (am_by 356) 5 = .ok (.invokevirtual 56, 3))) ∧ ((decode (am_by 356) 8 = .ok (.i2l, 1)) ∧ (decode (am_by 356) 9 = .ok (.lastore, 1)))) := by decide +kernel
theorem dc356_1 : ((decode (am_by 356) 10 = .ok (.goto 7, 3)) ∧ ((decode (am_by 356) 13 = .ok (.astore 4, 2)) ∧ (decode (am_by 356) 15 = .ok (.iconst 1, 1)))) ∧ ((decode (am_by 356) 16 = .ok (.ireturn, 1)) ∧ ((decode (am_by 356) 17 = .ok (.iconst 0, 1)) ∧ (decode (am_by 356) 18 = .ok (.ireturn, 1)))) := by decide +kernel
theorem v356_0 {sc : Option (Nat × (Nat → Int32))} {d k n : Nat} {P : am_O → Prop} {I : am_I} {J : am_J} {Pf : am_R} {x1 : Int32} {x2 : Int32} {l4 : Option Value} (q : (am_mth d 157 [.ref 0, .int x1, .int x2] (am_SH, I, J, Pf) (am_af sc d 356 5 [some (.ref 0), some (.int x1), some (.int x2), some (.ref 202), l4] [.int x2, .int x1, .ref 0, .int 0, .ref 202] [.int 0, .ref 202] (am_SH, I, J, Pf) k n true P))) : am_go sc d 356 (0, [some (.ref 0), some (.int x1), some (.int x2), some (.ref 202), l4], [], (am_SH, I, J, Pf), k, n) P := by
  refine am_s_aload_n rfl dc356_0.1.1.1 ?_
  refine am_s_iconst am_cc0 dc356_0.1.1.2 ?_
  refine am_s_aload_n rfl dc356_0.1.2.1 ?_
  refine am_s_iload_n rfl dc356_0.1.2.2 ?_
  refine am_s_iload_n rfl dc356_0.2.1.1 ?_
  exact am_s_virtual true dc356_0.2.1.2 rfl (by decide) rfl rfl rfl (q)
theorem v356_a {sc : Option (Nat × (Nat → Int32))} {d k n : Nat} {P : am_O → Prop} {I : am_I} {J : am_J} {Pf : am_R} {x1 : Int32} {x2 : Int32} {l4 : Option Value} {a : Int32} (q : (P (.inl (some (.int 0)), (am_SH, I, am_u J 202 0 (Int32.toInt64 a), Pf), k, n))) : am_go sc d 356 (8, [some (.ref 0), some (.int x1), some (.int x2), some (.ref 202), l4], [.int a, .int 0, .ref 202], (am_SH, I, J, Pf), k, n) P := by
  refine am_s_i2l dc356_0.2.2.1 ?_
  refine am_s_lastore dc356_0.2.2.2 rfl (by decide +kernel) am_cN0 ?_
  refine am_s_goto rfl dc356_1.1.1 ?_
  refine am_s_iconst am_cc0 dc356_1.2.2.1 ?_
  exact am_s_ireturn dc356_1.2.2.2 rfl (q)
theorem v356_h13 {sc : Option (Nat × (Nat → Int32))} {d k n : Nat} {P : am_O → Prop} {I : am_I} {J : am_J} {Pf : am_R} {x1 : Int32} {x2 : Int32} {l4 : Option Value} (q : (P (.inl (some (.int 1)), (am_SH, I, J, Pf), k, n))) : am_go sc d 356 (13, [some (.ref 0), some (.int x1), some (.int x2), some (.ref 202), l4], [.retAddr 1], (am_SH, I, J, Pf), k, n) P := by
  refine am_s_astoreT (ls' := [some (.ref 0), some (.int x1), some (.int x2), some (.ref 202), some (.retAddr 1)]) rfl rfl dc356_1.1.2.1 ?_
  refine am_s_iconst am_cc1 dc356_1.1.2.2 ?_
  exact am_s_ireturn dc356_1.2.1 rfl (q)
theorem dc357_0 : (((decode (am_by 357) 0 = .ok (.aload 4, 2)) ∧ (decode (am_by 357) 2 = .ok (.iconst 0, 1))) ∧ ((decode (am_by 357) 3 = .ok (.aload_n 0, 1)) ∧ (decode (am_by 357) 4 = .ok (.iload_n 1, 1)))) ∧ (((decode (am_by 357) 5 = .ok (.iload_n 2, 1)) ∧ (decode (am_by 357) 6 = .ok (.iload_n 3, 1))) ∧ ((decode (am_by 357) 7 = .ok (.invokevirtual 59, 3)) ∧ (decode (am_by 357) 10 = .ok (.i2l, 1)))) := by decide +kernel
theorem dc357_1 : ((decode (am_by 357) 11 = .ok (.lastore, 1)) ∧ ((decode (am_by 357) 12 = .ok (.goto 7, 3)) ∧ (decode (am_by 357) 15 = .ok (.astore 5, 2)))) ∧ (((decode (am_by 357) 17 = .ok (.iconst 1, 1)) ∧ (decode (am_by 357) 18 = .ok (.ireturn, 1))) ∧ ((decode (am_by 357) 19 = .ok (.iconst 0, 1)) ∧ (decode (am_by 357) 20 = .ok (.ireturn, 1)))) := by decide +kernel
theorem v357_0 {sc : Option (Nat × (Nat → Int32))} {d k n : Nat} {P : am_O → Prop} {I : am_I} {J : am_J} {Pf : am_R} {x1 : Int32} {x2 : Int32} {x3 : Int32} {l5 : Option Value} (q : (am_mth d 158 [.ref 0, .int x1, .int x2, .int x3] (am_SH, I, J, Pf) (am_af sc d 357 7 [some (.ref 0), some (.int x1), some (.int x2), some (.int x3), some (.ref 202), l5] [.int x3, .int x2, .int x1, .ref 0, .int 0, .ref 202] [.int 0, .ref 202] (am_SH, I, J, Pf) k n true P))) : am_go sc d 357 (0, [some (.ref 0), some (.int x1), some (.int x2), some (.int x3), some (.ref 202), l5], [], (am_SH, I, J, Pf), k, n) P := by
  refine am_s_aload rfl dc357_0.1.1.1 ?_
  refine am_s_iconst am_cc0 dc357_0.1.1.2 ?_
  refine am_s_aload_n rfl dc357_0.1.2.1 ?_
  refine am_s_iload_n rfl dc357_0.1.2.2 ?_
  refine am_s_iload_n rfl dc357_0.2.1.1 ?_
  refine am_s_iload_n rfl dc357_0.2.1.2 ?_
  exact am_s_virtual true dc357_0.2.2.1 rfl (by decide) rfl rfl rfl (q)
theorem v357_a {sc : Option (Nat × (Nat → Int32))} {d k n : Nat} {P : am_O → Prop} {I : am_I} {J : am_J} {Pf : am_R} {x1 : Int32} {x2 : Int32} {x3 : Int32} {l5 : Option Value} {a : Int32} (q : (P (.inl (some (.int 0)), (am_SH, I, am_u J 202 0 (Int32.toInt64 a), Pf), k, n))) : am_go sc d 357 (10, [some (.ref 0), some (.int x1), some (.int x2), some (.int x3), some (.ref 202), l5], [.int a, .int 0, .ref 202], (am_SH, I, J, Pf), k, n) P := by
  refine am_s_i2l dc357_0.2.2.2 ?_
  refine am_s_lastore dc357_1.1.1 rfl (by decide +kernel) am_cN0 ?_
  refine am_s_goto rfl dc357_1.1.2.1 ?_
  refine am_s_iconst am_cc0 dc357_1.2.2.1 ?_
  exact am_s_ireturn dc357_1.2.2.2 rfl (q)
theorem v357_h15 {sc : Option (Nat × (Nat → Int32))} {d k n : Nat} {P : am_O → Prop} {I : am_I} {J : am_J} {Pf : am_R} {x1 : Int32} {x2 : Int32} {x3 : Int32} {l5 : Option Value} (q : (P (.inl (some (.int 1)), (am_SH, I, J, Pf), k, n))) : am_go sc d 357 (15, [some (.ref 0), some (.int x1), some (.int x2), some (.int x3), some (.ref 202), l5], [.retAddr 1], (am_SH, I, J, Pf), k, n) P := by
  refine am_s_astoreT (ls' := [some (.ref 0), some (.int x1), some (.int x2), some (.int x3), some (.ref 202), some (.retAddr 1)]) rfl rfl dc357_1.1.2.2 ?_
  refine am_s_iconst am_cc1 dc357_1.2.1.1 ?_
  exact am_s_ireturn dc357_1.2.1.2 rfl (q)
theorem dc358_0 : (((decode (am_by 358) 0 = .ok (.aload 4, 2)) ∧ (decode (am_by 358) 2 = .ok (.iconst 0, 1))) ∧ ((decode (am_by 358) 3 = .ok (.aload_n 0, 1)) ∧ (decode (am_by 358) 4 = .ok (.iload_n 1, 1)))) ∧ (((decode (am_by 358) 5 = .ok (.iload_n 2, 1)) ∧ (decode (am_by 358) 6 = .ok (.iload_n 3, 1))) ∧ ((decode (am_by 358) 7 = .ok (.invokevirtual 63, 3)) ∧ (decode (am_by 358) 10 = .ok (.i2l, 1)))) := by decide +kernel
theorem dc358_1 : ((decode (am_by 358) 11 = .ok (.lastore, 1)) ∧ ((decode (am_by 358) 12 = .ok (.goto 7, 3)) ∧ (decode (am_by 358) 15 = .ok (.astore 5, 2)))) ∧ (((decode (am_by 358) 17 = .ok (.iconst 1, 1)) ∧ (decode (am_by 358) 18 = .ok (.ireturn, 1))) ∧ ((decode (am_by 358) 19 = .ok (.iconst 0, 1)) ∧ (decode (am_by 358) 20 = .ok (.ireturn, 1)))) := by decide +kernel
theorem v358_0 {sc : Option (Nat × (Nat → Int32))} {d k n : Nat} {P : am_O → Prop} {I : am_I} {J : am_J} {Pf : am_R} {x1 : Int32} {x2 : Int32} {x3 : Int32} {l5 : Option Value} (q : (am_mth d 159 [.ref 0, .int x1, .int x2, .int x3] (am_SH, I, J, Pf) (am_af sc d 358 7 [some (.ref 0), some (.int x1), some (.int x2), some (.int x3), some (.ref 202), l5] [.int x3, .int x2, .int x1, .ref 0, .int 0, .ref 202] [.int 0, .ref 202] (am_SH, I, J, Pf) k n true P))) : am_go sc d 358 (0, [some (.ref 0), some (.int x1), some (.int x2), some (.int x3), some (.ref 202), l5], [], (am_SH, I, J, Pf), k, n) P := by
  refine am_s_aload rfl dc358_0.1.1.1 ?_
  refine am_s_iconst am_cc0 dc358_0.1.1.2 ?_
  refine am_s_aload_n rfl dc358_0.1.2.1 ?_
  refine am_s_iload_n rfl dc358_0.1.2.2 ?_
  refine am_s_iload_n rfl dc358_0.2.1.1 ?_
  refine am_s_iload_n rfl dc358_0.2.1.2 ?_
  exact am_s_virtual true dc358_0.2.2.1 rfl (by decide) rfl rfl rfl (q)
theorem v358_a {sc : Option (Nat × (Nat → Int32))} {d k n : Nat} {P : am_O → Prop} {I : am_I} {J : am_J} {Pf : am_R} {x1 : Int32} {x2 : Int32} {x3 : Int32} {l5 : Option Value} {a : Int32} (q : (P (.inl (some (.int 0)), (am_SH, I, am_u J 202 0 (Int32.toInt64 a), Pf), k, n))) : am_go sc d 358 (10, [some (.ref 0), some (.int x1), some (.int x2), some (.int x3), some (.ref 202), l5], [.int a, .int 0, .ref 202], (am_SH, I, J, Pf), k, n) P := by
  refine am_s_i2l dc358_0.2.2.2 ?_
  refine am_s_lastore dc358_1.1.1 rfl (by decide +kernel) am_cN0 ?_
  refine am_s_goto rfl dc358_1.1.2.1 ?_
  refine am_s_iconst am_cc0 dc358_1.2.2.1 ?_
  exact am_s_ireturn dc358_1.2.2.2 rfl (q)
theorem v358_h15 {sc : Option (Nat × (Nat → Int32))} {d k n : Nat} {P : am_O → Prop} {I : am_I} {J : am_J} {Pf : am_R} {x1 : Int32} {x2 : Int32} {x3 : Int32} {l5 : Option Value} (q : (P (.inl (some (.int 1)), (am_SH, I, J, Pf), k, n))) : am_go sc d 358 (15, [some (.ref 0), some (.int x1), some (.int x2), some (.int x3), some (.ref 202), l5], [.retAddr 1], (am_SH, I, J, Pf), k, n) P := by
  refine am_s_astoreT (ls' := [some (.ref 0), some (.int x1), some (.int x2), some (.int x3), some (.ref 202), some (.retAddr 1)]) rfl rfl dc358_1.1.2.2 ?_
  refine am_s_iconst am_cc1 dc358_1.2.1.1 ?_
  exact am_s_ireturn dc358_1.2.1.2 rfl (q)
theorem dc359_0 : (((decode (am_by 359) 0 = .ok (.aload 4, 2)) ∧ (decode (am_by 359) 2 = .ok (.iconst 0, 1))) ∧ ((decode (am_by 359) 3 = .ok (.aload_n 0, 1)) ∧ (decode (am_by 359) 4 = .ok (.iload_n 1, 1)))) ∧ (((decode (am_by 359) 5 = .ok (.iload_n 2, 1)) ∧ (decode (am_by 359) 6 = .ok (.iload_n 3, 1))) ∧ ((decode (am_by 359) 7 = .ok (.invokevirtual 66, 3)) ∧ (decode (am_by 359) 10 = .ok (.i2l, 1)))) := by decide +kernel
theorem dc359_1 : ((decode (am_by 359) 11 = .ok (.lastore, 1)) ∧ ((decode (am_by 359) 12 = .ok (.goto 7, 3)) ∧ (decode (am_by 359) 15 = .ok (.astore 5, 2)))) ∧ (((decode (am_by 359) 17 = .ok (.iconst 1, 1)) ∧ (decode (am_by 359) 18 = .ok (.ireturn, 1))) ∧ ((decode (am_by 359) 19 = .ok (.iconst 0, 1)) ∧ (decode (am_by 359) 20 = .ok (.ireturn, 1)))) := by decide +kernel
theorem v359_0 {sc : Option (Nat × (Nat → Int32))} {d k n : Nat} {P : am_O → Prop} {I : am_I} {J : am_J} {Pf : am_R} {x1 : Int32} {x2 : Int32} {x3 : Int32} {l5 : Option Value} (q : (am_mth d 160 [.ref 0, .int x1, .int x2, .int x3] (am_SH, I, J, Pf) (am_af sc d 359 7 [some (.ref 0), some (.int x1), some (.int x2), some (.int x3), some (.ref 202), l5] [.int x3, .int x2, .int x1, .ref 0, .int 0, .ref 202] [.int 0, .ref 202] (am_SH, I, J, Pf) k n true P))) : am_go sc d 359 (0, [some (.ref 0), some (.int x1), some (.int x2), some (.int x3), some (.ref 202), l5], [], (am_SH, I, J, Pf), k, n) P := by
  refine am_s_aload rfl dc359_0.1.1.1 ?_
  refine am_s_iconst am_cc0 dc359_0.1.1.2 ?_
  refine am_s_aload_n rfl dc359_0.1.2.1 ?_
  refine am_s_iload_n rfl dc359_0.1.2.2 ?_
  refine am_s_iload_n rfl dc359_0.2.1.1 ?_
  refine am_s_iload_n rfl dc359_0.2.1.2 ?_
  exact am_s_virtual true dc359_0.2.2.1 rfl (by decide) rfl rfl rfl (q)
theorem v359_a {sc : Option (Nat × (Nat → Int32))} {d k n : Nat} {P : am_O → Prop} {I : am_I} {J : am_J} {Pf : am_R} {x1 : Int32} {x2 : Int32} {x3 : Int32} {l5 : Option Value} {a : Int32} (q : (P (.inl (some (.int 0)), (am_SH, I, am_u J 202 0 (Int32.toInt64 a), Pf), k, n))) : am_go sc d 359 (10, [some (.ref 0), some (.int x1), some (.int x2), some (.int x3), some (.ref 202), l5], [.int a, .int 0, .ref 202], (am_SH, I, J, Pf), k, n) P := by
  refine am_s_i2l dc359_0.2.2.2 ?_
  refine am_s_lastore dc359_1.1.1 rfl (by decide +kernel) am_cN0 ?_
  refine am_s_goto rfl dc359_1.1.2.1 ?_
  refine am_s_iconst am_cc0 dc359_1.2.2.1 ?_
  exact am_s_ireturn dc359_1.2.2.2 rfl (q)
theorem v359_h15 {sc : Option (Nat × (Nat → Int32))} {d k n : Nat} {P : am_O → Prop} {I : am_I} {J : am_J} {Pf : am_R} {x1 : Int32} {x2 : Int32} {x3 : Int32} {l5 : Option Value} (q : (P (.inl (some (.int 1)), (am_SH, I, J, Pf), k, n))) : am_go sc d 359 (15, [some (.ref 0), some (.int x1), some (.int x2), some (.int x3), some (.ref 202), l5], [.retAddr 1], (am_SH, I, J, Pf), k, n) P := by
  refine am_s_astoreT (ls' := [some (.ref 0), some (.int x1), some (.int x2), some (.int x3), some (.ref 202), some (.retAddr 1)]) rfl rfl dc359_1.1.2.2 ?_
  refine am_s_iconst am_cc1 dc359_1.2.1.1 ?_
  exact am_s_ireturn dc359_1.2.1.2 rfl (q)
theorem dc360_0 : (((decode (am_by 360) 0 = .ok (.aload 4, 2)) ∧ (decode (am_by 360) 2 = .ok (.iconst 0, 1))) ∧ ((decode (am_by 360) 3 = .ok (.aload_n 0, 1)) ∧ (decode (am_by 360) 4 = .ok (.iload_n 1, 1)))) ∧ (((decode (am_by 360) 5 = .ok (.iload_n 2, 1)) ∧ (decode (am_by 360) 6 = .ok (.iload_n 3, 1))) ∧ ((decode (am_by 360) 7 = .ok (.invokevirtual 69, 3)) ∧ (decode (am_by 360) 10 = .ok (.i2l, 1)))) := by decide +kernel
theorem dc360_1 : ((decode (am_by 360) 11 = .ok (.lastore, 1)) ∧ ((decode (am_by 360) 12 = .ok (.goto 7, 3)) ∧ (decode (am_by 360) 15 = .ok (.astore 5, 2)))) ∧ (((decode (am_by 360) 17 = .ok (.iconst 1, 1)) ∧ (decode (am_by 360) 18 = .ok (.ireturn, 1))) ∧ ((decode (am_by 360) 19 = .ok (.iconst 0, 1)) ∧ (decode (am_by 360) 20 = .ok (.ireturn, 1)))) := by decide +kernel
theorem v360_0 {sc : Option (Nat × (Nat → Int32))} {d k n : Nat} {P : am_O → Prop} {I : am_I} {J : am_J} {Pf : am_R} {x1 : Int32} {x2 : Int32} {x3 : Int32} {l5 : Option Value} (q : (am_mth d 161 [.ref 0, .int x1, .int x2, .int x3] (am_SH, I, J, Pf) (am_af sc d 360 7 [some (.ref 0), some (.int x1), some (.int x2), some (.int x3), some (.ref 202), l5] [.int x3, .int x2, .int x1, .ref 0, .int 0, .ref 202] [.int 0, .ref 202] (am_SH, I, J, Pf) k n true P))) : am_go sc d 360 (0, [some (.ref 0), some (.int x1), some (.int x2), some (.int x3), some (.ref 202), l5], [], (am_SH, I, J, Pf), k, n) P := by
  refine am_s_aload rfl dc360_0.1.1.1 ?_
  refine am_s_iconst am_cc0 dc360_0.1.1.2 ?_
  refine am_s_aload_n rfl dc360_0.1.2.1 ?_
  refine am_s_iload_n rfl dc360_0.1.2.2 ?_
  refine am_s_iload_n rfl dc360_0.2.1.1 ?_
  refine am_s_iload_n rfl dc360_0.2.1.2 ?_
  exact am_s_virtual true dc360_0.2.2.1 rfl (by decide) rfl rfl rfl (q)
theorem v360_a {sc : Option (Nat × (Nat → Int32))} {d k n : Nat} {P : am_O → Prop} {I : am_I} {J : am_J} {Pf : am_R} {x1 : Int32} {x2 : Int32} {x3 : Int32} {l5 : Option Value} {a : Int32} (q : (P (.inl (some (.int 0)), (am_SH, I, am_u J 202 0 (Int32.toInt64 a), Pf), k, n))) : am_go sc d 360 (10, [some (.ref 0), some (.int x1), some (.int x2), some (.int x3), some (.ref 202), l5], [.int a, .int 0, .ref 202], (am_SH, I, J, Pf), k, n) P := by
  refine am_s_i2l dc360_0.2.2.2 ?_
  refine am_s_lastore dc360_1.1.1 rfl (by decide +kernel) am_cN0 ?_
  refine am_s_goto rfl dc360_1.1.2.1 ?_
  refine am_s_iconst am_cc0 dc360_1.2.2.1 ?_
  exact am_s_ireturn dc360_1.2.2.2 rfl (q)
theorem v360_h15 {sc : Option (Nat × (Nat → Int32))} {d k n : Nat} {P : am_O → Prop} {I : am_I} {J : am_J} {Pf : am_R} {x1 : Int32} {x2 : Int32} {x3 : Int32} {l5 : Option Value} (q : (P (.inl (some (.int 1)), (am_SH, I, J, Pf), k, n))) : am_go sc d 360 (15, [some (.ref 0), some (.int x1), some (.int x2), some (.int x3), some (.ref 202), l5], [.retAddr 1], (am_SH, I, J, Pf), k, n) P := by
  refine am_s_astoreT (ls' := [some (.ref 0), some (.int x1), some (.int x2), some (.int x3), some (.ref 202), some (.retAddr 1)]) rfl rfl dc360_1.1.2.2 ?_
  refine am_s_iconst am_cc1 dc360_1.2.1.1 ?_
  exact am_s_ireturn dc360_1.2.1.2 rfl (q)
theorem dc361_0 : (((decode (am_by 361) 0 = .ok (.aload_n 2, 1)) ∧ (decode (am_by 361) 1 = .ok (.iconst 0, 1))) ∧ ((decode (am_by 361) 2 = .ok (.aload_n 0, 1)) ∧ (decode (am_by 361) 3 = .ok (.iload_n 1, 1)))) ∧ (((decode (am_by 361) 4 = .ok (.invokevirtual 72, 3)) ∧ (decode (am_by 361) 7 = .ok (.i2l, 1))) ∧ ((decode (am_by 361) 8 = .ok (.lastore, 1)) ∧ (decode (am_by 361) 9 = .ok (.goto 6, 3)))) := by decide +kernel
theorem dc361_1 : ((decode (am_by 361) 12 = .ok (.astore_n 3, 1)) ∧ (decode (am_by 361) 13 = .ok (.iconst 1, 1))) ∧ ((decode (am_by 361) 14 = .ok (.ireturn, 1)) ∧ ((decode (am_by 361) 15 = .ok (.iconst 0, 1)) ∧ (decode (am_by 361) 16 = .ok (.ireturn, 1)))) := by decide +kernel
theorem v361_0 {sc : Option (Nat × (Nat → Int32))} {d k n : Nat} {P : am_O → Prop} {I : am_I} {J : am_J} {Pf : am_R} {x1 : Int32} {l3 : Option Value} (q : (am_mth d 162 [.ref 0, .int x1] (am_SH, I, J, Pf) (am_af sc d 361 4 [some (.ref 0), some (.int x1), some (.ref 202), l3] [.int x1, .ref 0, .int 0, .ref 202] [.int 0, .ref 202] (am_SH, I, J, Pf) k n true P))) : am_go sc d 361 (0, [some (.ref 0), some (.int x1), some (.ref 202), l3], [], (am_SH, I, J, Pf), k, n) P := by
  refine am_s_aload_n rfl dc361_0.1.1.1 ?_
  refine am_s_iconst am_cc0 dc361_0.1.1.2 ?_
  refine am_s_aload_n rfl dc361_0.1.2.1 ?_
  refine am_s_iload_n rfl dc361_0.1.2.2 ?_
  exact am_s_virtual true dc361_0.2.1.1 rfl (by decide) rfl rfl rfl (q)
theorem v361_a {sc : Option (Nat × (Nat → Int32))} {d k n : Nat} {P : am_O → Prop} {I : am_I} {J : am_J} {Pf : am_R} {x1 : Int32} {l3 : Option Value} {a : Int32} (q : (P (.inl (some (.int 0)), (am_SH, I, am_u J 202 0 (Int32.toInt64 a), Pf), k, n))) : am_go sc d 361 (7, [some (.ref 0), some (.int x1), some (.ref 202), l3], [.int a, .int 0, .ref 202], (am_SH, I, J, Pf), k, n) P := by
  refine am_s_i2l dc361_0.2.1.2 ?_
  refine am_s_lastore dc361_0.2.2.1 rfl (by decide +kernel) am_cN0 ?_
  refine am_s_goto rfl dc361_0.2.2.2 ?_
  refine am_s_iconst am_cc0 dc361_1.2.2.1 ?_
  exact am_s_ireturn dc361_1.2.2.2 rfl (q)
theorem v361_h12 {sc : Option (Nat × (Nat → Int32))} {d k n : Nat} {P : am_O → Prop} {I : am_I} {J : am_J} {Pf : am_R} {x1 : Int32} {l3 : Option Value} (q : (P (.inl (some (.int 1)), (am_SH, I, J, Pf), k, n))) : am_go sc d 361 (12, [some (.ref 0), some (.int x1), some (.ref 202), l3], [.retAddr 1], (am_SH, I, J, Pf), k, n) P := by
  refine am_s_astore_nT (ls' := [some (.ref 0), some (.int x1), some (.ref 202), some (.retAddr 1)]) rfl rfl dc361_1.1.1 ?_
  refine am_s_iconst am_cc1 dc361_1.1.2 ?_
  exact am_s_ireturn dc361_1.2.1 rfl (q)
theorem dc362_0 : (((decode (am_by 362) 0 = .ok (.aload_n 2, 1)) ∧ (decode (am_by 362) 1 = .ok (.iconst 0, 1))) ∧ ((decode (am_by 362) 2 = .ok (.aload_n 0, 1)) ∧ (decode (am_by 362) 3 = .ok (.iload_n 1, 1)))) ∧ (((decode (am_by 362) 4 = .ok (.invokevirtual 75, 3)) ∧ (decode (am_by 362) 7 = .ok (.i2l, 1))) ∧ ((decode (am_by 362) 8 = .ok (.lastore, 1)) ∧ (decode (am_by 362) 9 = .ok (.goto 6, 3)))) := by decide +kernel
theorem dc362_1 : ((decode (am_by 362) 12 = .ok (.astore_n 3, 1)) ∧ (decode (am_by 362) 13 = .ok (.iconst 1, 1))) ∧ ((decode (am_by 362) 14 = .ok (.ireturn, 1)) ∧ ((decode (am_by 362) 15 = .ok (.iconst 0, 1)) ∧ (decode (am_by 362) 16 = .ok (.ireturn, 1)))) := by decide +kernel
theorem v362_0 {sc : Option (Nat × (Nat → Int32))} {d k n : Nat} {P : am_O → Prop} {I : am_I} {J : am_J} {Pf : am_R} {x1 : Int32} {l3 : Option Value} (q : (am_mth d 163 [.ref 0, .int x1] (am_SH, I, J, Pf) (am_af sc d 362 4 [some (.ref 0), some (.int x1), some (.ref 202), l3] [.int x1, .ref 0, .int 0, .ref 202] [.int 0, .ref 202] (am_SH, I, J, Pf) k n true P))) : am_go sc d 362 (0, [some (.ref 0), some (.int x1), some (.ref 202), l3], [], (am_SH, I, J, Pf), k, n) P := by
  refine am_s_aload_n rfl dc362_0.1.1.1 ?_
  refine am_s_iconst am_cc0 dc362_0.1.1.2 ?_
  refine am_s_aload_n rfl dc362_0.1.2.1 ?_
  refine am_s_iload_n rfl dc362_0.1.2.2 ?_
  exact am_s_virtual true dc362_0.2.1.1 rfl (by decide) rfl rfl rfl (q)
theorem v362_a {sc : Option (Nat × (Nat → Int32))} {d k n : Nat} {P : am_O → Prop} {I : am_I} {J : am_J} {Pf : am_R} {x1 : Int32} {l3 : Option Value} {a : Int32} (q : (P (.inl (some (.int 0)), (am_SH, I, am_u J 202 0 (Int32.toInt64 a), Pf), k, n))) : am_go sc d 362 (7, [some (.ref 0), some (.int x1), some (.ref 202), l3], [.int a, .int 0, .ref 202], (am_SH, I, J, Pf), k, n) P := by
  refine am_s_i2l dc362_0.2.1.2 ?_
  refine am_s_lastore dc362_0.2.2.1 rfl (by decide +kernel) am_cN0 ?_
  refine am_s_goto rfl dc362_0.2.2.2 ?_
  refine am_s_iconst am_cc0 dc362_1.2.2.1 ?_
  exact am_s_ireturn dc362_1.2.2.2 rfl (q)
theorem v362_h12 {sc : Option (Nat × (Nat → Int32))} {d k n : Nat} {P : am_O → Prop} {I : am_I} {J : am_J} {Pf : am_R} {x1 : Int32} {l3 : Option Value} (q : (P (.inl (some (.int 1)), (am_SH, I, J, Pf), k, n))) : am_go sc d 362 (12, [some (.ref 0), some (.int x1), some (.ref 202), l3], [.retAddr 1], (am_SH, I, J, Pf), k, n) P := by
  refine am_s_astore_nT (ls' := [some (.ref 0), some (.int x1), some (.ref 202), some (.retAddr 1)]) rfl rfl dc362_1.1.1 ?_
  refine am_s_iconst am_cc1 dc362_1.1.2 ?_
  exact am_s_ireturn dc362_1.2.1 rfl (q)
theorem dc363_0 : (((decode (am_by 363) 0 = .ok (.aload 4, 2)) ∧ (decode (am_by 363) 2 = .ok (.iconst 0, 1))) ∧ ((decode (am_by 363) 3 = .ok (.aload_n 0, 1)) ∧ (decode (am_by 363) 4 = .ok (.iload_n 1, 1)))) ∧ (((decode (am_by 363) 5 = .ok (.iload_n 2, 1)) ∧ (decode (am_by 363) 6 = .ok (.iload_n 3, 1))) ∧ ((decode (am_by 363) 7 = .ok (.invokevirtual 78, 3)) ∧ (decode (am_by 363) 10 = .ok (.i2l, 1)))) := by decide +kernel
theorem dc363_1 : ((decode (am_by 363) 11 = .ok (.lastore, 1)) ∧ ((decode (am_by 363) 12 = .ok (.goto 7, 3)) ∧ (decode (am_by 363) 15 = .ok (.astore 5, 2)))) ∧ (((decode (am_by 363) 17 = .ok (.iconst 1, 1)) ∧ (decode (am_by 363) 18 = .ok (.ireturn, 1))) ∧ ((decode (am_by 363) 19 = .ok (.iconst 0, 1)) ∧ (decode (am_by 363) 20 = .ok (.ireturn, 1)))) := by decide +kernel
theorem v363_0 {sc : Option (Nat × (Nat → Int32))} {d k n : Nat} {P : am_O → Prop} {I : am_I} {J : am_J} {Pf : am_R} {x1 : Int32} {x2 : Int32} {x3 : Int32} {l5 : Option Value} (q : (am_mth d 164 [.ref 0, .int x1, .int x2, .int x3] (am_SH, I, J, Pf) (am_af sc d 363 7 [some (.ref 0), some (.int x1), some (.int x2), some (.int x3), some (.ref 202), l5] [.int x3, .int x2, .int x1, .ref 0, .int 0, .ref 202] [.int 0, .ref 202] (am_SH, I, J, Pf) k n true P))) : am_go sc d 363 (0, [some (.ref 0), some (.int x1), some (.int x2), some (.int x3), some (.ref 202), l5], [], (am_SH, I, J, Pf), k, n) P := by
  refine am_s_aload rfl dc363_0.1.1.1 ?_
  refine am_s_iconst am_cc0 dc363_0.1.1.2 ?_
  refine am_s_aload_n rfl dc363_0.1.2.1 ?_
  refine am_s_iload_n rfl dc363_0.1.2.2 ?_
  refine am_s_iload_n rfl dc363_0.2.1.1 ?_
  refine am_s_iload_n rfl dc363_0.2.1.2 ?_
  exact am_s_virtual true dc363_0.2.2.1 rfl (by decide) rfl rfl rfl (q)
theorem v363_a {sc : Option (Nat × (Nat → Int32))} {d k n : Nat} {P : am_O → Prop} {I : am_I} {J : am_J} {Pf : am_R} {x1 : Int32} {x2 : Int32} {x3 : Int32} {l5 : Option Value} {a : Int32} (q : (P (.inl (some (.int 0)), (am_SH, I, am_u J 202 0 (Int32.toInt64 a), Pf), k, n))) : am_go sc d 363 (10, [some (.ref 0), some (.int x1), some (.int x2), some (.int x3), some (.ref 202), l5], [.int a, .int 0, .ref 202], (am_SH, I, J, Pf), k, n) P := by
  refine am_s_i2l dc363_0.2.2.2 ?_
  refine am_s_lastore dc363_1.1.1 rfl (by decide +kernel) am_cN0 ?_
  refine am_s_goto rfl dc363_1.1.2.1 ?_
  refine am_s_iconst am_cc0 dc363_1.2.2.1 ?_
  exact am_s_ireturn dc363_1.2.2.2 rfl (q)
theorem v363_h15 {sc : Option (Nat × (Nat → Int32))} {d k n : Nat} {P : am_O → Prop} {I : am_I} {J : am_J} {Pf : am_R} {x1 : Int32} {x2 : Int32} {x3 : Int32} {l5 : Option Value} (q : (P (.inl (some (.int 1)), (am_SH, I, J, Pf), k, n))) : am_go sc d 363 (15, [some (.ref 0), some (.int x1), some (.int x2), some (.int x3), some (.ref 202), l5], [.retAddr 1], (am_SH, I, J, Pf), k, n) P := by
  refine am_s_astoreT (ls' := [some (.ref 0), some (.int x1), some (.int x2), some (.int x3), some (.ref 202), some (.retAddr 1)]) rfl rfl dc363_1.1.2.2 ?_
  refine am_s_iconst am_cc1 dc363_1.2.1.1 ?_
  exact am_s_ireturn dc363_1.2.1.2 rfl (q)
theorem dc364_0 : (((decode (am_by 364) 0 = .ok (.aload_n 3, 1)) ∧ (decode (am_by 364) 1 = .ok (.iconst 0, 1))) ∧ ((decode (am_by 364) 2 = .ok (.aload_n 0, 1)) ∧ (decode (am_by 364) 3 = .ok (.iload_n 1, 1)))) ∧ (((decode (am_by 364) 4 = .ok (.iload_n 2, 1)) ∧ (decode (am_by 364) 5 = .ok (.invokevirtual 81, 3))) ∧ ((decode (am_by 364) 8 = .ok (.i2l, 1)) ∧ (decode (am_by 364) 9 = .ok (.lastore, 1)))) := by decide +kernel
theorem dc364_1 : ((decode (am_by 364) 10 = .ok (.goto 7, 3)) ∧ ((decode (am_by 364) 13 = .ok (.astore 4, 2)) ∧ (decode (am_by 364) 15 = .ok (.iconst 1, 1)))) ∧ ((decode (am_by 364) 16 = .ok (.ireturn, 1)) ∧ ((decode (am_by 364) 17 = .ok (.iconst 0, 1)) ∧ (decode (am_by 364) 18 = .ok (.ireturn, 1)))) := by decide +kernel
theorem v364_0 {sc : Option (Nat × (Nat → Int32))} {d k n : Nat} {P : am_O → Prop} {I : am_I} {J : am_J} {Pf : am_R} {x1 : Int32} {x2 : Int32} {l4 : Option Value} (q : (am_mth d 165 [.ref 0, .int x1, .int x2] (am_SH, I, J, Pf) (am_af sc d 364 5 [some (.ref 0), some (.int x1), some (.int x2), some (.ref 202), l4] [.int x2, .int x1, .ref 0, .int 0, .ref 202] [.int 0, .ref 202] (am_SH, I, J, Pf) k n true P))) : am_go sc d 364 (0, [some (.ref 0), some (.int x1), some (.int x2), some (.ref 202), l4], [], (am_SH, I, J, Pf), k, n) P := by
  refine am_s_aload_n rfl dc364_0.1.1.1 ?_
  refine am_s_iconst am_cc0 dc364_0.1.1.2 ?_
  refine am_s_aload_n rfl dc364_0.1.2.1 ?_
  refine am_s_iload_n rfl dc364_0.1.2.2 ?_
  refine am_s_iload_n rfl dc364_0.2.1.1 ?_
  exact am_s_virtual true dc364_0.2.1.2 rfl (by decide) rfl rfl rfl (q)
theorem v364_a {sc : Option (Nat × (Nat → Int32))} {d k n : Nat} {P : am_O → Prop} {I : am_I} {J : am_J} {Pf : am_R} {x1 : Int32} {x2 : Int32} {l4 : Option Value} {a : Int32} (q : (P (.inl (some (.int 0)), (am_SH, I, am_u J 202 0 (Int32.toInt64 a), Pf), k, n))) : am_go sc d 364 (8, [some (.ref 0), some (.int x1), some (.int x2), some (.ref 202), l4], [.int a, .int 0, .ref 202], (am_SH, I, J, Pf), k, n) P := by
  refine am_s_i2l dc364_0.2.2.1 ?_
  refine am_s_lastore dc364_0.2.2.2 rfl (by decide +kernel) am_cN0 ?_
  refine am_s_goto rfl dc364_1.1.1 ?_
  refine am_s_iconst am_cc0 dc364_1.2.2.1 ?_
  exact am_s_ireturn dc364_1.2.2.2 rfl (q)
theorem v364_h13 {sc : Option (Nat × (Nat → Int32))} {d k n : Nat} {P : am_O → Prop} {I : am_I} {J : am_J} {Pf : am_R} {x1 : Int32} {x2 : Int32} {l4 : Option Value} (q : (P (.inl (some (.int 1)), (am_SH, I, J, Pf), k, n))) : am_go sc d 364 (13, [some (.ref 0), some (.int x1), some (.int x2), some (.ref 202), l4], [.retAddr 1], (am_SH, I, J, Pf), k, n) P := by
  refine am_s_astoreT (ls' := [some (.ref 0), some (.int x1), some (.int x2), some (.ref 202), some (.retAddr 1)]) rfl rfl dc364_1.1.2.1 ?_
  refine am_s_iconst am_cc1 dc364_1.1.2.2 ?_
  exact am_s_ireturn dc364_1.2.1 rfl (q)
theorem dc365_0 : (((decode (am_by 365) 0 = .ok (.aload 4, 2)) ∧ (decode (am_by 365) 2 = .ok (.iconst 0, 1))) ∧ ((decode (am_by 365) 3 = .ok (.aload_n 0, 1)) ∧ (decode (am_by 365) 4 = .ok (.iload_n 1, 1)))) ∧ (((decode (am_by 365) 5 = .ok (.iload_n 2, 1)) ∧ (decode (am_by 365) 6 = .ok (.iload_n 3, 1))) ∧ ((decode (am_by 365) 7 = .ok (.invokevirtual 84, 3)) ∧ (decode (am_by 365) 10 = .ok (.i2l, 1)))) := by decide +kernel
theorem dc365_1 : (((decode (am_by 365) 11 = .ok (.lastore, 1)) ∧ (decode (am_by 365) 12 = .ok (.goto 11, 3))) ∧ ((decode (am_by 365) 15 = .ok (.astore 5, 2)) ∧ (decode (am_by 365) 17 = .ok (.iconst 1, 1)))) ∧ (((decode (am_by 365) 18 = .ok (.ireturn, 1)) ∧ (decode (am_by 365) 19 = .ok (.astore 5, 2))) ∧ ((decode (am_by 365) 21 = .ok (.iconst 2, 1)) ∧ (decode (am_by 365) 22 = .ok (.ireturn, 1)))) := by decide +kernel
theorem dc365_2 : (decode (am_by 365) 23 = .ok (.iconst 0, 1)) ∧ (decode (am_by 365) 24 = .ok (.ireturn, 1)) := by decide +kernel
theorem v365_0 {sc : Option (Nat × (Nat → Int32))} {d k n : Nat} {P : am_O → Prop} {I : am_I} {J : am_J} {Pf : am_R} {x1 : Int32} {x2 : Int32} {x3 : Int32} {l5 : Option Value} (q : (am_mth d 166 [.ref 0, .int x1, .int x2, .int x3] (am_SH, I, J, Pf) (am_af sc d 365 7 [some (.ref 0), some (.int x1), some (.int x2), some (.int x3), some (.ref 202), l5] [.int x3, .int x2, .int x1, .ref 0, .int 0, .ref 202] [.int 0, .ref 202] (am_SH, I, J, Pf) k n true P))) : am_go sc d 365 (0, [some (.ref 0), some (.int x1), some (.int x2), some (.int x3), some (.ref 202), l5], [], (am_SH, I, J, Pf), k, n) P := by
  refine am_s_aload rfl dc365_0.1.1.1 ?_
  refine am_s_iconst am_cc0 dc365_0.1.1.2 ?_
  refine am_s_aload_n rfl dc365_0.1.2.1 ?_
  refine am_s_iload_n rfl dc365_0.1.2.2 ?_
  refine am_s_iload_n rfl dc365_0.2.1.1 ?_
  refine am_s_iload_n rfl dc365_0.2.1.2 ?_
  exact am_s_virtual true dc365_0.2.2.1 rfl (by decide) rfl rfl rfl (q)
theorem v365_a {sc : Option (Nat × (Nat → Int32))} {d k n : Nat} {P : am_O → Prop} {I : am_I} {J : am_J} {Pf : am_R} {x1 : Int32} {x2 : Int32} {x3 : Int32} {l5 : Option Value} {a : Int32} (q : (P (.inl (some (.int 0)), (am_SH, I, am_u J 202 0 (Int32.toInt64 a), Pf), k, n))) : am_go sc d 365 (10, [some (.ref 0), some (.int x1), some (.int x2), some (.int x3), some (.ref 202), l5], [.int a, .int 0, .ref 202], (am_SH, I, J, Pf), k, n) P := by
  refine am_s_i2l dc365_0.2.2.2 ?_
  refine am_s_lastore dc365_1.1.1.1 rfl (by decide +kernel) am_cN0 ?_
  refine am_s_goto rfl dc365_1.1.1.2 ?_
  refine am_s_iconst am_cc0 dc365_2.1 ?_
  exact am_s_ireturn dc365_2.2 rfl (q)
theorem v365_h15 {sc : Option (Nat × (Nat → Int32))} {d k n : Nat} {P : am_O → Prop} {I : am_I} {J : am_J} {Pf : am_R} {x1 : Int32} {x2 : Int32} {x3 : Int32} {l5 : Option Value} (q : (P (.inl (some (.int 1)), (am_SH, I, J, Pf), k, n))) : am_go sc d 365 (15, [some (.ref 0), some (.int x1), some (.int x2), some (.int x3), some (.ref 202), l5], [.retAddr 1], (am_SH, I, J, Pf), k, n) P := by
  refine am_s_astoreT (ls' := [some (.ref 0), some (.int x1), some (.int x2), some (.int x3), some (.ref 202), some (.retAddr 1)]) rfl rfl dc365_1.1.2.1 ?_
  refine am_s_iconst am_cc1 dc365_1.1.2.2 ?_
  exact am_s_ireturn dc365_1.2.1.1 rfl (q)
theorem v365_h19 {sc : Option (Nat × (Nat → Int32))} {d k n : Nat} {P : am_O → Prop} {I : am_I} {J : am_J} {Pf : am_R} {x1 : Int32} {x2 : Int32} {x3 : Int32} {l5 : Option Value} (q : (P (.inl (some (.int 2)), (am_SH, I, J, Pf), k, n))) : am_go sc d 365 (19, [some (.ref 0), some (.int x1), some (.int x2), some (.int x3), some (.ref 202), l5], [.retAddr 1], (am_SH, I, J, Pf), k, n) P := by
  refine am_s_astoreT (ls' := [some (.ref 0), some (.int x1), some (.int x2), some (.int x3), some (.ref 202), some (.retAddr 1)]) rfl rfl dc365_1.2.1.2 ?_
  refine am_s_iconst am_cc2 dc365_1.2.2.1 ?_
  exact am_s_ireturn dc365_1.2.2.2 rfl (q)
theorem dc366_0 : (((decode (am_by 366) 0 = .ok (.aload 4, 2)) ∧ (decode (am_by 366) 2 = .ok (.iconst 0, 1))) ∧ ((decode (am_by 366) 3 = .ok (.aload_n 0, 1)) ∧ (decode (am_by 366) 4 = .ok (.iload_n 1, 1)))) ∧ (((decode (am_by 366) 5 = .ok (.iload_n 2, 1)) ∧ (decode (am_by 366) 6 = .ok (.iload_n 3, 1))) ∧ ((decode (am_by 366) 7 = .ok (.invokevirtual 87, 3)) ∧ (decode (am_by 366) 10 = .ok (.i2l, 1)))) := by decide +kernel
theorem dc366_1 : (((decode (am_by 366) 11 = .ok (.lastore, 1)) ∧ (decode (am_by 366) 12 = .ok (.goto 11, 3))) ∧ ((decode (am_by 366) 15 = .ok (.astore 5, 2)) ∧ (decode (am_by 366) 17 = .ok (.iconst 1, 1)))) ∧ (((decode (am_by 366) 18 = .ok (.ireturn, 1)) ∧ (decode (am_by 366) 19 = .ok (.astore 5, 2))) ∧ ((decode (am_by 366) 21 = .ok (.iconst 2, 1)) ∧ (decode (am_by 366) 22 = .ok (.ireturn, 1)))) := by decide +kernel
theorem dc366_2 : (decode (am_by 366) 23 = .ok (.iconst 0, 1)) ∧ (decode (am_by 366) 24 = .ok (.ireturn, 1)) := by decide +kernel
theorem v366_0 {sc : Option (Nat × (Nat → Int32))} {d k n : Nat} {P : am_O → Prop} {I : am_I} {J : am_J} {Pf : am_R} {x1 : Int32} {x2 : Int32} {x3 : Int32} {l5 : Option Value} (q : (am_mth d 167 [.ref 0, .int x1, .int x2, .int x3] (am_SH, I, J, Pf) (am_af sc d 366 7 [some (.ref 0), some (.int x1), some (.int x2), some (.int x3), some (.ref 202), l5] [.int x3, .int x2, .int x1, .ref 0, .int 0, .ref 202] [.int 0, .ref 202] (am_SH, I, J, Pf) k n true P))) : am_go sc d 366 (0, [some (.ref 0), some (.int x1), some (.int x2), some (.int x3), some (.ref 202), l5], [], (am_SH, I, J, Pf), k, n) P := by
  refine am_s_aload rfl dc366_0.1.1.1 ?_
  refine am_s_iconst am_cc0 dc366_0.1.1.2 ?_
  refine am_s_aload_n rfl dc366_0.1.2.1 ?_
  refine am_s_iload_n rfl dc366_0.1.2.2 ?_
  refine am_s_iload_n rfl dc366_0.2.1.1 ?_
  refine am_s_iload_n rfl dc366_0.2.1.2 ?_
  exact am_s_virtual true dc366_0.2.2.1 rfl (by decide) rfl rfl rfl (q)
theorem v366_a {sc : Option (Nat × (Nat → Int32))} {d k n : Nat} {P : am_O → Prop} {I : am_I} {J : am_J} {Pf : am_R} {x1 : Int32} {x2 : Int32} {x3 : Int32} {l5 : Option Value} {a : Int32} (q : (P (.inl (some (.int 0)), (am_SH, I, am_u J 202 0 (Int32.toInt64 a), Pf), k, n))) : am_go sc d 366 (10, [some (.ref 0), some (.int x1), some (.int x2), some (.int x3), some (.ref 202), l5], [.int a, .int 0, .ref 202], (am_SH, I, J, Pf), k, n) P := by
  refine am_s_i2l dc366_0.2.2.2 ?_
  refine am_s_lastore dc366_1.1.1.1 rfl (by decide +kernel) am_cN0 ?_
  refine am_s_goto rfl dc366_1.1.1.2 ?_
  refine am_s_iconst am_cc0 dc366_2.1 ?_
  exact am_s_ireturn dc366_2.2 rfl (q)
theorem v366_h15 {sc : Option (Nat × (Nat → Int32))} {d k n : Nat} {P : am_O → Prop} {I : am_I} {J : am_J} {Pf : am_R} {x1 : Int32} {x2 : Int32} {x3 : Int32} {l5 : Option Value} (q : (P (.inl (some (.int 1)), (am_SH, I, J, Pf), k, n))) : am_go sc d 366 (15, [some (.ref 0), some (.int x1), some (.int x2), some (.int x3), some (.ref 202), l5], [.retAddr 1], (am_SH, I, J, Pf), k, n) P := by
  refine am_s_astoreT (ls' := [some (.ref 0), some (.int x1), some (.int x2), some (.int x3), some (.ref 202), some (.retAddr 1)]) rfl rfl dc366_1.1.2.1 ?_
  refine am_s_iconst am_cc1 dc366_1.1.2.2 ?_
  exact am_s_ireturn dc366_1.2.1.1 rfl (q)
theorem v366_h19 {sc : Option (Nat × (Nat → Int32))} {d k n : Nat} {P : am_O → Prop} {I : am_I} {J : am_J} {Pf : am_R} {x1 : Int32} {x2 : Int32} {x3 : Int32} {l5 : Option Value} (q : (P (.inl (some (.int 2)), (am_SH, I, J, Pf), k, n))) : am_go sc d 366 (19, [some (.ref 0), some (.int x1), some (.int x2), some (.int x3), some (.ref 202), l5], [.retAddr 1], (am_SH, I, J, Pf), k, n) P := by
  refine am_s_astoreT (ls' := [some (.ref 0), some (.int x1), some (.int x2), some (.int x3), some (.ref 202), some (.retAddr 1)]) rfl rfl dc366_1.2.1.2 ?_
  refine am_s_iconst am_cc2 dc366_1.2.2.1 ?_
  exact am_s_ireturn dc366_1.2.2.2 rfl (q)
theorem dc367_0 : (((decode (am_by 367) 0 = .ok (.aload_n 2, 1)) ∧ (decode (am_by 367) 1 = .ok (.iconst 0, 1))) ∧ ((decode (am_by 367) 2 = .ok (.aload_n 0, 1)) ∧ (decode (am_by 367) 3 = .ok (.iload_n 1, 1)))) ∧ (((decode (am_by 367) 4 = .ok (.invokevirtual 90, 3)) ∧ (decode (am_by 367) 7 = .ok (.i2l, 1))) ∧ ((decode (am_by 367) 8 = .ok (.lastore, 1)) ∧ (decode (am_by 367) 9 = .ok (.goto 6, 3)))) := by decide +kernel
theorem dc367_1 : ((decode (am_by 367) 12 = .ok (.astore_n 3, 1)) ∧ (decode (am_by 367) 13 = .ok (.iconst 1, 1))) ∧ ((decode (am_by 367) 14 = .ok (.ireturn, 1)) ∧ ((decode (am_by 367) 15 = .ok (.iconst 0, 1)) ∧ (decode (am_by 367) 16 = .ok (.ireturn, 1)))) := by decide +kernel
theorem v367_0 {sc : Option (Nat × (Nat → Int32))} {d k n : Nat} {P : am_O → Prop} {I : am_I} {J : am_J} {Pf : am_R} {x1 : Int32} {l3 : Option Value} (q : (am_mth d 168 [.ref 0, .int x1] (am_SH, I, J, Pf) (am_af sc d 367 4 [some (.ref 0), some (.int x1), some (.ref 202), l3] [.int x1, .ref 0, .int 0, .ref 202] [.int 0, .ref 202] (am_SH, I, J, Pf) k n true P))) : am_go sc d 367 (0, [some (.ref 0), some (.int x1), some (.ref 202), l3], [], (am_SH, I, J, Pf), k, n) P := by
  refine am_s_aload_n rfl dc367_0.1.1.1 ?_
  refine am_s_iconst am_cc0 dc367_0.1.1.2 ?_
  refine am_s_aload_n rfl dc367_0.1.2.1 ?_
  refine am_s_iload_n rfl dc367_0.1.2.2 ?_
  exact am_s_virtual true dc367_0.2.1.1 rfl (by decide) rfl rfl rfl (q)
theorem v367_a {sc : Option (Nat × (Nat → Int32))} {d k n : Nat} {P : am_O → Prop} {I : am_I} {J : am_J} {Pf : am_R} {x1 : Int32} {l3 : Option Value} {a : Int32} (q : (P (.inl (some (.int 0)), (am_SH, I, am_u J 202 0 (Int32.toInt64 a), Pf), k, n))) : am_go sc d 367 (7, [some (.ref 0), some (.int x1), some (.ref 202), l3], [.int a, .int 0, .ref 202], (am_SH, I, J, Pf), k, n) P := by
  refine am_s_i2l dc367_0.2.1.2 ?_
  refine am_s_lastore dc367_0.2.2.1 rfl (by decide +kernel) am_cN0 ?_
  refine am_s_goto rfl dc367_0.2.2.2 ?_
  refine am_s_iconst am_cc0 dc367_1.2.2.1 ?_
  exact am_s_ireturn dc367_1.2.2.2 rfl (q)
theorem v367_h12 {sc : Option (Nat × (Nat → Int32))} {d k n : Nat} {P : am_O → Prop} {I : am_I} {J : am_J} {Pf : am_R} {x1 : Int32} {l3 : Option Value} (q : (P (.inl (some (.int 1)), (am_SH, I, J, Pf), k, n))) : am_go sc d 367 (12, [some (.ref 0), some (.int x1), some (.ref 202), l3], [.retAddr 1], (am_SH, I, J, Pf), k, n) P := by
  refine am_s_astore_nT (ls' := [some (.ref 0), some (.int x1), some (.ref 202), some (.retAddr 1)]) rfl rfl dc367_1.1.1 ?_
  refine am_s_iconst am_cc1 dc367_1.1.2 ?_
  exact am_s_ireturn dc367_1.2.1 rfl (q)
theorem dc368_0 : (((decode (am_by 368) 0 = .ok (.aload 4, 2)) ∧ (decode (am_by 368) 2 = .ok (.iconst 0, 1))) ∧ ((decode (am_by 368) 3 = .ok (.aload_n 0, 1)) ∧ (decode (am_by 368) 4 = .ok (.iload_n 1, 1)))) ∧ (((decode (am_by 368) 5 = .ok (.iload_n 2, 1)) ∧ (decode (am_by 368) 6 = .ok (.iload_n 3, 1))) ∧ ((decode (am_by 368) 7 = .ok (.invokevirtual 93, 3)) ∧ (decode (am_by 368) 10 = .ok (.i2l, 1)))) := by decide +kernel
theorem dc368_1 : ((decode (am_by 368) 11 = .ok (.lastore, 1)) ∧ ((decode (am_by 368) 12 = .ok (.goto 7, 3)) ∧ (decode (am_by 368) 15 = .ok (.astore 5, 2)))) ∧ (((decode (am_by 368) 17 = .ok (.iconst 1, 1)) ∧ (decode (am_by 368) 18 = .ok (.ireturn, 1))) ∧ ((decode (am_by 368) 19 = .ok (.iconst 0, 1)) ∧ (decode (am_by 368) 20 = .ok (.ireturn, 1)))) := by decide +kernel
theorem v368_0 {sc : Option (Nat × (Nat → Int32))} {d k n : Nat} {P : am_O → Prop} {I : am_I} {J : am_J} {Pf : am_R} {x1 : Int32} {x2 : Int32} {x3 : Int32} {l5 : Option Value} (q : (am_mth d 169 [.ref 0, .int x1, .int x2, .int x3] (am_SH, I, J, Pf) (am_af sc d 368 7 [some (.ref 0), some (.int x1), some (.int x2), some (.int x3), some (.ref 202), l5] [.int x3, .int x2, .int x1, .ref 0, .int 0, .ref 202] [.int 0, .ref 202] (am_SH, I, J, Pf) k n true P))) : am_go sc d 368 (0, [some (.ref 0), some (.int x1), some (.int x2), some (.int x3), some (.ref 202), l5], [], (am_SH, I, J, Pf), k, n) P := by
  refine am_s_aload rfl dc368_0.1.1.1 ?_
  refine am_s_iconst am_cc0 dc368_0.1.1.2 ?_
  refine am_s_aload_n rfl dc368_0.1.2.1 ?_
  refine am_s_iload_n rfl dc368_0.1.2.2 ?_
  refine am_s_iload_n rfl dc368_0.2.1.1 ?_
  refine am_s_iload_n rfl dc368_0.2.1.2 ?_
  exact am_s_virtual true dc368_0.2.2.1 rfl (by decide) rfl rfl rfl (q)
theorem v368_a {sc : Option (Nat × (Nat → Int32))} {d k n : Nat} {P : am_O → Prop} {I : am_I} {J : am_J} {Pf : am_R} {x1 : Int32} {x2 : Int32} {x3 : Int32} {l5 : Option Value} {a : Int32} (q : (P (.inl (some (.int 0)), (am_SH, I, am_u J 202 0 (Int32.toInt64 a), Pf), k, n))) : am_go sc d 368 (10, [some (.ref 0), some (.int x1), some (.int x2), some (.int x3), some (.ref 202), l5], [.int a, .int 0, .ref 202], (am_SH, I, J, Pf), k, n) P := by
  refine am_s_i2l dc368_0.2.2.2 ?_
  refine am_s_lastore dc368_1.1.1 rfl (by decide +kernel) am_cN0 ?_
  refine am_s_goto rfl dc368_1.1.2.1 ?_
  refine am_s_iconst am_cc0 dc368_1.2.2.1 ?_
  exact am_s_ireturn dc368_1.2.2.2 rfl (q)
theorem v368_h15 {sc : Option (Nat × (Nat → Int32))} {d k n : Nat} {P : am_O → Prop} {I : am_I} {J : am_J} {Pf : am_R} {x1 : Int32} {x2 : Int32} {x3 : Int32} {l5 : Option Value} (q : (P (.inl (some (.int 1)), (am_SH, I, J, Pf), k, n))) : am_go sc d 368 (15, [some (.ref 0), some (.int x1), some (.int x2), some (.int x3), some (.ref 202), l5], [.retAddr 1], (am_SH, I, J, Pf), k, n) P := by
  refine am_s_astoreT (ls' := [some (.ref 0), some (.int x1), some (.int x2), some (.int x3), some (.ref 202), some (.retAddr 1)]) rfl rfl dc368_1.1.2.2 ?_
  refine am_s_iconst am_cc1 dc368_1.2.1.1 ?_
  exact am_s_ireturn dc368_1.2.1.2 rfl (q)
theorem dc369_0 : (((decode (am_by 369) 0 = .ok (.aload 6, 2)) ∧ (decode (am_by 369) 2 = .ok (.iconst 0, 1))) ∧ ((decode (am_by 369) 3 = .ok (.aload_n 0, 1)) ∧ (decode (am_by 369) 4 = .ok (.iload_n 1, 1)))) ∧ (((decode (am_by 369) 5 = .ok (.iload_n 2, 1)) ∧ (decode (am_by 369) 6 = .ok (.iload_n 3, 1))) ∧ ((decode (am_by 369) 7 = .ok (.iload 4, 2)) ∧ (decode (am_by 369) 9 = .ok (.iload 5, 2)))) := by decide +kernel
theorem dc369_1 : (((decode (am_by 369) 11 = .ok (.invokevirtual 96, 3)) ∧ (decode (am_by 369) 14 = .ok (.i2l, 1))) ∧ ((decode (am_by 369) 15 = .ok (.lastore, 1)) ∧ (decode (am_by 369) 16 = .ok (.goto 7, 3)))) ∧ (((decode (am_by 369) 19 = .ok (.astore 7, 2)) ∧ (decode (am_by 369) 21 = .ok (.iconst 1, 1))) ∧ ((decode (am_by 369) 22 = .ok (.ireturn, 1)) ∧ (decode (am_by 369) 23 = .ok (.iconst 0, 1)))) := by decide +kernel
theorem dc369_2 : decode (am_by 369) 24 = .ok (.ireturn, 1) := by decide +kernel
theorem v369_0 {sc : Option (Nat × (Nat → Int32))} {d k n : Nat} {P : am_O → Prop} {I : am_I} {J : am_J} {Pf : am_R} {x1 : Int32} {x2 : Int32} {x3 : Int32} {x4 : Int32} {x5 : Int32} {l7 : Option Value} (q : (am_mth d 170 [.ref 0, .int x1, .int x2, .int x3, .int x4, .int x5] (am_SH, I, J, Pf) (am_af sc d 369 11 [some (.ref 0), some (.int x1), some (.int x2), some (.int x3), some (.int x4), some (.int x5), some (.ref 202), l7] [.int x5, .int x4, .int x3, .int x2, .int x1, .ref 0, .int 0, .ref 202] [.int 0, .ref 202] (am_SH, I, J, Pf) k n true P))) : am_go sc d 369 (0, [some (.ref 0), some (.int x1), some (.int x2), some (.int x3), some (.int x4), some (.int x5), some (.ref 202), l7], [], (am_SH, I, J, Pf), k, n) P := by
  refine am_s_aload rfl dc369_0.1.1.1 ?_
  refine am_s_iconst am_cc0 dc369_0.1.1.2 ?_
  refine am_s_aload_n rfl dc369_0.1.2.1 ?_
  refine am_s_iload_n rfl dc369_0.1.2.2 ?_
  refine am_s_iload_n rfl dc369_0.2.1.1 ?_
  refine am_s_iload_n rfl dc369_0.2.1.2 ?_
  refine am_s_iload rfl dc369_0.2.2.1 ?_
  refine am_s_iload rfl dc369_0.2.2.2 ?_
  exact am_s_virtual true dc369_1.1.1.1 rfl (by decide) rfl rfl rfl (q)
theorem v369_a {sc : Option (Nat × (Nat → Int32))} {d k n : Nat} {P : am_O → Prop} {I : am_I} {J : am_J} {Pf : am_R} {x1 : Int32} {x2 : Int32} {x3 : Int32} {x4 : Int32} {x5 : Int32} {l7 : Option Value} {a : Int32} (q : (P (.inl (some (.int 0)), (am_SH, I, am_u J 202 0 (Int32.toInt64 a), Pf), k, n))) : am_go sc d 369 (14, [some (.ref 0), some (.int x1), some (.int x2), some (.int x3), some (.int x4), some (.int x5), some (.ref 202), l7], [.int a, .int 0, .ref 202], (am_SH, I, J, Pf), k, n) P := by
  refine am_s_i2l dc369_1.1.1.2 ?_
  refine am_s_lastore dc369_1.1.2.1 rfl (by decide +kernel) am_cN0 ?_
  refine am_s_goto rfl dc369_1.1.2.2 ?_
  refine am_s_iconst am_cc0 dc369_1.2.2.2 ?_
  exact am_s_ireturn dc369_2 rfl (q)
theorem v369_h19 {sc : Option (Nat × (Nat → Int32))} {d k n : Nat} {P : am_O → Prop} {I : am_I} {J : am_J} {Pf : am_R} {x1 : Int32} {x2 : Int32} {x3 : Int32} {x4 : Int32} {x5 : Int32} {l7 : Option Value} (q : (P (.inl (some (.int 1)), (am_SH, I, J, Pf), k, n))) : am_go sc d 369 (19, [some (.ref 0), some (.int x1), some (.int x2), some (.int x3), some (.int x4), some (.int x5), some (.ref 202), l7], [.retAddr 1], (am_SH, I, J, Pf), k, n) P := by
  refine am_s_astoreT (ls' := [some (.ref 0), some (.int x1), some (.int x2), some (.int x3), some (.int x4), some (.int x5), some (.ref 202), some (.retAddr 1)]) rfl rfl dc369_1.2.1.1 ?_
  refine am_s_iconst am_cc1 dc369_1.2.1.2 ?_
  exact am_s_ireturn dc369_1.2.2.1 rfl (q)
