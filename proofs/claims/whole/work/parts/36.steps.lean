/-! Walks: steps -/
-- readAll (LPrunedParses$Reader;)Z
theorem dc100_0 : (((decode (am_by 100) 0 = .ok (.aload_n 0, 1)) ∧ (decode (am_by 100) 1 = .ok (.aload_n 1, 1))) ∧ ((decode (am_by 100) 2 = .ok (.putfield 27, 3)) ∧ (decode (am_by 100) 5 = .ok (.aload_n 0, 1)))) ∧ (((decode (am_by 100) 6 = .ok (.iconst 0, 1)) ∧ (decode (am_by 100) 7 = .ok (.putfield 31, 3))) ∧ ((decode (am_by 100) 10 = .ok (.aload_n 0, 1)) ∧ (decode (am_by 100) 11 = .ok (.iconst 0, 1)))) := by decide +kernel
theorem dc100_1 : (((decode (am_by 100) 12 = .ok (.putfield 35, 3)) ∧ (decode (am_by 100) 15 = .ok (.aload_n 0, 1))) ∧ ((decode (am_by 100) 16 = .ok (.iconst 0, 1)) ∧ (decode (am_by 100) 17 = .ok (.invokevirtual 38, 3)))) ∧ (((decode (am_by 100) 20 = .ok (.ifCond .eq 17, 3)) ∧ (decode (am_by 100) 23 = .ok (.aload_n 0, 1))) ∧ ((decode (am_by 100) 24 = .ok (.getfield 27, 3)) ∧ (decode (am_by 100) 27 = .ok (.invokevirtual 42, 3)))) := by decide +kernel
theorem dc100_2 : ((decode (am_by 100) 30 = .ok (.ifCond .eq 7, 3)) ∧ (decode (am_by 100) 33 = .ok (.iconst 1, 1))) ∧ ((decode (am_by 100) 34 = .ok (.goto 4, 3)) ∧ ((decode (am_by 100) 37 = .ok (.iconst 0, 1)) ∧ (decode (am_by 100) 38 = .ok (.ireturn, 1)))) := by decide +kernel
theorem t100_0 {sc : Option (Nat × (Nat → Int32))} {d k n : Nat} {P : am_O → Prop} {I : am_I} {J : am_J} {Pf : am_R} (hp : am_PF Pf)  (q1 : am_mth d 101 [.ref 102, .int 0] (am_SH, am_u (am_u I 102 4 0) 102 7 0, J, am_u Pf 102 6 (some 1)) (am_af sc d 100 17 [some (.ref 102), some (.ref 1)] [.int 0, .ref 102] [] (am_SH, am_u (am_u I 102 4 0) 102 7 0, J, am_u Pf 102 6 (some 1)) k n true P)) : am_go sc d 100 (0, [some (.ref 102), some (.ref 1)], [], (am_SH, I, J, Pf), k, n) P := by
  refine am_s_aload_n rfl dc100_0.1.1.1 ?_
  refine am_s_aload_n rfl dc100_0.1.1.2 ?_
  refine am_s_putR dc100_0.1.2.1 rfl rfl rfl rfl (am_bltc rfl) ?_
  refine am_s_aload_n rfl dc100_0.1.2.2 ?_
  refine am_s_iconst am_cc0 dc100_0.2.1.1 ?_
  refine am_s_putI dc100_0.2.1.2 rfl rfl rfl rfl ?_
  refine am_s_aload_n rfl dc100_0.2.2.1 ?_
  refine am_s_iconst am_cc0 dc100_0.2.2.2 ?_
  refine am_s_putI dc100_1.1.1.1 rfl rfl rfl rfl ?_
  refine am_s_aload_n rfl dc100_1.1.1.2 ?_
  refine am_s_iconst am_cc0 dc100_1.1.2.1 ?_
  exact am_s_virtual true dc100_1.1.2.2 rfl (by decide) rfl rfl rfl (q1)
theorem t100_20 {sc : Option (Nat × (Nat → Int32))} {d k n : Nat} {P : am_O → Prop} {I : am_I} {J : am_J} {Pf : am_R} (hp : am_PF Pf) {l1 : Option Value} {s0 : Int32} (q1 : (s0 = 0) → P (.inl (some (.int 0)), (am_SH, I, J, Pf), k, n)) (q2 : (¬ (s0 = 0)) → Pf 102 6 = some 1) (q3 : (¬ (s0 = 0)) → am_mth d 57 [.ref 1] (am_SH, I, J, Pf) (am_af sc d 100 27 [some (.ref 102), l1] [.ref 1] [] (am_SH, I, J, Pf) k n false P)) : am_go sc d 100 (20, [some (.ref 102), l1], [.int s0], (am_SH, I, J, Pf), k, n) P := by
  refine am_s_if_eq dc100_1.2.1.1 rfl (fun c1 => ?_) (fun c1 => ?_)
  · refine am_s_iconst am_cc0 dc100_2.2.2.1 ?_
    exact am_s_zreturn dc100_2.2.2.2 rfl (by decide) (q1 c1)
  · refine am_s_aload_n rfl dc100_1.2.1.2 ?_
    refine am_s_getR (r := 1) dc100_1.2.2.1 rfl rfl rfl (q2 c1) ?_
    exact am_s_virtual false dc100_1.2.2.2 rfl (by decide) rfl rfl rfl (q3 c1)
theorem t100_30 {sc : Option (Nat × (Nat → Int32))} {d k n : Nat} {P : am_O → Prop} {I : am_I} {J : am_J} {Pf : am_R} (hp : am_PF Pf) {l0 : Option Value} {l1 : Option Value} {s0 : Int32} (q1 : (s0 = 0) → P (.inl (some (.int 0)), (am_SH, I, J, Pf), k, n)) (q2 : (¬ (s0 = 0)) → P (.inl (some (.int 1)), (am_SH, I, J, Pf), k, n)) : am_go sc d 100 (30, [l0, l1], [.int s0], (am_SH, I, J, Pf), k, n) P := by
  refine am_s_if_eq dc100_2.1.1 rfl (fun c1 => ?_) (fun c1 => ?_)
  · refine am_s_iconst am_cc0 dc100_2.2.2.1 ?_
    exact am_s_zreturn dc100_2.2.2.2 rfl (by decide) (q1 c1)
  · refine am_s_iconst am_cc1 dc100_2.1.2 ?_
    refine am_s_goto rfl dc100_2.2.1 ?_
    exact am_s_zreturn dc100_2.2.2.2 rfl (by decide) (q2 c1)
-- readList (I)Z
theorem dc101_0 : (((decode (am_by 101) 0 = .ok (.iconst 0, 1)) ∧ (decode (am_by 101) 1 = .ok (.istore_n 2, 1))) ∧ ((decode (am_by 101) 2 = .ok (.iload_n 2, 1)) ∧ (decode (am_by 101) 3 = .ok (.sipush 150, 3)))) ∧ (((decode (am_by 101) 6 = .ok (.if_icmp .ge 66, 3)) ∧ (decode (am_by 101) 9 = .ok (.aload_n 0, 1))) ∧ ((decode (am_by 101) 10 = .ok (.getfield 27, 3)) ∧ (decode (am_by 101) 13 = .ok (.invokevirtual 48, 3)))) := by decide +kernel
theorem dc101_1 : (((decode (am_by 101) 16 = .ok (.istore_n 3, 1)) ∧ (decode (am_by 101) 17 = .ok (.iload_n 3, 1))) ∧ ((decode (am_by 101) 18 = .ok (.iconst (-1), 1)) ∧ (decode (am_by 101) 19 = .ok (.if_icmp .eq 9, 3)))) ∧ (((decode (am_by 101) 22 = .ok (.iload_n 3, 1)) ∧ (decode (am_by 101) 23 = .ok (.bipush 93, 2))) ∧ ((decode (am_by 101) 25 = .ok (.if_icmp .ne 5, 3)) ∧ (decode (am_by 101) 28 = .ok (.iconst 1, 1)))) := by decide +kernel
theorem dc101_2 : (((decode (am_by 101) 29 = .ok (.ireturn, 1)) ∧ (decode (am_by 101) 30 = .ok (.aload_n 0, 1))) ∧ ((decode (am_by 101) 31 = .ok (.iload_n 1, 1)) ∧ (decode (am_by 101) 32 = .ok (.invokevirtual 52, 3)))) ∧ (((decode (am_by 101) 35 = .ok (.ifCond .eq 15, 3)) ∧ (decode (am_by 101) 38 = .ok (.aload_n 0, 1))) ∧ ((decode (am_by 101) 39 = .ok (.getfield 27, 3)) ∧ (decode (am_by 101) 42 = .ok (.bipush 59, 2)))) := by decide +kernel
theorem dc101_3 : (((decode (am_by 101) 44 = .ok (.invokevirtual 55, 3)) ∧ (decode (am_by 101) 47 = .ok (.ifCond .ne 5, 3))) ∧ ((decode (am_by 101) 50 = .ok (.iconst 0, 1)) ∧ (decode (am_by 101) 51 = .ok (.ireturn, 1)))) ∧ (((decode (am_by 101) 52 = .ok (.iload_n 1, 1)) ∧ (decode (am_by 101) 53 = .ok (.ifCond .ne 13, 3))) ∧ ((decode (am_by 101) 56 = .ok (.aload_n 0, 1)) ∧ (decode (am_by 101) 57 = .ok (.dup, 1)))) := by decide +kernel
theorem dc101_4 : (((decode (am_by 101) 58 = .ok (.getfield 35, 3)) ∧ (decode (am_by 101) 61 = .ok (.iconst 1, 1))) ∧ ((decode (am_by 101) 62 = .ok (.iadd, 1)) ∧ (decode (am_by 101) 63 = .ok (.putfield 35, 3)))) ∧ (((decode (am_by 101) 66 = .ok (.iinc 2 1, 3)) ∧ (decode (am_by 101) 69 = .ok (.goto (-67), 3))) ∧ ((decode (am_by 101) 72 = .ok (.iconst 1, 1)) ∧ (decode (am_by 101) 73 = .ok (.ireturn, 1)))) := by decide +kernel
theorem t101_0 {sc : Option (Nat × (Nat → Int32))} {d k n : Nat} {P : am_O → Prop} {I : am_I} {J : am_J} {Pf : am_R} (hp : am_PF Pf) {x1 : Int32} {l2 : Option Value} {l3 : Option Value} (q1 : am_go sc d 101 (2, [some (.ref 102), some (.int x1), some (.int 0), l3], [], (am_SH, I, J, Pf), k, n) P) : am_go sc d 101 (0, [some (.ref 102), some (.int x1), l2, l3], [], (am_SH, I, J, Pf), k, n) P := by
  refine am_s_iconst am_cc0 dc101_0.1.1.1 ?_
  refine am_s_istore_n (ls' := [some (.ref 102), some (.int x1), some (.int 0), l3]) rfl rfl dc101_0.1.1.2 ?_
  exact q1
theorem t101_2 {sc : Option (Nat × (Nat → Int32))} {d k n : Nat} {P : am_O → Prop} {I : am_I} {J : am_J} {Pf : am_R} (hp : am_PF Pf) {x1 : Int32} {x2 : Int32} {l3 : Option Value} (q1 : (150 ≤ x2) → P (.inl (some (.int 1)), (am_SH, I, J, Pf), k, n)) (q2 : (¬ (150 ≤ x2)) → Pf 102 6 = some 1) (q3 : (¬ (150 ≤ x2)) → am_mth d 55 [.ref 1] (am_SH, I, J, Pf) (am_af sc d 101 13 [some (.ref 102), some (.int x1), some (.int x2), l3] [.ref 1] [] (am_SH, I, J, Pf) k n false P)) : am_go sc d 101 (2, [some (.ref 102), some (.int x1), some (.int x2), l3], [], (am_SH, I, J, Pf), k, n) P := by
  refine am_s_iload_n rfl dc101_0.1.2.1 ?_
  refine am_s_sipush am_cs150 dc101_0.1.2.2 ?_
  refine am_s_ic_ge dc101_0.2.1.1 rfl (fun c1 => ?_) (fun c1 => ?_)
  · refine am_s_iconst am_cc1 dc101_4.2.2.1 ?_
    exact am_s_zreturn dc101_4.2.2.2 rfl (by decide) (q1 c1)
  · refine am_s_aload_n rfl dc101_0.2.1.2 ?_
    refine am_s_getR (r := 1) dc101_0.2.2.1 rfl rfl rfl (q2 c1) ?_
    exact am_s_virtual false dc101_0.2.2.2 rfl (by decide) rfl rfl rfl (q3 c1)
theorem t101_16 {sc : Option (Nat × (Nat → Int32))} {d k n : Nat} {P : am_O → Prop} {I : am_I} {J : am_J} {Pf : am_R} (hp : am_PF Pf) {x1 : Int32} {x2 : Int32} {l3 : Option Value} {s0 : Int32} (q1 : (s0 = (-1)) → P (.inl (some (.int 1)), (am_SH, I, J, Pf), k, n)) (q2 : (¬ (s0 = (-1))) → (¬ s0 = 93) → am_mth d 102 [.ref 102, .int x1] (am_SH, I, J, Pf) (am_af sc d 101 32 [some (.ref 102), some (.int x1), some (.int x2), some (.int s0)] [.int x1, .ref 102] [] (am_SH, I, J, Pf) k n true P)) (q3 : (¬ (s0 = (-1))) → (¬ (¬ s0 = 93)) → P (.inl (some (.int 1)), (am_SH, I, J, Pf), k, n)) : am_go sc d 101 (16, [some (.ref 102), some (.int x1), some (.int x2), l3], [.int s0], (am_SH, I, J, Pf), k, n) P := by
  refine am_s_istore_n (ls' := [some (.ref 102), some (.int x1), some (.int x2), some (.int s0)]) rfl rfl dc101_1.1.1.1 ?_
  refine am_s_iload_n rfl dc101_1.1.1.2 ?_
  refine am_s_iconst am_ccm1 dc101_1.1.2.1 ?_
  refine am_s_ic_eq dc101_1.1.2.2 rfl (fun c1 => ?_) (fun c1 => ?_)
  · refine am_s_iconst am_cc1 dc101_1.2.2.2 ?_
    exact am_s_zreturn dc101_2.1.1.1 rfl (by decide) (q1 c1)
  · refine am_s_iload_n rfl dc101_1.2.1.1 ?_
    refine am_s_bipush am_cb93 dc101_1.2.1.2 ?_
    refine am_s_ic_ne dc101_1.2.2.1 rfl (fun c2 => ?_) (fun c2 => ?_)
    · refine am_s_aload_n rfl dc101_2.1.1.2 ?_
      refine am_s_iload_n rfl dc101_2.1.2.1 ?_
      exact am_s_virtual true dc101_2.1.2.2 rfl (by decide) rfl rfl rfl (q2 c1 c2)
    · refine am_s_iconst am_cc1 dc101_1.2.2.2 ?_
      exact am_s_zreturn dc101_2.1.1.1 rfl (by decide) (q3 c1 c2)
theorem t101_35 {sc : Option (Nat × (Nat → Int32))} {d k n : Nat} {P : am_O → Prop} {I : am_I} {J : am_J} {Pf : am_R} (hp : am_PF Pf) {x1 : Int32} {x2 : Int32} {l3 : Option Value} {s0 : Int32} (q1 : (s0 = 0) → P (.inl (some (.int 0)), (am_SH, I, J, Pf), k, n)) (q2 : (¬ (s0 = 0)) → Pf 102 6 = some 1) (q3 : (¬ (s0 = 0)) → am_mth d 56 [.ref 1, .int 59] (am_SH, I, J, Pf) (am_af sc d 101 44 [some (.ref 102), some (.int x1), some (.int x2), l3] [.int 59, .ref 1] [] (am_SH, I, J, Pf) k n false P)) : am_go sc d 101 (35, [some (.ref 102), some (.int x1), some (.int x2), l3], [.int s0], (am_SH, I, J, Pf), k, n) P := by
  refine am_s_if_eq dc101_2.2.1.1 rfl (fun c1 => ?_) (fun c1 => ?_)
  · refine am_s_iconst am_cc0 dc101_3.1.2.1 ?_
    exact am_s_zreturn dc101_3.1.2.2 rfl (by decide) (q1 c1)
  · refine am_s_aload_n rfl dc101_2.2.1.2 ?_
    refine am_s_getR (r := 1) dc101_2.2.2.1 rfl rfl rfl (q2 c1) ?_
    refine am_s_bipush am_cb59 dc101_2.2.2.2 ?_
    exact am_s_virtual false dc101_3.1.1.1 rfl (by decide) rfl rfl rfl (q3 c1)
theorem t101_47 {sc : Option (Nat × (Nat → Int32))} {d k n : Nat} {P : am_O → Prop} {I : am_I} {J : am_J} {Pf : am_R} (hp : am_PF Pf) {x1 : Int32} {x2 : Int32} {l3 : Option Value} {s0 : Int32} (q1 : (¬ s0 = 0) → (¬ x1 = 0) → am_go sc d 101 (2, [some (.ref 102), some (.int x1), some (.int (x2 + 1)), l3], [], (am_SH, I, J, Pf), k, n) P) (q2 : (¬ s0 = 0) → (¬ (¬ x1 = 0)) → am_go sc d 101 (2, [some (.ref 102), some (.int x1), some (.int (x2 + 1)), l3], [], (am_SH, am_u I 102 7 ((I 102 7) + 1), J, Pf), k, n) P) (q3 : (¬ (¬ s0 = 0)) → P (.inl (some (.int 0)), (am_SH, I, J, Pf), k, n)) : am_go sc d 101 (47, [some (.ref 102), some (.int x1), some (.int x2), l3], [.int s0], (am_SH, I, J, Pf), k, n) P := by
  refine am_s_if_ne dc101_3.1.1.2 rfl (fun c1 => ?_) (fun c1 => ?_)
  · refine am_s_iload_n rfl dc101_3.2.1.1 ?_
    refine am_s_if_ne dc101_3.2.1.2 rfl (fun c2 => ?_) (fun c2 => ?_)
    · refine am_s_iinc (ls' := [some (.ref 102), some (.int x1), some (.int (x2 + 1)), l3]) am_cc1 rfl rfl dc101_4.2.1.1 ?_
      refine am_s_goto rfl dc101_4.2.1.2 ?_
      exact q1 c1 c2
    · refine am_s_aload_n rfl dc101_3.2.2.1 ?_
      refine am_s_dup rfl dc101_3.2.2.2 ?_
      refine am_x_getI (x := I 102 7) dc101_4.1.1.1 rfl rfl (Or.inl rfl) rfl ?_
      refine am_s_iconst am_cc1 dc101_4.1.1.2 ?_
      refine am_s_iadd dc101_4.1.2.1 ?_
      refine am_s_putI dc101_4.1.2.2 rfl rfl rfl rfl ?_
      refine am_s_iinc (ls' := [some (.ref 102), some (.int x1), some (.int (x2 + 1)), l3]) am_cc1 rfl rfl dc101_4.2.1.1 ?_
      refine am_s_goto rfl dc101_4.2.1.2 ?_
      exact q2 c1 c2
  · refine am_s_iconst am_cc0 dc101_3.1.2.1 ?_
    exact am_s_zreturn dc101_3.1.2.2 rfl (by decide) (q3 c1)
-- readStep (I)Z
theorem dc102_0 : (((decode (am_by 102) 0 = .ok (.aload_n 0, 1)) ∧ (decode (am_by 102) 1 = .ok (.getfield 27, 3))) ∧ ((decode (am_by 102) 4 = .ok (.invokevirtual 58, 3)) ∧ (decode (am_by 102) 7 = .ok (.ifCond .ne 5, 3)))) ∧ (((decode (am_by 102) 10 = .ok (.iconst 0, 1)) ∧ (decode (am_by 102) 11 = .ok (.ireturn, 1))) ∧ ((decode (am_by 102) 12 = .ok (.aload_n 0, 1)) ∧ (decode (am_by 102) 13 = .ok (.invokevirtual 61, 3)))) := by decide +kernel
theorem dc102_1 : (((decode (am_by 102) 16 = .ok (.istore_n 2, 1)) ∧ (decode (am_by 102) 17 = .ok (.iload_n 2, 1))) ∧ ((decode (am_by 102) 18 = .ok (.ifCond .eq 15, 3)) ∧ (decode (am_by 102) 21 = .ok (.aload_n 0, 1)))) ∧ (((decode (am_by 102) 22 = .ok (.getfield 31, 3)) ∧ (decode (am_by 102) 25 = .ok (.iconst 1, 1))) ∧ ((decode (am_by 102) 26 = .ok (.iadd, 1)) ∧ (decode (am_by 102) 27 = .ok (.sipush 150, 3)))) := by decide +kernel
theorem dc102_2 : (((decode (am_by 102) 30 = .ok (.if_icmp .lt 19, 3)) ∧ (decode (am_by 102) 33 = .ok (.aload_n 0, 1))) ∧ ((decode (am_by 102) 34 = .ok (.getfield 27, 3)) ∧ (decode (am_by 102) 37 = .ok (.iconst 1, 1)))) ∧ (((decode (am_by 102) 38 = .ok (.aload_n 0, 1)) ∧ (decode (am_by 102) 39 = .ok (.getfield 27, 3))) ∧ ((decode (am_by 102) 42 = .ok (.getfield 64, 3)) ∧ (decode (am_by 102) 45 = .ok (.invokevirtual 67, 3)))) := by decide +kernel
theorem dc102_3 : (((decode (am_by 102) 48 = .ok (.ireturn, 1)) ∧ (decode (am_by 102) 49 = .ok (.iload_n 2, 1))) ∧ ((decode (am_by 102) 50 = .ok (.iconst 4, 1)) ∧ (decode (am_by 102) 51 = .ok (.if_icmp .ne 9, 3)))) ∧ (((decode (am_by 102) 54 = .ok (.aload_n 0, 1)) ∧ (decode (am_by 102) 55 = .ok (.iload_n 1, 1))) ∧ ((decode (am_by 102) 56 = .ok (.invokevirtual 71, 3)) ∧ (decode (am_by 102) 59 = .ok (.ireturn, 1)))) := by decide +kernel
theorem dc102_4 : (((decode (am_by 102) 60 = .ok (.aload_n 0, 1)) ∧ (decode (am_by 102) 61 = .ok (.getfield 27, 3))) ∧ ((decode (am_by 102) 64 = .ok (.bipush 24, 2)) ∧ (decode (am_by 102) 66 = .ok (.invokevirtual 74, 3)))) ∧ (((decode (am_by 102) 69 = .ok (.istore_n 3, 1)) ∧ (decode (am_by 102) 70 = .ok (.iload_n 3, 1))) ∧ ((decode (am_by 102) 71 = .ok (.iconst (-1), 1)) ∧ (decode (am_by 102) 72 = .ok (.if_icmp .ne 5, 3)))) := by decide +kernel
theorem dc102_5 : (((decode (am_by 102) 75 = .ok (.iconst 0, 1)) ∧ (decode (am_by 102) 76 = .ok (.ireturn, 1))) ∧ ((decode (am_by 102) 77 = .ok (.iload_n 2, 1)) ∧ (decode (am_by 102) 78 = .ok (.iconst 1, 1)))) ∧ (((decode (am_by 102) 79 = .ok (.if_icmp .ne 24, 3)) ∧ (decode (am_by 102) 82 = .ok (.aload_n 0, 1))) ∧ ((decode (am_by 102) 83 = .ok (.getfield 27, 3)) ∧ (decode (am_by 102) 86 = .ok (.aload_n 0, 1)))) := by decide +kernel
theorem dc102_6 : (((decode (am_by 102) 87 = .ok (.getfield 21, 3)) ∧ (decode (am_by 102) 90 = .ok (.aload_n 0, 1))) ∧ ((decode (am_by 102) 91 = .ok (.getfield 31, 3)) ∧ (decode (am_by 102) 94 = .ok (.bipush 8, 2)))) ∧ (((decode (am_by 102) 96 = .ok (.imul, 1)) ∧ (decode (am_by 102) 97 = .ok (.invokevirtual 78, 3))) ∧ ((decode (am_by 102) 100 = .ok (.goto 12, 3)) ∧ (decode (am_by 102) 103 = .ok (.aload_n 0, 1)))) := by decide +kernel
theorem dc102_7 : (((decode (am_by 102) 104 = .ok (.getfield 27, 3)) ∧ (decode (am_by 102) 107 = .ok (.bipush 24, 2))) ∧ ((decode (am_by 102) 109 = .ok (.invokevirtual 74, 3)) ∧ (decode (am_by 102) 112 = .ok (.istore 4, 2)))) ∧ (((decode (am_by 102) 114 = .ok (.iload 4, 2)) ∧ (decode (am_by 102) 116 = .ok (.iconst (-1), 1))) ∧ ((decode (am_by 102) 117 = .ok (.if_icmp .ne 5, 3)) ∧ (decode (am_by 102) 120 = .ok (.iconst 0, 1)))) := by decide +kernel
theorem dc102_8 : (((decode (am_by 102) 121 = .ok (.ireturn, 1)) ∧ (decode (am_by 102) 122 = .ok (.aload_n 0, 1))) ∧ ((decode (am_by 102) 123 = .ok (.iload_n 2, 1)) ∧ (decode (am_by 102) 124 = .ok (.iload_n 3, 1)))) ∧ (((decode (am_by 102) 125 = .ok (.iload 4, 2)) ∧ (decode (am_by 102) 127 = .ok (.invokevirtual 82, 3))) ∧ ((decode (am_by 102) 130 = .ok (.iconst 1, 1)) ∧ (decode (am_by 102) 131 = .ok (.ireturn, 1)))) := by decide +kernel
theorem t102_0 {sc : Option (Nat × (Nat → Int32))} {d k n : Nat} {P : am_O → Prop} {I : am_I} {J : am_J} {Pf : am_R} (hp : am_PF Pf) {x1 : Int32} {l2 : Option Value} {l3 : Option Value} {l4 : Option Value} (q1 : Pf 102 6 = some 1) (q2 : am_mth d 59 [.ref 1] (am_SH, I, J, Pf) (am_af sc d 102 4 [some (.ref 102), some (.int x1), l2, l3, l4] [.ref 1] [] (am_SH, I, J, Pf) k n false P)) : am_go sc d 102 (0, [some (.ref 102), some (.int x1), l2, l3, l4], [], (am_SH, I, J, Pf), k, n) P := by
  refine am_s_aload_n rfl dc102_0.1.1.1 ?_
  refine am_s_getR (r := 1) dc102_0.1.1.2 rfl rfl rfl (q1) ?_
  exact am_s_virtual false dc102_0.1.2.1 rfl (by decide) rfl rfl rfl (q2)
theorem t102_33 {sc : Option (Nat × (Nat → Int32))} {d k n : Nat} {P : am_O → Prop} {I : am_I} {J : am_J} {Pf : am_R} (hp : am_PF Pf) {l1 : Option Value} {l2 : Option Value} {l3 : Option Value} {l4 : Option Value} (q1 : Pf 102 6 = some 1) (q2 : Pf 102 6 = some 1) (q3 : am_mth d 53 [.ref 1, .int 1, .int (I 1 7)] (am_SH, I, J, Pf) (am_af sc d 102 45 [some (.ref 102), l1, l2, l3, l4] [.int (I 1 7), .int 1, .ref 1] [] (am_SH, I, J, Pf) k n false P)) : am_go sc d 102 (33, [some (.ref 102), l1, l2, l3, l4], [], (am_SH, I, J, Pf), k, n) P := by
  refine am_s_aload_n rfl dc102_2.1.1.2 ?_
  refine am_s_getR (r := 1) dc102_2.1.2.1 rfl rfl rfl (q1) ?_
  refine am_s_iconst am_cc1 dc102_2.1.2.2 ?_
  refine am_s_aload_n rfl dc102_2.2.1.1 ?_
  refine am_s_getR (r := 1) dc102_2.2.1.2 rfl rfl rfl (q2) ?_
  refine am_x_getI (x := I 1 7) dc102_2.2.2.1 rfl rfl (Or.inl rfl) rfl ?_
  exact am_s_virtual false dc102_2.2.2.2 rfl (by decide) rfl rfl rfl (q3)
theorem t102_7 {sc : Option (Nat × (Nat → Int32))} {d k n : Nat} {P : am_O → Prop} {I : am_I} {J : am_J} {Pf : am_R} (hp : am_PF Pf) {x1 : Int32} {l2 : Option Value} {l3 : Option Value} {l4 : Option Value} {s0 : Int32} (q1 : (¬ s0 = 0) → am_mth d 103 [.ref 102] (am_SH, I, J, Pf) (am_af sc d 102 13 [some (.ref 102), some (.int x1), l2, l3, l4] [.ref 102] [] (am_SH, I, J, Pf) k n true P)) (q2 : (¬ (¬ s0 = 0)) → P (.inl (some (.int 0)), (am_SH, I, J, Pf), k, n)) : am_go sc d 102 (7, [some (.ref 102), some (.int x1), l2, l3, l4], [.int s0], (am_SH, I, J, Pf), k, n) P := by
  refine am_s_if_ne dc102_0.1.2.2 rfl (fun c1 => ?_) (fun c1 => ?_)
  · refine am_s_aload_n rfl dc102_0.2.2.1 ?_
    exact am_s_virtual true dc102_0.2.2.2 rfl (by decide) rfl rfl rfl (q1 c1)
  · refine am_s_iconst am_cc0 dc102_0.2.1.1 ?_
    exact am_s_zreturn dc102_0.2.1.2 rfl (by decide) (q2 c1)
theorem t102_48 {sc : Option (Nat × (Nat → Int32))} {d k n : Nat} {P : am_O → Prop} {I : am_I} {J : am_J} {Pf : am_R} (hp : am_PF Pf) {l0 : Option Value} {l1 : Option Value} {l2 : Option Value} {l3 : Option Value} {l4 : Option Value} {s0 : Int32} (q1 : P (.inl (some (.int s0)), (am_SH, I, J, Pf), k, n)) (q2 : s0 = 0 ∨ s0 = 1) : am_go sc d 102 (48, [l0, l1, l2, l3, l4], [.int s0], (am_SH, I, J, Pf), k, n) P := by
  exact am_s_zreturn dc102_3.1.1.1 rfl (q2) (q1)
theorem t102_16 {sc : Option (Nat × (Nat → Int32))} {d k n : Nat} {P : am_O → Prop} {I : am_I} {J : am_J} {Pf : am_R} (hp : am_PF Pf) {x1 : Int32} {l2 : Option Value} {l3 : Option Value} {l4 : Option Value} {s0 : Int32} (q1 : (s0 = 0) → am_go sc d 102 (33, [some (.ref 102), some (.int x1), some (.int s0), l3, l4], [], (am_SH, I, J, Pf), k, n) P) (q2 : (¬ (s0 = 0)) → (((I 102 4) + 1) < 150) → (¬ s0 = 4) → Pf 102 6 = some 1) (q3 : (¬ (s0 = 0)) → (((I 102 4) + 1) < 150) → (¬ s0 = 4) → am_mth d 58 [.ref 1, .int 24] (am_SH, I, J, Pf) (am_af sc d 102 66 [some (.ref 102), some (.int x1), some (.int s0), l3, l4] [.int 24, .ref 1] [] (am_SH, I, J, Pf) k n false P)) (q4 : (¬ (s0 = 0)) → (((I 102 4) + 1) < 150) → (¬ (¬ s0 = 4)) → am_mth d 104 [.ref 102, .int x1] (am_SH, I, J, Pf) (am_af sc d 102 56 [some (.ref 102), some (.int x1), some (.int s0), l3, l4] [.int x1, .ref 102] [] (am_SH, I, J, Pf) k n true P)) (q5 : (¬ (s0 = 0)) → (¬ (((I 102 4) + 1) < 150)) → am_go sc d 102 (33, [some (.ref 102), some (.int x1), some (.int s0), l3, l4], [], (am_SH, I, J, Pf), k, n) P) : am_go sc d 102 (16, [some (.ref 102), some (.int x1), l2, l3, l4], [.int s0], (am_SH, I, J, Pf), k, n) P := by
  refine am_s_istore_n (ls' := [some (.ref 102), some (.int x1), some (.int s0), l3, l4]) rfl rfl dc102_1.1.1.1 ?_
  refine am_s_iload_n rfl dc102_1.1.1.2 ?_
  refine am_s_if_eq dc102_1.1.2.1 rfl (fun c1 => ?_) (fun c1 => ?_)
  · exact q1 c1
  · refine am_s_aload_n rfl dc102_1.1.2.2 ?_
    refine am_x_getI (x := I 102 4) dc102_1.2.1.1 rfl rfl (Or.inl rfl) rfl ?_
    refine am_s_iconst am_cc1 dc102_1.2.1.2 ?_
    refine am_s_iadd dc102_1.2.2.1 ?_
    refine am_s_sipush am_cs150 dc102_1.2.2.2 ?_
    refine am_s_ic_lt dc102_2.1.1.1 rfl (fun c2 => ?_) (fun c2 => ?_)
    · refine am_s_iload_n rfl dc102_3.1.1.2 ?_
      refine am_s_iconst am_cc4 dc102_3.1.2.1 ?_
      refine am_s_ic_ne dc102_3.1.2.2 rfl (fun c3 => ?_) (fun c3 => ?_)
      · refine am_s_aload_n rfl dc102_4.1.1.1 ?_
        refine am_s_getR (r := 1) dc102_4.1.1.2 rfl rfl rfl (q2 c1 c2 c3) ?_
        refine am_s_bipush am_cb24 dc102_4.1.2.1 ?_
        exact am_s_virtual false dc102_4.1.2.2 rfl (by decide) rfl rfl rfl (q3 c1 c2 c3)
      · refine am_s_aload_n rfl dc102_3.2.1.1 ?_
        refine am_s_iload_n rfl dc102_3.2.1.2 ?_
        exact am_s_virtual true dc102_3.2.2.1 rfl (by decide) rfl rfl rfl (q4 c1 c2 c3)
    · exact q5 c1 c2
theorem t102_59 {sc : Option (Nat × (Nat → Int32))} {d k n : Nat} {P : am_O → Prop} {I : am_I} {J : am_J} {Pf : am_R} (hp : am_PF Pf) {l0 : Option Value} {l1 : Option Value} {l2 : Option Value} {l3 : Option Value} {l4 : Option Value} {s0 : Int32} (q1 : P (.inl (some (.int s0)), (am_SH, I, J, Pf), k, n)) (q2 : s0 = 0 ∨ s0 = 1) : am_go sc d 102 (59, [l0, l1, l2, l3, l4], [.int s0], (am_SH, I, J, Pf), k, n) P := by
  exact am_s_zreturn dc102_3.2.2.2 rfl (q2) (q1)
theorem t102_69 {sc : Option (Nat × (Nat → Int32))} {d k n : Nat} {P : am_O → Prop} {I : am_I} {J : am_J} {Pf : am_R} (hp : am_PF Pf) {l1 : Option Value} {x2 : Int32} {l3 : Option Value} {l4 : Option Value} {s0 : Int32} (q1 : (¬ s0 = (-1)) → (¬ x2 = 1) → Pf 102 6 = some 1) (q2 : (¬ s0 = (-1)) → (¬ x2 = 1) → am_mth d 58 [.ref 1, .int 24] (am_SH, I, J, Pf) (am_af sc d 102 109 [some (.ref 102), l1, some (.int x2), some (.int s0), l4] [.int 24, .ref 1] [] (am_SH, I, J, Pf) k n false P)) (q3 : (¬ s0 = (-1)) → (¬ (¬ x2 = 1)) → Pf 102 6 = some 1) (q4 : (¬ s0 = (-1)) → (¬ (¬ x2 = 1)) → am_mth d 65 [.ref 1, .ref 106, .int ((I 102 4) * 8)] (am_SH, I, J, Pf) (am_af sc d 102 97 [some (.ref 102), l1, some (.int x2), some (.int s0), l4] [.int ((I 102 4) * 8), .ref 106, .ref 1] [] (am_SH, I, J, Pf) k n false P)) (q5 : (¬ (¬ s0 = (-1))) → P (.inl (some (.int 0)), (am_SH, I, J, Pf), k, n)) : am_go sc d 102 (69, [some (.ref 102), l1, some (.int x2), l3, l4], [.int s0], (am_SH, I, J, Pf), k, n) P := by
  refine am_s_istore_n (ls' := [some (.ref 102), l1, some (.int x2), some (.int s0), l4]) rfl rfl dc102_4.2.1.1 ?_
  refine am_s_iload_n rfl dc102_4.2.1.2 ?_
  refine am_s_iconst am_ccm1 dc102_4.2.2.1 ?_
  refine am_s_ic_ne dc102_4.2.2.2 rfl (fun c1 => ?_) (fun c1 => ?_)
  · refine am_s_iload_n rfl dc102_5.1.2.1 ?_
    refine am_s_iconst am_cc1 dc102_5.1.2.2 ?_
    refine am_s_ic_ne dc102_5.2.1.1 rfl (fun c2 => ?_) (fun c2 => ?_)
    · refine am_s_aload_n rfl dc102_6.2.2.2 ?_
      refine am_s_getR (r := 1) dc102_7.1.1.1 rfl rfl rfl (q1 c1 c2) ?_
      refine am_s_bipush am_cb24 dc102_7.1.1.2 ?_
      exact am_s_virtual false dc102_7.1.2.1 rfl (by decide) rfl rfl rfl (q2 c1 c2)
    · refine am_s_aload_n rfl dc102_5.2.1.2 ?_
      refine am_s_getR (r := 1) dc102_5.2.2.1 rfl rfl rfl (q3 c1 c2) ?_
      refine am_s_aload_n rfl dc102_5.2.2.2 ?_
      refine am_s_getR (r := 106) dc102_6.1.1.1 rfl rfl rfl (hp _ _ _ rfl) ?_
      refine am_s_aload_n rfl dc102_6.1.1.2 ?_
      refine am_x_getI (x := I 102 4) dc102_6.1.2.1 rfl rfl (Or.inl rfl) rfl ?_
      refine am_s_bipush am_cb8 dc102_6.1.2.2 ?_
      refine am_s_imul dc102_6.2.1.1 ?_
      exact am_s_virtual false dc102_6.2.1.2 rfl (by decide) rfl rfl rfl (q4 c1 c2)
  · refine am_s_iconst am_cc0 dc102_5.1.1.1 ?_
    exact am_s_zreturn dc102_5.1.1.2 rfl (by decide) (q5 c1)
theorem t102_100 {sc : Option (Nat × (Nat → Int32))} {d k n : Nat} {P : am_O → Prop} {I : am_I} {J : am_J} {Pf : am_R} (hp : am_PF Pf) {l1 : Option Value} {x2 : Int32} {x3 : Int32} {l4 : Option Value} {s0 : Int32} (q1 : (¬ s0 = (-1)) → am_mth d 105 [.ref 102, .int x2, .int x3, .int s0] (am_SH, I, J, Pf) (am_af sc d 102 127 [some (.ref 102), l1, some (.int x2), some (.int x3), some (.int s0)] [.int s0, .int x3, .int x2, .ref 102] [] (am_SH, I, J, Pf) k n true P)) (q2 : (¬ (¬ s0 = (-1))) → P (.inl (some (.int 0)), (am_SH, I, J, Pf), k, n)) : am_go sc d 102 (100, [some (.ref 102), l1, some (.int x2), some (.int x3), l4], [.int s0], (am_SH, I, J, Pf), k, n) P := by
  refine am_s_goto rfl dc102_6.2.2.1 ?_
  refine am_s_istore (ls' := [some (.ref 102), l1, some (.int x2), some (.int x3), some (.int s0)]) rfl rfl dc102_7.1.2.2 ?_
  refine am_s_iload rfl dc102_7.2.1.1 ?_
  refine am_s_iconst am_ccm1 dc102_7.2.1.2 ?_
  refine am_s_ic_ne dc102_7.2.2.1 rfl (fun c1 => ?_) (fun c1 => ?_)
  · refine am_s_aload_n rfl dc102_8.1.1.2 ?_
    refine am_s_iload_n rfl dc102_8.1.2.1 ?_
    refine am_s_iload_n rfl dc102_8.1.2.2 ?_
    refine am_s_iload rfl dc102_8.2.1.1 ?_
    exact am_s_virtual true dc102_8.2.1.2 rfl (by decide) rfl rfl rfl (q1 c1)
  · refine am_s_iconst am_cc0 dc102_7.2.2.2 ?_
    exact am_s_zreturn dc102_8.1.1.1 rfl (by decide) (q2 c1)
theorem t102_112 {sc : Option (Nat × (Nat → Int32))} {d k n : Nat} {P : am_O → Prop} {I : am_I} {J : am_J} {Pf : am_R} (hp : am_PF Pf) {l1 : Option Value} {x2 : Int32} {x3 : Int32} {l4 : Option Value} {s0 : Int32} (q1 : (¬ s0 = (-1)) → am_mth d 105 [.ref 102, .int x2, .int x3, .int s0] (am_SH, I, J, Pf) (am_af sc d 102 127 [some (.ref 102), l1, some (.int x2), some (.int x3), some (.int s0)] [.int s0, .int x3, .int x2, .ref 102] [] (am_SH, I, J, Pf) k n true P)) (q2 : (¬ (¬ s0 = (-1))) → P (.inl (some (.int 0)), (am_SH, I, J, Pf), k, n)) : am_go sc d 102 (112, [some (.ref 102), l1, some (.int x2), some (.int x3), l4], [.int s0], (am_SH, I, J, Pf), k, n) P := by
  refine am_s_istore (ls' := [some (.ref 102), l1, some (.int x2), some (.int x3), some (.int s0)]) rfl rfl dc102_7.1.2.2 ?_
  refine am_s_iload rfl dc102_7.2.1.1 ?_
  refine am_s_iconst am_ccm1 dc102_7.2.1.2 ?_
  refine am_s_ic_ne dc102_7.2.2.1 rfl (fun c1 => ?_) (fun c1 => ?_)
  · refine am_s_aload_n rfl dc102_8.1.1.2 ?_
    refine am_s_iload_n rfl dc102_8.1.2.1 ?_
    refine am_s_iload_n rfl dc102_8.1.2.2 ?_
    refine am_s_iload rfl dc102_8.2.1.1 ?_
    exact am_s_virtual true dc102_8.2.1.2 rfl (by decide) rfl rfl rfl (q1 c1)
  · refine am_s_iconst am_cc0 dc102_7.2.2.2 ?_
    exact am_s_zreturn dc102_8.1.1.1 rfl (by decide) (q2 c1)
theorem t102_130 {sc : Option (Nat × (Nat → Int32))} {d k n : Nat} {P : am_O → Prop} {I : am_I} {J : am_J} {Pf : am_R} (hp : am_PF Pf) {l0 : Option Value} {l1 : Option Value} {l2 : Option Value} {l3 : Option Value} {l4 : Option Value} (q1 : P (.inl (some (.int 1)), (am_SH, I, J, Pf), k, n)) : am_go sc d 102 (130, [l0, l1, l2, l3, l4], [], (am_SH, I, J, Pf), k, n) P := by
  refine am_s_iconst am_cc1 dc102_8.2.2.1 ?_
  exact am_s_zreturn dc102_8.2.2.2 rfl (by decide) (q1)
-- kindOfStep ()I
theorem dc103_0 : (((decode (am_by 103) 0 = .ok (.aload_n 0, 1)) ∧ (decode (am_by 103) 1 = .ok (.getfield 27, 3))) ∧ ((decode (am_by 103) 4 = .ok (.ldc 86, 2)) ∧ (decode (am_by 103) 6 = .ok (.invokevirtual 88, 3)))) ∧ (((decode (am_by 103) 9 = .ok (.ifCond .eq 5, 3)) ∧ (decode (am_by 103) 12 = .ok (.iconst 1, 1))) ∧ ((decode (am_by 103) 13 = .ok (.ireturn, 1)) ∧ (decode (am_by 103) 14 = .ok (.aload_n 0, 1)))) := by decide +kernel
theorem dc103_1 : (((decode (am_by 103) 15 = .ok (.getfield 27, 3)) ∧ (decode (am_by 103) 18 = .ok (.ldc 92, 2))) ∧ ((decode (am_by 103) 20 = .ok (.invokevirtual 88, 3)) ∧ (decode (am_by 103) 23 = .ok (.ifCond .eq 5, 3)))) ∧ (((decode (am_by 103) 26 = .ok (.iconst 2, 1)) ∧ (decode (am_by 103) 27 = .ok (.ireturn, 1))) ∧ ((decode (am_by 103) 28 = .ok (.aload_n 0, 1)) ∧ (decode (am_by 103) 29 = .ok (.getfield 27, 3)))) := by decide +kernel
theorem dc103_2 : (((decode (am_by 103) 32 = .ok (.ldc 94, 2)) ∧ (decode (am_by 103) 34 = .ok (.invokevirtual 88, 3))) ∧ ((decode (am_by 103) 37 = .ok (.ifCond .eq 5, 3)) ∧ (decode (am_by 103) 40 = .ok (.iconst 3, 1)))) ∧ (((decode (am_by 103) 41 = .ok (.ireturn, 1)) ∧ (decode (am_by 103) 42 = .ok (.aload_n 0, 1))) ∧ ((decode (am_by 103) 43 = .ok (.getfield 27, 3)) ∧ (decode (am_by 103) 46 = .ok (.ldc 96, 2)))) := by decide +kernel
theorem dc103_3 : ((decode (am_by 103) 48 = .ok (.invokevirtual 88, 3)) ∧ ((decode (am_by 103) 51 = .ok (.ifCond .eq 7, 3)) ∧ (decode (am_by 103) 54 = .ok (.iconst 4, 1)))) ∧ ((decode (am_by 103) 55 = .ok (.goto 4, 3)) ∧ ((decode (am_by 103) 58 = .ok (.iconst 0, 1)) ∧ (decode (am_by 103) 59 = .ok (.ireturn, 1)))) := by decide +kernel
theorem t103_0 {sc : Option (Nat × (Nat → Int32))} {d k n : Nat} {P : am_O → Prop} {I : am_I} {J : am_J} {Pf : am_R} (hp : am_PF Pf)  (q1 : Pf 102 6 = some 1) (q2 : am_mth d 60 [.ref 1, .retAddr 17] (am_SH, I, J, Pf) (am_af sc d 103 6 [some (.ref 102)] [.retAddr 17, .ref 1] [] (am_SH, I, J, Pf) k n false P)) : am_go sc d 103 (0, [some (.ref 102)], [], (am_SH, I, J, Pf), k, n) P := by
  refine am_s_aload_n rfl dc103_0.1.1.1 ?_
  refine am_s_getR (r := 1) dc103_0.1.1.2 rfl rfl rfl (q1) ?_
  refine am_s_ldcT (x := 17) dc103_0.1.2.1 rfl rfl ?_
  exact am_s_virtual false dc103_0.1.2.2 rfl (by decide) rfl rfl rfl (q2)
theorem t103_9 {sc : Option (Nat × (Nat → Int32))} {d k n : Nat} {P : am_O → Prop} {I : am_I} {J : am_J} {Pf : am_R} (hp : am_PF Pf) {s0 : Int32} (q1 : (s0 = 0) → Pf 102 6 = some 1) (q2 : (s0 = 0) → am_mth d 60 [.ref 1, .retAddr 18] (am_SH, I, J, Pf) (am_af sc d 103 20 [some (.ref 102)] [.retAddr 18, .ref 1] [] (am_SH, I, J, Pf) k n false P)) (q3 : (¬ (s0 = 0)) → P (.inl (some (.int 1)), (am_SH, I, J, Pf), k, n)) : am_go sc d 103 (9, [some (.ref 102)], [.int s0], (am_SH, I, J, Pf), k, n) P := by
  refine am_s_if_eq dc103_0.2.1.1 rfl (fun c1 => ?_) (fun c1 => ?_)
  · refine am_s_aload_n rfl dc103_0.2.2.2 ?_
    refine am_s_getR (r := 1) dc103_1.1.1.1 rfl rfl rfl (q1 c1) ?_
    refine am_s_ldcT (x := 18) dc103_1.1.1.2 rfl rfl ?_
    exact am_s_virtual false dc103_1.1.2.1 rfl (by decide) rfl rfl rfl (q2 c1)
  · refine am_s_iconst am_cc1 dc103_0.2.1.2 ?_
    exact am_s_ireturn dc103_0.2.2.1 rfl (q3 c1)
theorem t103_23 {sc : Option (Nat × (Nat → Int32))} {d k n : Nat} {P : am_O → Prop} {I : am_I} {J : am_J} {Pf : am_R} (hp : am_PF Pf) {s0 : Int32} (q1 : (s0 = 0) → Pf 102 6 = some 1) (q2 : (s0 = 0) → am_mth d 60 [.ref 1, .retAddr 19] (am_SH, I, J, Pf) (am_af sc d 103 34 [some (.ref 102)] [.retAddr 19, .ref 1] [] (am_SH, I, J, Pf) k n false P)) (q3 : (¬ (s0 = 0)) → P (.inl (some (.int 2)), (am_SH, I, J, Pf), k, n)) : am_go sc d 103 (23, [some (.ref 102)], [.int s0], (am_SH, I, J, Pf), k, n) P := by
  refine am_s_if_eq dc103_1.1.2.2 rfl (fun c1 => ?_) (fun c1 => ?_)
  · refine am_s_aload_n rfl dc103_1.2.2.1 ?_
    refine am_s_getR (r := 1) dc103_1.2.2.2 rfl rfl rfl (q1 c1) ?_
    refine am_s_ldcT (x := 19) dc103_2.1.1.1 rfl rfl ?_
    exact am_s_virtual false dc103_2.1.1.2 rfl (by decide) rfl rfl rfl (q2 c1)
  · refine am_s_iconst am_cc2 dc103_1.2.1.1 ?_
    exact am_s_ireturn dc103_1.2.1.2 rfl (q3 c1)
theorem t103_37 {sc : Option (Nat × (Nat → Int32))} {d k n : Nat} {P : am_O → Prop} {I : am_I} {J : am_J} {Pf : am_R} (hp : am_PF Pf) {s0 : Int32} (q1 : (s0 = 0) → Pf 102 6 = some 1) (q2 : (s0 = 0) → am_mth d 60 [.ref 1, .retAddr 20] (am_SH, I, J, Pf) (am_af sc d 103 48 [some (.ref 102)] [.retAddr 20, .ref 1] [] (am_SH, I, J, Pf) k n false P)) (q3 : (¬ (s0 = 0)) → P (.inl (some (.int 3)), (am_SH, I, J, Pf), k, n)) : am_go sc d 103 (37, [some (.ref 102)], [.int s0], (am_SH, I, J, Pf), k, n) P := by
  refine am_s_if_eq dc103_2.1.2.1 rfl (fun c1 => ?_) (fun c1 => ?_)
  · refine am_s_aload_n rfl dc103_2.2.1.2 ?_
    refine am_s_getR (r := 1) dc103_2.2.2.1 rfl rfl rfl (q1 c1) ?_
    refine am_s_ldcT (x := 20) dc103_2.2.2.2 rfl rfl ?_
    exact am_s_virtual false dc103_3.1.1 rfl (by decide) rfl rfl rfl (q2 c1)
  · refine am_s_iconst am_cc3 dc103_2.1.2.2 ?_
    exact am_s_ireturn dc103_2.2.1.1 rfl (q3 c1)
theorem t103_51 {sc : Option (Nat × (Nat → Int32))} {d k n : Nat} {P : am_O → Prop} {I : am_I} {J : am_J} {Pf : am_R} (hp : am_PF Pf) {l0 : Option Value} {s0 : Int32} (q1 : (s0 = 0) → P (.inl (some (.int 0)), (am_SH, I, J, Pf), k, n)) (q2 : (¬ (s0 = 0)) → P (.inl (some (.int 4)), (am_SH, I, J, Pf), k, n)) : am_go sc d 103 (51, [l0], [.int s0], (am_SH, I, J, Pf), k, n) P := by
  refine am_s_if_eq dc103_3.1.2.1 rfl (fun c1 => ?_) (fun c1 => ?_)
  · refine am_s_iconst am_cc0 dc103_3.2.2.1 ?_
    exact am_s_ireturn dc103_3.2.2.2 rfl (q1 c1)
  · refine am_s_iconst am_cc4 dc103_3.1.2.2 ?_
    refine am_s_goto rfl dc103_3.2.1 ?_
    exact am_s_ireturn dc103_3.2.2.2 rfl (q2 c1)
-- readAgain (I)Z
theorem dc104_0 : (((decode (am_by 104) 0 = .ok (.aload_n 0, 1)) ∧ (decode (am_by 104) 1 = .ok (.getfield 27, 3))) ∧ ((decode (am_by 104) 4 = .ok (.aload_n 0, 1)) ∧ (decode (am_by 104) 5 = .ok (.getfield 27, 3)))) ∧ (((decode (am_by 104) 8 = .ok (.getfield 64, 3)) ∧ (decode (am_by 104) 11 = .ok (.invokevirtual 98, 3))) ∧ ((decode (am_by 104) 14 = .ok (.ifCond .eq 9, 3)) ∧ (decode (am_by 104) 17 = .ok (.iload_n 1, 1)))) := by decide +kernel
theorem dc104_1 : (((decode (am_by 104) 18 = .ok (.bipush 6, 2)) ∧ (decode (am_by 104) 20 = .ok (.if_icmp .lt 5, 3))) ∧ ((decode (am_by 104) 23 = .ok (.iconst 0, 1)) ∧ (decode (am_by 104) 24 = .ok (.ireturn, 1)))) ∧ (((decode (am_by 104) 25 = .ok (.aload_n 0, 1)) ∧ (decode (am_by 104) 26 = .ok (.getfield 27, 3))) ∧ ((decode (am_by 104) 29 = .ok (.bipush 40, 2)) ∧ (decode (am_by 104) 31 = .ok (.invokevirtual 74, 3)))) := by decide +kernel
theorem dc104_2 : (((decode (am_by 104) 34 = .ok (.istore_n 2, 1)) ∧ (decode (am_by 104) 35 = .ok (.iload_n 2, 1))) ∧ ((decode (am_by 104) 36 = .ok (.iconst (-1), 1)) ∧ (decode (am_by 104) 37 = .ok (.if_icmp .eq 15, 3)))) ∧ (((decode (am_by 104) 40 = .ok (.aload_n 0, 1)) ∧ (decode (am_by 104) 41 = .ok (.getfield 27, 3))) ∧ ((decode (am_by 104) 44 = .ok (.bipush 91, 2)) ∧ (decode (am_by 104) 46 = .ok (.invokevirtual 55, 3)))) := by decide +kernel
theorem dc104_3 : (((decode (am_by 104) 49 = .ok (.ifCond .ne 5, 3)) ∧ (decode (am_by 104) 52 = .ok (.iconst 0, 1))) ∧ ((decode (am_by 104) 53 = .ok (.ireturn, 1)) ∧ (decode (am_by 104) 54 = .ok (.aload_n 0, 1)))) ∧ (((decode (am_by 104) 55 = .ok (.getfield 31, 3)) ∧ (decode (am_by 104) 58 = .ok (.istore_n 3, 1))) ∧ ((decode (am_by 104) 59 = .ok (.aload_n 0, 1)) ∧ (decode (am_by 104) 60 = .ok (.iconst 4, 1)))) := by decide +kernel
theorem dc104_4 : (((decode (am_by 104) 61 = .ok (.iload_n 2, 1)) ∧ (decode (am_by 104) 62 = .ok (.iconst 0, 1))) ∧ ((decode (am_by 104) 63 = .ok (.invokevirtual 82, 3)) ∧ (decode (am_by 104) 66 = .ok (.aload_n 0, 1)))) ∧ (((decode (am_by 104) 67 = .ok (.iload_n 1, 1)) ∧ (decode (am_by 104) 68 = .ok (.iconst 1, 1))) ∧ ((decode (am_by 104) 69 = .ok (.iadd, 1)) ∧ (decode (am_by 104) 70 = .ok (.invokevirtual 38, 3)))) := by decide +kernel
theorem dc104_5 : (((decode (am_by 104) 73 = .ok (.ifCond .eq 15, 3)) ∧ (decode (am_by 104) 76 = .ok (.aload_n 0, 1))) ∧ ((decode (am_by 104) 77 = .ok (.getfield 27, 3)) ∧ (decode (am_by 104) 80 = .ok (.bipush 93, 2)))) ∧ (((decode (am_by 104) 82 = .ok (.invokevirtual 55, 3)) ∧ (decode (am_by 104) 85 = .ok (.ifCond .ne 5, 3))) ∧ ((decode (am_by 104) 88 = .ok (.iconst 0, 1)) ∧ (decode (am_by 104) 89 = .ok (.ireturn, 1)))) := by decide +kernel
theorem dc104_6 : (((decode (am_by 104) 90 = .ok (.aload_n 0, 1)) ∧ (decode (am_by 104) 91 = .ok (.getfield 27, 3))) ∧ ((decode (am_by 104) 94 = .ok (.invokevirtual 101, 3)) ∧ (decode (am_by 104) 97 = .ok (.aload_n 0, 1)))) ∧ (((decode (am_by 104) 98 = .ok (.getfield 18, 3)) ∧ (decode (am_by 104) 101 = .ok (.iload_n 3, 1))) ∧ ((decode (am_by 104) 102 = .ok (.aload_n 0, 1)) ∧ (decode (am_by 104) 103 = .ok (.getfield 31, 3)))) := by decide +kernel
theorem dc104_7 : (((decode (am_by 104) 106 = .ok (.iastore, 1)) ∧ (decode (am_by 104) 107 = .ok (.aload_n 0, 1))) ∧ ((decode (am_by 104) 108 = .ok (.iconst 5, 1)) ∧ (decode (am_by 104) 109 = .ok (.iconst 0, 1)))) ∧ (((decode (am_by 104) 110 = .ok (.iload_n 3, 1)) ∧ (decode (am_by 104) 111 = .ok (.invokevirtual 82, 3))) ∧ ((decode (am_by 104) 114 = .ok (.iconst 1, 1)) ∧ (decode (am_by 104) 115 = .ok (.ireturn, 1)))) := by decide +kernel
theorem t104_0 {sc : Option (Nat × (Nat → Int32))} {d k n : Nat} {P : am_O → Prop} {I : am_I} {J : am_J} {Pf : am_R} (hp : am_PF Pf) {x1 : Int32} {l2 : Option Value} {l3 : Option Value} (q1 : Pf 102 6 = some 1) (q2 : Pf 102 6 = some 1) (q3 : am_mth d 61 [.ref 1, .int (I 1 7)] (am_SH, I, J, Pf) (am_af sc d 104 11 [some (.ref 102), some (.int x1), l2, l3] [.int (I 1 7), .ref 1] [] (am_SH, I, J, Pf) k n false P)) : am_go sc d 104 (0, [some (.ref 102), some (.int x1), l2, l3], [], (am_SH, I, J, Pf), k, n) P := by
  refine am_s_aload_n rfl dc104_0.1.1.1 ?_
  refine am_s_getR (r := 1) dc104_0.1.1.2 rfl rfl rfl (q1) ?_
  refine am_s_aload_n rfl dc104_0.1.2.1 ?_
  refine am_s_getR (r := 1) dc104_0.1.2.2 rfl rfl rfl (q2) ?_
  refine am_x_getI (x := I 1 7) dc104_0.2.1.1 rfl rfl (Or.inl rfl) rfl ?_
  exact am_s_virtual false dc104_0.2.1.2 rfl (by decide) rfl rfl rfl (q3)
theorem t104_14 {sc : Option (Nat × (Nat → Int32))} {d k n : Nat} {P : am_O → Prop} {I : am_I} {J : am_J} {Pf : am_R} (hp : am_PF Pf) {x1 : Int32} {l2 : Option Value} {l3 : Option Value} {s0 : Int32} (q1 : (s0 = 0) → P (.inl (some (.int 0)), (am_SH, I, J, Pf), k, n)) (q2 : (¬ (s0 = 0)) → (x1 < 6) → Pf 102 6 = some 1) (q3 : (¬ (s0 = 0)) → (x1 < 6) → am_mth d 58 [.ref 1, .int 40] (am_SH, I, J, Pf) (am_af sc d 104 31 [some (.ref 102), some (.int x1), l2, l3] [.int 40, .ref 1] [] (am_SH, I, J, Pf) k n false P)) (q4 : (¬ (s0 = 0)) → (¬ (x1 < 6)) → P (.inl (some (.int 0)), (am_SH, I, J, Pf), k, n)) : am_go sc d 104 (14, [some (.ref 102), some (.int x1), l2, l3], [.int s0], (am_SH, I, J, Pf), k, n) P := by
  refine am_s_if_eq dc104_0.2.2.1 rfl (fun c1 => ?_) (fun c1 => ?_)
  · refine am_s_iconst am_cc0 dc104_1.1.2.1 ?_
    exact am_s_zreturn dc104_1.1.2.2 rfl (by decide) (q1 c1)
  · refine am_s_iload_n rfl dc104_0.2.2.2 ?_
    refine am_s_bipush am_cb6 dc104_1.1.1.1 ?_
    refine am_s_ic_lt dc104_1.1.1.2 rfl (fun c2 => ?_) (fun c2 => ?_)
    · refine am_s_aload_n rfl dc104_1.2.1.1 ?_
      refine am_s_getR (r := 1) dc104_1.2.1.2 rfl rfl rfl (q2 c1 c2) ?_
      refine am_s_bipush am_cb40 dc104_1.2.2.1 ?_
      exact am_s_virtual false dc104_1.2.2.2 rfl (by decide) rfl rfl rfl (q3 c1 c2)
    · refine am_s_iconst am_cc0 dc104_1.1.2.1 ?_
      exact am_s_zreturn dc104_1.1.2.2 rfl (by decide) (q4 c1 c2)
theorem t104_34 {sc : Option (Nat × (Nat → Int32))} {d k n : Nat} {P : am_O → Prop} {I : am_I} {J : am_J} {Pf : am_R} (hp : am_PF Pf) {x1 : Int32} {l2 : Option Value} {l3 : Option Value} {s0 : Int32} (q1 : (s0 = (-1)) → P (.inl (some (.int 0)), (am_SH, I, J, Pf), k, n)) (q2 : (¬ (s0 = (-1))) → Pf 102 6 = some 1) (q3 : (¬ (s0 = (-1))) → am_mth d 56 [.ref 1, .int 91] (am_SH, I, J, Pf) (am_af sc d 104 46 [some (.ref 102), some (.int x1), some (.int s0), l3] [.int 91, .ref 1] [] (am_SH, I, J, Pf) k n false P)) : am_go sc d 104 (34, [some (.ref 102), some (.int x1), l2, l3], [.int s0], (am_SH, I, J, Pf), k, n) P := by
  refine am_s_istore_n (ls' := [some (.ref 102), some (.int x1), some (.int s0), l3]) rfl rfl dc104_2.1.1.1 ?_
  refine am_s_iload_n rfl dc104_2.1.1.2 ?_
  refine am_s_iconst am_ccm1 dc104_2.1.2.1 ?_
  refine am_s_ic_eq dc104_2.1.2.2 rfl (fun c1 => ?_) (fun c1 => ?_)
  · refine am_s_iconst am_cc0 dc104_3.1.1.2 ?_
    exact am_s_zreturn dc104_3.1.2.1 rfl (by decide) (q1 c1)
  · refine am_s_aload_n rfl dc104_2.2.1.1 ?_
    refine am_s_getR (r := 1) dc104_2.2.1.2 rfl rfl rfl (q2 c1) ?_
    refine am_s_bipush am_cb91 dc104_2.2.2.1 ?_
    exact am_s_virtual false dc104_2.2.2.2 rfl (by decide) rfl rfl rfl (q3 c1)
theorem t104_49 {sc : Option (Nat × (Nat → Int32))} {d k n : Nat} {P : am_O → Prop} {I : am_I} {J : am_J} {Pf : am_R} (hp : am_PF Pf) {x1 : Int32} {x2 : Int32} {l3 : Option Value} {s0 : Int32} (q1 : (¬ s0 = 0) → am_mth d 105 [.ref 102, .int 4, .int x2, .int 0] (am_SH, I, J, Pf) (am_af sc d 104 63 [some (.ref 102), some (.int x1), some (.int x2), some (.int (I 102 4))] [.int 0, .int x2, .int 4, .ref 102] [] (am_SH, I, J, Pf) k n true P)) (q2 : (¬ (¬ s0 = 0)) → P (.inl (some (.int 0)), (am_SH, I, J, Pf), k, n)) : am_go sc d 104 (49, [some (.ref 102), some (.int x1), some (.int x2), l3], [.int s0], (am_SH, I, J, Pf), k, n) P := by
  refine am_s_if_ne dc104_3.1.1.1 rfl (fun c1 => ?_) (fun c1 => ?_)
  · refine am_s_aload_n rfl dc104_3.1.2.2 ?_
    refine am_x_getI (x := I 102 4) dc104_3.2.1.1 rfl rfl (Or.inl rfl) rfl ?_
    refine am_s_istore_n (ls' := [some (.ref 102), some (.int x1), some (.int x2), some (.int (I 102 4))]) rfl rfl dc104_3.2.1.2 ?_
    refine am_s_aload_n rfl dc104_3.2.2.1 ?_
    refine am_s_iconst am_cc4 dc104_3.2.2.2 ?_
    refine am_s_iload_n rfl dc104_4.1.1.1 ?_
    refine am_s_iconst am_cc0 dc104_4.1.1.2 ?_
    exact am_s_virtual true dc104_4.1.2.1 rfl (by decide) rfl rfl rfl (q1 c1)
  · refine am_s_iconst am_cc0 dc104_3.1.1.2 ?_
    exact am_s_zreturn dc104_3.1.2.1 rfl (by decide) (q2 c1)
theorem t104_66 {sc : Option (Nat × (Nat → Int32))} {d k n : Nat} {P : am_O → Prop} {I : am_I} {J : am_J} {Pf : am_R} (hp : am_PF Pf) {x1 : Int32} {l2 : Option Value} {x3 : Int32} (q1 : am_mth d 101 [.ref 102, .int (x1 + 1)] (am_SH, I, J, Pf) (am_af sc d 104 70 [some (.ref 102), some (.int x1), l2, some (.int x3)] [.int (x1 + 1), .ref 102] [] (am_SH, I, J, Pf) k n true P)) : am_go sc d 104 (66, [some (.ref 102), some (.int x1), l2, some (.int x3)], [], (am_SH, I, J, Pf), k, n) P := by
  refine am_s_aload_n rfl dc104_4.1.2.2 ?_
  refine am_s_iload_n rfl dc104_4.2.1.1 ?_
  refine am_s_iconst am_cc1 dc104_4.2.1.2 ?_
  refine am_s_iadd dc104_4.2.2.1 ?_
  exact am_s_virtual true dc104_4.2.2.2 rfl (by decide) rfl rfl rfl (q1)
theorem t104_73 {sc : Option (Nat × (Nat → Int32))} {d k n : Nat} {P : am_O → Prop} {I : am_I} {J : am_J} {Pf : am_R} (hp : am_PF Pf) {l1 : Option Value} {l2 : Option Value} {x3 : Int32} {s0 : Int32} (q1 : (s0 = 0) → P (.inl (some (.int 0)), (am_SH, I, J, Pf), k, n)) (q2 : (¬ (s0 = 0)) → Pf 102 6 = some 1) (q3 : (¬ (s0 = 0)) → am_mth d 56 [.ref 1, .int 93] (am_SH, I, J, Pf) (am_af sc d 104 82 [some (.ref 102), l1, l2, some (.int x3)] [.int 93, .ref 1] [] (am_SH, I, J, Pf) k n false P)) : am_go sc d 104 (73, [some (.ref 102), l1, l2, some (.int x3)], [.int s0], (am_SH, I, J, Pf), k, n) P := by
  refine am_s_if_eq dc104_5.1.1.1 rfl (fun c1 => ?_) (fun c1 => ?_)
  · refine am_s_iconst am_cc0 dc104_5.2.2.1 ?_
    exact am_s_zreturn dc104_5.2.2.2 rfl (by decide) (q1 c1)
  · refine am_s_aload_n rfl dc104_5.1.1.2 ?_
    refine am_s_getR (r := 1) dc104_5.1.2.1 rfl rfl rfl (q2 c1) ?_
    refine am_s_bipush am_cb93 dc104_5.1.2.2 ?_
    exact am_s_virtual false dc104_5.2.1.1 rfl (by decide) rfl rfl rfl (q3 c1)
theorem t104_85 {sc : Option (Nat × (Nat → Int32))} {d k n : Nat} {P : am_O → Prop} {I : am_I} {J : am_J} {Pf : am_R} (hp : am_PF Pf) {l1 : Option Value} {l2 : Option Value} {x3 : Int32} {s0 : Int32} (q1 : (¬ s0 = 0) → Pf 102 6 = some 1) (q2 : (¬ s0 = 0) → am_mth d 62 [.ref 1] (am_SH, I, J, Pf) (am_af sc d 104 94 [some (.ref 102), l1, l2, some (.int x3)] [.ref 1] [] (am_SH, I, J, Pf) k n false P)) (q3 : (¬ (¬ s0 = 0)) → P (.inl (some (.int 0)), (am_SH, I, J, Pf), k, n)) : am_go sc d 104 (85, [some (.ref 102), l1, l2, some (.int x3)], [.int s0], (am_SH, I, J, Pf), k, n) P := by
  refine am_s_if_ne dc104_5.2.1.2 rfl (fun c1 => ?_) (fun c1 => ?_)
  · refine am_s_aload_n rfl dc104_6.1.1.1 ?_
    refine am_s_getR (r := 1) dc104_6.1.1.2 rfl rfl rfl (q1 c1) ?_
    exact am_s_virtual false dc104_6.1.2.1 rfl (by decide) rfl rfl rfl (q2 c1)
  · refine am_s_iconst am_cc0 dc104_5.2.2.1 ?_
    exact am_s_zreturn dc104_5.2.2.2 rfl (by decide) (q3 c1)
theorem t104_97 {sc : Option (Nat × (Nat → Int32))} {d k n : Nat} {P : am_O → Prop} {I : am_I} {J : am_J} {Pf : am_R} (hp : am_PF Pf) {l1 : Option Value} {l2 : Option Value} {x3 : Int32} (q1 : am_in x3 150 = true) (q2 : am_mth d 105 [.ref 102, .int 5, .int 0, .int x3] (am_SH, am_u I 105 (Int32.toNatClampNeg x3) (I 102 4), J, Pf) (am_af sc d 104 111 [some (.ref 102), l1, l2, some (.int x3)] [.int x3, .int 0, .int 5, .ref 102] [] (am_SH, am_u I 105 (Int32.toNatClampNeg x3) (I 102 4), J, Pf) k n true P)) : am_go sc d 104 (97, [some (.ref 102), l1, l2, some (.int x3)], [], (am_SH, I, J, Pf), k, n) P := by
  refine am_s_aload_n rfl dc104_6.1.2.2 ?_
  refine am_s_getR (r := 105) dc104_6.2.1.1 rfl rfl rfl (hp _ _ _ rfl) ?_
  refine am_s_iload_n rfl dc104_6.2.1.2 ?_
  refine am_s_aload_n rfl dc104_6.2.2.1 ?_
  refine am_x_getI (x := I 102 4) dc104_6.2.2.2 rfl rfl (Or.inl rfl) rfl ?_
  refine am_s_iastore dc104_7.1.1.1 rfl (q1) rfl ?_
  refine am_s_aload_n rfl dc104_7.1.1.2 ?_
  refine am_s_iconst am_cc5 dc104_7.1.2.1 ?_
  refine am_s_iconst am_cc0 dc104_7.1.2.2 ?_
  refine am_s_iload_n rfl dc104_7.2.1.1 ?_
  exact am_s_virtual true dc104_7.2.1.2 rfl (by decide) rfl rfl rfl (q2)
theorem t104_114 {sc : Option (Nat × (Nat → Int32))} {d k n : Nat} {P : am_O → Prop} {I : am_I} {J : am_J} {Pf : am_R} (hp : am_PF Pf) {l0 : Option Value} {l1 : Option Value} {l2 : Option Value} {l3 : Option Value} (q1 : P (.inl (some (.int 1)), (am_SH, I, J, Pf), k, n)) : am_go sc d 104 (114, [l0, l1, l2, l3], [], (am_SH, I, J, Pf), k, n) P := by
  refine am_s_iconst am_cc1 dc104_7.2.2.1 ?_
  exact am_s_zreturn dc104_7.2.2.2 rfl (by decide) (q1)
-- add (III)V
theorem dc105_0 : (((decode (am_by 105) 0 = .ok (.aload_n 0, 1)) ∧ (decode (am_by 105) 1 = .ok (.getfield 31, 3))) ∧ ((decode (am_by 105) 4 = .ok (.sipush 150, 3)) ∧ (decode (am_by 105) 7 = .ok (.if_icmp .lt 4, 3)))) ∧ (((decode (am_by 105) 10 = .ok (.return_, 1)) ∧ (decode (am_by 105) 11 = .ok (.aload_n 0, 1))) ∧ ((decode (am_by 105) 12 = .ok (.getfield 9, 3)) ∧ (decode (am_by 105) 15 = .ok (.aload_n 0, 1)))) := by decide +kernel
theorem dc105_1 : (((decode (am_by 105) 16 = .ok (.getfield 31, 3)) ∧ (decode (am_by 105) 19 = .ok (.iload_n 1, 1))) ∧ ((decode (am_by 105) 20 = .ok (.iastore, 1)) ∧ (decode (am_by 105) 21 = .ok (.aload_n 0, 1)))) ∧ (((decode (am_by 105) 22 = .ok (.getfield 15, 3)) ∧ (decode (am_by 105) 25 = .ok (.aload_n 0, 1))) ∧ ((decode (am_by 105) 26 = .ok (.getfield 31, 3)) ∧ (decode (am_by 105) 29 = .ok (.iload_n 2, 1)))) := by decide +kernel
theorem dc105_2 : (((decode (am_by 105) 30 = .ok (.iastore, 1)) ∧ (decode (am_by 105) 31 = .ok (.aload_n 0, 1))) ∧ ((decode (am_by 105) 32 = .ok (.getfield 18, 3)) ∧ (decode (am_by 105) 35 = .ok (.aload_n 0, 1)))) ∧ (((decode (am_by 105) 36 = .ok (.getfield 31, 3)) ∧ (decode (am_by 105) 39 = .ok (.iload_n 3, 1))) ∧ ((decode (am_by 105) 40 = .ok (.iastore, 1)) ∧ (decode (am_by 105) 41 = .ok (.aload_n 0, 1)))) := by decide +kernel
theorem dc105_3 : ((decode (am_by 105) 42 = .ok (.dup, 1)) ∧ ((decode (am_by 105) 43 = .ok (.getfield 31, 3)) ∧ (decode (am_by 105) 46 = .ok (.iconst 1, 1)))) ∧ ((decode (am_by 105) 47 = .ok (.iadd, 1)) ∧ ((decode (am_by 105) 48 = .ok (.putfield 31, 3)) ∧ (decode (am_by 105) 51 = .ok (.return_, 1)))) := by decide +kernel
theorem t105_0 {sc : Option (Nat × (Nat → Int32))} {d k n : Nat} {P : am_O → Prop} {I : am_I} {J : am_J} {Pf : am_R} (hp : am_PF Pf) {x1 : Int32} {x2 : Int32} {x3 : Int32} (q1 : ((I 102 4) < 150) → am_in (I 102 4) 150 = true) (q2 : ((I 102 4) < 150) → am_in (I 102 4) 150 = true) (q3 : ((I 102 4) < 150) → am_in (I 102 4) 150 = true) (q4 : ((I 102 4) < 150) → P (.inl none, (am_SH, am_u (am_u (am_u (am_u I 103 (Int32.toNatClampNeg (I 102 4)) x1) 104 (Int32.toNatClampNeg (I 102 4)) x2) 105 (Int32.toNatClampNeg (I 102 4)) x3) 102 4 ((I 102 4) + 1), J, Pf), k, n)) (q5 : (¬ ((I 102 4) < 150)) → P (.inl none, (am_SH, I, J, Pf), k, n)) : am_go sc d 105 (0, [some (.ref 102), some (.int x1), some (.int x2), some (.int x3)], [], (am_SH, I, J, Pf), k, n) P := by
  refine am_s_aload_n rfl dc105_0.1.1.1 ?_
  refine am_x_getI (x := I 102 4) dc105_0.1.1.2 rfl rfl (Or.inl rfl) rfl ?_
  refine am_s_sipush am_cs150 dc105_0.1.2.1 ?_
  refine am_s_ic_lt dc105_0.1.2.2 rfl (fun c1 => ?_) (fun c1 => ?_)
  · refine am_s_aload_n rfl dc105_0.2.1.2 ?_
    refine am_s_getR (r := 103) dc105_0.2.2.1 rfl rfl rfl (hp _ _ _ rfl) ?_
    refine am_s_aload_n rfl dc105_0.2.2.2 ?_
    refine am_x_getI (x := I 102 4) dc105_1.1.1.1 rfl rfl (Or.inl rfl) rfl ?_
    refine am_s_iload_n rfl dc105_1.1.1.2 ?_
    refine am_s_iastore dc105_1.1.2.1 rfl (q1 c1) rfl ?_
    refine am_s_aload_n rfl dc105_1.1.2.2 ?_
    refine am_s_getR (r := 104) dc105_1.2.1.1 rfl rfl rfl (hp _ _ _ rfl) ?_
    refine am_s_aload_n rfl dc105_1.2.1.2 ?_
    refine am_x_getI (x := I 102 4) dc105_1.2.2.1 rfl rfl (Or.inl rfl) rfl ?_
    refine am_s_iload_n rfl dc105_1.2.2.2 ?_
    refine am_s_iastore dc105_2.1.1.1 rfl (q2 c1) rfl ?_
    refine am_s_aload_n rfl dc105_2.1.1.2 ?_
    refine am_s_getR (r := 105) dc105_2.1.2.1 rfl rfl rfl (hp _ _ _ rfl) ?_
    refine am_s_aload_n rfl dc105_2.1.2.2 ?_
    refine am_x_getI (x := I 102 4) dc105_2.2.1.1 rfl rfl (Or.inl rfl) rfl ?_
    refine am_s_iload_n rfl dc105_2.2.1.2 ?_
    refine am_s_iastore dc105_2.2.2.1 rfl (q3 c1) rfl ?_
    refine am_s_aload_n rfl dc105_2.2.2.2 ?_
    refine am_s_dup rfl dc105_3.1.1 ?_
    refine am_x_getI (x := I 102 4) dc105_3.1.2.1 rfl rfl (Or.inl rfl) rfl ?_
    refine am_s_iconst am_cc1 dc105_3.1.2.2 ?_
    refine am_s_iadd dc105_3.2.1 ?_
    refine am_s_putI dc105_3.2.2.1 rfl rfl rfl rfl ?_
    exact am_s_return dc105_3.2.2.2 rfl (q4 c1)
  · exact am_s_return dc105_0.2.1.1 rfl (q5 c1)
-- perform (LPrunedParses$Table;)V
theorem dc106_0 : (((decode (am_by 106) 0 = .ok (.aload_n 0, 1)) ∧ (decode (am_by 106) 1 = .ok (.iconst 0, 1))) ∧ ((decode (am_by 106) 2 = .ok (.putfield 104, 3)) ∧ (decode (am_by 106) 5 = .ok (.aload_n 0, 1)))) ∧ (((decode (am_by 106) 6 = .ok (.iconst 0, 1)) ∧ (decode (am_by 106) 7 = .ok (.putfield 107, 3))) ∧ ((decode (am_by 106) 10 = .ok (.iconst 0, 1)) ∧ (decode (am_by 106) 11 = .ok (.istore_n 2, 1)))) := by decide +kernel
theorem dc106_1 : (((decode (am_by 106) 12 = .ok (.iconst 0, 1)) ∧ (decode (am_by 106) 13 = .ok (.istore_n 3, 1))) ∧ ((decode (am_by 106) 14 = .ok (.iconst 0, 1)) ∧ (decode (am_by 106) 15 = .ok (.istore 4, 2)))) ∧ (((decode (am_by 106) 17 = .ok (.iconst 0, 1)) ∧ (decode (am_by 106) 18 = .ok (.istore 5, 2))) ∧ ((decode (am_by 106) 20 = .ok (.iload 5, 2)) ∧ (decode (am_by 106) 22 = .ok (.sipush 1000, 3)))) := by decide +kernel
theorem dc106_2 : (((decode (am_by 106) 25 = .ok (.if_icmp .ge 200, 3)) ∧ (decode (am_by 106) 28 = .ok (.iload 4, 2))) ∧ ((decode (am_by 106) 30 = .ok (.ifCond .lt 195, 3)) ∧ (decode (am_by 106) 33 = .ok (.iload 4, 2)))) ∧ (((decode (am_by 106) 35 = .ok (.aload_n 0, 1)) ∧ (decode (am_by 106) 36 = .ok (.getfield 31, 3))) ∧ ((decode (am_by 106) 39 = .ok (.if_icmp .ge 186, 3)) ∧ (decode (am_by 106) 42 = .ok (.aload_n 0, 1)))) := by decide +kernel
theorem dc106_3 : (((decode (am_by 106) 43 = .ok (.getfield 9, 3)) ∧ (decode (am_by 106) 46 = .ok (.iload 4, 2))) ∧ ((decode (am_by 106) 48 = .ok (.iaload, 1)) ∧ (decode (am_by 106) 49 = .ok (.iconst 5, 1)))) ∧ (((decode (am_by 106) 50 = .ok (.if_icmp .ne 45, 3)) ∧ (decode (am_by 106) 53 = .ok (.aload_n 0, 1))) ∧ ((decode (am_by 106) 54 = .ok (.getfield 24, 3)) ∧ (decode (am_by 106) 57 = .ok (.iload_n 3, 1)))) := by decide +kernel
theorem dc106_4 : (((decode (am_by 106) 58 = .ok (.dup2, 1)) ∧ (decode (am_by 106) 59 = .ok (.iaload, 1))) ∧ ((decode (am_by 106) 60 = .ok (.iconst 1, 1)) ∧ (decode (am_by 106) 61 = .ok (.isub, 1)))) ∧ (((decode (am_by 106) 62 = .ok (.iastore, 1)) ∧ (decode (am_by 106) 63 = .ok (.aload_n 0, 1))) ∧ ((decode (am_by 106) 64 = .ok (.getfield 24, 3)) ∧ (decode (am_by 106) 67 = .ok (.iload_n 3, 1)))) := by decide +kernel
theorem dc106_5 : (((decode (am_by 106) 68 = .ok (.iaload, 1)) ∧ (decode (am_by 106) 69 = .ok (.ifCond .le 17, 3))) ∧ ((decode (am_by 106) 72 = .ok (.aload_n 0, 1)) ∧ (decode (am_by 106) 73 = .ok (.getfield 18, 3)))) ∧ (((decode (am_by 106) 76 = .ok (.iload 4, 2)) ∧ (decode (am_by 106) 78 = .ok (.iaload, 1))) ∧ ((decode (am_by 106) 79 = .ok (.iconst 1, 1)) ∧ (decode (am_by 106) 80 = .ok (.iadd, 1)))) := by decide +kernel
theorem dc106_6 : (((decode (am_by 106) 81 = .ok (.istore 4, 2)) ∧ (decode (am_by 106) 83 = .ok (.goto 136, 3))) ∧ ((decode (am_by 106) 86 = .ok (.iinc 3 (-1), 3)) ∧ (decode (am_by 106) 89 = .ok (.iinc 4 1, 3)))) ∧ (((decode (am_by 106) 92 = .ok (.goto 127, 3)) ∧ (decode (am_by 106) 95 = .ok (.iload_n 2, 1))) ∧ ((decode (am_by 106) 96 = .ok (.sipush 200, 3)) ∧ (decode (am_by 106) 99 = .ok (.if_icmp .ne 4, 3)))) := by decide +kernel
theorem dc106_7 : (((decode (am_by 106) 102 = .ok (.return_, 1)) ∧ (decode (am_by 106) 103 = .ok (.iinc 2 1, 3))) ∧ ((decode (am_by 106) 106 = .ok (.aload_n 0, 1)) ∧ (decode (am_by 106) 107 = .ok (.getfield 9, 3)))) ∧ (((decode (am_by 106) 110 = .ok (.iload 4, 2)) ∧ (decode (am_by 106) 112 = .ok (.iaload, 1))) ∧ ((decode (am_by 106) 113 = .ok (.iconst 4, 1)) ∧ (decode (am_by 106) 114 = .ok (.if_icmp .eq 42, 3)))) := by decide +kernel
theorem dc106_8 : (((decode (am_by 106) 117 = .ok (.aload_n 0, 1)) ∧ (decode (am_by 106) 118 = .ok (.aload_n 1, 1))) ∧ ((decode (am_by 106) 119 = .ok (.iload 4, 2)) ∧ (decode (am_by 106) 121 = .ok (.invokevirtual 110, 3)))) ∧ (((decode (am_by 106) 124 = .ok (.ifCond .eq 16, 3)) ∧ (decode (am_by 106) 127 = .ok (.aload_n 0, 1))) ∧ ((decode (am_by 106) 128 = .ok (.dup, 1)) ∧ (decode (am_by 106) 129 = .ok (.getfield 104, 3)))) := by decide +kernel
theorem dc106_9 : (((decode (am_by 106) 132 = .ok (.iconst 1, 1)) ∧ (decode (am_by 106) 133 = .ok (.iadd, 1))) ∧ ((decode (am_by 106) 134 = .ok (.putfield 104, 3)) ∧ (decode (am_by 106) 137 = .ok (.goto 13, 3)))) ∧ (((decode (am_by 106) 140 = .ok (.aload_n 0, 1)) ∧ (decode (am_by 106) 141 = .ok (.dup, 1))) ∧ ((decode (am_by 106) 142 = .ok (.getfield 107, 3)) ∧ (decode (am_by 106) 145 = .ok (.iconst 1, 1)))) := by decide +kernel
theorem dc106_10 : (((decode (am_by 106) 146 = .ok (.iadd, 1)) ∧ (decode (am_by 106) 147 = .ok (.putfield 107, 3))) ∧ ((decode (am_by 106) 150 = .ok (.iinc 4 1, 3)) ∧ (decode (am_by 106) 153 = .ok (.goto 66, 3)))) ∧ (((decode (am_by 106) 156 = .ok (.aload_n 0, 1)) ∧ (decode (am_by 106) 157 = .ok (.getfield 15, 3))) ∧ ((decode (am_by 106) 160 = .ok (.iload 4, 2)) ∧ (decode (am_by 106) 162 = .ok (.iaload, 1)))) := by decide +kernel
theorem dc106_11 : (((decode (am_by 106) 163 = .ok (.ifCond .eq 23, 3)) ∧ (decode (am_by 106) 166 = .ok (.aload_n 0, 1))) ∧ ((decode (am_by 106) 167 = .ok (.getfield 18, 3)) ∧ (decode (am_by 106) 170 = .ok (.iload 4, 2)))) ∧ (((decode (am_by 106) 172 = .ok (.iaload, 1)) ∧ (decode (am_by 106) 173 = .ok (.iload 4, 2))) ∧ ((decode (am_by 106) 175 = .ok (.iconst 1, 1)) ∧ (decode (am_by 106) 176 = .ok (.iadd, 1)))) := by decide +kernel
theorem dc106_12 : (((decode (am_by 106) 177 = .ok (.if_icmp .eq 9, 3)) ∧ (decode (am_by 106) 180 = .ok (.iload_n 3, 1))) ∧ ((decode (am_by 106) 181 = .ok (.bipush 6, 2)) ∧ (decode (am_by 106) 183 = .ok (.if_icmp .lt 17, 3)))) ∧ (((decode (am_by 106) 186 = .ok (.aload_n 0, 1)) ∧ (decode (am_by 106) 187 = .ok (.getfield 18, 3))) ∧ ((decode (am_by 106) 190 = .ok (.iload 4, 2)) ∧ (decode (am_by 106) 192 = .ok (.iaload, 1)))) := by decide +kernel
theorem dc106_13 : (((decode (am_by 106) 193 = .ok (.iconst 1, 1)) ∧ (decode (am_by 106) 194 = .ok (.iadd, 1))) ∧ ((decode (am_by 106) 195 = .ok (.istore 4, 2)) ∧ (decode (am_by 106) 197 = .ok (.goto 22, 3)))) ∧ (((decode (am_by 106) 200 = .ok (.iinc 3 1, 3)) ∧ (decode (am_by 106) 203 = .ok (.aload_n 0, 1))) ∧ ((decode (am_by 106) 204 = .ok (.getfield 24, 3)) ∧ (decode (am_by 106) 207 = .ok (.iload_n 3, 1)))) := by decide +kernel
theorem dc106_14 : (((decode (am_by 106) 208 = .ok (.aload_n 0, 1)) ∧ (decode (am_by 106) 209 = .ok (.getfield 15, 3))) ∧ ((decode (am_by 106) 212 = .ok (.iload 4, 2)) ∧ (decode (am_by 106) 214 = .ok (.iaload, 1)))) ∧ (((decode (am_by 106) 215 = .ok (.iastore, 1)) ∧ (decode (am_by 106) 216 = .ok (.iinc 4 1, 3))) ∧ ((decode (am_by 106) 219 = .ok (.iinc 5 1, 3)) ∧ (decode (am_by 106) 222 = .ok (.goto (-202), 3)))) := by decide +kernel
theorem dc106_15 : decode (am_by 106) 225 = .ok (.return_, 1) := by decide +kernel
theorem t106_0 {sc : Option (Nat × (Nat → Int32))} {d k n : Nat} {P : am_O → Prop} {I : am_I} {J : am_J} {Pf : am_R} (hp : am_PF Pf) {x1 : Nat} (hx1 : am_SH[x1]? = some (.inl 9)) {l2 : Option Value} {l3 : Option Value} {l4 : Option Value} {l5 : Option Value} (q1 : am_go sc d 106 (20, [some (.ref 102), some (.ref x1), some (.int 0), some (.int 0), some (.int 0), some (.int 0)], [], (am_SH, am_u (am_u I 102 8 0) 102 9 0, J, Pf), k, n) P) : am_go sc d 106 (0, [some (.ref 102), some (.ref x1), l2, l3, l4, l5], [], (am_SH, I, J, Pf), k, n) P := by
  refine am_s_aload_n rfl dc106_0.1.1.1 ?_
  refine am_s_iconst am_cc0 dc106_0.1.1.2 ?_
  refine am_s_putI dc106_0.1.2.1 rfl rfl rfl rfl ?_
  refine am_s_aload_n rfl dc106_0.1.2.2 ?_
  refine am_s_iconst am_cc0 dc106_0.2.1.1 ?_
  refine am_s_putI dc106_0.2.1.2 rfl rfl rfl rfl ?_
  refine am_s_iconst am_cc0 dc106_0.2.2.1 ?_
  refine am_s_istore_n (ls' := [some (.ref 102), some (.ref x1), some (.int 0), l3, l4, l5]) rfl rfl dc106_0.2.2.2 ?_
  refine am_s_iconst am_cc0 dc106_1.1.1.1 ?_
  refine am_s_istore_n (ls' := [some (.ref 102), some (.ref x1), some (.int 0), some (.int 0), l4, l5]) rfl rfl dc106_1.1.1.2 ?_
  refine am_s_iconst am_cc0 dc106_1.1.2.1 ?_
  refine am_s_istore (ls' := [some (.ref 102), some (.ref x1), some (.int 0), some (.int 0), some (.int 0), l5]) rfl rfl dc106_1.1.2.2 ?_
  refine am_s_iconst am_cc0 dc106_1.2.1.1 ?_
  refine am_s_istore (ls' := [some (.ref 102), some (.ref x1), some (.int 0), some (.int 0), some (.int 0), some (.int 0)]) rfl rfl dc106_1.2.1.2 ?_
  exact q1
theorem t106_20 {sc : Option (Nat × (Nat → Int32))} {d k n : Nat} {P : am_O → Prop} {I : am_I} {J : am_J} {Pf : am_R} (hp : am_PF Pf) {x1 : Nat} (hx1 : am_SH[x1]? = some (.inl 9)) {x2 : Int32} {x3 : Int32} {x4 : Int32} {x5 : Int32} (q1 : (1000 ≤ x5) → P (.inl none, (am_SH, I, J, Pf), k, n)) (q2 : (¬ (1000 ≤ x5)) → (x4 < 0) → P (.inl none, (am_SH, I, J, Pf), k, n)) (q3 : (¬ (1000 ≤ x5)) → (¬ (x4 < 0)) → ((I 102 4) ≤ x4) → P (.inl none, (am_SH, I, J, Pf), k, n)) (q4 : (¬ (1000 ≤ x5)) → (¬ (x4 < 0)) → (¬ ((I 102 4) ≤ x4)) → am_in x4 150 = true) (q5 : (¬ (1000 ≤ x5)) → (¬ (x4 < 0)) → (¬ ((I 102 4) ≤ x4)) → (¬ (I 103 (Int32.toNatClampNeg x4)) = 5) → (¬ x2 = 200) → am_in x4 150 = true) (q6 : (¬ (1000 ≤ x5)) → (¬ (x4 < 0)) → (¬ ((I 102 4) ≤ x4)) → (¬ (I 103 (Int32.toNatClampNeg x4)) = 5) → (¬ x2 = 200) → ((I 103 (Int32.toNatClampNeg x4)) = 4) → am_in x4 150 = true) (q7 : (¬ (1000 ≤ x5)) → (¬ (x4 < 0)) → (¬ ((I 102 4) ≤ x4)) → (¬ (I 103 (Int32.toNatClampNeg x4)) = 5) → (¬ x2 = 200) → ((I 103 (Int32.toNatClampNeg x4)) = 4) → ((I 104 (Int32.toNatClampNeg x4)) = 0) → am_go sc d 106 (186, [some (.ref 102), some (.ref x1), some (.int (x2 + 1)), some (.int x3), some (.int x4), some (.int x5)], [], (am_SH, I, J, Pf), k, n) P) (q8 : (¬ (1000 ≤ x5)) → (¬ (x4 < 0)) → (¬ ((I 102 4) ≤ x4)) → (¬ (I 103 (Int32.toNatClampNeg x4)) = 5) → (¬ x2 = 200) → ((I 103 (Int32.toNatClampNeg x4)) = 4) → (¬ ((I 104 (Int32.toNatClampNeg x4)) = 0)) → am_in x4 150 = true) (q9 : (¬ (1000 ≤ x5)) → (¬ (x4 < 0)) → (¬ ((I 102 4) ≤ x4)) → (¬ (I 103 (Int32.toNatClampNeg x4)) = 5) → (¬ x2 = 200) → ((I 103 (Int32.toNatClampNeg x4)) = 4) → (¬ ((I 104 (Int32.toNatClampNeg x4)) = 0)) → ((I 105 (Int32.toNatClampNeg x4)) = (x4 + 1)) → am_go sc d 106 (186, [some (.ref 102), some (.ref x1), some (.int (x2 + 1)), some (.int x3), some (.int x4), some (.int x5)], [], (am_SH, I, J, Pf), k, n) P) (q10 : (¬ (1000 ≤ x5)) → (¬ (x4 < 0)) → (¬ ((I 102 4) ≤ x4)) → (¬ (I 103 (Int32.toNatClampNeg x4)) = 5) → (¬ x2 = 200) → ((I 103 (Int32.toNatClampNeg x4)) = 4) → (¬ ((I 104 (Int32.toNatClampNeg x4)) = 0)) → (¬ ((I 105 (Int32.toNatClampNeg x4)) = (x4 + 1))) → (x3 < 6) → am_in x4 150 = true) (q11 : (¬ (1000 ≤ x5)) → (¬ (x4 < 0)) → (¬ ((I 102 4) ≤ x4)) → (¬ (I 103 (Int32.toNatClampNeg x4)) = 5) → (¬ x2 = 200) → ((I 103 (Int32.toNatClampNeg x4)) = 4) → (¬ ((I 104 (Int32.toNatClampNeg x4)) = 0)) → (¬ ((I 105 (Int32.toNatClampNeg x4)) = (x4 + 1))) → (x3 < 6) → am_in (x3 + 1) 7 = true) (q12 : (¬ (1000 ≤ x5)) → (¬ (x4 < 0)) → (¬ ((I 102 4) ≤ x4)) → (¬ (I 103 (Int32.toNatClampNeg x4)) = 5) → (¬ x2 = 200) → ((I 103 (Int32.toNatClampNeg x4)) = 4) → (¬ ((I 104 (Int32.toNatClampNeg x4)) = 0)) → (¬ ((I 105 (Int32.toNatClampNeg x4)) = (x4 + 1))) → (x3 < 6) → am_go sc d 106 (20, [some (.ref 102), some (.ref x1), some (.int (x2 + 1)), some (.int (x3 + 1)), some (.int (x4 + 1)), some (.int (x5 + 1))], [], (am_SH, am_u I 107 (Int32.toNatClampNeg (x3 + 1)) (I 104 (Int32.toNatClampNeg x4)), J, Pf), k, n) P) (q13 : (¬ (1000 ≤ x5)) → (¬ (x4 < 0)) → (¬ ((I 102 4) ≤ x4)) → (¬ (I 103 (Int32.toNatClampNeg x4)) = 5) → (¬ x2 = 200) → ((I 103 (Int32.toNatClampNeg x4)) = 4) → (¬ ((I 104 (Int32.toNatClampNeg x4)) = 0)) → (¬ ((I 105 (Int32.toNatClampNeg x4)) = (x4 + 1))) → (¬ (x3 < 6)) → am_go sc d 106 (186, [some (.ref 102), some (.ref x1), some (.int (x2 + 1)), some (.int x3), some (.int x4), some (.int x5)], [], (am_SH, I, J, Pf), k, n) P) (q14 : (¬ (1000 ≤ x5)) → (¬ (x4 < 0)) → (¬ ((I 102 4) ≤ x4)) → (¬ (I 103 (Int32.toNatClampNeg x4)) = 5) → (¬ x2 = 200) → (¬ ((I 103 (Int32.toNatClampNeg x4)) = 4)) → am_mth d 107 [.ref 102, .ref x1, .int x4] (am_SH, I, J, Pf) (am_af sc d 106 121 [some (.ref 102), some (.ref x1), some (.int (x2 + 1)), some (.int x3), some (.int x4), some (.int x5)] [.int x4, .ref x1, .ref 102] [] (am_SH, I, J, Pf) k n true P)) (q15 : (¬ (1000 ≤ x5)) → (¬ (x4 < 0)) → (¬ ((I 102 4) ≤ x4)) → (¬ (I 103 (Int32.toNatClampNeg x4)) = 5) → (¬ (¬ x2 = 200)) → P (.inl none, (am_SH, I, J, Pf), k, n)) (q16 : (¬ (1000 ≤ x5)) → (¬ (x4 < 0)) → (¬ ((I 102 4) ≤ x4)) → (¬ (¬ (I 103 (Int32.toNatClampNeg x4)) = 5)) → am_in x3 7 = true) (q17 : (¬ (1000 ≤ x5)) → (¬ (x4 < 0)) → (¬ ((I 102 4) ≤ x4)) → (¬ (¬ (I 103 (Int32.toNatClampNeg x4)) = 5)) → am_in x3 7 = true) (q18 : (¬ (1000 ≤ x5)) → (¬ (x4 < 0)) → (¬ ((I 102 4) ≤ x4)) → (¬ (¬ (I 103 (Int32.toNatClampNeg x4)) = 5)) → am_in x3 7 = true) (q19 : (¬ (1000 ≤ x5)) → (¬ (x4 < 0)) → (¬ ((I 102 4) ≤ x4)) → (¬ (¬ (I 103 (Int32.toNatClampNeg x4)) = 5)) → (((I 107 (Int32.toNatClampNeg x3)) - 1) ≤ 0) → am_go sc d 106 (20, [some (.ref 102), some (.ref x1), some (.int x2), some (.int (x3 + (-1))), some (.int (x4 + 1)), some (.int (x5 + 1))], [], (am_SH, am_u I 107 (Int32.toNatClampNeg x3) ((I 107 (Int32.toNatClampNeg x3)) - 1), J, Pf), k, n) P) (q20 : (¬ (1000 ≤ x5)) → (¬ (x4 < 0)) → (¬ ((I 102 4) ≤ x4)) → (¬ (¬ (I 103 (Int32.toNatClampNeg x4)) = 5)) → (¬ (((I 107 (Int32.toNatClampNeg x3)) - 1) ≤ 0)) → am_in x4 150 = true) (q21 : (¬ (1000 ≤ x5)) → (¬ (x4 < 0)) → (¬ ((I 102 4) ≤ x4)) → (¬ (¬ (I 103 (Int32.toNatClampNeg x4)) = 5)) → (¬ (((I 107 (Int32.toNatClampNeg x3)) - 1) ≤ 0)) → am_go sc d 106 (20, [some (.ref 102), some (.ref x1), some (.int x2), some (.int x3), some (.int ((I 105 (Int32.toNatClampNeg x4)) + 1)), some (.int (x5 + 1))], [], (am_SH, am_u I 107 (Int32.toNatClampNeg x3) ((I 107 (Int32.toNatClampNeg x3)) - 1), J, Pf), k, n) P) : am_go sc d 106 (20, [some (.ref 102), some (.ref x1), some (.int x2), some (.int x3), some (.int x4), some (.int x5)], [], (am_SH, I, J, Pf), k, n) P := by
  refine am_s_iload rfl dc106_1.2.2.1 ?_
  refine am_s_sipush am_cs1000 dc106_1.2.2.2 ?_
  refine am_s_ic_ge dc106_2.1.1.1 rfl (fun c1 => ?_) (fun c1 => ?_)
  · exact am_s_return dc106_15 rfl (q1 c1)
  · refine am_s_iload rfl dc106_2.1.1.2 ?_
    refine am_s_if_lt dc106_2.1.2.1 rfl (fun c2 => ?_) (fun c2 => ?_)
    · exact am_s_return dc106_15 rfl (q2 c1 c2)
    · refine am_s_iload rfl dc106_2.1.2.2 ?_
      refine am_s_aload_n rfl dc106_2.2.1.1 ?_
      refine am_x_getI (x := I 102 4) dc106_2.2.1.2 rfl rfl (Or.inl rfl) rfl ?_
      refine am_s_ic_ge dc106_2.2.2.1 rfl (fun c3 => ?_) (fun c3 => ?_)
      · exact am_s_return dc106_15 rfl (q3 c1 c2 c3)
      · refine am_s_aload_n rfl dc106_2.2.2.2 ?_
        refine am_s_getR (r := 103) dc106_3.1.1.1 rfl rfl rfl (hp _ _ _ rfl) ?_
        refine am_s_iload rfl dc106_3.1.1.2 ?_
        refine am_x_iaload (x := I 103 (Int32.toNatClampNeg x4)) dc106_3.1.2.1 rfl (q4 c1 c2 c3) rfl rfl ?_
        refine am_s_iconst am_cc5 dc106_3.1.2.2 ?_
        refine am_s_ic_ne dc106_3.2.1.1 rfl (fun c4 => ?_) (fun c4 => ?_)
        · refine am_s_iload_n rfl dc106_6.2.1.2 ?_
          refine am_s_sipush am_cs200 dc106_6.2.2.1 ?_
          refine am_s_ic_ne dc106_6.2.2.2 rfl (fun c5 => ?_) (fun c5 => ?_)
          · refine am_s_iinc (ls' := [some (.ref 102), some (.ref x1), some (.int (x2 + 1)), some (.int x3), some (.int x4), some (.int x5)]) am_cc1 rfl rfl dc106_7.1.1.2 ?_
            refine am_s_aload_n rfl dc106_7.1.2.1 ?_
            refine am_s_getR (r := 103) dc106_7.1.2.2 rfl rfl rfl (hp _ _ _ rfl) ?_
            refine am_s_iload rfl dc106_7.2.1.1 ?_
            refine am_x_iaload (x := I 103 (Int32.toNatClampNeg x4)) dc106_7.2.1.2 rfl (q5 c1 c2 c3 c4 c5) rfl rfl ?_
            refine am_s_iconst am_cc4 dc106_7.2.2.1 ?_
            refine am_s_ic_eq dc106_7.2.2.2 rfl (fun c6 => ?_) (fun c6 => ?_)
            · refine am_s_aload_n rfl dc106_10.2.1.1 ?_
              refine am_s_getR (r := 104) dc106_10.2.1.2 rfl rfl rfl (hp _ _ _ rfl) ?_
              refine am_s_iload rfl dc106_10.2.2.1 ?_
              refine am_x_iaload (x := I 104 (Int32.toNatClampNeg x4)) dc106_10.2.2.2 rfl (q6 c1 c2 c3 c4 c5 c6) rfl rfl ?_
              refine am_s_if_eq dc106_11.1.1.1 rfl (fun c7 => ?_) (fun c7 => ?_)
              · exact q7 c1 c2 c3 c4 c5 c6 c7
              · refine am_s_aload_n rfl dc106_11.1.1.2 ?_
                refine am_s_getR (r := 105) dc106_11.1.2.1 rfl rfl rfl (hp _ _ _ rfl) ?_
                refine am_s_iload rfl dc106_11.1.2.2 ?_
                refine am_x_iaload (x := I 105 (Int32.toNatClampNeg x4)) dc106_11.2.1.1 rfl (q8 c1 c2 c3 c4 c5 c6 c7) rfl rfl ?_
                refine am_s_iload rfl dc106_11.2.1.2 ?_
                refine am_s_iconst am_cc1 dc106_11.2.2.1 ?_
                refine am_s_iadd dc106_11.2.2.2 ?_
                refine am_s_ic_eq dc106_12.1.1.1 rfl (fun c8 => ?_) (fun c8 => ?_)
                · exact q9 c1 c2 c3 c4 c5 c6 c7 c8
                · refine am_s_iload_n rfl dc106_12.1.1.2 ?_
                  refine am_s_bipush am_cb6 dc106_12.1.2.1 ?_
                  refine am_s_ic_lt dc106_12.1.2.2 rfl (fun c9 => ?_) (fun c9 => ?_)
                  · refine am_s_iinc (ls' := [some (.ref 102), some (.ref x1), some (.int (x2 + 1)), some (.int (x3 + 1)), some (.int x4), some (.int x5)]) am_cc1 rfl rfl dc106_13.2.1.1 ?_
                    refine am_s_aload_n rfl dc106_13.2.1.2 ?_
                    refine am_s_getR (r := 107) dc106_13.2.2.1 rfl rfl rfl (hp _ _ _ rfl) ?_
                    refine am_s_iload_n rfl dc106_13.2.2.2 ?_
                    refine am_s_aload_n rfl dc106_14.1.1.1 ?_
                    refine am_s_getR (r := 104) dc106_14.1.1.2 rfl rfl rfl (hp _ _ _ rfl) ?_
                    refine am_s_iload rfl dc106_14.1.2.1 ?_
                    refine am_x_iaload (x := I 104 (Int32.toNatClampNeg x4)) dc106_14.1.2.2 rfl (q10 c1 c2 c3 c4 c5 c6 c7 c8 c9) rfl rfl ?_
                    refine am_s_iastore dc106_14.2.1.1 rfl (q11 c1 c2 c3 c4 c5 c6 c7 c8 c9) rfl ?_
                    refine am_s_iinc (ls' := [some (.ref 102), some (.ref x1), some (.int (x2 + 1)), some (.int (x3 + 1)), some (.int (x4 + 1)), some (.int x5)]) am_cc1 rfl rfl dc106_14.2.1.2 ?_
                    refine am_s_iinc (ls' := [some (.ref 102), some (.ref x1), some (.int (x2 + 1)), some (.int (x3 + 1)), some (.int (x4 + 1)), some (.int (x5 + 1))]) am_cc1 rfl rfl dc106_14.2.2.1 ?_
                    refine am_s_goto rfl dc106_14.2.2.2 ?_
                    exact q12 c1 c2 c3 c4 c5 c6 c7 c8 c9
                  · exact q13 c1 c2 c3 c4 c5 c6 c7 c8 c9
            · refine am_s_aload_n rfl dc106_8.1.1.1 ?_
              refine am_s_aload_n rfl dc106_8.1.1.2 ?_
              refine am_s_iload rfl dc106_8.1.2.1 ?_
              exact am_s_virtual true dc106_8.1.2.2 rfl (by decide) rfl rfl rfl (q14 c1 c2 c3 c4 c5 c6)
          · exact am_s_return dc106_7.1.1.1 rfl (q15 c1 c2 c3 c4 c5)
        · refine am_s_aload_n rfl dc106_3.2.1.2 ?_
          refine am_s_getR (r := 107) dc106_3.2.2.1 rfl rfl rfl (hp _ _ _ rfl) ?_
          refine am_s_iload_n rfl dc106_3.2.2.2 ?_
          refine am_s_dup2 rfl rfl dc106_4.1.1.1 ?_
          refine am_x_iaload (x := I 107 (Int32.toNatClampNeg x3)) dc106_4.1.1.2 rfl (q16 c1 c2 c3 c4) rfl rfl ?_
          refine am_s_iconst am_cc1 dc106_4.1.2.1 ?_
          refine am_s_isub dc106_4.1.2.2 ?_
          refine am_s_iastore dc106_4.2.1.1 rfl (q17 c1 c2 c3 c4) rfl ?_
          refine am_s_aload_n rfl dc106_4.2.1.2 ?_
          refine am_s_getR (r := 107) dc106_4.2.2.1 rfl rfl rfl (hp _ _ _ rfl) ?_
          refine am_s_iload_n rfl dc106_4.2.2.2 ?_
          refine am_x_iaload (x := (I 107 (Int32.toNatClampNeg x3)) - 1) dc106_5.1.1.1 rfl (q18 c1 c2 c3 c4) rfl (by simp [am_u]) ?_
          refine am_s_if_le dc106_5.1.1.2 rfl (fun c5 => ?_) (fun c5 => ?_)
          · refine am_s_iinc (ls' := [some (.ref 102), some (.ref x1), some (.int x2), some (.int (x3 + (-1))), some (.int x4), some (.int x5)]) am_ccm1 rfl rfl dc106_6.1.2.1 ?_
            refine am_s_iinc (ls' := [some (.ref 102), some (.ref x1), some (.int x2), some (.int (x3 + (-1))), some (.int (x4 + 1)), some (.int x5)]) am_cc1 rfl rfl dc106_6.1.2.2 ?_
            refine am_s_goto rfl dc106_6.2.1.1 ?_
            refine am_s_iinc (ls' := [some (.ref 102), some (.ref x1), some (.int x2), some (.int (x3 + (-1))), some (.int (x4 + 1)), some (.int (x5 + 1))]) am_cc1 rfl rfl dc106_14.2.2.1 ?_
            refine am_s_goto rfl dc106_14.2.2.2 ?_
            exact q19 c1 c2 c3 c4 c5
          · refine am_s_aload_n rfl dc106_5.1.2.1 ?_
            refine am_s_getR (r := 105) dc106_5.1.2.2 rfl rfl rfl (hp _ _ _ rfl) ?_
            refine am_s_iload rfl dc106_5.2.1.1 ?_
            refine am_x_iaload (x := I 105 (Int32.toNatClampNeg x4)) dc106_5.2.1.2 rfl (q20 c1 c2 c3 c4 c5) rfl rfl ?_
            refine am_s_iconst am_cc1 dc106_5.2.2.1 ?_
            refine am_s_iadd dc106_5.2.2.2 ?_
            refine am_s_istore (ls' := [some (.ref 102), some (.ref x1), some (.int x2), some (.int x3), some (.int ((I 105 (Int32.toNatClampNeg x4)) + 1)), some (.int x5)]) rfl rfl dc106_6.1.1.1 ?_
            refine am_s_goto rfl dc106_6.1.1.2 ?_
            refine am_s_iinc (ls' := [some (.ref 102), some (.ref x1), some (.int x2), some (.int x3), some (.int ((I 105 (Int32.toNatClampNeg x4)) + 1)), some (.int (x5 + 1))]) am_cc1 rfl rfl dc106_14.2.2.1 ?_
            refine am_s_goto rfl dc106_14.2.2.2 ?_
            exact q21 c1 c2 c3 c4 c5
theorem t106_186 {sc : Option (Nat × (Nat → Int32))} {d k n : Nat} {P : am_O → Prop} {I : am_I} {J : am_J} {Pf : am_R} (hp : am_PF Pf) {x1 : Nat} (hx1 : am_SH[x1]? = some (.inl 9)) {x2 : Int32} {x3 : Int32} {x4 : Int32} {x5 : Int32} (q1 : am_in x4 150 = true) (q2 : am_go sc d 106 (20, [some (.ref 102), some (.ref x1), some (.int x2), some (.int x3), some (.int ((I 105 (Int32.toNatClampNeg x4)) + 1)), some (.int (x5 + 1))], [], (am_SH, I, J, Pf), k, n) P) : am_go sc d 106 (186, [some (.ref 102), some (.ref x1), some (.int x2), some (.int x3), some (.int x4), some (.int x5)], [], (am_SH, I, J, Pf), k, n) P := by
  refine am_s_aload_n rfl dc106_12.2.1.1 ?_
  refine am_s_getR (r := 105) dc106_12.2.1.2 rfl rfl rfl (hp _ _ _ rfl) ?_
  refine am_s_iload rfl dc106_12.2.2.1 ?_
  refine am_x_iaload (x := I 105 (Int32.toNatClampNeg x4)) dc106_12.2.2.2 rfl (q1) rfl rfl ?_
  refine am_s_iconst am_cc1 dc106_13.1.1.1 ?_
  refine am_s_iadd dc106_13.1.1.2 ?_
  refine am_s_istore (ls' := [some (.ref 102), some (.ref x1), some (.int x2), some (.int x3), some (.int ((I 105 (Int32.toNatClampNeg x4)) + 1)), some (.int x5)]) rfl rfl dc106_13.1.2.1 ?_
  refine am_s_goto rfl dc106_13.1.2.2 ?_
  refine am_s_iinc (ls' := [some (.ref 102), some (.ref x1), some (.int x2), some (.int x3), some (.int ((I 105 (Int32.toNatClampNeg x4)) + 1)), some (.int (x5 + 1))]) am_cc1 rfl rfl dc106_14.2.2.1 ?_
  refine am_s_goto rfl dc106_14.2.2.2 ?_
  exact q2
theorem t106_124 {sc : Option (Nat × (Nat → Int32))} {d k n : Nat} {P : am_O → Prop} {I : am_I} {J : am_J} {Pf : am_R} (hp : am_PF Pf) {x1 : Nat} (hx1 : am_SH[x1]? = some (.inl 9)) {x2 : Int32} {x3 : Int32} {x4 : Int32} {x5 : Int32} {s0 : Int32} (q1 : (s0 = 0) → am_go sc d 106 (20, [some (.ref 102), some (.ref x1), some (.int x2), some (.int x3), some (.int (x4 + 1)), some (.int (x5 + 1))], [], (am_SH, am_u I 102 9 ((I 102 9) + 1), J, Pf), k, n) P) (q2 : (¬ (s0 = 0)) → am_go sc d 106 (20, [some (.ref 102), some (.ref x1), some (.int x2), some (.int x3), some (.int (x4 + 1)), some (.int (x5 + 1))], [], (am_SH, am_u I 102 8 ((I 102 8) + 1), J, Pf), k, n) P) : am_go sc d 106 (124, [some (.ref 102), some (.ref x1), some (.int x2), some (.int x3), some (.int x4), some (.int x5)], [.int s0], (am_SH, I, J, Pf), k, n) P := by
  refine am_s_if_eq dc106_8.2.1.1 rfl (fun c1 => ?_) (fun c1 => ?_)
  · refine am_s_aload_n rfl dc106_9.2.1.1 ?_
    refine am_s_dup rfl dc106_9.2.1.2 ?_
    refine am_x_getI (x := I 102 9) dc106_9.2.2.1 rfl rfl (Or.inl rfl) rfl ?_
    refine am_s_iconst am_cc1 dc106_9.2.2.2 ?_
    refine am_s_iadd dc106_10.1.1.1 ?_
    refine am_s_putI dc106_10.1.1.2 rfl rfl rfl rfl ?_
    refine am_s_iinc (ls' := [some (.ref 102), some (.ref x1), some (.int x2), some (.int x3), some (.int (x4 + 1)), some (.int x5)]) am_cc1 rfl rfl dc106_10.1.2.1 ?_
    refine am_s_goto rfl dc106_10.1.2.2 ?_
    refine am_s_iinc (ls' := [some (.ref 102), some (.ref x1), some (.int x2), some (.int x3), some (.int (x4 + 1)), some (.int (x5 + 1))]) am_cc1 rfl rfl dc106_14.2.2.1 ?_
    refine am_s_goto rfl dc106_14.2.2.2 ?_
    exact q1 c1
  · refine am_s_aload_n rfl dc106_8.2.1.2 ?_
    refine am_s_dup rfl dc106_8.2.2.1 ?_
    refine am_x_getI (x := I 102 8) dc106_8.2.2.2 rfl rfl (Or.inl rfl) rfl ?_
    refine am_s_iconst am_cc1 dc106_9.1.1.1 ?_
    refine am_s_iadd dc106_9.1.1.2 ?_
    refine am_s_putI dc106_9.1.2.1 rfl rfl rfl rfl ?_
    refine am_s_goto rfl dc106_9.1.2.2 ?_
    refine am_s_iinc (ls' := [some (.ref 102), some (.ref x1), some (.int x2), some (.int x3), some (.int (x4 + 1)), some (.int x5)]) am_cc1 rfl rfl dc106_10.1.2.1 ?_
    refine am_s_goto rfl dc106_10.1.2.2 ?_
    refine am_s_iinc (ls' := [some (.ref 102), some (.ref x1), some (.int x2), some (.int x3), some (.int (x4 + 1)), some (.int (x5 + 1))]) am_cc1 rfl rfl dc106_14.2.2.1 ?_
    refine am_s_goto rfl dc106_14.2.2.2 ?_
    exact q2 c1
-- performOne (LPrunedParses$Table;I)Z
theorem dc107_0 : (((decode (am_by 107) 0 = .ok (.aload_n 0, 1)) ∧ (decode (am_by 107) 1 = .ok (.getfield 9, 3))) ∧ ((decode (am_by 107) 4 = .ok (.iload_n 2, 1)) ∧ (decode (am_by 107) 5 = .ok (.iaload, 1)))) ∧ (((decode (am_by 107) 6 = .ok (.iconst 1, 1)) ∧ (decode (am_by 107) 7 = .ok (.if_icmp .ne 28, 3))) ∧ ((decode (am_by 107) 10 = .ok (.aload_n 1, 1)) ∧ (decode (am_by 107) 11 = .ok (.aload_n 0, 1)))) := by decide +kernel
theorem dc107_1 : (((decode (am_by 107) 12 = .ok (.getfield 15, 3)) ∧ (decode (am_by 107) 15 = .ok (.iload_n 2, 1))) ∧ ((decode (am_by 107) 16 = .ok (.iaload, 1)) ∧ (decode (am_by 107) 17 = .ok (.aload_n 0, 1)))) ∧ (((decode (am_by 107) 18 = .ok (.getfield 21, 3)) ∧ (decode (am_by 107) 21 = .ok (.iload_n 2, 1))) ∧ ((decode (am_by 107) 22 = .ok (.bipush 8, 2)) ∧ (decode (am_by 107) 24 = .ok (.imul, 1)))) := by decide +kernel
theorem dc107_2 : (((decode (am_by 107) 25 = .ok (.aload_n 0, 1)) ∧ (decode (am_by 107) 26 = .ok (.getfield 18, 3))) ∧ ((decode (am_by 107) 29 = .ok (.iload_n 2, 1)) ∧ (decode (am_by 107) 30 = .ok (.iaload, 1)))) ∧ (((decode (am_by 107) 31 = .ok (.invokevirtual 114, 3)) ∧ (decode (am_by 107) 34 = .ok (.ireturn, 1))) ∧ ((decode (am_by 107) 35 = .ok (.aload_n 0, 1)) ∧ (decode (am_by 107) 36 = .ok (.getfield 9, 3)))) := by decide +kernel
theorem dc107_3 : (((decode (am_by 107) 39 = .ok (.iload_n 2, 1)) ∧ (decode (am_by 107) 40 = .ok (.iaload, 1))) ∧ ((decode (am_by 107) 41 = .ok (.iconst 2, 1)) ∧ (decode (am_by 107) 42 = .ok (.if_icmp .ne 20, 3)))) ∧ (((decode (am_by 107) 45 = .ok (.aload_n 1, 1)) ∧ (decode (am_by 107) 46 = .ok (.aload_n 0, 1))) ∧ ((decode (am_by 107) 47 = .ok (.getfield 15, 3)) ∧ (decode (am_by 107) 50 = .ok (.iload_n 2, 1)))) := by decide +kernel
theorem dc107_4 : (((decode (am_by 107) 51 = .ok (.iaload, 1)) ∧ (decode (am_by 107) 52 = .ok (.aload_n 0, 1))) ∧ ((decode (am_by 107) 53 = .ok (.getfield 18, 3)) ∧ (decode (am_by 107) 56 = .ok (.iload_n 2, 1)))) ∧ (((decode (am_by 107) 57 = .ok (.iaload, 1)) ∧ (decode (am_by 107) 58 = .ok (.invokevirtual 120, 3))) ∧ ((decode (am_by 107) 61 = .ok (.ireturn, 1)) ∧ (decode (am_by 107) 62 = .ok (.aload_n 1, 1)))) := by decide +kernel
theorem dc107_5 : (((decode (am_by 107) 63 = .ok (.aload_n 0, 1)) ∧ (decode (am_by 107) 64 = .ok (.getfield 15, 3))) ∧ ((decode (am_by 107) 67 = .ok (.iload_n 2, 1)) ∧ (decode (am_by 107) 68 = .ok (.iaload, 1)))) ∧ (((decode (am_by 107) 69 = .ok (.aload_n 0, 1)) ∧ (decode (am_by 107) 70 = .ok (.getfield 18, 3))) ∧ ((decode (am_by 107) 73 = .ok (.iload_n 2, 1)) ∧ (decode (am_by 107) 74 = .ok (.iaload, 1)))) := by decide +kernel
theorem dc107_6 : (decode (am_by 107) 75 = .ok (.invokevirtual 123, 3)) ∧ (decode (am_by 107) 78 = .ok (.ireturn, 1)) := by decide +kernel
theorem t107_0 {sc : Option (Nat × (Nat → Int32))} {d k n : Nat} {P : am_O → Prop} {I : am_I} {J : am_J} {Pf : am_R} (hp : am_PF Pf) {x1 : Nat} (hx1 : am_SH[x1]? = some (.inl 9)) {x2 : Int32} (q1 : am_in x2 150 = true) (q2 : (¬ (I 103 (Int32.toNatClampNeg x2)) = 1) → am_in x2 150 = true) (q3 : (¬ (I 103 (Int32.toNatClampNeg x2)) = 1) → (¬ (I 103 (Int32.toNatClampNeg x2)) = 2) → am_in x2 150 = true) (q4 : (¬ (I 103 (Int32.toNatClampNeg x2)) = 1) → (¬ (I 103 (Int32.toNatClampNeg x2)) = 2) → am_in x2 150 = true) (q5 : (¬ (I 103 (Int32.toNatClampNeg x2)) = 1) → (¬ (I 103 (Int32.toNatClampNeg x2)) = 2) → am_mth d 114 [.ref x1, .int (I 104 (Int32.toNatClampNeg x2)), .int (I 105 (Int32.toNatClampNeg x2))] (am_SH, I, J, Pf) (am_af sc d 107 75 [some (.ref 102), some (.ref x1), some (.int x2)] [.int (I 105 (Int32.toNatClampNeg x2)), .int (I 104 (Int32.toNatClampNeg x2)), .ref x1] [] (am_SH, I, J, Pf) k n false P)) (q6 : (¬ (I 103 (Int32.toNatClampNeg x2)) = 1) → (¬ (¬ (I 103 (Int32.toNatClampNeg x2)) = 2)) → am_in x2 150 = true) (q7 : (¬ (I 103 (Int32.toNatClampNeg x2)) = 1) → (¬ (¬ (I 103 (Int32.toNatClampNeg x2)) = 2)) → am_in x2 150 = true) (q8 : (¬ (I 103 (Int32.toNatClampNeg x2)) = 1) → (¬ (¬ (I 103 (Int32.toNatClampNeg x2)) = 2)) → am_mth d 113 [.ref x1, .int (I 104 (Int32.toNatClampNeg x2)), .int (I 105 (Int32.toNatClampNeg x2))] (am_SH, I, J, Pf) (am_af sc d 107 58 [some (.ref 102), some (.ref x1), some (.int x2)] [.int (I 105 (Int32.toNatClampNeg x2)), .int (I 104 (Int32.toNatClampNeg x2)), .ref x1] [] (am_SH, I, J, Pf) k n false P)) (q9 : (¬ (¬ (I 103 (Int32.toNatClampNeg x2)) = 1)) → am_in x2 150 = true) (q10 : (¬ (¬ (I 103 (Int32.toNatClampNeg x2)) = 1)) → am_in x2 150 = true) (q11 : (¬ (¬ (I 103 (Int32.toNatClampNeg x2)) = 1)) → am_mth d 111 [.ref x1, .int (I 104 (Int32.toNatClampNeg x2)), .ref 106, .int (x2 * 8), .int (I 105 (Int32.toNatClampNeg x2))] (am_SH, I, J, Pf) (am_af sc d 107 31 [some (.ref 102), some (.ref x1), some (.int x2)] [.int (I 105 (Int32.toNatClampNeg x2)), .int (x2 * 8), .ref 106, .int (I 104 (Int32.toNatClampNeg x2)), .ref x1] [] (am_SH, I, J, Pf) k n false P)) : am_go sc d 107 (0, [some (.ref 102), some (.ref x1), some (.int x2)], [], (am_SH, I, J, Pf), k, n) P := by
  refine am_s_aload_n rfl dc107_0.1.1.1 ?_
  refine am_s_getR (r := 103) dc107_0.1.1.2 rfl rfl rfl (hp _ _ _ rfl) ?_
  refine am_s_iload_n rfl dc107_0.1.2.1 ?_
  refine am_x_iaload (x := I 103 (Int32.toNatClampNeg x2)) dc107_0.1.2.2 rfl (q1) rfl rfl ?_
  refine am_s_iconst am_cc1 dc107_0.2.1.1 ?_
  refine am_s_ic_ne dc107_0.2.1.2 rfl (fun c1 => ?_) (fun c1 => ?_)
  · refine am_s_aload_n rfl dc107_2.2.2.1 ?_
    refine am_s_getR (r := 103) dc107_2.2.2.2 rfl rfl rfl (hp _ _ _ rfl) ?_
    refine am_s_iload_n rfl dc107_3.1.1.1 ?_
    refine am_x_iaload (x := I 103 (Int32.toNatClampNeg x2)) dc107_3.1.1.2 rfl (q2 c1) rfl rfl ?_
    refine am_s_iconst am_cc2 dc107_3.1.2.1 ?_
    refine am_s_ic_ne dc107_3.1.2.2 rfl (fun c2 => ?_) (fun c2 => ?_)
    · refine am_s_aload_n rfl dc107_4.2.2.2 ?_
      refine am_s_aload_n rfl dc107_5.1.1.1 ?_
      refine am_s_getR (r := 104) dc107_5.1.1.2 rfl rfl rfl (hp _ _ _ rfl) ?_
      refine am_s_iload_n rfl dc107_5.1.2.1 ?_
      refine am_x_iaload (x := I 104 (Int32.toNatClampNeg x2)) dc107_5.1.2.2 rfl (q3 c1 c2) rfl rfl ?_
      refine am_s_aload_n rfl dc107_5.2.1.1 ?_
      refine am_s_getR (r := 105) dc107_5.2.1.2 rfl rfl rfl (hp _ _ _ rfl) ?_
      refine am_s_iload_n rfl dc107_5.2.2.1 ?_
      refine am_x_iaload (x := I 105 (Int32.toNatClampNeg x2)) dc107_5.2.2.2 rfl (q4 c1 c2) rfl rfl ?_
      exact am_s_virtual false dc107_6.1 rfl (by decide) rfl hx1 rfl (q5 c1 c2)
    · refine am_s_aload_n rfl dc107_3.2.1.1 ?_
      refine am_s_aload_n rfl dc107_3.2.1.2 ?_
      refine am_s_getR (r := 104) dc107_3.2.2.1 rfl rfl rfl (hp _ _ _ rfl) ?_
      refine am_s_iload_n rfl dc107_3.2.2.2 ?_
      refine am_x_iaload (x := I 104 (Int32.toNatClampNeg x2)) dc107_4.1.1.1 rfl (q6 c1 c2) rfl rfl ?_
      refine am_s_aload_n rfl dc107_4.1.1.2 ?_
      refine am_s_getR (r := 105) dc107_4.1.2.1 rfl rfl rfl (hp _ _ _ rfl) ?_
      refine am_s_iload_n rfl dc107_4.1.2.2 ?_
      refine am_x_iaload (x := I 105 (Int32.toNatClampNeg x2)) dc107_4.2.1.1 rfl (q7 c1 c2) rfl rfl ?_
      exact am_s_virtual false dc107_4.2.1.2 rfl (by decide) rfl hx1 rfl (q8 c1 c2)
  · refine am_s_aload_n rfl dc107_0.2.2.1 ?_
    refine am_s_aload_n rfl dc107_0.2.2.2 ?_
    refine am_s_getR (r := 104) dc107_1.1.1.1 rfl rfl rfl (hp _ _ _ rfl) ?_
    refine am_s_iload_n rfl dc107_1.1.1.2 ?_
    refine am_x_iaload (x := I 104 (Int32.toNatClampNeg x2)) dc107_1.1.2.1 rfl (q9 c1) rfl rfl ?_
    refine am_s_aload_n rfl dc107_1.1.2.2 ?_
    refine am_s_getR (r := 106) dc107_1.2.1.1 rfl rfl rfl (hp _ _ _ rfl) ?_
    refine am_s_iload_n rfl dc107_1.2.1.2 ?_
    refine am_s_bipush am_cb8 dc107_1.2.2.1 ?_
    refine am_s_imul dc107_1.2.2.2 ?_
    refine am_s_aload_n rfl dc107_2.1.1.1 ?_
    refine am_s_getR (r := 105) dc107_2.1.1.2 rfl rfl rfl (hp _ _ _ rfl) ?_
    refine am_s_iload_n rfl dc107_2.1.2.1 ?_
    refine am_x_iaload (x := I 105 (Int32.toNatClampNeg x2)) dc107_2.1.2.2 rfl (q10 c1) rfl rfl ?_
    exact am_s_virtual false dc107_2.2.1.1 rfl (by decide) rfl hx1 rfl (q11 c1)
theorem t107_34 {sc : Option (Nat × (Nat → Int32))} {d k n : Nat} {P : am_O → Prop} {I : am_I} {J : am_J} {Pf : am_R} (hp : am_PF Pf) {l0 : Option Value} {l1 : Option Value} {l2 : Option Value} {s0 : Int32} (q1 : P (.inl (some (.int s0)), (am_SH, I, J, Pf), k, n)) (q2 : s0 = 0 ∨ s0 = 1) : am_go sc d 107 (34, [l0, l1, l2], [.int s0], (am_SH, I, J, Pf), k, n) P := by
  exact am_s_zreturn dc107_2.2.1.2 rfl (q2) (q1)
theorem t107_61 {sc : Option (Nat × (Nat → Int32))} {d k n : Nat} {P : am_O → Prop} {I : am_I} {J : am_J} {Pf : am_R} (hp : am_PF Pf) {l0 : Option Value} {l1 : Option Value} {l2 : Option Value} {s0 : Int32} (q1 : P (.inl (some (.int s0)), (am_SH, I, J, Pf), k, n)) (q2 : s0 = 0 ∨ s0 = 1) : am_go sc d 107 (61, [l0, l1, l2], [.int s0], (am_SH, I, J, Pf), k, n) P := by
  exact am_s_zreturn dc107_4.2.2.1 rfl (q2) (q1)
theorem t107_78 {sc : Option (Nat × (Nat → Int32))} {d k n : Nat} {P : am_O → Prop} {I : am_I} {J : am_J} {Pf : am_R} (hp : am_PF Pf) {l0 : Option Value} {l1 : Option Value} {l2 : Option Value} {s0 : Int32} (q1 : P (.inl (some (.int s0)), (am_SH, I, J, Pf), k, n)) (q2 : s0 = 0 ∨ s0 = 1) : am_go sc d 107 (78, [l0, l1, l2], [.int s0], (am_SH, I, J, Pf), k, n) P := by
  exact am_s_zreturn dc107_6.2 rfl (q2) (q1)
