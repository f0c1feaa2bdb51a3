/-! Walks: greader -/
-- readAll (LPrunedParses$Reader;LPrunedParses$Rules;)Z
theorem dc21_0 : (((decode (am_by 21) 0 = .ok (.aload_n 0, 1)) ∧ (decode (am_by 21) 1 = .ok (.aload_n 1, 1))) ∧ ((decode (am_by 21) 2 = .ok (.putfield 28, 3)) ∧ (decode (am_by 21) 5 = .ok (.aload_n 0, 1)))) ∧ (((decode (am_by 21) 6 = .ok (.aload_n 2, 1)) ∧ (decode (am_by 21) 7 = .ok (.putfield 32, 3))) ∧ ((decode (am_by 21) 10 = .ok (.aload_n 0, 1)) ∧ (decode (am_by 21) 11 = .ok (.getfield 32, 3)))) := by decide +kernel
theorem dc21_1 : (((decode (am_by 21) 14 = .ok (.invokevirtual 36, 3)) ∧ (decode (am_by 21) 17 = .ok (.aload_n 0, 1))) ∧ ((decode (am_by 21) 18 = .ok (.iconst 0, 1)) ∧ (decode (am_by 21) 19 = .ok (.putfield 41, 3)))) ∧ (((decode (am_by 21) 22 = .ok (.aload_n 0, 1)) ∧ (decode (am_by 21) 23 = .ok (.getfield 41, 3))) ∧ ((decode (am_by 21) 26 = .ok (.bipush 60, 2)) ∧ (decode (am_by 21) 28 = .ok (.if_icmp .gt 51, 3)))) := by decide +kernel
theorem dc21_2 : (((decode (am_by 21) 31 = .ok (.aload_n 0, 1)) ∧ (decode (am_by 21) 32 = .ok (.getfield 28, 3))) ∧ ((decode (am_by 21) 35 = .ok (.invokevirtual 45, 3)) ∧ (decode (am_by 21) 38 = .ok (.iconst (-1), 1)))) ∧ (((decode (am_by 21) 39 = .ok (.if_icmp .ne 6, 3)) ∧ (decode (am_by 21) 42 = .ok (.goto 37, 3))) ∧ ((decode (am_by 21) 45 = .ok (.aload_n 0, 1)) ∧ (decode (am_by 21) 46 = .ok (.invokevirtual 51, 3)))) := by decide +kernel
theorem dc21_3 : (((decode (am_by 21) 49 = .ok (.ifCond .eq 15, 3)) ∧ (decode (am_by 21) 52 = .ok (.aload_n 0, 1))) ∧ ((decode (am_by 21) 53 = .ok (.getfield 28, 3)) ∧ (decode (am_by 21) 56 = .ok (.bipush 59, 2)))) ∧ (((decode (am_by 21) 58 = .ok (.invokevirtual 55, 3)) ∧ (decode (am_by 21) 61 = .ok (.ifCond .ne 5, 3))) ∧ ((decode (am_by 21) 64 = .ok (.iconst 0, 1)) ∧ (decode (am_by 21) 65 = .ok (.ireturn, 1)))) := by decide +kernel
theorem dc21_4 : (((decode (am_by 21) 66 = .ok (.aload_n 0, 1)) ∧ (decode (am_by 21) 67 = .ok (.dup, 1))) ∧ ((decode (am_by 21) 68 = .ok (.getfield 41, 3)) ∧ (decode (am_by 21) 71 = .ok (.iconst 1, 1)))) ∧ (((decode (am_by 21) 72 = .ok (.iadd, 1)) ∧ (decode (am_by 21) 73 = .ok (.putfield 41, 3))) ∧ ((decode (am_by 21) 76 = .ok (.goto (-54), 3)) ∧ (decode (am_by 21) 79 = .ok (.aload_n 0, 1)))) := by decide +kernel
theorem dc21_5 : (((decode (am_by 21) 80 = .ok (.getfield 32, 3)) ∧ (decode (am_by 21) 83 = .ok (.getfield 59, 3))) ∧ ((decode (am_by 21) 86 = .ok (.aload_n 0, 1)) ∧ (decode (am_by 21) 87 = .ok (.getfield 32, 3)))) ∧ (((decode (am_by 21) 90 = .ok (.invokevirtual 63, 3)) ∧ (decode (am_by 21) 93 = .ok (.aload_n 0, 1))) ∧ ((decode (am_by 21) 94 = .ok (.invokevirtual 69, 3)) ∧ (decode (am_by 21) 97 = .ok (.ifCond .ne 5, 3)))) := by decide +kernel
theorem dc21_6 : (((decode (am_by 21) 100 = .ok (.iconst 0, 1)) ∧ (decode (am_by 21) 101 = .ok (.ireturn, 1))) ∧ ((decode (am_by 21) 102 = .ok (.aload_n 0, 1)) ∧ (decode (am_by 21) 103 = .ok (.getfield 32, 3)))) ∧ (((decode (am_by 21) 106 = .ok (.getfield 59, 3)) ∧ (decode (am_by 21) 109 = .ok (.aload_n 0, 1))) ∧ ((decode (am_by 21) 110 = .ok (.getfield 32, 3)) ∧ (decode (am_by 21) 113 = .ok (.invokevirtual 72, 3)))) := by decide +kernel
theorem dc21_7 : (decode (am_by 21) 116 = .ok (.iconst 1, 1)) ∧ (decode (am_by 21) 117 = .ok (.ireturn, 1)) := by decide +kernel
theorem t21_0 {sc : Option (Nat × (Nat → Int32))} {d k n : Nat} {P : am_O → Prop} {I : am_I} {J : am_J} {Pf : am_R} (hp : am_PF Pf) {x2 : Nat} (hx2 : am_SH[x2]? = some (.inl 4)) {r3_1 : Nat} (q1 : (am_u (am_u Pf 3 0 (some 1)) 3 1 (some x2)) 3 1 = some r3_1) (q2 : am_SH[r3_1]? = some (.inl 4)) (q3 : am_mth d 67 [.ref r3_1] (am_SH, I, J, am_u (am_u Pf 3 0 (some 1)) 3 1 (some x2)) (am_af sc d 21 14 [some (.ref 3), some (.ref 1), some (.ref x2)] [.ref r3_1] [] (am_SH, I, J, am_u (am_u Pf 3 0 (some 1)) 3 1 (some x2)) k n false P)) : am_go sc d 21 (0, [some (.ref 3), some (.ref 1), some (.ref x2)], [], (am_SH, I, J, Pf), k, n) P := by
  refine am_s_aload_n rfl dc21_0.1.1.1 ?_
  refine am_s_aload_n rfl dc21_0.1.1.2 ?_
  refine am_s_putR dc21_0.1.2.1 rfl rfl rfl rfl (am_bltc rfl) ?_
  refine am_s_aload_n rfl dc21_0.1.2.2 ?_
  refine am_s_aload_n rfl dc21_0.2.1.1 ?_
  refine am_s_putR dc21_0.2.1.2 rfl rfl rfl rfl (am_blt hx2) ?_
  refine am_s_aload_n rfl dc21_0.2.2.1 ?_
  refine am_s_getR (r := r3_1) dc21_0.2.2.2 rfl rfl rfl (q1) ?_
  exact am_s_virtual false dc21_1.1.1.1 rfl (by decide) rfl (q2) rfl (q3)
theorem t21_22 {sc : Option (Nat × (Nat → Int32))} {d k n : Nat} {P : am_O → Prop} {I : am_I} {J : am_J} {Pf : am_R} (hp : am_PF Pf) {l1 : Option Value} {l2 : Option Value} (q1 : (60 < (I 3 2)) → am_go sc d 21 (79, [some (.ref 3), l1, l2], [], (am_SH, I, J, Pf), k, n) P) (q2 : (¬ (60 < (I 3 2))) → Pf 3 0 = some 1) (q3 : (¬ (60 < (I 3 2))) → am_mth d 55 [.ref 1] (am_SH, I, J, Pf) (am_af sc d 21 35 [some (.ref 3), l1, l2] [.ref 1] [] (am_SH, I, J, Pf) k n false P)) : am_go sc d 21 (22, [some (.ref 3), l1, l2], [], (am_SH, I, J, Pf), k, n) P := by
  refine am_s_aload_n rfl dc21_1.2.1.1 ?_
  refine am_x_getI (x := I 3 2) dc21_1.2.1.2 rfl rfl (Or.inl rfl) rfl ?_
  refine am_s_bipush am_cb60 dc21_1.2.2.1 ?_
  refine am_s_ic_gt dc21_1.2.2.2 rfl (fun c1 => ?_) (fun c1 => ?_)
  · exact q1 c1
  · refine am_s_aload_n rfl dc21_2.1.1.1 ?_
    refine am_s_getR (r := 1) dc21_2.1.1.2 rfl rfl rfl (q2 c1) ?_
    exact am_s_virtual false dc21_2.1.2.1 rfl (by decide) rfl rfl rfl (q3 c1)
theorem t21_79 {sc : Option (Nat × (Nat → Int32))} {d k n : Nat} {P : am_O → Prop} {I : am_I} {J : am_J} {Pf : am_R} (hp : am_PF Pf) {l1 : Option Value} {l2 : Option Value} {r3_1 : Nat} (q1 : Pf 3 1 = some r3_1) (q2 : am_SH[r3_1]? = some (.inl 4)) (q3 : Pf 3 1 = some r3_1) (q4 : am_SH[r3_1]? = some (.inl 4)) (q5 : am_mth d 91 [.ref (r3_1 + 15), .ref r3_1] (am_SH, I, J, Pf) (am_af sc d 21 90 [some (.ref 3), l1, l2] [.ref r3_1, .ref (r3_1 + 15)] [] (am_SH, I, J, Pf) k n false P)) : am_go sc d 21 (79, [some (.ref 3), l1, l2], [], (am_SH, I, J, Pf), k, n) P := by
  refine am_s_aload_n rfl dc21_4.2.2.2 ?_
  refine am_s_getR (r := r3_1) dc21_5.1.1.1 rfl rfl rfl (q1) ?_
  refine am_s_getR (r := r3_1 + 15) dc21_5.1.1.2 rfl (q2) rfl (am_r4_20 hp (q2)) ?_
  refine am_s_aload_n rfl dc21_5.1.2.1 ?_
  refine am_s_getR (r := r3_1) dc21_5.1.2.2 rfl rfl rfl (q3) ?_
  exact am_s_virtual false dc21_5.2.1.1 rfl (by decide) rfl (am_h4_20 (q2)) rfl (q5)
theorem t21_17 {sc : Option (Nat × (Nat → Int32))} {d k n : Nat} {P : am_O → Prop} {I : am_I} {J : am_J} {Pf : am_R} (hp : am_PF Pf) {l1 : Option Value} {l2 : Option Value} (q1 : am_go sc d 21 (22, [some (.ref 3), l1, l2], [], (am_SH, am_u I 3 2 0, J, Pf), k, n) P) : am_go sc d 21 (17, [some (.ref 3), l1, l2], [], (am_SH, I, J, Pf), k, n) P := by
  refine am_s_aload_n rfl dc21_1.1.1.2 ?_
  refine am_s_iconst am_cc0 dc21_1.1.2.1 ?_
  refine am_s_putI dc21_1.1.2.2 rfl rfl rfl rfl ?_
  exact q1
theorem t21_38 {sc : Option (Nat × (Nat → Int32))} {d k n : Nat} {P : am_O → Prop} {I : am_I} {J : am_J} {Pf : am_R} (hp : am_PF Pf) {l1 : Option Value} {l2 : Option Value} {s0 : Int32} (q1 : (¬ s0 = (-1)) → am_mth d 23 [.ref 3] (am_SH, I, J, Pf) (am_af sc d 21 46 [some (.ref 3), l1, l2] [.ref 3] [] (am_SH, I, J, Pf) k n true P)) (q2 : (¬ (¬ s0 = (-1))) → am_go sc d 21 (79, [some (.ref 3), l1, l2], [], (am_SH, I, J, Pf), k, n) P) : am_go sc d 21 (38, [some (.ref 3), l1, l2], [.int s0], (am_SH, I, J, Pf), k, n) P := by
  refine am_s_iconst am_ccm1 dc21_2.1.2.2 ?_
  refine am_s_ic_ne dc21_2.2.1.1 rfl (fun c1 => ?_) (fun c1 => ?_)
  · refine am_s_aload_n rfl dc21_2.2.2.1 ?_
    exact am_s_virtual true dc21_2.2.2.2 rfl (by decide) rfl rfl rfl (q1 c1)
  · refine am_s_goto rfl dc21_2.2.1.2 ?_
    exact q2 c1
theorem t21_93 {sc : Option (Nat × (Nat → Int32))} {d k n : Nat} {P : am_O → Prop} {I : am_I} {J : am_J} {Pf : am_R} (hp : am_PF Pf) {l1 : Option Value} {l2 : Option Value} (q1 : am_mth d 22 [.ref 3] (am_SH, I, J, Pf) (am_af sc d 21 94 [some (.ref 3), l1, l2] [.ref 3] [] (am_SH, I, J, Pf) k n true P)) : am_go sc d 21 (93, [some (.ref 3), l1, l2], [], (am_SH, I, J, Pf), k, n) P := by
  refine am_s_aload_n rfl dc21_5.2.1.2 ?_
  exact am_s_virtual true dc21_5.2.2.1 rfl (by decide) rfl rfl rfl (q1)
theorem t21_49 {sc : Option (Nat × (Nat → Int32))} {d k n : Nat} {P : am_O → Prop} {I : am_I} {J : am_J} {Pf : am_R} (hp : am_PF Pf) {l1 : Option Value} {l2 : Option Value} {s0 : Int32} (q1 : (s0 = 0) → P (.inl (some (.int 0)), (am_SH, I, J, Pf), k, n)) (q2 : (¬ (s0 = 0)) → Pf 3 0 = some 1) (q3 : (¬ (s0 = 0)) → am_mth d 56 [.ref 1, .int 59] (am_SH, I, J, Pf) (am_af sc d 21 58 [some (.ref 3), l1, l2] [.int 59, .ref 1] [] (am_SH, I, J, Pf) k n false P)) : am_go sc d 21 (49, [some (.ref 3), l1, l2], [.int s0], (am_SH, I, J, Pf), k, n) P := by
  refine am_s_if_eq dc21_3.1.1.1 rfl (fun c1 => ?_) (fun c1 => ?_)
  · refine am_s_iconst am_cc0 dc21_3.2.2.1 ?_
    exact am_s_zreturn dc21_3.2.2.2 rfl (by decide) (q1 c1)
  · refine am_s_aload_n rfl dc21_3.1.1.2 ?_
    refine am_s_getR (r := 1) dc21_3.1.2.1 rfl rfl rfl (q2 c1) ?_
    refine am_s_bipush am_cb59 dc21_3.1.2.2 ?_
    exact am_s_virtual false dc21_3.2.1.1 rfl (by decide) rfl rfl rfl (q3 c1)
theorem t21_97 {sc : Option (Nat × (Nat → Int32))} {d k n : Nat} {P : am_O → Prop} {I : am_I} {J : am_J} {Pf : am_R} (hp : am_PF Pf) {l1 : Option Value} {l2 : Option Value} {s0 : Int32} {r3_1 : Nat} (q1 : (¬ s0 = 0) → Pf 3 1 = some r3_1) (q2 : (¬ s0 = 0) → am_SH[r3_1]? = some (.inl 4)) (q3 : (¬ s0 = 0) → Pf 3 1 = some r3_1) (q4 : (¬ s0 = 0) → am_SH[r3_1]? = some (.inl 4)) (q5 : (¬ s0 = 0) → am_mth d 92 [.ref (r3_1 + 15), .ref r3_1] (am_SH, I, J, Pf) (am_af sc d 21 113 [some (.ref 3), l1, l2] [.ref r3_1, .ref (r3_1 + 15)] [] (am_SH, I, J, Pf) k n false P)) (q6 : (¬ (¬ s0 = 0)) → P (.inl (some (.int 0)), (am_SH, I, J, Pf), k, n)) : am_go sc d 21 (97, [some (.ref 3), l1, l2], [.int s0], (am_SH, I, J, Pf), k, n) P := by
  refine am_s_if_ne dc21_5.2.2.2 rfl (fun c1 => ?_) (fun c1 => ?_)
  · refine am_s_aload_n rfl dc21_6.1.2.1 ?_
    refine am_s_getR (r := r3_1) dc21_6.1.2.2 rfl rfl rfl (q1 c1) ?_
    refine am_s_getR (r := r3_1 + 15) dc21_6.2.1.1 rfl (q2 c1) rfl (am_r4_20 hp (q2 c1)) ?_
    refine am_s_aload_n rfl dc21_6.2.1.2 ?_
    refine am_s_getR (r := r3_1) dc21_6.2.2.1 rfl rfl rfl (q3 c1) ?_
    exact am_s_virtual false dc21_6.2.2.2 rfl (by decide) rfl (am_h4_20 (q2 c1)) rfl (q5 c1)
  · refine am_s_iconst am_cc0 dc21_6.1.1.1 ?_
    exact am_s_zreturn dc21_6.1.1.2 rfl (by decide) (q6 c1)
theorem t21_61 {sc : Option (Nat × (Nat → Int32))} {d k n : Nat} {P : am_O → Prop} {I : am_I} {J : am_J} {Pf : am_R} (hp : am_PF Pf) {l1 : Option Value} {l2 : Option Value} {s0 : Int32} (q1 : (¬ s0 = 0) → am_go sc d 21 (22, [some (.ref 3), l1, l2], [], (am_SH, am_u I 3 2 ((I 3 2) + 1), J, Pf), k, n) P) (q2 : (¬ (¬ s0 = 0)) → P (.inl (some (.int 0)), (am_SH, I, J, Pf), k, n)) : am_go sc d 21 (61, [some (.ref 3), l1, l2], [.int s0], (am_SH, I, J, Pf), k, n) P := by
  refine am_s_if_ne dc21_3.2.1.2 rfl (fun c1 => ?_) (fun c1 => ?_)
  · refine am_s_aload_n rfl dc21_4.1.1.1 ?_
    refine am_s_dup rfl dc21_4.1.1.2 ?_
    refine am_x_getI (x := I 3 2) dc21_4.1.2.1 rfl rfl (Or.inl rfl) rfl ?_
    refine am_s_iconst am_cc1 dc21_4.1.2.2 ?_
    refine am_s_iadd dc21_4.2.1.1 ?_
    refine am_s_putI dc21_4.2.1.2 rfl rfl rfl rfl ?_
    refine am_s_goto rfl dc21_4.2.2.1 ?_
    exact q1 c1
  · refine am_s_iconst am_cc0 dc21_3.2.2.1 ?_
    exact am_s_zreturn dc21_3.2.2.2 rfl (by decide) (q2 c1)
theorem t21_116 {sc : Option (Nat × (Nat → Int32))} {d k n : Nat} {P : am_O → Prop} {I : am_I} {J : am_J} {Pf : am_R} (hp : am_PF Pf) {l0 : Option Value} {l1 : Option Value} {l2 : Option Value} (q1 : P (.inl (some (.int 1)), (am_SH, I, J, Pf), k, n)) : am_go sc d 21 (116, [l0, l1, l2], [], (am_SH, I, J, Pf), k, n) P := by
  refine am_s_iconst am_cc1 dc21_7.1 ?_
  exact am_s_zreturn dc21_7.2 rfl (by decide) (q1)
-- dropsAreSound ()Z
theorem dc22_0 : (((decode (am_by 22) 0 = .ok (.iconst 0, 1)) ∧ (decode (am_by 22) 1 = .ok (.istore_n 1, 1))) ∧ ((decode (am_by 22) 2 = .ok (.iload_n 1, 1)) ∧ (decode (am_by 22) 3 = .ok (.aload_n 0, 1)))) ∧ (((decode (am_by 22) 4 = .ok (.getfield 32, 3)) ∧ (decode (am_by 22) 7 = .ok (.getfield 75, 3))) ∧ ((decode (am_by 22) 10 = .ok (.if_icmp .ge 72, 3)) ∧ (decode (am_by 22) 13 = .ok (.aload_n 0, 1)))) := by decide +kernel
theorem dc22_1 : (((decode (am_by 22) 14 = .ok (.getfield 32, 3)) ∧ (decode (am_by 22) 17 = .ok (.getfield 59, 3))) ∧ ((decode (am_by 22) 20 = .ok (.getfield 78, 3)) ∧ (decode (am_by 22) 23 = .ok (.aload_n 0, 1)))) ∧ (((decode (am_by 22) 24 = .ok (.getfield 32, 3)) ∧ (decode (am_by 22) 27 = .ok (.getfield 81, 3))) ∧ ((decode (am_by 22) 30 = .ok (.iload_n 1, 1)) ∧ (decode (am_by 22) 31 = .ok (.iaload, 1)))) := by decide +kernel
theorem dc22_2 : (((decode (am_by 22) 32 = .ok (.iaload, 1)) ∧ (decode (am_by 22) 33 = .ok (.aload_n 0, 1))) ∧ ((decode (am_by 22) 34 = .ok (.getfield 32, 3)) ∧ (decode (am_by 22) 37 = .ok (.getfield 84, 3)))) ∧ (((decode (am_by 22) 40 = .ok (.iload_n 1, 1)) ∧ (decode (am_by 22) 41 = .ok (.iaload, 1))) ∧ ((decode (am_by 22) 42 = .ok (.iushr, 1)) ∧ (decode (am_by 22) 43 = .ok (.iconst 1, 1)))) := by decide +kernel
theorem dc22_3 : (((decode (am_by 22) 44 = .ok (.iand, 1)) ∧ (decode (am_by 22) 45 = .ok (.ifCond .ne 6, 3))) ∧ ((decode (am_by 22) 48 = .ok (.goto 28, 3)) ∧ (decode (am_by 22) 51 = .ok (.aload_n 0, 1)))) ∧ (((decode (am_by 22) 52 = .ok (.aload_n 0, 1)) ∧ (decode (am_by 22) 53 = .ok (.getfield 21, 3))) ∧ ((decode (am_by 22) 56 = .ok (.iload_n 1, 1)) ∧ (decode (am_by 22) 57 = .ok (.iaload, 1)))) := by decide +kernel
theorem dc22_4 : (((decode (am_by 22) 58 = .ok (.putfield 41, 3)) ∧ (decode (am_by 22) 61 = .ok (.aload_n 0, 1))) ∧ ((decode (am_by 22) 62 = .ok (.getfield 28, 3)) ∧ (decode (am_by 22) 65 = .ok (.iconst 4, 1)))) ∧ (((decode (am_by 22) 66 = .ok (.aload_n 0, 1)) ∧ (decode (am_by 22) 67 = .ok (.getfield 17, 3))) ∧ ((decode (am_by 22) 70 = .ok (.iload_n 1, 1)) ∧ (decode (am_by 22) 71 = .ok (.iaload, 1)))) := by decide +kernel
theorem dc22_5 : ((decode (am_by 22) 72 = .ok (.invokevirtual 87, 3)) ∧ ((decode (am_by 22) 75 = .ok (.ireturn, 1)) ∧ (decode (am_by 22) 76 = .ok (.iinc 1 1, 3)))) ∧ ((decode (am_by 22) 79 = .ok (.goto (-77), 3)) ∧ ((decode (am_by 22) 82 = .ok (.iconst 1, 1)) ∧ (decode (am_by 22) 83 = .ok (.ireturn, 1)))) := by decide +kernel
theorem t22_0 {sc : Option (Nat × (Nat → Int32))} {d k n : Nat} {P : am_O → Prop} {I : am_I} {J : am_J} {Pf : am_R} (hp : am_PF Pf) {l1 : Option Value} (q1 : am_go sc d 22 (2, [some (.ref 3), some (.int 0)], [], (am_SH, I, J, Pf), k, n) P) : am_go sc d 22 (0, [some (.ref 3), l1], [], (am_SH, I, J, Pf), k, n) P := by
  refine am_s_iconst am_cc0 dc22_0.1.1.1 ?_
  refine am_s_istore_n (ls' := [some (.ref 3), some (.int 0)]) rfl rfl dc22_0.1.1.2 ?_
  exact q1
theorem t22_2 {sc : Option (Nat × (Nat → Int32))} {d k n : Nat} {P : am_O → Prop} {I : am_I} {J : am_J} {Pf : am_R} (hp : am_PF Pf) {x1 : Int32} {r3_1 : Nat} (q1 : Pf 3 1 = some r3_1) (q2 : am_SH[r3_1]? = some (.inl 4)) (q3 : ((I r3_1 16) ≤ x1) → P (.inl (some (.int 1)), (am_SH, I, J, Pf), k, n)) (q4 : (¬ ((I r3_1 16) ≤ x1)) → Pf 3 1 = some r3_1) (q5 : (¬ ((I r3_1 16) ≤ x1)) → am_SH[r3_1]? = some (.inl 4)) (q6 : (¬ ((I r3_1 16) ≤ x1)) → Pf 3 1 = some r3_1) (q7 : (¬ ((I r3_1 16) ≤ x1)) → am_SH[r3_1]? = some (.inl 4)) (q8 : (¬ ((I r3_1 16) ≤ x1)) → am_in x1 8 = true) (q9 : (¬ ((I r3_1 16) ≤ x1)) → am_in (I (r3_1 + 14) (Int32.toNatClampNeg x1)) 8 = true) (q10 : (¬ ((I r3_1 16) ≤ x1)) → Pf 3 1 = some r3_1) (q11 : (¬ ((I r3_1 16) ≤ x1)) → am_SH[r3_1]? = some (.inl 4)) (q12 : (¬ ((I r3_1 16) ≤ x1)) → am_in x1 8 = true) (q13 : (¬ ((I r3_1 16) ≤ x1)) → (¬ ((UInt32.toInt32 (Int32.toUInt32 (I (r3_1 + 15 + 3) (Int32.toNatClampNeg (I (r3_1 + 14) (Int32.toNatClampNeg x1)))) >>> (Int32.toUInt32 (I (r3_1 + 13) (Int32.toNatClampNeg x1)) &&& Int32.toUInt32 31))) &&& 1) = 0) → am_in x1 8 = true) (q14 : (¬ ((I r3_1 16) ≤ x1)) → (¬ ((UInt32.toInt32 (Int32.toUInt32 (I (r3_1 + 15 + 3) (Int32.toNatClampNeg (I (r3_1 + 14) (Int32.toNatClampNeg x1)))) >>> (Int32.toUInt32 (I (r3_1 + 13) (Int32.toNatClampNeg x1)) &&& Int32.toUInt32 31))) &&& 1) = 0) → Pf 3 0 = some 1) (q15 : (¬ ((I r3_1 16) ≤ x1)) → (¬ ((UInt32.toInt32 (Int32.toUInt32 (I (r3_1 + 15 + 3) (Int32.toNatClampNeg (I (r3_1 + 14) (Int32.toNatClampNeg x1)))) >>> (Int32.toUInt32 (I (r3_1 + 13) (Int32.toNatClampNeg x1)) &&& Int32.toUInt32 31))) &&& 1) = 0) → am_in x1 8 = true) (q16 : (¬ ((I r3_1 16) ≤ x1)) → (¬ ((UInt32.toInt32 (Int32.toUInt32 (I (r3_1 + 15 + 3) (Int32.toNatClampNeg (I (r3_1 + 14) (Int32.toNatClampNeg x1)))) >>> (Int32.toUInt32 (I (r3_1 + 13) (Int32.toNatClampNeg x1)) &&& Int32.toUInt32 31))) &&& 1) = 0) → am_mth d 53 [.ref 1, .int 4, .int (I 5 (Int32.toNatClampNeg x1))] (am_SH, am_u I 3 2 (I 6 (Int32.toNatClampNeg x1)), J, Pf) (am_af sc d 22 72 [some (.ref 3), some (.int x1)] [.int (I 5 (Int32.toNatClampNeg x1)), .int 4, .ref 1] [] (am_SH, am_u I 3 2 (I 6 (Int32.toNatClampNeg x1)), J, Pf) k n false P)) (q17 : (¬ ((I r3_1 16) ≤ x1)) → (¬ (¬ ((UInt32.toInt32 (Int32.toUInt32 (I (r3_1 + 15 + 3) (Int32.toNatClampNeg (I (r3_1 + 14) (Int32.toNatClampNeg x1)))) >>> (Int32.toUInt32 (I (r3_1 + 13) (Int32.toNatClampNeg x1)) &&& Int32.toUInt32 31))) &&& 1) = 0)) → am_go sc d 22 (2, [some (.ref 3), some (.int (x1 + 1))], [], (am_SH, I, J, Pf), k, n) P) : am_go sc d 22 (2, [some (.ref 3), some (.int x1)], [], (am_SH, I, J, Pf), k, n) P := by
  refine am_s_iload_n rfl dc22_0.1.2.1 ?_
  refine am_s_aload_n rfl dc22_0.1.2.2 ?_
  refine am_s_getR (r := r3_1) dc22_0.2.1.1 rfl rfl rfl (q1) ?_
  refine am_x_getI (x := I r3_1 16) dc22_0.2.1.2 rfl (q2) (Or.inl rfl) rfl ?_
  refine am_s_ic_ge dc22_0.2.2.1 rfl (fun c1 => ?_) (fun c1 => ?_)
  · refine am_s_iconst am_cc1 dc22_5.2.2.1 ?_
    exact am_s_zreturn dc22_5.2.2.2 rfl (by decide) (q3 c1)
  · refine am_s_aload_n rfl dc22_0.2.2.2 ?_
    refine am_s_getR (r := r3_1) dc22_1.1.1.1 rfl rfl rfl (q4 c1) ?_
    refine am_s_getR (r := r3_1 + 15) dc22_1.1.1.2 rfl (q5 c1) rfl (am_r4_20 hp (q5 c1)) ?_
    refine am_s_getR (r := r3_1 + 15 + 3) dc22_1.1.2.1 rfl (am_h4_20 (q5 c1)) rfl (am_r7_2 hp (am_h4_20 (q5 c1))) ?_
    refine am_s_aload_n rfl dc22_1.1.2.2 ?_
    refine am_s_getR (r := r3_1) dc22_1.2.1.1 rfl rfl rfl (q6 c1) ?_
    refine am_s_getR (r := r3_1 + 14) dc22_1.2.1.2 rfl (q7 c1) rfl (am_r4_18 hp (q7 c1)) ?_
    refine am_s_iload_n rfl dc22_1.2.2.1 ?_
    refine am_x_iaload (x := I (r3_1 + 14) (Int32.toNatClampNeg x1)) dc22_1.2.2.2 (am_h4_18 (q7 c1)) (q8 c1) rfl rfl ?_
    refine am_x_iaload (x := I (r3_1 + 15 + 3) (Int32.toNatClampNeg (I (r3_1 + 14) (Int32.toNatClampNeg x1)))) dc22_2.1.1.1 (am_h7_2 (am_h4_20 (q5 c1))) (q9 c1) rfl rfl ?_
    refine am_s_aload_n rfl dc22_2.1.1.2 ?_
    refine am_s_getR (r := r3_1) dc22_2.1.2.1 rfl rfl rfl (q10 c1) ?_
    refine am_s_getR (r := r3_1 + 13) dc22_2.1.2.2 rfl (q11 c1) rfl (am_r4_17 hp (q11 c1)) ?_
    refine am_s_iload_n rfl dc22_2.2.1.1 ?_
    refine am_x_iaload (x := I (r3_1 + 13) (Int32.toNatClampNeg x1)) dc22_2.2.1.2 (am_h4_17 (q11 c1)) (q12 c1) rfl rfl ?_
    refine am_s_iushr dc22_2.2.2.1 ?_
    refine am_s_iconst am_cc1 dc22_2.2.2.2 ?_
    refine am_s_iand dc22_3.1.1.1 ?_
    refine am_s_if_ne dc22_3.1.1.2 rfl (fun c2 => ?_) (fun c2 => ?_)
    · refine am_s_aload_n rfl dc22_3.1.2.2 ?_
      refine am_s_aload_n rfl dc22_3.2.1.1 ?_
      refine am_s_getR (r := 6) dc22_3.2.1.2 rfl rfl rfl (hp _ _ _ rfl) ?_
      refine am_s_iload_n rfl dc22_3.2.2.1 ?_
      refine am_x_iaload (x := I 6 (Int32.toNatClampNeg x1)) dc22_3.2.2.2 rfl (q13 c1 c2) rfl rfl ?_
      refine am_s_putI dc22_4.1.1.1 rfl rfl rfl rfl ?_
      refine am_s_aload_n rfl dc22_4.1.1.2 ?_
      refine am_s_getR (r := 1) dc22_4.1.2.1 rfl rfl rfl (q14 c1 c2) ?_
      refine am_s_iconst am_cc4 dc22_4.1.2.2 ?_
      refine am_s_aload_n rfl dc22_4.2.1.1 ?_
      refine am_s_getR (r := 5) dc22_4.2.1.2 rfl rfl rfl (hp _ _ _ rfl) ?_
      refine am_s_iload_n rfl dc22_4.2.2.1 ?_
      refine am_x_iaload (x := I 5 (Int32.toNatClampNeg x1)) dc22_4.2.2.2 rfl (q15 c1 c2) rfl rfl ?_
      exact am_s_virtual false dc22_5.1.1 rfl (by decide) rfl rfl rfl (q16 c1 c2)
    · refine am_s_goto rfl dc22_3.1.2.1 ?_
      refine am_s_iinc (ls' := [some (.ref 3), some (.int (x1 + 1))]) am_cc1 rfl rfl dc22_5.1.2.2 ?_
      refine am_s_goto rfl dc22_5.2.1 ?_
      exact q17 c1 c2
theorem t22_75 {sc : Option (Nat × (Nat → Int32))} {d k n : Nat} {P : am_O → Prop} {I : am_I} {J : am_J} {Pf : am_R} (hp : am_PF Pf) {l0 : Option Value} {l1 : Option Value} {s0 : Int32} (q1 : P (.inl (some (.int s0)), (am_SH, I, J, Pf), k, n)) (q2 : s0 = 0 ∨ s0 = 1) : am_go sc d 22 (75, [l0, l1], [.int s0], (am_SH, I, J, Pf), k, n) P := by
  exact am_s_zreturn dc22_5.1.2.1 rfl (q2) (q1)
-- readClause ()Z
theorem dc23_0 : (((decode (am_by 23) 0 = .ok (.aload_n 0, 1)) ∧ (decode (am_by 23) 1 = .ok (.getfield 28, 3))) ∧ ((decode (am_by 23) 4 = .ok (.invokevirtual 91, 3)) ∧ (decode (am_by 23) 7 = .ok (.ifCond .ne 5, 3)))) ∧ (((decode (am_by 23) 10 = .ok (.iconst 0, 1)) ∧ (decode (am_by 23) 11 = .ok (.ireturn, 1))) ∧ ((decode (am_by 23) 12 = .ok (.aload_n 0, 1)) ∧ (decode (am_by 23) 13 = .ok (.invokevirtual 94, 3)))) := by decide +kernel
theorem dc23_1 : (((decode (am_by 23) 16 = .ok (.istore_n 1, 1)) ∧ (decode (am_by 23) 17 = .ok (.iload_n 1, 1))) ∧ ((decode (am_by 23) 18 = .ok (.ifCond .ne 19, 3)) ∧ (decode (am_by 23) 21 = .ok (.aload_n 0, 1)))) ∧ (((decode (am_by 23) 22 = .ok (.getfield 28, 3)) ∧ (decode (am_by 23) 25 = .ok (.iconst 1, 1))) ∧ ((decode (am_by 23) 26 = .ok (.aload_n 0, 1)) ∧ (decode (am_by 23) 27 = .ok (.getfield 28, 3)))) := by decide +kernel
theorem dc23_2 : (((decode (am_by 23) 30 = .ok (.getfield 97, 3)) ∧ (decode (am_by 23) 33 = .ok (.invokevirtual 87, 3))) ∧ ((decode (am_by 23) 36 = .ok (.ireturn, 1)) ∧ (decode (am_by 23) 37 = .ok (.aload_n 0, 1)))) ∧ (((decode (am_by 23) 38 = .ok (.getfield 41, 3)) ∧ (decode (am_by 23) 41 = .ok (.bipush 60, 2))) ∧ ((decode (am_by 23) 43 = .ok (.if_icmp .ge 11, 3)) ∧ (decode (am_by 23) 46 = .ok (.aload_n 0, 1)))) := by decide +kernel
theorem dc23_3 : (((decode (am_by 23) 47 = .ok (.iload_n 1, 1)) ∧ (decode (am_by 23) 48 = .ok (.invokevirtual 100, 3))) ∧ ((decode (am_by 23) 51 = .ok (.ifCond .eq 19, 3)) ∧ (decode (am_by 23) 54 = .ok (.aload_n 0, 1)))) ∧ (((decode (am_by 23) 55 = .ok (.getfield 28, 3)) ∧ (decode (am_by 23) 58 = .ok (.iconst 3, 1))) ∧ ((decode (am_by 23) 59 = .ok (.aload_n 0, 1)) ∧ (decode (am_by 23) 60 = .ok (.getfield 28, 3)))) := by decide +kernel
theorem dc23_4 : (((decode (am_by 23) 63 = .ok (.getfield 97, 3)) ∧ (decode (am_by 23) 66 = .ok (.invokevirtual 87, 3))) ∧ ((decode (am_by 23) 69 = .ok (.ireturn, 1)) ∧ (decode (am_by 23) 70 = .ok (.iload_n 1, 1)))) ∧ (((decode (am_by 23) 71 = .ok (.tableswitch 85 1 6 #[37, 58, 64, 70, 75, 80], 37)) ∧ (decode (am_by 23) 108 = .ok (.aload_n 0, 1))) ∧ ((decode (am_by 23) 109 = .ok (.iconst 0, 1)) ∧ (decode (am_by 23) 110 = .ok (.invokevirtual 103, 3)))) := by decide +kernel
theorem dc23_5 : (((decode (am_by 23) 113 = .ok (.ifCond .eq 14, 3)) ∧ (decode (am_by 23) 116 = .ok (.aload_n 0, 1))) ∧ ((decode (am_by 23) 117 = .ok (.invokevirtual 106, 3)) ∧ (decode (am_by 23) 120 = .ok (.ifCond .eq 7, 3)))) ∧ (((decode (am_by 23) 123 = .ok (.iconst 1, 1)) ∧ (decode (am_by 23) 124 = .ok (.goto 4, 3))) ∧ ((decode (am_by 23) 127 = .ok (.iconst 0, 1)) ∧ (decode (am_by 23) 128 = .ok (.ireturn, 1)))) := by decide +kernel
theorem dc23_6 : (((decode (am_by 23) 129 = .ok (.aload_n 0, 1)) ∧ (decode (am_by 23) 130 = .ok (.iconst 1, 1))) ∧ ((decode (am_by 23) 131 = .ok (.invokevirtual 109, 3)) ∧ (decode (am_by 23) 134 = .ok (.ireturn, 1)))) ∧ (((decode (am_by 23) 135 = .ok (.aload_n 0, 1)) ∧ (decode (am_by 23) 136 = .ok (.iconst 0, 1))) ∧ ((decode (am_by 23) 137 = .ok (.invokevirtual 109, 3)) ∧ (decode (am_by 23) 140 = .ok (.ireturn, 1)))) := by decide +kernel
theorem dc23_7 : (((decode (am_by 23) 141 = .ok (.aload_n 0, 1)) ∧ (decode (am_by 23) 142 = .ok (.invokevirtual 113, 3))) ∧ ((decode (am_by 23) 145 = .ok (.ireturn, 1)) ∧ (decode (am_by 23) 146 = .ok (.aload_n 0, 1)))) ∧ (((decode (am_by 23) 147 = .ok (.invokevirtual 116, 3)) ∧ (decode (am_by 23) 150 = .ok (.ireturn, 1))) ∧ ((decode (am_by 23) 151 = .ok (.aload_n 0, 1)) ∧ (decode (am_by 23) 152 = .ok (.invokevirtual 119, 3)))) := by decide +kernel
theorem dc23_8 : ((decode (am_by 23) 155 = .ok (.ireturn, 1)) ∧ (decode (am_by 23) 156 = .ok (.aload_n 0, 1))) ∧ ((decode (am_by 23) 157 = .ok (.invokevirtual 122, 3)) ∧ (decode (am_by 23) 160 = .ok (.ireturn, 1))) := by decide +kernel
theorem t23_0 {sc : Option (Nat × (Nat → Int32))} {d k n : Nat} {P : am_O → Prop} {I : am_I} {J : am_J} {Pf : am_R} (hp : am_PF Pf) {l1 : Option Value} (q1 : Pf 3 0 = some 1) (q2 : am_mth d 59 [.ref 1] (am_SH, I, J, Pf) (am_af sc d 23 4 [some (.ref 3), l1] [.ref 1] [] (am_SH, I, J, Pf) k n false P)) : am_go sc d 23 (0, [some (.ref 3), l1], [], (am_SH, I, J, Pf), k, n) P := by
  refine am_s_aload_n rfl dc23_0.1.1.1 ?_
  refine am_s_getR (r := 1) dc23_0.1.1.2 rfl rfl rfl (q1) ?_
  exact am_s_virtual false dc23_0.1.2.1 rfl (by decide) rfl rfl rfl (q2)
theorem t23_54 {sc : Option (Nat × (Nat → Int32))} {d k n : Nat} {P : am_O → Prop} {I : am_I} {J : am_J} {Pf : am_R} (hp : am_PF Pf) {l1 : Option Value} (q1 : Pf 3 0 = some 1) (q2 : Pf 3 0 = some 1) (q3 : am_mth d 53 [.ref 1, .int 3, .int (I 1 7)] (am_SH, I, J, Pf) (am_af sc d 23 66 [some (.ref 3), l1] [.int (I 1 7), .int 3, .ref 1] [] (am_SH, I, J, Pf) k n false P)) : am_go sc d 23 (54, [some (.ref 3), l1], [], (am_SH, I, J, Pf), k, n) P := by
  refine am_s_aload_n rfl dc23_3.1.2.2 ?_
  refine am_s_getR (r := 1) dc23_3.2.1.1 rfl rfl rfl (q1) ?_
  refine am_s_iconst am_cc3 dc23_3.2.1.2 ?_
  refine am_s_aload_n rfl dc23_3.2.2.1 ?_
  refine am_s_getR (r := 1) dc23_3.2.2.2 rfl rfl rfl (q2) ?_
  refine am_x_getI (x := I 1 7) dc23_4.1.1.1 rfl rfl (Or.inl rfl) rfl ?_
  exact am_s_virtual false dc23_4.1.1.2 rfl (by decide) rfl rfl rfl (q3)
theorem t23_7 {sc : Option (Nat × (Nat → Int32))} {d k n : Nat} {P : am_O → Prop} {I : am_I} {J : am_J} {Pf : am_R} (hp : am_PF Pf) {l1 : Option Value} {s0 : Int32} (q1 : (¬ s0 = 0) → am_mth d 24 [.ref 3] (am_SH, I, J, Pf) (am_af sc d 23 13 [some (.ref 3), l1] [.ref 3] [] (am_SH, I, J, Pf) k n true P)) (q2 : (¬ (¬ s0 = 0)) → P (.inl (some (.int 0)), (am_SH, I, J, Pf), k, n)) : am_go sc d 23 (7, [some (.ref 3), l1], [.int s0], (am_SH, I, J, Pf), k, n) P := by
  refine am_s_if_ne dc23_0.1.2.2 rfl (fun c1 => ?_) (fun c1 => ?_)
  · refine am_s_aload_n rfl dc23_0.2.2.1 ?_
    exact am_s_virtual true dc23_0.2.2.2 rfl (by decide) rfl rfl rfl (q1 c1)
  · refine am_s_iconst am_cc0 dc23_0.2.1.1 ?_
    exact am_s_zreturn dc23_0.2.1.2 rfl (by decide) (q2 c1)
theorem t23_69 {sc : Option (Nat × (Nat → Int32))} {d k n : Nat} {P : am_O → Prop} {I : am_I} {J : am_J} {Pf : am_R} (hp : am_PF Pf) {l0 : Option Value} {l1 : Option Value} {s0 : Int32} (q1 : P (.inl (some (.int s0)), (am_SH, I, J, Pf), k, n)) (q2 : s0 = 0 ∨ s0 = 1) : am_go sc d 23 (69, [l0, l1], [.int s0], (am_SH, I, J, Pf), k, n) P := by
  exact am_s_zreturn dc23_4.1.2.1 rfl (q2) (q1)
theorem t23_16 {sc : Option (Nat × (Nat → Int32))} {d k n : Nat} {P : am_O → Prop} {I : am_I} {J : am_J} {Pf : am_R} (hp : am_PF Pf) {l1 : Option Value} {s0 : Int32} (q1 : (¬ s0 = 0) → (60 ≤ (I 3 2)) → am_go sc d 23 (54, [some (.ref 3), some (.int s0)], [], (am_SH, I, J, Pf), k, n) P) (q2 : (¬ s0 = 0) → (¬ (60 ≤ (I 3 2))) → am_mth d 25 [.ref 3, .int s0] (am_SH, I, J, Pf) (am_af sc d 23 48 [some (.ref 3), some (.int s0)] [.int s0, .ref 3] [] (am_SH, I, J, Pf) k n true P)) (q3 : (¬ (¬ s0 = 0)) → Pf 3 0 = some 1) (q4 : (¬ (¬ s0 = 0)) → Pf 3 0 = some 1) (q5 : (¬ (¬ s0 = 0)) → am_mth d 53 [.ref 1, .int 1, .int (I 1 7)] (am_SH, I, J, Pf) (am_af sc d 23 33 [some (.ref 3), some (.int s0)] [.int (I 1 7), .int 1, .ref 1] [] (am_SH, I, J, Pf) k n false P)) : am_go sc d 23 (16, [some (.ref 3), l1], [.int s0], (am_SH, I, J, Pf), k, n) P := by
  refine am_s_istore_n (ls' := [some (.ref 3), some (.int s0)]) rfl rfl dc23_1.1.1.1 ?_
  refine am_s_iload_n rfl dc23_1.1.1.2 ?_
  refine am_s_if_ne dc23_1.1.2.1 rfl (fun c1 => ?_) (fun c1 => ?_)
  · refine am_s_aload_n rfl dc23_2.1.2.2 ?_
    refine am_x_getI (x := I 3 2) dc23_2.2.1.1 rfl rfl (Or.inl rfl) rfl ?_
    refine am_s_bipush am_cb60 dc23_2.2.1.2 ?_
    refine am_s_ic_ge dc23_2.2.2.1 rfl (fun c2 => ?_) (fun c2 => ?_)
    · exact q1 c1 c2
    · refine am_s_aload_n rfl dc23_2.2.2.2 ?_
      refine am_s_iload_n rfl dc23_3.1.1.1 ?_
      exact am_s_virtual true dc23_3.1.1.2 rfl (by decide) rfl rfl rfl (q2 c1 c2)
  · refine am_s_aload_n rfl dc23_1.1.2.2 ?_
    refine am_s_getR (r := 1) dc23_1.2.1.1 rfl rfl rfl (q3 c1) ?_
    refine am_s_iconst am_cc1 dc23_1.2.1.2 ?_
    refine am_s_aload_n rfl dc23_1.2.2.1 ?_
    refine am_s_getR (r := 1) dc23_1.2.2.2 rfl rfl rfl (q4 c1) ?_
    refine am_x_getI (x := I 1 7) dc23_2.1.1.1 rfl rfl (Or.inl rfl) rfl ?_
    exact am_s_virtual false dc23_2.1.1.2 rfl (by decide) rfl rfl rfl (q5 c1)
theorem t23_36 {sc : Option (Nat × (Nat → Int32))} {d k n : Nat} {P : am_O → Prop} {I : am_I} {J : am_J} {Pf : am_R} (hp : am_PF Pf) {l0 : Option Value} {l1 : Option Value} {s0 : Int32} (q1 : P (.inl (some (.int s0)), (am_SH, I, J, Pf), k, n)) (q2 : s0 = 0 ∨ s0 = 1) : am_go sc d 23 (36, [l0, l1], [.int s0], (am_SH, I, J, Pf), k, n) P := by
  exact am_s_zreturn dc23_2.1.2.1 rfl (q2) (q1)
theorem t23_51 {sc : Option (Nat × (Nat → Int32))} {d k n : Nat} {P : am_O → Prop} {I : am_I} {J : am_J} {Pf : am_R} (hp : am_PF Pf) {x1 : Int32} {s0 : Int32} (q1 : (s0 = 0) → am_go sc d 23 (71, [some (.ref 3), some (.int x1)], [.int x1], (am_SH, I, J, Pf), k, n) P) (q2 : (¬ (s0 = 0)) → am_go sc d 23 (54, [some (.ref 3), some (.int x1)], [], (am_SH, I, J, Pf), k, n) P) : am_go sc d 23 (51, [some (.ref 3), some (.int x1)], [.int s0], (am_SH, I, J, Pf), k, n) P := by
  refine am_s_if_eq dc23_3.1.2.1 rfl (fun c1 => ?_) (fun c1 => ?_)
  · refine am_s_iload_n rfl dc23_4.1.2.2 ?_
    exact q1 c1
  · exact q2 c1
-- kindOfClause ()I
theorem dc24_0 : (((decode (am_by 24) 0 = .ok (.aload_n 0, 1)) ∧ (decode (am_by 24) 1 = .ok (.getfield 28, 3))) ∧ ((decode (am_by 24) 4 = .ok (.ldc 125, 2)) ∧ (decode (am_by 24) 6 = .ok (.invokevirtual 127, 3)))) ∧ (((decode (am_by 24) 9 = .ok (.ifCond .eq 5, 3)) ∧ (decode (am_by 24) 12 = .ok (.iconst 1, 1))) ∧ ((decode (am_by 24) 13 = .ok (.ireturn, 1)) ∧ (decode (am_by 24) 14 = .ok (.aload_n 0, 1)))) := by decide +kernel
theorem dc24_1 : (((decode (am_by 24) 15 = .ok (.getfield 28, 3)) ∧ (decode (am_by 24) 18 = .ok (.ldc 131, 2))) ∧ ((decode (am_by 24) 20 = .ok (.invokevirtual 127, 3)) ∧ (decode (am_by 24) 23 = .ok (.ifCond .eq 5, 3)))) ∧ (((decode (am_by 24) 26 = .ok (.iconst 2, 1)) ∧ (decode (am_by 24) 27 = .ok (.ireturn, 1))) ∧ ((decode (am_by 24) 28 = .ok (.aload_n 0, 1)) ∧ (decode (am_by 24) 29 = .ok (.getfield 28, 3)))) := by decide +kernel
theorem dc24_2 : (((decode (am_by 24) 32 = .ok (.ldc 133, 2)) ∧ (decode (am_by 24) 34 = .ok (.invokevirtual 127, 3))) ∧ ((decode (am_by 24) 37 = .ok (.ifCond .eq 5, 3)) ∧ (decode (am_by 24) 40 = .ok (.iconst 3, 1)))) ∧ (((decode (am_by 24) 41 = .ok (.ireturn, 1)) ∧ (decode (am_by 24) 42 = .ok (.aload_n 0, 1))) ∧ ((decode (am_by 24) 43 = .ok (.getfield 28, 3)) ∧ (decode (am_by 24) 46 = .ok (.ldc 135, 2)))) := by decide +kernel
theorem dc24_3 : (((decode (am_by 24) 48 = .ok (.invokevirtual 127, 3)) ∧ (decode (am_by 24) 51 = .ok (.ifCond .eq 5, 3))) ∧ ((decode (am_by 24) 54 = .ok (.iconst 4, 1)) ∧ (decode (am_by 24) 55 = .ok (.ireturn, 1)))) ∧ (((decode (am_by 24) 56 = .ok (.aload_n 0, 1)) ∧ (decode (am_by 24) 57 = .ok (.getfield 28, 3))) ∧ ((decode (am_by 24) 60 = .ok (.ldc 137, 2)) ∧ (decode (am_by 24) 62 = .ok (.invokevirtual 127, 3)))) := by decide +kernel
theorem dc24_4 : (((decode (am_by 24) 65 = .ok (.ifCond .eq 5, 3)) ∧ (decode (am_by 24) 68 = .ok (.iconst 5, 1))) ∧ ((decode (am_by 24) 69 = .ok (.ireturn, 1)) ∧ (decode (am_by 24) 70 = .ok (.aload_n 0, 1)))) ∧ (((decode (am_by 24) 71 = .ok (.getfield 28, 3)) ∧ (decode (am_by 24) 74 = .ok (.ldc 139, 2))) ∧ ((decode (am_by 24) 76 = .ok (.invokevirtual 127, 3)) ∧ (decode (am_by 24) 79 = .ok (.ifCond .eq 6, 3)))) := by decide +kernel
theorem dc24_5 : (((decode (am_by 24) 82 = .ok (.bipush 6, 2)) ∧ (decode (am_by 24) 84 = .ok (.ireturn, 1))) ∧ ((decode (am_by 24) 85 = .ok (.aload_n 0, 1)) ∧ (decode (am_by 24) 86 = .ok (.getfield 28, 3)))) ∧ (((decode (am_by 24) 89 = .ok (.ldc 141, 2)) ∧ (decode (am_by 24) 91 = .ok (.invokevirtual 127, 3))) ∧ ((decode (am_by 24) 94 = .ok (.ifCond .eq 8, 3)) ∧ (decode (am_by 24) 97 = .ok (.bipush 7, 2)))) := by decide +kernel
theorem dc24_6 : (decode (am_by 24) 99 = .ok (.goto 4, 3)) ∧ ((decode (am_by 24) 102 = .ok (.iconst 0, 1)) ∧ (decode (am_by 24) 103 = .ok (.ireturn, 1))) := by decide +kernel
theorem t24_0 {sc : Option (Nat × (Nat → Int32))} {d k n : Nat} {P : am_O → Prop} {I : am_I} {J : am_J} {Pf : am_R} (hp : am_PF Pf)  (q1 : Pf 3 0 = some 1) (q2 : am_mth d 60 [.ref 1, .retAddr 2] (am_SH, I, J, Pf) (am_af sc d 24 6 [some (.ref 3)] [.retAddr 2, .ref 1] [] (am_SH, I, J, Pf) k n false P)) : am_go sc d 24 (0, [some (.ref 3)], [], (am_SH, I, J, Pf), k, n) P := by
  refine am_s_aload_n rfl dc24_0.1.1.1 ?_
  refine am_s_getR (r := 1) dc24_0.1.1.2 rfl rfl rfl (q1) ?_
  refine am_s_ldcT (x := 2) dc24_0.1.2.1 rfl rfl ?_
  exact am_s_virtual false dc24_0.1.2.2 rfl (by decide) rfl rfl rfl (q2)
theorem t24_9 {sc : Option (Nat × (Nat → Int32))} {d k n : Nat} {P : am_O → Prop} {I : am_I} {J : am_J} {Pf : am_R} (hp : am_PF Pf) {s0 : Int32} (q1 : (s0 = 0) → Pf 3 0 = some 1) (q2 : (s0 = 0) → am_mth d 60 [.ref 1, .retAddr 3] (am_SH, I, J, Pf) (am_af sc d 24 20 [some (.ref 3)] [.retAddr 3, .ref 1] [] (am_SH, I, J, Pf) k n false P)) (q3 : (¬ (s0 = 0)) → P (.inl (some (.int 1)), (am_SH, I, J, Pf), k, n)) : am_go sc d 24 (9, [some (.ref 3)], [.int s0], (am_SH, I, J, Pf), k, n) P := by
  refine am_s_if_eq dc24_0.2.1.1 rfl (fun c1 => ?_) (fun c1 => ?_)
  · refine am_s_aload_n rfl dc24_0.2.2.2 ?_
    refine am_s_getR (r := 1) dc24_1.1.1.1 rfl rfl rfl (q1 c1) ?_
    refine am_s_ldcT (x := 3) dc24_1.1.1.2 rfl rfl ?_
    exact am_s_virtual false dc24_1.1.2.1 rfl (by decide) rfl rfl rfl (q2 c1)
  · refine am_s_iconst am_cc1 dc24_0.2.1.2 ?_
    exact am_s_ireturn dc24_0.2.2.1 rfl (q3 c1)
theorem t24_23 {sc : Option (Nat × (Nat → Int32))} {d k n : Nat} {P : am_O → Prop} {I : am_I} {J : am_J} {Pf : am_R} (hp : am_PF Pf) {s0 : Int32} (q1 : (s0 = 0) → Pf 3 0 = some 1) (q2 : (s0 = 0) → am_mth d 60 [.ref 1, .retAddr 4] (am_SH, I, J, Pf) (am_af sc d 24 34 [some (.ref 3)] [.retAddr 4, .ref 1] [] (am_SH, I, J, Pf) k n false P)) (q3 : (¬ (s0 = 0)) → P (.inl (some (.int 2)), (am_SH, I, J, Pf), k, n)) : am_go sc d 24 (23, [some (.ref 3)], [.int s0], (am_SH, I, J, Pf), k, n) P := by
  refine am_s_if_eq dc24_1.1.2.2 rfl (fun c1 => ?_) (fun c1 => ?_)
  · refine am_s_aload_n rfl dc24_1.2.2.1 ?_
    refine am_s_getR (r := 1) dc24_1.2.2.2 rfl rfl rfl (q1 c1) ?_
    refine am_s_ldcT (x := 4) dc24_2.1.1.1 rfl rfl ?_
    exact am_s_virtual false dc24_2.1.1.2 rfl (by decide) rfl rfl rfl (q2 c1)
  · refine am_s_iconst am_cc2 dc24_1.2.1.1 ?_
    exact am_s_ireturn dc24_1.2.1.2 rfl (q3 c1)
theorem t24_37 {sc : Option (Nat × (Nat → Int32))} {d k n : Nat} {P : am_O → Prop} {I : am_I} {J : am_J} {Pf : am_R} (hp : am_PF Pf) {s0 : Int32} (q1 : (s0 = 0) → Pf 3 0 = some 1) (q2 : (s0 = 0) → am_mth d 60 [.ref 1, .retAddr 5] (am_SH, I, J, Pf) (am_af sc d 24 48 [some (.ref 3)] [.retAddr 5, .ref 1] [] (am_SH, I, J, Pf) k n false P)) (q3 : (¬ (s0 = 0)) → P (.inl (some (.int 3)), (am_SH, I, J, Pf), k, n)) : am_go sc d 24 (37, [some (.ref 3)], [.int s0], (am_SH, I, J, Pf), k, n) P := by
  refine am_s_if_eq dc24_2.1.2.1 rfl (fun c1 => ?_) (fun c1 => ?_)
  · refine am_s_aload_n rfl dc24_2.2.1.2 ?_
    refine am_s_getR (r := 1) dc24_2.2.2.1 rfl rfl rfl (q1 c1) ?_
    refine am_s_ldcT (x := 5) dc24_2.2.2.2 rfl rfl ?_
    exact am_s_virtual false dc24_3.1.1.1 rfl (by decide) rfl rfl rfl (q2 c1)
  · refine am_s_iconst am_cc3 dc24_2.1.2.2 ?_
    exact am_s_ireturn dc24_2.2.1.1 rfl (q3 c1)
theorem t24_51 {sc : Option (Nat × (Nat → Int32))} {d k n : Nat} {P : am_O → Prop} {I : am_I} {J : am_J} {Pf : am_R} (hp : am_PF Pf) {s0 : Int32} (q1 : (s0 = 0) → Pf 3 0 = some 1) (q2 : (s0 = 0) → am_mth d 60 [.ref 1, .retAddr 6] (am_SH, I, J, Pf) (am_af sc d 24 62 [some (.ref 3)] [.retAddr 6, .ref 1] [] (am_SH, I, J, Pf) k n false P)) (q3 : (¬ (s0 = 0)) → P (.inl (some (.int 4)), (am_SH, I, J, Pf), k, n)) : am_go sc d 24 (51, [some (.ref 3)], [.int s0], (am_SH, I, J, Pf), k, n) P := by
  refine am_s_if_eq dc24_3.1.1.2 rfl (fun c1 => ?_) (fun c1 => ?_)
  · refine am_s_aload_n rfl dc24_3.2.1.1 ?_
    refine am_s_getR (r := 1) dc24_3.2.1.2 rfl rfl rfl (q1 c1) ?_
    refine am_s_ldcT (x := 6) dc24_3.2.2.1 rfl rfl ?_
    exact am_s_virtual false dc24_3.2.2.2 rfl (by decide) rfl rfl rfl (q2 c1)
  · refine am_s_iconst am_cc4 dc24_3.1.2.1 ?_
    exact am_s_ireturn dc24_3.1.2.2 rfl (q3 c1)
theorem t24_65 {sc : Option (Nat × (Nat → Int32))} {d k n : Nat} {P : am_O → Prop} {I : am_I} {J : am_J} {Pf : am_R} (hp : am_PF Pf) {s0 : Int32} (q1 : (s0 = 0) → Pf 3 0 = some 1) (q2 : (s0 = 0) → am_mth d 60 [.ref 1, .retAddr 7] (am_SH, I, J, Pf) (am_af sc d 24 76 [some (.ref 3)] [.retAddr 7, .ref 1] [] (am_SH, I, J, Pf) k n false P)) (q3 : (¬ (s0 = 0)) → P (.inl (some (.int 5)), (am_SH, I, J, Pf), k, n)) : am_go sc d 24 (65, [some (.ref 3)], [.int s0], (am_SH, I, J, Pf), k, n) P := by
  refine am_s_if_eq dc24_4.1.1.1 rfl (fun c1 => ?_) (fun c1 => ?_)
  · refine am_s_aload_n rfl dc24_4.1.2.2 ?_
    refine am_s_getR (r := 1) dc24_4.2.1.1 rfl rfl rfl (q1 c1) ?_
    refine am_s_ldcT (x := 7) dc24_4.2.1.2 rfl rfl ?_
    exact am_s_virtual false dc24_4.2.2.1 rfl (by decide) rfl rfl rfl (q2 c1)
  · refine am_s_iconst am_cc5 dc24_4.1.1.2 ?_
    exact am_s_ireturn dc24_4.1.2.1 rfl (q3 c1)
theorem t24_79 {sc : Option (Nat × (Nat → Int32))} {d k n : Nat} {P : am_O → Prop} {I : am_I} {J : am_J} {Pf : am_R} (hp : am_PF Pf) {s0 : Int32} (q1 : (s0 = 0) → Pf 3 0 = some 1) (q2 : (s0 = 0) → am_mth d 60 [.ref 1, .retAddr 8] (am_SH, I, J, Pf) (am_af sc d 24 91 [some (.ref 3)] [.retAddr 8, .ref 1] [] (am_SH, I, J, Pf) k n false P)) (q3 : (¬ (s0 = 0)) → P (.inl (some (.int 6)), (am_SH, I, J, Pf), k, n)) : am_go sc d 24 (79, [some (.ref 3)], [.int s0], (am_SH, I, J, Pf), k, n) P := by
  refine am_s_if_eq dc24_4.2.2.2 rfl (fun c1 => ?_) (fun c1 => ?_)
  · refine am_s_aload_n rfl dc24_5.1.2.1 ?_
    refine am_s_getR (r := 1) dc24_5.1.2.2 rfl rfl rfl (q1 c1) ?_
    refine am_s_ldcT (x := 8) dc24_5.2.1.1 rfl rfl ?_
    exact am_s_virtual false dc24_5.2.1.2 rfl (by decide) rfl rfl rfl (q2 c1)
  · refine am_s_bipush am_cb6 dc24_5.1.1.1 ?_
    exact am_s_ireturn dc24_5.1.1.2 rfl (q3 c1)
theorem t24_94 {sc : Option (Nat × (Nat → Int32))} {d k n : Nat} {P : am_O → Prop} {I : am_I} {J : am_J} {Pf : am_R} (hp : am_PF Pf) {l0 : Option Value} {s0 : Int32} (q1 : (s0 = 0) → P (.inl (some (.int 0)), (am_SH, I, J, Pf), k, n)) (q2 : (¬ (s0 = 0)) → P (.inl (some (.int 7)), (am_SH, I, J, Pf), k, n)) : am_go sc d 24 (94, [l0], [.int s0], (am_SH, I, J, Pf), k, n) P := by
  refine am_s_if_eq dc24_5.2.2.1 rfl (fun c1 => ?_) (fun c1 => ?_)
  · refine am_s_iconst am_cc0 dc24_6.2.1 ?_
    exact am_s_ireturn dc24_6.2.2 rfl (q1 c1)
  · refine am_s_bipush am_cb7 dc24_5.2.2.2 ?_
    refine am_s_goto rfl dc24_6.1 ?_
    exact am_s_ireturn dc24_6.2.2 rfl (q2 c1)
-- isFull (I)Z
theorem dc25_0 : (((decode (am_by 25) 0 = .ok (.iload_n 1, 1)) ∧ (decode (am_by 25) 1 = .ok (.tableswitch 128 1 6 #[39, 57, 57, 75, 92, 110], 39))) ∧ ((decode (am_by 25) 40 = .ok (.aload_n 0, 1)) ∧ (decode (am_by 25) 41 = .ok (.getfield 32, 3)))) ∧ (((decode (am_by 25) 44 = .ok (.getfield 143, 3)) ∧ (decode (am_by 25) 47 = .ok (.bipush 8, 2))) ∧ ((decode (am_by 25) 49 = .ok (.if_icmp .lt 7, 3)) ∧ (decode (am_by 25) 52 = .ok (.iconst 1, 1)))) := by decide +kernel
theorem dc25_1 : (((decode (am_by 25) 53 = .ok (.goto 4, 3)) ∧ (decode (am_by 25) 56 = .ok (.iconst 0, 1))) ∧ ((decode (am_by 25) 57 = .ok (.ireturn, 1)) ∧ (decode (am_by 25) 58 = .ok (.aload_n 0, 1)))) ∧ (((decode (am_by 25) 59 = .ok (.getfield 32, 3)) ∧ (decode (am_by 25) 62 = .ok (.getfield 146, 3))) ∧ ((decode (am_by 25) 65 = .ok (.bipush 20, 2)) ∧ (decode (am_by 25) 67 = .ok (.if_icmp .lt 7, 3)))) := by decide +kernel
theorem dc25_2 : (((decode (am_by 25) 70 = .ok (.iconst 1, 1)) ∧ (decode (am_by 25) 71 = .ok (.goto 4, 3))) ∧ ((decode (am_by 25) 74 = .ok (.iconst 0, 1)) ∧ (decode (am_by 25) 75 = .ok (.ireturn, 1)))) ∧ (((decode (am_by 25) 76 = .ok (.aload_n 0, 1)) ∧ (decode (am_by 25) 77 = .ok (.getfield 32, 3))) ∧ ((decode (am_by 25) 80 = .ok (.getfield 149, 3)) ∧ (decode (am_by 25) 83 = .ok (.iconst 4, 1)))) := by decide +kernel
theorem dc25_3 : (((decode (am_by 25) 84 = .ok (.if_icmp .lt 7, 3)) ∧ (decode (am_by 25) 87 = .ok (.iconst 1, 1))) ∧ ((decode (am_by 25) 88 = .ok (.goto 4, 3)) ∧ (decode (am_by 25) 91 = .ok (.iconst 0, 1)))) ∧ (((decode (am_by 25) 92 = .ok (.ireturn, 1)) ∧ (decode (am_by 25) 93 = .ok (.aload_n 0, 1))) ∧ ((decode (am_by 25) 94 = .ok (.getfield 32, 3)) ∧ (decode (am_by 25) 97 = .ok (.getfield 152, 3)))) := by decide +kernel
theorem dc25_4 : (((decode (am_by 25) 100 = .ok (.bipush 8, 2)) ∧ (decode (am_by 25) 102 = .ok (.if_icmp .lt 7, 3))) ∧ ((decode (am_by 25) 105 = .ok (.iconst 1, 1)) ∧ (decode (am_by 25) 106 = .ok (.goto 4, 3)))) ∧ (((decode (am_by 25) 109 = .ok (.iconst 0, 1)) ∧ (decode (am_by 25) 110 = .ok (.ireturn, 1))) ∧ ((decode (am_by 25) 111 = .ok (.aload_n 0, 1)) ∧ (decode (am_by 25) 112 = .ok (.getfield 32, 3)))) := by decide +kernel
theorem dc25_5 : (((decode (am_by 25) 115 = .ok (.getfield 75, 3)) ∧ (decode (am_by 25) 118 = .ok (.bipush 8, 2))) ∧ ((decode (am_by 25) 120 = .ok (.if_icmp .lt 7, 3)) ∧ (decode (am_by 25) 123 = .ok (.iconst 1, 1)))) ∧ (((decode (am_by 25) 124 = .ok (.goto 4, 3)) ∧ (decode (am_by 25) 127 = .ok (.iconst 0, 1))) ∧ ((decode (am_by 25) 128 = .ok (.ireturn, 1)) ∧ (decode (am_by 25) 129 = .ok (.iconst 0, 1)))) := by decide +kernel
theorem dc25_6 : decode (am_by 25) 130 = .ok (.ireturn, 1) := by decide +kernel
theorem t25_0 {sc : Option (Nat × (Nat → Int32))} {d k n : Nat} {P : am_O → Prop} {I : am_I} {J : am_J} {Pf : am_R} (hp : am_PF Pf) {x1 : Int32} (q1 : am_go sc d 25 (1, [some (.ref 3), some (.int x1)], [.int x1], (am_SH, I, J, Pf), k, n) P) : am_go sc d 25 (0, [some (.ref 3), some (.int x1)], [], (am_SH, I, J, Pf), k, n) P := by
  refine am_s_iload_n rfl dc25_0.1.1.1 ?_
  exact q1
-- takeSort ()I
theorem dc26_0 : ((decode (am_by 26) 0 = .ok (.aload_n 0, 1)) ∧ (decode (am_by 26) 1 = .ok (.getfield 28, 3))) ∧ ((decode (am_by 26) 4 = .ok (.bipush 7, 2)) ∧ ((decode (am_by 26) 6 = .ok (.invokevirtual 155, 3)) ∧ (decode (am_by 26) 9 = .ok (.ireturn, 1)))) := by decide +kernel
theorem t26_0 {sc : Option (Nat × (Nat → Int32))} {d k n : Nat} {P : am_O → Prop} {I : am_I} {J : am_J} {Pf : am_R} (hp : am_PF Pf)  (q1 : Pf 3 0 = some 1) (q2 : am_mth d 58 [.ref 1, .int 7] (am_SH, I, J, Pf) (am_af sc d 26 6 [some (.ref 3)] [.int 7, .ref 1] [] (am_SH, I, J, Pf) k n false P)) : am_go sc d 26 (0, [some (.ref 3)], [], (am_SH, I, J, Pf), k, n) P := by
  refine am_s_aload_n rfl dc26_0.1.1 ?_
  refine am_s_getR (r := 1) dc26_0.1.2 rfl rfl rfl (q1) ?_
  refine am_s_bipush am_cb7 dc26_0.2.1 ?_
  exact am_s_virtual false dc26_0.2.2.1 rfl (by decide) rfl rfl rfl (q2)
theorem t26_9 {sc : Option (Nat × (Nat → Int32))} {d k n : Nat} {P : am_O → Prop} {I : am_I} {J : am_J} {Pf : am_R} (hp : am_PF Pf) {l0 : Option Value} {s0 : Int32} (q1 : P (.inl (some (.int s0)), (am_SH, I, J, Pf), k, n)) : am_go sc d 26 (9, [l0], [.int s0], (am_SH, I, J, Pf), k, n) P := by
  exact am_s_ireturn dc26_0.2.2.2 rfl (q1)
-- takeClass ()I
theorem dc27_0 : (((decode (am_by 27) 0 = .ok (.aload_n 0, 1)) ∧ (decode (am_by 27) 1 = .ok (.getfield 28, 3))) ∧ ((decode (am_by 27) 4 = .ok (.bipush 35, 2)) ∧ (decode (am_by 27) 6 = .ok (.invokevirtual 55, 3)))) ∧ (((decode (am_by 27) 9 = .ok (.ifCond .eq 22, 3)) ∧ (decode (am_by 27) 12 = .ok (.aload_n 0, 1))) ∧ ((decode (am_by 27) 13 = .ok (.getfield 28, 3)) ∧ (decode (am_by 27) 16 = .ok (.aload_n 0, 1)))) := by decide +kernel
theorem dc27_1 : (((decode (am_by 27) 17 = .ok (.getfield 32, 3)) ∧ (decode (am_by 27) 20 = .ok (.getfield 143, 3))) ∧ ((decode (am_by 27) 23 = .ok (.iconst 1, 1)) ∧ (decode (am_by 27) 24 = .ok (.isub, 1)))) ∧ (((decode (am_by 27) 25 = .ok (.invokevirtual 155, 3)) ∧ (decode (am_by 27) 28 = .ok (.goto 4, 3))) ∧ ((decode (am_by 27) 31 = .ok (.iconst (-1), 1)) ∧ (decode (am_by 27) 32 = .ok (.ireturn, 1)))) := by decide +kernel
theorem t27_0 {sc : Option (Nat × (Nat → Int32))} {d k n : Nat} {P : am_O → Prop} {I : am_I} {J : am_J} {Pf : am_R} (hp : am_PF Pf)  (q1 : Pf 3 0 = some 1) (q2 : am_mth d 56 [.ref 1, .int 35] (am_SH, I, J, Pf) (am_af sc d 27 6 [some (.ref 3)] [.int 35, .ref 1] [] (am_SH, I, J, Pf) k n false P)) : am_go sc d 27 (0, [some (.ref 3)], [], (am_SH, I, J, Pf), k, n) P := by
  refine am_s_aload_n rfl dc27_0.1.1.1 ?_
  refine am_s_getR (r := 1) dc27_0.1.1.2 rfl rfl rfl (q1) ?_
  refine am_s_bipush am_cb35 dc27_0.1.2.1 ?_
  exact am_s_virtual false dc27_0.1.2.2 rfl (by decide) rfl rfl rfl (q2)
theorem t27_9 {sc : Option (Nat × (Nat → Int32))} {d k n : Nat} {P : am_O → Prop} {I : am_I} {J : am_J} {Pf : am_R} (hp : am_PF Pf) {s0 : Int32} {r3_1 : Nat} (q1 : (s0 = 0) → P (.inl (some (.int (-1))), (am_SH, I, J, Pf), k, n)) (q2 : (¬ (s0 = 0)) → Pf 3 0 = some 1) (q3 : (¬ (s0 = 0)) → Pf 3 1 = some r3_1) (q4 : (¬ (s0 = 0)) → am_SH[r3_1]? = some (.inl 4)) (q5 : (¬ (s0 = 0)) → am_mth d 58 [.ref 1, .int ((I r3_1 1) - 1)] (am_SH, I, J, Pf) (am_af sc d 27 25 [some (.ref 3)] [.int ((I r3_1 1) - 1), .ref 1] [] (am_SH, I, J, Pf) k n false P)) : am_go sc d 27 (9, [some (.ref 3)], [.int s0], (am_SH, I, J, Pf), k, n) P := by
  refine am_s_if_eq dc27_0.2.1.1 rfl (fun c1 => ?_) (fun c1 => ?_)
  · refine am_s_iconst am_ccm1 dc27_1.2.2.1 ?_
    exact am_s_ireturn dc27_1.2.2.2 rfl (q1 c1)
  · refine am_s_aload_n rfl dc27_0.2.1.2 ?_
    refine am_s_getR (r := 1) dc27_0.2.2.1 rfl rfl rfl (q2 c1) ?_
    refine am_s_aload_n rfl dc27_0.2.2.2 ?_
    refine am_s_getR (r := r3_1) dc27_1.1.1.1 rfl rfl rfl (q3 c1) ?_
    refine am_x_getI (x := I r3_1 1) dc27_1.1.1.2 rfl (q4 c1) (Or.inl rfl) rfl ?_
    refine am_s_iconst am_cc1 dc27_1.1.2.1 ?_
    refine am_s_isub dc27_1.1.2.2 ?_
    exact am_s_virtual false dc27_1.2.1.1 rfl (by decide) rfl rfl rfl (q5 c1)
theorem t27_28 {sc : Option (Nat × (Nat → Int32))} {d k n : Nat} {P : am_O → Prop} {I : am_I} {J : am_J} {Pf : am_R} (hp : am_PF Pf) {l0 : Option Value} {s0 : Int32} (q1 : P (.inl (some (.int s0)), (am_SH, I, J, Pf), k, n)) : am_go sc d 27 (28, [l0], [.int s0], (am_SH, I, J, Pf), k, n) P := by
  refine am_s_goto rfl dc27_1.2.1.2 ?_
  exact am_s_ireturn dc27_1.2.2.2 rfl (q1)
-- addClass ()Z
theorem dc28_0 : (((decode (am_by 28) 0 = .ok (.aload_n 0, 1)) ∧ (decode (am_by 28) 1 = .ok (.getfield 32, 3))) ∧ ((decode (am_by 28) 4 = .ok (.getfield 159, 3)) ∧ (decode (am_by 28) 7 = .ok (.aload_n 0, 1)))) ∧ (((decode (am_by 28) 8 = .ok (.getfield 32, 3)) ∧ (decode (am_by 28) 11 = .ok (.getfield 143, 3))) ∧ ((decode (am_by 28) 14 = .ok (.aaload, 1)) ∧ (decode (am_by 28) 15 = .ok (.aload_n 0, 1)))) := by decide +kernel
theorem dc28_1 : (((decode (am_by 28) 16 = .ok (.getfield 11, 3)) ∧ (decode (am_by 28) 19 = .ok (.iconst 0, 1))) ∧ ((decode (am_by 28) 20 = .ok (.aaload, 1)) ∧ (decode (am_by 28) 21 = .ok (.invokevirtual 162, 3)))) ∧ (((decode (am_by 28) 24 = .ok (.aload_n 0, 1)) ∧ (decode (am_by 28) 25 = .ok (.getfield 32, 3))) ∧ ((decode (am_by 28) 28 = .ok (.dup, 1)) ∧ (decode (am_by 28) 29 = .ok (.getfield 143, 3)))) := by decide +kernel
theorem dc28_2 : ((decode (am_by 28) 32 = .ok (.iconst 1, 1)) ∧ (decode (am_by 28) 33 = .ok (.iadd, 1))) ∧ ((decode (am_by 28) 34 = .ok (.putfield 143, 3)) ∧ ((decode (am_by 28) 37 = .ok (.iconst 1, 1)) ∧ (decode (am_by 28) 38 = .ok (.ireturn, 1)))) := by decide +kernel
theorem t28_0 {sc : Option (Nat × (Nat → Int32))} {d k n : Nat} {P : am_O → Prop} {I : am_I} {J : am_J} {Pf : am_R} (hp : am_PF Pf) {r3_1 : Nat} {r14 : Nat} {r20 : Nat} (q1 : Pf 3 1 = some r3_1) (q2 : am_SH[r3_1]? = some (.inl 4)) (q3 : Pf 3 1 = some r3_1) (q4 : am_SH[r3_1]? = some (.inl 4)) (q5 : am_in (I r3_1 1) 8 = true) (q6 : Pf (r3_1 + 1) (Int32.toNatClampNeg (I r3_1 1)) = some r14) (q7 : am_SH[r14]? = some (.inl 6)) (q8 : Pf 4 (Int32.toNatClampNeg 0) = some r20) (q9 : am_SH[r20]? = some (.inl 6)) (q10 : am_mth d 76 [.ref r14, .ref r20] (am_SH, I, J, Pf) (am_af sc d 28 21 [some (.ref 3)] [.ref r20, .ref r14] [] (am_SH, I, J, Pf) k n false P)) : am_go sc d 28 (0, [some (.ref 3)], [], (am_SH, I, J, Pf), k, n) P := by
  refine am_s_aload_n rfl dc28_0.1.1.1 ?_
  refine am_s_getR (r := r3_1) dc28_0.1.1.2 rfl rfl rfl (q1) ?_
  refine am_s_getR (r := r3_1 + 1) dc28_0.1.2.1 rfl (q2) rfl (am_r4_0 hp (q2)) ?_
  refine am_s_aload_n rfl dc28_0.1.2.2 ?_
  refine am_s_getR (r := r3_1) dc28_0.2.1.1 rfl rfl rfl (q3) ?_
  refine am_x_getI (x := I r3_1 1) dc28_0.2.1.2 rfl (q4) (Or.inl rfl) rfl ?_
  refine am_s_aaload (r := r14) dc28_0.2.2.1 (am_h4_0 (q2)) rfl (q5) (q6) ?_
  refine am_s_aload_n rfl dc28_0.2.2.2 ?_
  refine am_s_getR (r := 4) dc28_1.1.1.1 rfl rfl rfl (hp _ _ _ rfl) ?_
  refine am_s_iconst am_cc0 dc28_1.1.1.2 ?_
  refine am_s_aaload (r := r20) dc28_1.1.2.1 rfl rfl (by decide +kernel) (q8) ?_
  exact am_s_virtual false dc28_1.1.2.2 rfl (by decide) rfl (q7) rfl (q10)
theorem t28_24 {sc : Option (Nat × (Nat → Int32))} {d k n : Nat} {P : am_O → Prop} {I : am_I} {J : am_J} {Pf : am_R} (hp : am_PF Pf) {r3_1 : Nat} (q1 : Pf 3 1 = some r3_1) (q2 : am_SH[r3_1]? = some (.inl 4)) (q3 : P (.inl (some (.int 1)), (am_SH, am_u I r3_1 1 ((I r3_1 1) + 1), J, Pf), k, n)) : am_go sc d 28 (24, [some (.ref 3)], [], (am_SH, I, J, Pf), k, n) P := by
  refine am_s_aload_n rfl dc28_1.2.1.1 ?_
  refine am_s_getR (r := r3_1) dc28_1.2.1.2 rfl rfl rfl (q1) ?_
  refine am_s_dup rfl dc28_1.2.2.1 ?_
  refine am_x_getI (x := I r3_1 1) dc28_1.2.2.2 rfl (q2) (Or.inl rfl) rfl ?_
  refine am_s_iconst am_cc1 dc28_2.1.1 ?_
  refine am_s_iadd dc28_2.1.2 ?_
  refine am_s_putI dc28_2.2.1 rfl (q2) rfl rfl ?_
  refine am_s_iconst am_cc1 dc28_2.2.2.1 ?_
  exact am_s_zreturn dc28_2.2.2.2 rfl (by decide) (q3)
-- readSet (I)Z
theorem dc29_0 : (((decode (am_by 29) 0 = .ok (.aload_n 0, 1)) ∧ (decode (am_by 29) 1 = .ok (.iload_n 1, 1))) ∧ ((decode (am_by 29) 2 = .ok (.invokevirtual 166, 3)) ∧ (decode (am_by 29) 5 = .ok (.ifCond .ne 5, 3)))) ∧ (((decode (am_by 29) 8 = .ok (.iconst 0, 1)) ∧ (decode (am_by 29) 9 = .ok (.ireturn, 1))) ∧ ((decode (am_by 29) 10 = .ok (.iconst 0, 1)) ∧ (decode (am_by 29) 11 = .ok (.istore_n 2, 1)))) := by decide +kernel
theorem dc29_1 : (((decode (am_by 29) 12 = .ok (.iload_n 2, 1)) ∧ (decode (am_by 29) 13 = .ok (.sipush 600, 3))) ∧ ((decode (am_by 29) 16 = .ok (.if_icmp .ge 131, 3)) ∧ (decode (am_by 29) 19 = .ok (.aload_n 0, 1)))) ∧ (((decode (am_by 29) 20 = .ok (.getfield 28, 3)) ∧ (decode (am_by 29) 23 = .ok (.invokevirtual 45, 3))) ∧ ((decode (am_by 29) 26 = .ok (.istore_n 3, 1)) ∧ (decode (am_by 29) 27 = .ok (.iload_n 3, 1)))) := by decide +kernel
theorem dc29_2 : (((decode (am_by 29) 28 = .ok (.bipush 124, 2)) ∧ (decode (am_by 29) 30 = .ok (.if_icmp .eq 17, 3))) ∧ ((decode (am_by 29) 33 = .ok (.iload_n 3, 1)) ∧ (decode (am_by 29) 34 = .ok (.bipush 38, 2)))) ∧ (((decode (am_by 29) 36 = .ok (.if_icmp .eq 11, 3)) ∧ (decode (am_by 29) 39 = .ok (.iload_n 3, 1))) ∧ ((decode (am_by 29) 40 = .ok (.bipush 45, 2)) ∧ (decode (am_by 29) 42 = .ok (.if_icmp .eq 5, 3)))) := by decide +kernel
theorem dc29_3 : (((decode (am_by 29) 45 = .ok (.iconst 1, 1)) ∧ (decode (am_by 29) 46 = .ok (.ireturn, 1))) ∧ ((decode (am_by 29) 47 = .ok (.aload_n 0, 1)) ∧ (decode (am_by 29) 48 = .ok (.getfield 28, 3)))) ∧ (((decode (am_by 29) 51 = .ok (.dup, 1)) ∧ (decode (am_by 29) 52 = .ok (.getfield 169, 3))) ∧ ((decode (am_by 29) 55 = .ok (.iconst 1, 1)) ∧ (decode (am_by 29) 56 = .ok (.iadd, 1)))) := by decide +kernel
theorem dc29_4 : (((decode (am_by 29) 57 = .ok (.putfield 169, 3)) ∧ (decode (am_by 29) 60 = .ok (.aload_n 0, 1))) ∧ ((decode (am_by 29) 61 = .ok (.iload_n 1, 1)) ∧ (decode (am_by 29) 62 = .ok (.iconst 1, 1)))) ∧ (((decode (am_by 29) 63 = .ok (.iadd, 1)) ∧ (decode (am_by 29) 64 = .ok (.invokevirtual 166, 3))) ∧ ((decode (am_by 29) 67 = .ok (.ifCond .ne 5, 3)) ∧ (decode (am_by 29) 70 = .ok (.iconst 0, 1)))) := by decide +kernel
theorem dc29_5 : (((decode (am_by 29) 71 = .ok (.ireturn, 1)) ∧ (decode (am_by 29) 72 = .ok (.iload_n 3, 1))) ∧ ((decode (am_by 29) 73 = .ok (.bipush 124, 2)) ∧ (decode (am_by 29) 75 = .ok (.if_icmp .ne 23, 3)))) ∧ (((decode (am_by 29) 78 = .ok (.aload_n 0, 1)) ∧ (decode (am_by 29) 79 = .ok (.getfield 11, 3))) ∧ ((decode (am_by 29) 82 = .ok (.iload_n 1, 1)) ∧ (decode (am_by 29) 83 = .ok (.aaload, 1)))) := by decide +kernel
theorem dc29_6 : (((decode (am_by 29) 84 = .ok (.aload_n 0, 1)) ∧ (decode (am_by 29) 85 = .ok (.getfield 11, 3))) ∧ ((decode (am_by 29) 88 = .ok (.iload_n 1, 1)) ∧ (decode (am_by 29) 89 = .ok (.iconst 1, 1)))) ∧ (((decode (am_by 29) 90 = .ok (.iadd, 1)) ∧ (decode (am_by 29) 91 = .ok (.aaload, 1))) ∧ ((decode (am_by 29) 92 = .ok (.invokevirtual 172, 3)) ∧ (decode (am_by 29) 95 = .ok (.goto 46, 3)))) := by decide +kernel
theorem dc29_7 : (((decode (am_by 29) 98 = .ok (.iload_n 3, 1)) ∧ (decode (am_by 29) 99 = .ok (.bipush 38, 2))) ∧ ((decode (am_by 29) 101 = .ok (.if_icmp .ne 23, 3)) ∧ (decode (am_by 29) 104 = .ok (.aload_n 0, 1)))) ∧ (((decode (am_by 29) 105 = .ok (.getfield 11, 3)) ∧ (decode (am_by 29) 108 = .ok (.iload_n 1, 1))) ∧ ((decode (am_by 29) 109 = .ok (.aaload, 1)) ∧ (decode (am_by 29) 110 = .ok (.aload_n 0, 1)))) := by decide +kernel
theorem dc29_8 : (((decode (am_by 29) 111 = .ok (.getfield 11, 3)) ∧ (decode (am_by 29) 114 = .ok (.iload_n 1, 1))) ∧ ((decode (am_by 29) 115 = .ok (.iconst 1, 1)) ∧ (decode (am_by 29) 116 = .ok (.iadd, 1)))) ∧ (((decode (am_by 29) 117 = .ok (.aaload, 1)) ∧ (decode (am_by 29) 118 = .ok (.invokevirtual 175, 3))) ∧ ((decode (am_by 29) 121 = .ok (.goto 20, 3)) ∧ (decode (am_by 29) 124 = .ok (.aload_n 0, 1)))) := by decide +kernel
theorem dc29_9 : (((decode (am_by 29) 125 = .ok (.getfield 11, 3)) ∧ (decode (am_by 29) 128 = .ok (.iload_n 1, 1))) ∧ ((decode (am_by 29) 129 = .ok (.aaload, 1)) ∧ (decode (am_by 29) 130 = .ok (.aload_n 0, 1)))) ∧ (((decode (am_by 29) 131 = .ok (.getfield 11, 3)) ∧ (decode (am_by 29) 134 = .ok (.iload_n 1, 1))) ∧ ((decode (am_by 29) 135 = .ok (.iconst 1, 1)) ∧ (decode (am_by 29) 136 = .ok (.iadd, 1)))) := by decide +kernel
theorem dc29_10 : ((decode (am_by 29) 137 = .ok (.aaload, 1)) ∧ ((decode (am_by 29) 138 = .ok (.invokevirtual 178, 3)) ∧ (decode (am_by 29) 141 = .ok (.iinc 2 1, 3)))) ∧ ((decode (am_by 29) 144 = .ok (.goto (-132), 3)) ∧ ((decode (am_by 29) 147 = .ok (.iconst 0, 1)) ∧ (decode (am_by 29) 148 = .ok (.ireturn, 1)))) := by decide +kernel
theorem t29_0 {sc : Option (Nat × (Nat → Int32))} {d k n : Nat} {P : am_O → Prop} {I : am_I} {J : am_J} {Pf : am_R} (hp : am_PF Pf) {x1 : Int32} {l2 : Option Value} {l3 : Option Value} (q1 : am_mth d 30 [.ref 3, .int x1] (am_SH, I, J, Pf) (am_af sc d 29 2 [some (.ref 3), some (.int x1), l2, l3] [.int x1, .ref 3] [] (am_SH, I, J, Pf) k n true P)) : am_go sc d 29 (0, [some (.ref 3), some (.int x1), l2, l3], [], (am_SH, I, J, Pf), k, n) P := by
  refine am_s_aload_n rfl dc29_0.1.1.1 ?_
  refine am_s_iload_n rfl dc29_0.1.1.2 ?_
  exact am_s_virtual true dc29_0.1.2.1 rfl (by decide) rfl rfl rfl (q1)
theorem t29_12 {sc : Option (Nat × (Nat → Int32))} {d k n : Nat} {P : am_O → Prop} {I : am_I} {J : am_J} {Pf : am_R} (hp : am_PF Pf) {x1 : Int32} {x2 : Int32} {l3 : Option Value} (q1 : (600 ≤ x2) → P (.inl (some (.int 0)), (am_SH, I, J, Pf), k, n)) (q2 : (¬ (600 ≤ x2)) → Pf 3 0 = some 1) (q3 : (¬ (600 ≤ x2)) → am_mth d 55 [.ref 1] (am_SH, I, J, Pf) (am_af sc d 29 23 [some (.ref 3), some (.int x1), some (.int x2), l3] [.ref 1] [] (am_SH, I, J, Pf) k n false P)) : am_go sc d 29 (12, [some (.ref 3), some (.int x1), some (.int x2), l3], [], (am_SH, I, J, Pf), k, n) P := by
  refine am_s_iload_n rfl dc29_1.1.1.1 ?_
  refine am_s_sipush am_cs600 dc29_1.1.1.2 ?_
  refine am_s_ic_ge dc29_1.1.2.1 rfl (fun c1 => ?_) (fun c1 => ?_)
  · refine am_s_iconst am_cc0 dc29_10.2.2.1 ?_
    exact am_s_zreturn dc29_10.2.2.2 rfl (by decide) (q1 c1)
  · refine am_s_aload_n rfl dc29_1.1.2.2 ?_
    refine am_s_getR (r := 1) dc29_1.2.1.1 rfl rfl rfl (q2 c1) ?_
    exact am_s_virtual false dc29_1.2.1.2 rfl (by decide) rfl rfl rfl (q3 c1)
theorem t29_47 {sc : Option (Nat × (Nat → Int32))} {d k n : Nat} {P : am_O → Prop} {I : am_I} {J : am_J} {Pf : am_R} (hp : am_PF Pf) {x1 : Int32} {x2 : Int32} {x3 : Int32} (q1 : Pf 3 0 = some 1) (q2 : am_mth d 30 [.ref 3, .int (x1 + 1)] (am_SH, am_u I 1 3 ((I 1 3) + 1), J, Pf) (am_af sc d 29 64 [some (.ref 3), some (.int x1), some (.int x2), some (.int x3)] [.int (x1 + 1), .ref 3] [] (am_SH, am_u I 1 3 ((I 1 3) + 1), J, Pf) k n true P)) : am_go sc d 29 (47, [some (.ref 3), some (.int x1), some (.int x2), some (.int x3)], [], (am_SH, I, J, Pf), k, n) P := by
  refine am_s_aload_n rfl dc29_3.1.2.1 ?_
  refine am_s_getR (r := 1) dc29_3.1.2.2 rfl rfl rfl (q1) ?_
  refine am_s_dup rfl dc29_3.2.1.1 ?_
  refine am_x_getI (x := I 1 3) dc29_3.2.1.2 rfl rfl (Or.inl rfl) rfl ?_
  refine am_s_iconst am_cc1 dc29_3.2.2.1 ?_
  refine am_s_iadd dc29_3.2.2.2 ?_
  refine am_s_putI dc29_4.1.1.1 rfl rfl rfl rfl ?_
  refine am_s_aload_n rfl dc29_4.1.1.2 ?_
  refine am_s_iload_n rfl dc29_4.1.2.1 ?_
  refine am_s_iconst am_cc1 dc29_4.1.2.2 ?_
  refine am_s_iadd dc29_4.2.1.1 ?_
  exact am_s_virtual true dc29_4.2.1.2 rfl (by decide) rfl rfl rfl (q2)
theorem t29_5 {sc : Option (Nat × (Nat → Int32))} {d k n : Nat} {P : am_O → Prop} {I : am_I} {J : am_J} {Pf : am_R} (hp : am_PF Pf) {x1 : Int32} {l2 : Option Value} {l3 : Option Value} {s0 : Int32} (q1 : (¬ s0 = 0) → am_go sc d 29 (12, [some (.ref 3), some (.int x1), some (.int 0), l3], [], (am_SH, I, J, Pf), k, n) P) (q2 : (¬ (¬ s0 = 0)) → P (.inl (some (.int 0)), (am_SH, I, J, Pf), k, n)) : am_go sc d 29 (5, [some (.ref 3), some (.int x1), l2, l3], [.int s0], (am_SH, I, J, Pf), k, n) P := by
  refine am_s_if_ne dc29_0.1.2.2 rfl (fun c1 => ?_) (fun c1 => ?_)
  · refine am_s_iconst am_cc0 dc29_0.2.2.1 ?_
    refine am_s_istore_n (ls' := [some (.ref 3), some (.int x1), some (.int 0), l3]) rfl rfl dc29_0.2.2.2 ?_
    exact q1 c1
  · refine am_s_iconst am_cc0 dc29_0.2.1.1 ?_
    exact am_s_zreturn dc29_0.2.1.2 rfl (by decide) (q2 c1)
theorem t29_26 {sc : Option (Nat × (Nat → Int32))} {d k n : Nat} {P : am_O → Prop} {I : am_I} {J : am_J} {Pf : am_R} (hp : am_PF Pf) {x1 : Int32} {x2 : Int32} {l3 : Option Value} {s0 : Int32} (q1 : (s0 = 124) → am_go sc d 29 (47, [some (.ref 3), some (.int x1), some (.int x2), some (.int s0)], [], (am_SH, I, J, Pf), k, n) P) (q2 : (¬ (s0 = 124)) → (s0 = 38) → am_go sc d 29 (47, [some (.ref 3), some (.int x1), some (.int x2), some (.int s0)], [], (am_SH, I, J, Pf), k, n) P) (q3 : (¬ (s0 = 124)) → (¬ (s0 = 38)) → (s0 = 45) → am_go sc d 29 (47, [some (.ref 3), some (.int x1), some (.int x2), some (.int s0)], [], (am_SH, I, J, Pf), k, n) P) (q4 : (¬ (s0 = 124)) → (¬ (s0 = 38)) → (¬ (s0 = 45)) → P (.inl (some (.int 1)), (am_SH, I, J, Pf), k, n)) : am_go sc d 29 (26, [some (.ref 3), some (.int x1), some (.int x2), l3], [.int s0], (am_SH, I, J, Pf), k, n) P := by
  refine am_s_istore_n (ls' := [some (.ref 3), some (.int x1), some (.int x2), some (.int s0)]) rfl rfl dc29_1.2.2.1 ?_
  refine am_s_iload_n rfl dc29_1.2.2.2 ?_
  refine am_s_bipush am_cb124 dc29_2.1.1.1 ?_
  refine am_s_ic_eq dc29_2.1.1.2 rfl (fun c1 => ?_) (fun c1 => ?_)
  · exact q1 c1
  · refine am_s_iload_n rfl dc29_2.1.2.1 ?_
    refine am_s_bipush am_cb38 dc29_2.1.2.2 ?_
    refine am_s_ic_eq dc29_2.2.1.1 rfl (fun c2 => ?_) (fun c2 => ?_)
    · exact q2 c1 c2
    · refine am_s_iload_n rfl dc29_2.2.1.2 ?_
      refine am_s_bipush am_cb45 dc29_2.2.2.1 ?_
      refine am_s_ic_eq dc29_2.2.2.2 rfl (fun c3 => ?_) (fun c3 => ?_)
      · exact q3 c1 c2 c3
      · refine am_s_iconst am_cc1 dc29_3.1.1.1 ?_
        exact am_s_zreturn dc29_3.1.1.2 rfl (by decide) (q4 c1 c2 c3)
theorem t29_67 {sc : Option (Nat × (Nat → Int32))} {d k n : Nat} {P : am_O → Prop} {I : am_I} {J : am_J} {Pf : am_R} (hp : am_PF Pf) {x1 : Int32} {x2 : Int32} {x3 : Int32} {s0 : Int32} {r129 : Nat} {r137 : Nat} {r109 : Nat} {r117 : Nat} {r83 : Nat} {r91 : Nat} (q1 : (¬ s0 = 0) → (¬ x3 = 124) → (¬ x3 = 38) → am_in x1 8 = true) (q2 : (¬ s0 = 0) → (¬ x3 = 124) → (¬ x3 = 38) → Pf 4 (Int32.toNatClampNeg x1) = some r129) (q3 : (¬ s0 = 0) → (¬ x3 = 124) → (¬ x3 = 38) → am_SH[r129]? = some (.inl 6)) (q4 : (¬ s0 = 0) → (¬ x3 = 124) → (¬ x3 = 38) → am_in (x1 + 1) 8 = true) (q5 : (¬ s0 = 0) → (¬ x3 = 124) → (¬ x3 = 38) → Pf 4 (Int32.toNatClampNeg (x1 + 1)) = some r137) (q6 : (¬ s0 = 0) → (¬ x3 = 124) → (¬ x3 = 38) → am_SH[r137]? = some (.inl 6)) (q7 : (¬ s0 = 0) → (¬ x3 = 124) → (¬ x3 = 38) → am_mth d 81 [.ref r129, .ref r137] (am_SH, I, J, Pf) (am_af sc d 29 138 [some (.ref 3), some (.int x1), some (.int x2), some (.int x3)] [.ref r137, .ref r129] [] (am_SH, I, J, Pf) k n false P)) (q8 : (¬ s0 = 0) → (¬ x3 = 124) → (¬ (¬ x3 = 38)) → am_in x1 8 = true) (q9 : (¬ s0 = 0) → (¬ x3 = 124) → (¬ (¬ x3 = 38)) → Pf 4 (Int32.toNatClampNeg x1) = some r109) (q10 : (¬ s0 = 0) → (¬ x3 = 124) → (¬ (¬ x3 = 38)) → am_SH[r109]? = some (.inl 6)) (q11 : (¬ s0 = 0) → (¬ x3 = 124) → (¬ (¬ x3 = 38)) → am_in (x1 + 1) 8 = true) (q12 : (¬ s0 = 0) → (¬ x3 = 124) → (¬ (¬ x3 = 38)) → Pf 4 (Int32.toNatClampNeg (x1 + 1)) = some r117) (q13 : (¬ s0 = 0) → (¬ x3 = 124) → (¬ (¬ x3 = 38)) → am_SH[r117]? = some (.inl 6)) (q14 : (¬ s0 = 0) → (¬ x3 = 124) → (¬ (¬ x3 = 38)) → am_mth d 80 [.ref r109, .ref r117] (am_SH, I, J, Pf) (am_af sc d 29 118 [some (.ref 3), some (.int x1), some (.int x2), some (.int x3)] [.ref r117, .ref r109] [] (am_SH, I, J, Pf) k n false P)) (q15 : (¬ s0 = 0) → (¬ (¬ x3 = 124)) → am_in x1 8 = true) (q16 : (¬ s0 = 0) → (¬ (¬ x3 = 124)) → Pf 4 (Int32.toNatClampNeg x1) = some r83) (q17 : (¬ s0 = 0) → (¬ (¬ x3 = 124)) → am_SH[r83]? = some (.inl 6)) (q18 : (¬ s0 = 0) → (¬ (¬ x3 = 124)) → am_in (x1 + 1) 8 = true) (q19 : (¬ s0 = 0) → (¬ (¬ x3 = 124)) → Pf 4 (Int32.toNatClampNeg (x1 + 1)) = some r91) (q20 : (¬ s0 = 0) → (¬ (¬ x3 = 124)) → am_SH[r91]? = some (.inl 6)) (q21 : (¬ s0 = 0) → (¬ (¬ x3 = 124)) → am_mth d 79 [.ref r83, .ref r91] (am_SH, I, J, Pf) (am_af sc d 29 92 [some (.ref 3), some (.int x1), some (.int x2), some (.int x3)] [.ref r91, .ref r83] [] (am_SH, I, J, Pf) k n false P)) (q22 : (¬ (¬ s0 = 0)) → P (.inl (some (.int 0)), (am_SH, I, J, Pf), k, n)) : am_go sc d 29 (67, [some (.ref 3), some (.int x1), some (.int x2), some (.int x3)], [.int s0], (am_SH, I, J, Pf), k, n) P := by
  refine am_s_if_ne dc29_4.2.2.1 rfl (fun c1 => ?_) (fun c1 => ?_)
  · refine am_s_iload_n rfl dc29_5.1.1.2 ?_
    refine am_s_bipush am_cb124 dc29_5.1.2.1 ?_
    refine am_s_ic_ne dc29_5.1.2.2 rfl (fun c2 => ?_) (fun c2 => ?_)
    · refine am_s_iload_n rfl dc29_7.1.1.1 ?_
      refine am_s_bipush am_cb38 dc29_7.1.1.2 ?_
      refine am_s_ic_ne dc29_7.1.2.1 rfl (fun c3 => ?_) (fun c3 => ?_)
      · refine am_s_aload_n rfl dc29_8.2.2.2 ?_
        refine am_s_getR (r := 4) dc29_9.1.1.1 rfl rfl rfl (hp _ _ _ rfl) ?_
        refine am_s_iload_n rfl dc29_9.1.1.2 ?_
        refine am_s_aaload (r := r129) dc29_9.1.2.1 rfl rfl (q1 c1 c2 c3) (q2 c1 c2 c3) ?_
        refine am_s_aload_n rfl dc29_9.1.2.2 ?_
        refine am_s_getR (r := 4) dc29_9.2.1.1 rfl rfl rfl (hp _ _ _ rfl) ?_
        refine am_s_iload_n rfl dc29_9.2.1.2 ?_
        refine am_s_iconst am_cc1 dc29_9.2.2.1 ?_
        refine am_s_iadd dc29_9.2.2.2 ?_
        refine am_s_aaload (r := r137) dc29_10.1.1 rfl rfl (q4 c1 c2 c3) (q5 c1 c2 c3) ?_
        exact am_s_virtual false dc29_10.1.2.1 rfl (by decide) rfl (q3 c1 c2 c3) rfl (q7 c1 c2 c3)
      · refine am_s_aload_n rfl dc29_7.1.2.2 ?_
        refine am_s_getR (r := 4) dc29_7.2.1.1 rfl rfl rfl (hp _ _ _ rfl) ?_
        refine am_s_iload_n rfl dc29_7.2.1.2 ?_
        refine am_s_aaload (r := r109) dc29_7.2.2.1 rfl rfl (q8 c1 c2 c3) (q9 c1 c2 c3) ?_
        refine am_s_aload_n rfl dc29_7.2.2.2 ?_
        refine am_s_getR (r := 4) dc29_8.1.1.1 rfl rfl rfl (hp _ _ _ rfl) ?_
        refine am_s_iload_n rfl dc29_8.1.1.2 ?_
        refine am_s_iconst am_cc1 dc29_8.1.2.1 ?_
        refine am_s_iadd dc29_8.1.2.2 ?_
        refine am_s_aaload (r := r117) dc29_8.2.1.1 rfl rfl (q11 c1 c2 c3) (q12 c1 c2 c3) ?_
        exact am_s_virtual false dc29_8.2.1.2 rfl (by decide) rfl (q10 c1 c2 c3) rfl (q14 c1 c2 c3)
    · refine am_s_aload_n rfl dc29_5.2.1.1 ?_
      refine am_s_getR (r := 4) dc29_5.2.1.2 rfl rfl rfl (hp _ _ _ rfl) ?_
      refine am_s_iload_n rfl dc29_5.2.2.1 ?_
      refine am_s_aaload (r := r83) dc29_5.2.2.2 rfl rfl (q15 c1 c2) (q16 c1 c2) ?_
      refine am_s_aload_n rfl dc29_6.1.1.1 ?_
      refine am_s_getR (r := 4) dc29_6.1.1.2 rfl rfl rfl (hp _ _ _ rfl) ?_
      refine am_s_iload_n rfl dc29_6.1.2.1 ?_
      refine am_s_iconst am_cc1 dc29_6.1.2.2 ?_
      refine am_s_iadd dc29_6.2.1.1 ?_
      refine am_s_aaload (r := r91) dc29_6.2.1.2 rfl rfl (q18 c1 c2) (q19 c1 c2) ?_
      exact am_s_virtual false dc29_6.2.2.1 rfl (by decide) rfl (q17 c1 c2) rfl (q21 c1 c2)
  · refine am_s_iconst am_cc0 dc29_4.2.2.2 ?_
    exact am_s_zreturn dc29_5.1.1.1 rfl (by decide) (q22 c1)
theorem t29_95 {sc : Option (Nat × (Nat → Int32))} {d k n : Nat} {P : am_O → Prop} {I : am_I} {J : am_J} {Pf : am_R} (hp : am_PF Pf) {x1 : Int32} {x2 : Int32} {l3 : Option Value} (q1 : am_go sc d 29 (12, [some (.ref 3), some (.int x1), some (.int (x2 + 1)), l3], [], (am_SH, I, J, Pf), k, n) P) : am_go sc d 29 (95, [some (.ref 3), some (.int x1), some (.int x2), l3], [], (am_SH, I, J, Pf), k, n) P := by
  refine am_s_goto rfl dc29_6.2.2.2 ?_
  refine am_s_iinc (ls' := [some (.ref 3), some (.int x1), some (.int (x2 + 1)), l3]) am_cc1 rfl rfl dc29_10.1.2.2 ?_
  refine am_s_goto rfl dc29_10.2.1 ?_
  exact q1
theorem t29_121 {sc : Option (Nat × (Nat → Int32))} {d k n : Nat} {P : am_O → Prop} {I : am_I} {J : am_J} {Pf : am_R} (hp : am_PF Pf) {x1 : Int32} {x2 : Int32} {l3 : Option Value} (q1 : am_go sc d 29 (12, [some (.ref 3), some (.int x1), some (.int (x2 + 1)), l3], [], (am_SH, I, J, Pf), k, n) P) : am_go sc d 29 (121, [some (.ref 3), some (.int x1), some (.int x2), l3], [], (am_SH, I, J, Pf), k, n) P := by
  refine am_s_goto rfl dc29_8.2.2.1 ?_
  refine am_s_iinc (ls' := [some (.ref 3), some (.int x1), some (.int (x2 + 1)), l3]) am_cc1 rfl rfl dc29_10.1.2.2 ?_
  refine am_s_goto rfl dc29_10.2.1 ?_
  exact q1
theorem t29_141 {sc : Option (Nat × (Nat → Int32))} {d k n : Nat} {P : am_O → Prop} {I : am_I} {J : am_J} {Pf : am_R} (hp : am_PF Pf) {x1 : Int32} {x2 : Int32} {l3 : Option Value} (q1 : am_go sc d 29 (12, [some (.ref 3), some (.int x1), some (.int (x2 + 1)), l3], [], (am_SH, I, J, Pf), k, n) P) : am_go sc d 29 (141, [some (.ref 3), some (.int x1), some (.int x2), l3], [], (am_SH, I, J, Pf), k, n) P := by
  refine am_s_iinc (ls' := [some (.ref 3), some (.int x1), some (.int (x2 + 1)), l3]) am_cc1 rfl rfl dc29_10.1.2.2 ?_
  refine am_s_goto rfl dc29_10.2.1 ?_
  exact q1
-- readTerm (I)Z
theorem dc30_0 : (((decode (am_by 30) 0 = .ok (.aload_n 0, 1)) ∧ (decode (am_by 30) 1 = .ok (.getfield 28, 3))) ∧ ((decode (am_by 30) 4 = .ok (.invokevirtual 45, 3)) ∧ (decode (am_by 30) 7 = .ok (.istore_n 2, 1)))) ∧ (((decode (am_by 30) 8 = .ok (.iload_n 1, 1)) ∧ (decode (am_by 30) 9 = .ok (.ifCond .lt 14, 3))) ∧ ((decode (am_by 30) 12 = .ok (.iload_n 1, 1)) ∧ (decode (am_by 30) 13 = .ok (.iconst 1, 1)))) := by decide +kernel
theorem dc30_1 : (((decode (am_by 30) 14 = .ok (.iadd, 1)) ∧ (decode (am_by 30) 15 = .ok (.aload_n 0, 1))) ∧ ((decode (am_by 30) 16 = .ok (.getfield 11, 3)) ∧ (decode (am_by 30) 19 = .ok (.arraylength, 1)))) ∧ (((decode (am_by 30) 20 = .ok (.if_icmp .le 19, 3)) ∧ (decode (am_by 30) 23 = .ok (.aload_n 0, 1))) ∧ ((decode (am_by 30) 24 = .ok (.getfield 28, 3)) ∧ (decode (am_by 30) 27 = .ok (.iconst 3, 1)))) := by decide +kernel
theorem dc30_2 : (((decode (am_by 30) 28 = .ok (.aload_n 0, 1)) ∧ (decode (am_by 30) 29 = .ok (.getfield 28, 3))) ∧ ((decode (am_by 30) 32 = .ok (.getfield 169, 3)) ∧ (decode (am_by 30) 35 = .ok (.invokevirtual 87, 3)))) ∧ (((decode (am_by 30) 38 = .ok (.ireturn, 1)) ∧ (decode (am_by 30) 39 = .ok (.iload_n 2, 1))) ∧ ((decode (am_by 30) 40 = .ok (.lookupswitch 65 #[(35, 44), (40, 58), (91, 47), (126, 58)], 44)) ∧ (decode (am_by 30) 84 = .ok (.goto 37, 3)))) := by decide +kernel
theorem dc30_3 : (((decode (am_by 30) 87 = .ok (.aload_n 0, 1)) ∧ (decode (am_by 30) 88 = .ok (.aload_n 0, 1))) ∧ ((decode (am_by 30) 89 = .ok (.getfield 11, 3)) ∧ (decode (am_by 30) 92 = .ok (.iload_n 1, 1)))) ∧ (((decode (am_by 30) 93 = .ok (.aaload, 1)) ∧ (decode (am_by 30) 94 = .ok (.invokevirtual 181, 3))) ∧ ((decode (am_by 30) 97 = .ok (.ireturn, 1)) ∧ (decode (am_by 30) 98 = .ok (.aload_n 0, 1)))) := by decide +kernel
theorem dc30_4 : (((decode (am_by 30) 99 = .ok (.iload_n 2, 1)) ∧ (decode (am_by 30) 100 = .ok (.iload_n 1, 1))) ∧ ((decode (am_by 30) 101 = .ok (.invokevirtual 185, 3)) ∧ (decode (am_by 30) 104 = .ok (.ireturn, 1)))) ∧ (((decode (am_by 30) 105 = .ok (.aload_n 0, 1)) ∧ (decode (am_by 30) 106 = .ok (.getfield 28, 3))) ∧ ((decode (am_by 30) 109 = .ok (.iconst 1, 1)) ∧ (decode (am_by 30) 110 = .ok (.aload_n 0, 1)))) := by decide +kernel
theorem dc30_5 : (((decode (am_by 30) 111 = .ok (.getfield 28, 3)) ∧ (decode (am_by 30) 114 = .ok (.getfield 169, 3))) ∧ ((decode (am_by 30) 117 = .ok (.invokevirtual 87, 3)) ∧ (decode (am_by 30) 120 = .ok (.ireturn, 1)))) ∧ (((decode (am_by 30) 121 = .ok (.aload_n 0, 1)) ∧ (decode (am_by 30) 122 = .ok (.invokevirtual 188, 3))) ∧ ((decode (am_by 30) 125 = .ok (.istore_n 3, 1)) ∧ (decode (am_by 30) 126 = .ok (.iload_n 3, 1)))) := by decide +kernel
theorem dc30_6 : (((decode (am_by 30) 127 = .ok (.iconst (-1), 1)) ∧ (decode (am_by 30) 128 = .ok (.if_icmp .ne 5, 3))) ∧ ((decode (am_by 30) 131 = .ok (.iconst 0, 1)) ∧ (decode (am_by 30) 132 = .ok (.ireturn, 1)))) ∧ (((decode (am_by 30) 133 = .ok (.aload_n 0, 1)) ∧ (decode (am_by 30) 134 = .ok (.getfield 11, 3))) ∧ ((decode (am_by 30) 137 = .ok (.iload_n 1, 1)) ∧ (decode (am_by 30) 138 = .ok (.aaload, 1)))) := by decide +kernel
theorem dc30_7 : (((decode (am_by 30) 139 = .ok (.aload_n 0, 1)) ∧ (decode (am_by 30) 140 = .ok (.getfield 32, 3))) ∧ ((decode (am_by 30) 143 = .ok (.getfield 159, 3)) ∧ (decode (am_by 30) 146 = .ok (.iload_n 3, 1)))) ∧ (((decode (am_by 30) 147 = .ok (.aaload, 1)) ∧ (decode (am_by 30) 148 = .ok (.invokevirtual 162, 3))) ∧ ((decode (am_by 30) 151 = .ok (.iconst 1, 1)) ∧ (decode (am_by 30) 152 = .ok (.ireturn, 1)))) := by decide +kernel
theorem t30_0 {sc : Option (Nat × (Nat → Int32))} {d k n : Nat} {P : am_O → Prop} {I : am_I} {J : am_J} {Pf : am_R} (hp : am_PF Pf) {x1 : Int32} {l2 : Option Value} {l3 : Option Value} (q1 : Pf 3 0 = some 1) (q2 : am_mth d 55 [.ref 1] (am_SH, I, J, Pf) (am_af sc d 30 4 [some (.ref 3), some (.int x1), l2, l3] [.ref 1] [] (am_SH, I, J, Pf) k n false P)) : am_go sc d 30 (0, [some (.ref 3), some (.int x1), l2, l3], [], (am_SH, I, J, Pf), k, n) P := by
  refine am_s_aload_n rfl dc30_0.1.1.1 ?_
  refine am_s_getR (r := 1) dc30_0.1.1.2 rfl rfl rfl (q1) ?_
  exact am_s_virtual false dc30_0.1.2.1 rfl (by decide) rfl rfl rfl (q2)
theorem t30_23 {sc : Option (Nat × (Nat → Int32))} {d k n : Nat} {P : am_O → Prop} {I : am_I} {J : am_J} {Pf : am_R} (hp : am_PF Pf) {l1 : Option Value} {l2 : Option Value} {l3 : Option Value} (q1 : Pf 3 0 = some 1) (q2 : Pf 3 0 = some 1) (q3 : am_mth d 53 [.ref 1, .int 3, .int (I 1 3)] (am_SH, I, J, Pf) (am_af sc d 30 35 [some (.ref 3), l1, l2, l3] [.int (I 1 3), .int 3, .ref 1] [] (am_SH, I, J, Pf) k n false P)) : am_go sc d 30 (23, [some (.ref 3), l1, l2, l3], [], (am_SH, I, J, Pf), k, n) P := by
  refine am_s_aload_n rfl dc30_1.2.1.2 ?_
  refine am_s_getR (r := 1) dc30_1.2.2.1 rfl rfl rfl (q1) ?_
  refine am_s_iconst am_cc3 dc30_1.2.2.2 ?_
  refine am_s_aload_n rfl dc30_2.1.1.1 ?_
  refine am_s_getR (r := 1) dc30_2.1.1.2 rfl rfl rfl (q2) ?_
  refine am_x_getI (x := I 1 3) dc30_2.1.2.1 rfl rfl (Or.inl rfl) rfl ?_
  exact am_s_virtual false dc30_2.1.2.2 rfl (by decide) rfl rfl rfl (q3)
theorem t30_7 {sc : Option (Nat × (Nat → Int32))} {d k n : Nat} {P : am_O → Prop} {I : am_I} {J : am_J} {Pf : am_R} (hp : am_PF Pf) {x1 : Int32} {l2 : Option Value} {l3 : Option Value} {s0 : Int32} (q1 : (x1 < 0) → am_go sc d 30 (23, [some (.ref 3), some (.int x1), some (.int s0), l3], [], (am_SH, I, J, Pf), k, n) P) (q2 : (¬ (x1 < 0)) → ((x1 + 1) ≤ 8) → am_go sc d 30 (40, [some (.ref 3), some (.int x1), some (.int s0), l3], [.int s0], (am_SH, I, J, Pf), k, n) P) (q3 : (¬ (x1 < 0)) → (¬ ((x1 + 1) ≤ 8)) → am_go sc d 30 (23, [some (.ref 3), some (.int x1), some (.int s0), l3], [], (am_SH, I, J, Pf), k, n) P) : am_go sc d 30 (7, [some (.ref 3), some (.int x1), l2, l3], [.int s0], (am_SH, I, J, Pf), k, n) P := by
  refine am_s_istore_n (ls' := [some (.ref 3), some (.int x1), some (.int s0), l3]) rfl rfl dc30_0.1.2.2 ?_
  refine am_s_iload_n rfl dc30_0.2.1.1 ?_
  refine am_s_if_lt dc30_0.2.1.2 rfl (fun c1 => ?_) (fun c1 => ?_)
  · exact q1 c1
  · refine am_s_iload_n rfl dc30_0.2.2.1 ?_
    refine am_s_iconst am_cc1 dc30_0.2.2.2 ?_
    refine am_s_iadd dc30_1.1.1.1 ?_
    refine am_s_aload_n rfl dc30_1.1.1.2 ?_
    refine am_s_getR (r := 4) dc30_1.1.2.1 rfl rfl rfl (hp _ _ _ rfl) ?_
    refine am_s_lenq (x := 8) dc30_1.1.2.2 rfl rfl rfl (by decide +kernel) ?_
    refine am_s_ic_le dc30_1.2.1.1 rfl (fun c2 => ?_) (fun c2 => ?_)
    · refine am_s_iload_n rfl dc30_2.2.1.2 ?_
      exact q2 c1 c2
    · exact q3 c1 c2
theorem t30_38 {sc : Option (Nat × (Nat → Int32))} {d k n : Nat} {P : am_O → Prop} {I : am_I} {J : am_J} {Pf : am_R} (hp : am_PF Pf) {l0 : Option Value} {l1 : Option Value} {l2 : Option Value} {l3 : Option Value} {s0 : Int32} (q1 : P (.inl (some (.int s0)), (am_SH, I, J, Pf), k, n)) (q2 : s0 = 0 ∨ s0 = 1) : am_go sc d 30 (38, [l0, l1, l2, l3], [.int s0], (am_SH, I, J, Pf), k, n) P := by
  exact am_s_zreturn dc30_2.2.1.1 rfl (q2) (q1)
-- readOpened (II)Z
theorem dc31_0 : (((decode (am_by 31) 0 = .ok (.aload_n 0, 1)) ∧ (decode (am_by 31) 1 = .ok (.getfield 28, 3))) ∧ ((decode (am_by 31) 4 = .ok (.aload_n 0, 1)) ∧ (decode (am_by 31) 5 = .ok (.getfield 28, 3)))) ∧ (((decode (am_by 31) 8 = .ok (.getfield 169, 3)) ∧ (decode (am_by 31) 11 = .ok (.invokevirtual 191, 3))) ∧ ((decode (am_by 31) 14 = .ok (.ifCond .ne 5, 3)) ∧ (decode (am_by 31) 17 = .ok (.iconst 0, 1)))) := by decide +kernel
theorem dc31_1 : (((decode (am_by 31) 18 = .ok (.ireturn, 1)) ∧ (decode (am_by 31) 19 = .ok (.aload_n 0, 1))) ∧ ((decode (am_by 31) 20 = .ok (.getfield 28, 3)) ∧ (decode (am_by 31) 23 = .ok (.dup, 1)))) ∧ (((decode (am_by 31) 24 = .ok (.getfield 169, 3)) ∧ (decode (am_by 31) 27 = .ok (.iconst 1, 1))) ∧ ((decode (am_by 31) 28 = .ok (.iadd, 1)) ∧ (decode (am_by 31) 29 = .ok (.putfield 169, 3)))) := by decide +kernel
theorem dc31_2 : (((decode (am_by 31) 32 = .ok (.iload_n 1, 1)) ∧ (decode (am_by 31) 33 = .ok (.bipush 126, 2))) ∧ ((decode (am_by 31) 35 = .ok (.if_icmp .ne 11, 3)) ∧ (decode (am_by 31) 38 = .ok (.aload_n 0, 1)))) ∧ (((decode (am_by 31) 39 = .ok (.iload_n 2, 1)) ∧ (decode (am_by 31) 40 = .ok (.invokevirtual 166, 3))) ∧ ((decode (am_by 31) 43 = .ok (.goto 28, 3)) ∧ (decode (am_by 31) 46 = .ok (.aload_n 0, 1)))) := by decide +kernel
theorem dc31_3 : (((decode (am_by 31) 47 = .ok (.iload_n 2, 1)) ∧ (decode (am_by 31) 48 = .ok (.invokevirtual 103, 3))) ∧ ((decode (am_by 31) 51 = .ok (.ifCond .eq 19, 3)) ∧ (decode (am_by 31) 54 = .ok (.aload_n 0, 1)))) ∧ (((decode (am_by 31) 55 = .ok (.getfield 28, 3)) ∧ (decode (am_by 31) 58 = .ok (.bipush 41, 2))) ∧ ((decode (am_by 31) 60 = .ok (.invokevirtual 55, 3)) ∧ (decode (am_by 31) 63 = .ok (.ifCond .eq 7, 3)))) := by decide +kernel
theorem dc31_4 : (((decode (am_by 31) 66 = .ok (.iconst 1, 1)) ∧ (decode (am_by 31) 67 = .ok (.goto 4, 3))) ∧ ((decode (am_by 31) 70 = .ok (.iconst 0, 1)) ∧ (decode (am_by 31) 71 = .ok (.istore_n 3, 1)))) ∧ (((decode (am_by 31) 72 = .ok (.iload_n 3, 1)) ∧ (decode (am_by 31) 73 = .ok (.ifCond .ne 5, 3))) ∧ ((decode (am_by 31) 76 = .ok (.iconst 0, 1)) ∧ (decode (am_by 31) 77 = .ok (.ireturn, 1)))) := by decide +kernel
theorem dc31_5 : (((decode (am_by 31) 78 = .ok (.iload_n 1, 1)) ∧ (decode (am_by 31) 79 = .ok (.bipush 126, 2))) ∧ ((decode (am_by 31) 81 = .ok (.if_icmp .ne 12, 3)) ∧ (decode (am_by 31) 84 = .ok (.aload_n 0, 1)))) ∧ (((decode (am_by 31) 85 = .ok (.getfield 11, 3)) ∧ (decode (am_by 31) 88 = .ok (.iload_n 2, 1))) ∧ ((decode (am_by 31) 89 = .ok (.aaload, 1)) ∧ (decode (am_by 31) 90 = .ok (.invokevirtual 194, 3)))) := by decide +kernel
theorem dc31_6 : ((decode (am_by 31) 93 = .ok (.aload_n 0, 1)) ∧ (decode (am_by 31) 94 = .ok (.getfield 28, 3))) ∧ ((decode (am_by 31) 97 = .ok (.invokevirtual 197, 3)) ∧ ((decode (am_by 31) 100 = .ok (.iconst 1, 1)) ∧ (decode (am_by 31) 101 = .ok (.ireturn, 1)))) := by decide +kernel
theorem t31_0 {sc : Option (Nat × (Nat → Int32))} {d k n : Nat} {P : am_O → Prop} {I : am_I} {J : am_J} {Pf : am_R} (hp : am_PF Pf) {x1 : Int32} {x2 : Int32} {l3 : Option Value} (q1 : Pf 3 0 = some 1) (q2 : Pf 3 0 = some 1) (q3 : am_mth d 61 [.ref 1, .int (I 1 3)] (am_SH, I, J, Pf) (am_af sc d 31 11 [some (.ref 3), some (.int x1), some (.int x2), l3] [.int (I 1 3), .ref 1] [] (am_SH, I, J, Pf) k n false P)) : am_go sc d 31 (0, [some (.ref 3), some (.int x1), some (.int x2), l3], [], (am_SH, I, J, Pf), k, n) P := by
  refine am_s_aload_n rfl dc31_0.1.1.1 ?_
  refine am_s_getR (r := 1) dc31_0.1.1.2 rfl rfl rfl (q1) ?_
  refine am_s_aload_n rfl dc31_0.1.2.1 ?_
  refine am_s_getR (r := 1) dc31_0.1.2.2 rfl rfl rfl (q2) ?_
  refine am_x_getI (x := I 1 3) dc31_0.2.1.1 rfl rfl (Or.inl rfl) rfl ?_
  exact am_s_virtual false dc31_0.2.1.2 rfl (by decide) rfl rfl rfl (q3)
theorem t31_14 {sc : Option (Nat × (Nat → Int32))} {d k n : Nat} {P : am_O → Prop} {I : am_I} {J : am_J} {Pf : am_R} (hp : am_PF Pf) {x1 : Int32} {x2 : Int32} {l3 : Option Value} {s0 : Int32} (q1 : (¬ s0 = 0) → Pf 3 0 = some 1) (q2 : (¬ s0 = 0) → (¬ x1 = 126) → am_mth d 29 [.ref 3, .int x2] (am_SH, am_u I 1 3 ((I 1 3) + 1), J, Pf) (am_af sc d 31 48 [some (.ref 3), some (.int x1), some (.int x2), l3] [.int x2, .ref 3] [] (am_SH, am_u I 1 3 ((I 1 3) + 1), J, Pf) k n true P)) (q3 : (¬ s0 = 0) → (¬ (¬ x1 = 126)) → am_mth d 30 [.ref 3, .int x2] (am_SH, am_u I 1 3 ((I 1 3) + 1), J, Pf) (am_af sc d 31 40 [some (.ref 3), some (.int x1), some (.int x2), l3] [.int x2, .ref 3] [] (am_SH, am_u I 1 3 ((I 1 3) + 1), J, Pf) k n true P)) (q4 : (¬ (¬ s0 = 0)) → P (.inl (some (.int 0)), (am_SH, I, J, Pf), k, n)) : am_go sc d 31 (14, [some (.ref 3), some (.int x1), some (.int x2), l3], [.int s0], (am_SH, I, J, Pf), k, n) P := by
  refine am_s_if_ne dc31_0.2.2.1 rfl (fun c1 => ?_) (fun c1 => ?_)
  · refine am_s_aload_n rfl dc31_1.1.1.2 ?_
    refine am_s_getR (r := 1) dc31_1.1.2.1 rfl rfl rfl (q1 c1) ?_
    refine am_s_dup rfl dc31_1.1.2.2 ?_
    refine am_x_getI (x := I 1 3) dc31_1.2.1.1 rfl rfl (Or.inl rfl) rfl ?_
    refine am_s_iconst am_cc1 dc31_1.2.1.2 ?_
    refine am_s_iadd dc31_1.2.2.1 ?_
    refine am_s_putI dc31_1.2.2.2 rfl rfl rfl rfl ?_
    refine am_s_iload_n rfl dc31_2.1.1.1 ?_
    refine am_s_bipush am_cb126 dc31_2.1.1.2 ?_
    refine am_s_ic_ne dc31_2.1.2.1 rfl (fun c2 => ?_) (fun c2 => ?_)
    · refine am_s_aload_n rfl dc31_2.2.2.2 ?_
      refine am_s_iload_n rfl dc31_3.1.1.1 ?_
      exact am_s_virtual true dc31_3.1.1.2 rfl (by decide) rfl rfl rfl (q2 c1 c2)
    · refine am_s_aload_n rfl dc31_2.1.2.2 ?_
      refine am_s_iload_n rfl dc31_2.2.1.1 ?_
      exact am_s_virtual true dc31_2.2.1.2 rfl (by decide) rfl rfl rfl (q3 c1 c2)
  · refine am_s_iconst am_cc0 dc31_0.2.2.2 ?_
    exact am_s_zreturn dc31_1.1.1.1 rfl (by decide) (q4 c1)
theorem t31_43 {sc : Option (Nat × (Nat → Int32))} {d k n : Nat} {P : am_O → Prop} {I : am_I} {J : am_J} {Pf : am_R} (hp : am_PF Pf) {x1 : Int32} {x2 : Int32} {l3 : Option Value} {s0 : Int32} {r89 : Nat} (q1 : (¬ s0 = 0) → (¬ x1 = 126) → Pf 3 0 = some 1) (q2 : (¬ s0 = 0) → (¬ x1 = 126) → am_mth d 62 [.ref 1] (am_SH, I, J, Pf) (am_af sc d 31 97 [some (.ref 3), some (.int x1), some (.int x2), some (.int s0)] [.ref 1] [] (am_SH, I, J, Pf) k n false P)) (q3 : (¬ s0 = 0) → (¬ (¬ x1 = 126)) → am_in x2 8 = true) (q4 : (¬ s0 = 0) → (¬ (¬ x1 = 126)) → Pf 4 (Int32.toNatClampNeg x2) = some r89) (q5 : (¬ s0 = 0) → (¬ (¬ x1 = 126)) → am_SH[r89]? = some (.inl 6)) (q6 : (¬ s0 = 0) → (¬ (¬ x1 = 126)) → am_mth d 82 [.ref r89] (am_SH, I, J, Pf) (am_af sc d 31 90 [some (.ref 3), some (.int x1), some (.int x2), some (.int s0)] [.ref r89] [] (am_SH, I, J, Pf) k n false P)) (q7 : (¬ (¬ s0 = 0)) → P (.inl (some (.int 0)), (am_SH, I, J, Pf), k, n)) : am_go sc d 31 (43, [some (.ref 3), some (.int x1), some (.int x2), l3], [.int s0], (am_SH, I, J, Pf), k, n) P := by
  refine am_s_goto rfl dc31_2.2.2.1 ?_
  refine am_s_istore_n (ls' := [some (.ref 3), some (.int x1), some (.int x2), some (.int s0)]) rfl rfl dc31_4.1.2.2 ?_
  refine am_s_iload_n rfl dc31_4.2.1.1 ?_
  refine am_s_if_ne dc31_4.2.1.2 rfl (fun c1 => ?_) (fun c1 => ?_)
  · refine am_s_iload_n rfl dc31_5.1.1.1 ?_
    refine am_s_bipush am_cb126 dc31_5.1.1.2 ?_
    refine am_s_ic_ne dc31_5.1.2.1 rfl (fun c2 => ?_) (fun c2 => ?_)
    · refine am_s_aload_n rfl dc31_6.1.1 ?_
      refine am_s_getR (r := 1) dc31_6.1.2 rfl rfl rfl (q1 c1 c2) ?_
      exact am_s_virtual false dc31_6.2.1 rfl (by decide) rfl rfl rfl (q2 c1 c2)
    · refine am_s_aload_n rfl dc31_5.1.2.2 ?_
      refine am_s_getR (r := 4) dc31_5.2.1.1 rfl rfl rfl (hp _ _ _ rfl) ?_
      refine am_s_iload_n rfl dc31_5.2.1.2 ?_
      refine am_s_aaload (r := r89) dc31_5.2.2.1 rfl rfl (q3 c1 c2) (q4 c1 c2) ?_
      exact am_s_virtual false dc31_5.2.2.2 rfl (by decide) rfl (q5 c1 c2) rfl (q6 c1 c2)
  · refine am_s_iconst am_cc0 dc31_4.2.2.1 ?_
    exact am_s_zreturn dc31_4.2.2.2 rfl (by decide) (q7 c1)
theorem t31_51 {sc : Option (Nat × (Nat → Int32))} {d k n : Nat} {P : am_O → Prop} {I : am_I} {J : am_J} {Pf : am_R} (hp : am_PF Pf) {x1 : Int32} {x2 : Int32} {l3 : Option Value} {s0 : Int32} (q1 : (s0 = 0) → P (.inl (some (.int 0)), (am_SH, I, J, Pf), k, n)) (q2 : (¬ (s0 = 0)) → Pf 3 0 = some 1) (q3 : (¬ (s0 = 0)) → am_mth d 56 [.ref 1, .int 41] (am_SH, I, J, Pf) (am_af sc d 31 60 [some (.ref 3), some (.int x1), some (.int x2), l3] [.int 41, .ref 1] [] (am_SH, I, J, Pf) k n false P)) : am_go sc d 31 (51, [some (.ref 3), some (.int x1), some (.int x2), l3], [.int s0], (am_SH, I, J, Pf), k, n) P := by
  refine am_s_if_eq dc31_3.1.2.1 rfl (fun c1 => ?_) (fun c1 => ?_)
  · refine am_s_iconst am_cc0 dc31_4.1.2.1 ?_
    refine am_s_istore_n (ls' := [some (.ref 3), some (.int x1), some (.int x2), some (.int 0)]) rfl rfl dc31_4.1.2.2 ?_
    refine am_s_iload_n rfl dc31_4.2.1.1 ?_
    refine am_s_if_ne dc31_4.2.1.2 rfl (fun z => absurd z (by decide)) (fun _ => ?_)
    refine am_s_iconst am_cc0 dc31_4.2.2.1 ?_
    exact am_s_zreturn dc31_4.2.2.2 rfl (by decide) (q1 c1)
  · refine am_s_aload_n rfl dc31_3.1.2.2 ?_
    refine am_s_getR (r := 1) dc31_3.2.1.1 rfl rfl rfl (q2 c1) ?_
    refine am_s_bipush am_cb41 dc31_3.2.1.2 ?_
    exact am_s_virtual false dc31_3.2.2.1 rfl (by decide) rfl rfl rfl (q3 c1)
theorem t31_93 {sc : Option (Nat × (Nat → Int32))} {d k n : Nat} {P : am_O → Prop} {I : am_I} {J : am_J} {Pf : am_R} (hp : am_PF Pf) {l1 : Option Value} {l2 : Option Value} {l3 : Option Value} (q1 : Pf 3 0 = some 1) (q2 : am_mth d 62 [.ref 1] (am_SH, I, J, Pf) (am_af sc d 31 97 [some (.ref 3), l1, l2, l3] [.ref 1] [] (am_SH, I, J, Pf) k n false P)) : am_go sc d 31 (93, [some (.ref 3), l1, l2, l3], [], (am_SH, I, J, Pf), k, n) P := by
  refine am_s_aload_n rfl dc31_6.1.1 ?_
  refine am_s_getR (r := 1) dc31_6.1.2 rfl rfl rfl (q1) ?_
  exact am_s_virtual false dc31_6.2.1 rfl (by decide) rfl rfl rfl (q2)
theorem t31_100 {sc : Option (Nat × (Nat → Int32))} {d k n : Nat} {P : am_O → Prop} {I : am_I} {J : am_J} {Pf : am_R} (hp : am_PF Pf) {l0 : Option Value} {l1 : Option Value} {l2 : Option Value} {l3 : Option Value} (q1 : P (.inl (some (.int 1)), (am_SH, I, J, Pf), k, n)) : am_go sc d 31 (100, [l0, l1, l2, l3], [], (am_SH, I, J, Pf), k, n) P := by
  refine am_s_iconst am_cc1 dc31_6.2.2.1 ?_
  exact am_s_zreturn dc31_6.2.2.2 rfl (by decide) (q1)
theorem t31_63 {sc : Option (Nat × (Nat → Int32))} {d k n : Nat} {P : am_O → Prop} {I : am_I} {J : am_J} {Pf : am_R} (hp : am_PF Pf) {x1 : Int32} {x2 : Int32} {l3 : Option Value} {s0 : Int32} {r89 : Nat} (q1 : (s0 = 0) → P (.inl (some (.int 0)), (am_SH, I, J, Pf), k, n)) (q2 : (¬ (s0 = 0)) → (¬ x1 = 126) → Pf 3 0 = some 1) (q3 : (¬ (s0 = 0)) → (¬ x1 = 126) → am_mth d 62 [.ref 1] (am_SH, I, J, Pf) (am_af sc d 31 97 [some (.ref 3), some (.int x1), some (.int x2), some (.int 1)] [.ref 1] [] (am_SH, I, J, Pf) k n false P)) (q4 : (¬ (s0 = 0)) → (¬ (¬ x1 = 126)) → am_in x2 8 = true) (q5 : (¬ (s0 = 0)) → (¬ (¬ x1 = 126)) → Pf 4 (Int32.toNatClampNeg x2) = some r89) (q6 : (¬ (s0 = 0)) → (¬ (¬ x1 = 126)) → am_SH[r89]? = some (.inl 6)) (q7 : (¬ (s0 = 0)) → (¬ (¬ x1 = 126)) → am_mth d 82 [.ref r89] (am_SH, I, J, Pf) (am_af sc d 31 90 [some (.ref 3), some (.int x1), some (.int x2), some (.int 1)] [.ref r89] [] (am_SH, I, J, Pf) k n false P)) : am_go sc d 31 (63, [some (.ref 3), some (.int x1), some (.int x2), l3], [.int s0], (am_SH, I, J, Pf), k, n) P := by
  refine am_s_if_eq dc31_3.2.2.2 rfl (fun c1 => ?_) (fun c1 => ?_)
  · refine am_s_iconst am_cc0 dc31_4.1.2.1 ?_
    refine am_s_istore_n (ls' := [some (.ref 3), some (.int x1), some (.int x2), some (.int 0)]) rfl rfl dc31_4.1.2.2 ?_
    refine am_s_iload_n rfl dc31_4.2.1.1 ?_
    refine am_s_if_ne dc31_4.2.1.2 rfl (fun z => absurd z (by decide)) (fun _ => ?_)
    refine am_s_iconst am_cc0 dc31_4.2.2.1 ?_
    exact am_s_zreturn dc31_4.2.2.2 rfl (by decide) (q1 c1)
  · refine am_s_iconst am_cc1 dc31_4.1.1.1 ?_
    refine am_s_goto rfl dc31_4.1.1.2 ?_
    refine am_s_istore_n (ls' := [some (.ref 3), some (.int x1), some (.int x2), some (.int 1)]) rfl rfl dc31_4.1.2.2 ?_
    refine am_s_iload_n rfl dc31_4.2.1.1 ?_
    refine am_s_if_ne dc31_4.2.1.2 rfl (fun _ => ?_) (fun z => absurd z (by decide))
    refine am_s_iload_n rfl dc31_5.1.1.1 ?_
    refine am_s_bipush am_cb126 dc31_5.1.1.2 ?_
    refine am_s_ic_ne dc31_5.1.2.1 rfl (fun c2 => ?_) (fun c2 => ?_)
    · refine am_s_aload_n rfl dc31_6.1.1 ?_
      refine am_s_getR (r := 1) dc31_6.1.2 rfl rfl rfl (q2 c1 c2) ?_
      exact am_s_virtual false dc31_6.2.1 rfl (by decide) rfl rfl rfl (q3 c1 c2)
    · refine am_s_aload_n rfl dc31_5.1.2.2 ?_
      refine am_s_getR (r := 4) dc31_5.2.1.1 rfl rfl rfl (hp _ _ _ rfl) ?_
      refine am_s_iload_n rfl dc31_5.2.1.2 ?_
      refine am_s_aaload (r := r89) dc31_5.2.2.1 rfl rfl (q4 c1 c2) (q5 c1 c2) ?_
      exact am_s_virtual false dc31_5.2.2.2 rfl (by decide) rfl (q6 c1 c2) rfl (q7 c1 c2)
-- readBrackets (LPrunedParses$Signs;)Z
theorem dc32_0 : (((decode (am_by 32) 0 = .ok (.aload_n 0, 1)) ∧ (decode (am_by 32) 1 = .ok (.getfield 28, 3))) ∧ ((decode (am_by 32) 4 = .ok (.dup, 1)) ∧ (decode (am_by 32) 5 = .ok (.getfield 169, 3)))) ∧ (((decode (am_by 32) 8 = .ok (.iconst 1, 1)) ∧ (decode (am_by 32) 9 = .ok (.iadd, 1))) ∧ ((decode (am_by 32) 10 = .ok (.putfield 169, 3)) ∧ (decode (am_by 32) 13 = .ok (.aload_n 1, 1)))) := by decide +kernel
theorem dc32_1 : (((decode (am_by 32) 14 = .ok (.invokevirtual 200, 3)) ∧ (decode (am_by 32) 17 = .ok (.iconst 0, 1))) ∧ ((decode (am_by 32) 18 = .ok (.istore_n 2, 1)) ∧ (decode (am_by 32) 19 = .ok (.iload_n 2, 1)))) ∧ (((decode (am_by 32) 20 = .ok (.sipush 600, 3)) ∧ (decode (am_by 32) 23 = .ok (.if_icmp .ge 131, 3))) ∧ ((decode (am_by 32) 26 = .ok (.aload_n 0, 1)) ∧ (decode (am_by 32) 27 = .ok (.getfield 28, 3)))) := by decide +kernel
theorem dc32_2 : (((decode (am_by 32) 30 = .ok (.invokevirtual 201, 3)) ∧ (decode (am_by 32) 33 = .ok (.bipush 93, 2))) ∧ ((decode (am_by 32) 35 = .ok (.if_icmp .eq 119, 3)) ∧ (decode (am_by 32) 38 = .ok (.aload_n 0, 1)))) ∧ (((decode (am_by 32) 39 = .ok (.getfield 28, 3)) ∧ (decode (am_by 32) 42 = .ok (.iconst 0, 1))) ∧ ((decode (am_by 32) 43 = .ok (.invokevirtual 204, 3)) ∧ (decode (am_by 32) 46 = .ok (.istore_n 3, 1)))) := by decide +kernel
theorem dc32_3 : (((decode (am_by 32) 47 = .ok (.iload_n 3, 1)) ∧ (decode (am_by 32) 48 = .ok (.iconst (-1), 1))) ∧ ((decode (am_by 32) 49 = .ok (.if_icmp .ne 5, 3)) ∧ (decode (am_by 32) 52 = .ok (.iconst 0, 1)))) ∧ (((decode (am_by 32) 53 = .ok (.ireturn, 1)) ∧ (decode (am_by 32) 54 = .ok (.iload_n 3, 1))) ∧ ((decode (am_by 32) 55 = .ok (.istore 4, 2)) ∧ (decode (am_by 32) 57 = .ok (.aload_n 0, 1)))) := by decide +kernel
theorem dc32_4 : (((decode (am_by 32) 58 = .ok (.getfield 28, 3)) ∧ (decode (am_by 32) 61 = .ok (.invokevirtual 201, 3))) ∧ ((decode (am_by 32) 64 = .ok (.bipush 45, 2)) ∧ (decode (am_by 32) 66 = .ok (.if_icmp .ne 60, 3)))) ∧ (((decode (am_by 32) 69 = .ok (.aload_n 0, 1)) ∧ (decode (am_by 32) 70 = .ok (.getfield 28, 3))) ∧ ((decode (am_by 32) 73 = .ok (.dup, 1)) ∧ (decode (am_by 32) 74 = .ok (.getfield 169, 3)))) := by decide +kernel
theorem dc32_5 : (((decode (am_by 32) 77 = .ok (.iconst 1, 1)) ∧ (decode (am_by 32) 78 = .ok (.iadd, 1))) ∧ ((decode (am_by 32) 79 = .ok (.putfield 169, 3)) ∧ (decode (am_by 32) 82 = .ok (.aload_n 0, 1)))) ∧ (((decode (am_by 32) 83 = .ok (.getfield 28, 3)) ∧ (decode (am_by 32) 86 = .ok (.getfield 169, 3))) ∧ ((decode (am_by 32) 89 = .ok (.istore 5, 2)) ∧ (decode (am_by 32) 91 = .ok (.aload_n 0, 1)))) := by decide +kernel
theorem dc32_6 : (((decode (am_by 32) 92 = .ok (.getfield 28, 3)) ∧ (decode (am_by 32) 95 = .ok (.iconst 0, 1))) ∧ ((decode (am_by 32) 96 = .ok (.invokevirtual 204, 3)) ∧ (decode (am_by 32) 99 = .ok (.istore 4, 2)))) ∧ (((decode (am_by 32) 101 = .ok (.iload 4, 2)) ∧ (decode (am_by 32) 103 = .ok (.iconst (-1), 1))) ∧ ((decode (am_by 32) 104 = .ok (.if_icmp .ne 5, 3)) ∧ (decode (am_by 32) 107 = .ok (.iconst 0, 1)))) := by decide +kernel
theorem dc32_7 : (((decode (am_by 32) 108 = .ok (.ireturn, 1)) ∧ (decode (am_by 32) 109 = .ok (.iload 4, 2))) ∧ ((decode (am_by 32) 111 = .ok (.iload_n 3, 1)) ∧ (decode (am_by 32) 112 = .ok (.if_icmp .ge 14, 3)))) ∧ (((decode (am_by 32) 115 = .ok (.aload_n 0, 1)) ∧ (decode (am_by 32) 116 = .ok (.getfield 28, 3))) ∧ ((decode (am_by 32) 119 = .ok (.iconst 2, 1)) ∧ (decode (am_by 32) 120 = .ok (.iload 5, 2)))) := by decide +kernel
theorem dc32_8 : (((decode (am_by 32) 122 = .ok (.invokevirtual 87, 3)) ∧ (decode (am_by 32) 125 = .ok (.ireturn, 1))) ∧ ((decode (am_by 32) 126 = .ok (.iload_n 3, 1)) ∧ (decode (am_by 32) 127 = .ok (.istore 5, 2)))) ∧ (((decode (am_by 32) 129 = .ok (.iload 5, 2)) ∧ (decode (am_by 32) 131 = .ok (.iload 4, 2))) ∧ ((decode (am_by 32) 133 = .ok (.if_icmp .gt 15, 3)) ∧ (decode (am_by 32) 136 = .ok (.aload_n 1, 1)))) := by decide +kernel
theorem dc32_9 : (((decode (am_by 32) 137 = .ok (.iload 5, 2)) ∧ (decode (am_by 32) 139 = .ok (.invokevirtual 208, 3))) ∧ ((decode (am_by 32) 142 = .ok (.iinc 5 1, 3)) ∧ (decode (am_by 32) 145 = .ok (.goto (-16), 3)))) ∧ (((decode (am_by 32) 148 = .ok (.iinc 2 1, 3)) ∧ (decode (am_by 32) 151 = .ok (.goto (-132), 3))) ∧ ((decode (am_by 32) 154 = .ok (.aload_n 0, 1)) ∧ (decode (am_by 32) 155 = .ok (.getfield 28, 3)))) := by decide +kernel
theorem dc32_10 : ((decode (am_by 32) 158 = .ok (.dup, 1)) ∧ ((decode (am_by 32) 159 = .ok (.getfield 169, 3)) ∧ (decode (am_by 32) 162 = .ok (.iconst 1, 1)))) ∧ (((decode (am_by 32) 163 = .ok (.iadd, 1)) ∧ (decode (am_by 32) 164 = .ok (.putfield 169, 3))) ∧ ((decode (am_by 32) 167 = .ok (.iconst 1, 1)) ∧ (decode (am_by 32) 168 = .ok (.ireturn, 1)))) := by decide +kernel
theorem t32_0 {sc : Option (Nat × (Nat → Int32))} {d k n : Nat} {P : am_O → Prop} {I : am_I} {J : am_J} {Pf : am_R} (hp : am_PF Pf) {x1 : Nat} (hx1 : am_SH[x1]? = some (.inl 6)) {l2 : Option Value} {l3 : Option Value} {l4 : Option Value} {l5 : Option Value} (q1 : Pf 3 0 = some 1) (q2 : am_mth d 75 [.ref x1] (am_SH, am_u I 1 3 ((I 1 3) + 1), J, Pf) (am_af sc d 32 14 [some (.ref 3), some (.ref x1), l2, l3, l4, l5] [.ref x1] [] (am_SH, am_u I 1 3 ((I 1 3) + 1), J, Pf) k n false P)) : am_go sc d 32 (0, [some (.ref 3), some (.ref x1), l2, l3, l4, l5], [], (am_SH, I, J, Pf), k, n) P := by
  refine am_s_aload_n rfl dc32_0.1.1.1 ?_
  refine am_s_getR (r := 1) dc32_0.1.1.2 rfl rfl rfl (q1) ?_
  refine am_s_dup rfl dc32_0.1.2.1 ?_
  refine am_x_getI (x := I 1 3) dc32_0.1.2.2 rfl rfl (Or.inl rfl) rfl ?_
  refine am_s_iconst am_cc1 dc32_0.2.1.1 ?_
  refine am_s_iadd dc32_0.2.1.2 ?_
  refine am_s_putI dc32_0.2.2.1 rfl rfl rfl rfl ?_
  refine am_s_aload_n rfl dc32_0.2.2.2 ?_
  exact am_s_virtual false dc32_1.1.1.1 rfl (by decide) rfl hx1 rfl (q2)
theorem t32_19 {sc : Option (Nat × (Nat → Int32))} {d k n : Nat} {P : am_O → Prop} {I : am_I} {J : am_J} {Pf : am_R} (hp : am_PF Pf) {x1 : Nat} (hx1 : am_SH[x1]? = some (.inl 6)) {x2 : Int32} {l3 : Option Value} {l4 : Option Value} {l5 : Option Value} (q1 : (600 ≤ x2) → am_go sc d 32 (154, [some (.ref 3), some (.ref x1), some (.int x2), l3, l4, l5], [], (am_SH, I, J, Pf), k, n) P) (q2 : (¬ (600 ≤ x2)) → Pf 3 0 = some 1) (q3 : (¬ (600 ≤ x2)) → am_mth d 54 [.ref 1] (am_SH, I, J, Pf) (am_af sc d 32 30 [some (.ref 3), some (.ref x1), some (.int x2), l3, l4, l5] [.ref 1] [] (am_SH, I, J, Pf) k n false P)) : am_go sc d 32 (19, [some (.ref 3), some (.ref x1), some (.int x2), l3, l4, l5], [], (am_SH, I, J, Pf), k, n) P := by
  refine am_s_iload_n rfl dc32_1.1.2.2 ?_
  refine am_s_sipush am_cs600 dc32_1.2.1.1 ?_
  refine am_s_ic_ge dc32_1.2.1.2 rfl (fun c1 => ?_) (fun c1 => ?_)
  · exact q1 c1
  · refine am_s_aload_n rfl dc32_1.2.2.1 ?_
    refine am_s_getR (r := 1) dc32_1.2.2.2 rfl rfl rfl (q2 c1) ?_
    exact am_s_virtual false dc32_2.1.1.1 rfl (by decide) rfl rfl rfl (q3 c1)
theorem t32_126 {sc : Option (Nat × (Nat → Int32))} {d k n : Nat} {P : am_O → Prop} {I : am_I} {J : am_J} {Pf : am_R} (hp : am_PF Pf) {x1 : Nat} (hx1 : am_SH[x1]? = some (.inl 6)) {x2 : Int32} {x3 : Int32} {x4 : Int32} {l5 : Option Value} (q1 : am_go sc d 32 (129, [some (.ref 3), some (.ref x1), some (.int x2), some (.int x3), some (.int x4), some (.int x3)], [], (am_SH, I, J, Pf), k, n) P) : am_go sc d 32 (126, [some (.ref 3), some (.ref x1), some (.int x2), some (.int x3), some (.int x4), l5], [], (am_SH, I, J, Pf), k, n) P := by
  refine am_s_iload_n rfl dc32_8.1.2.1 ?_
  refine am_s_istore (ls' := [some (.ref 3), some (.ref x1), some (.int x2), some (.int x3), some (.int x4), some (.int x3)]) rfl rfl dc32_8.1.2.2 ?_
  exact q1
theorem t32_129 {sc : Option (Nat × (Nat → Int32))} {d k n : Nat} {P : am_O → Prop} {I : am_I} {J : am_J} {Pf : am_R} (hp : am_PF Pf) {x1 : Nat} (hx1 : am_SH[x1]? = some (.inl 6)) {x2 : Int32} {l3 : Option Value} {x4 : Int32} {x5 : Int32} (q1 : (x4 < x5) → am_go sc d 32 (19, [some (.ref 3), some (.ref x1), some (.int (x2 + 1)), l3, some (.int x4), some (.int x5)], [], (am_SH, I, J, Pf), k, n) P) (q2 : (¬ (x4 < x5)) → am_mth d 77 [.ref x1, .int x5] (am_SH, I, J, Pf) (am_af sc d 32 139 [some (.ref 3), some (.ref x1), some (.int x2), l3, some (.int x4), some (.int x5)] [.int x5, .ref x1] [] (am_SH, I, J, Pf) k n false P)) : am_go sc d 32 (129, [some (.ref 3), some (.ref x1), some (.int x2), l3, some (.int x4), some (.int x5)], [], (am_SH, I, J, Pf), k, n) P := by
  refine am_s_iload rfl dc32_8.2.1.1 ?_
  refine am_s_iload rfl dc32_8.2.1.2 ?_
  refine am_s_ic_gt dc32_8.2.2.1 rfl (fun c1 => ?_) (fun c1 => ?_)
  · refine am_s_iinc (ls' := [some (.ref 3), some (.ref x1), some (.int (x2 + 1)), l3, some (.int x4), some (.int x5)]) am_cc1 rfl rfl dc32_9.2.1.1 ?_
    refine am_s_goto rfl dc32_9.2.1.2 ?_
    exact q1 c1
  · refine am_s_aload_n rfl dc32_8.2.2.2 ?_
    refine am_s_iload rfl dc32_9.1.1.1 ?_
    exact am_s_virtual false dc32_9.1.1.2 rfl (by decide) rfl hx1 rfl (q2 c1)
theorem t32_154 {sc : Option (Nat × (Nat → Int32))} {d k n : Nat} {P : am_O → Prop} {I : am_I} {J : am_J} {Pf : am_R} (hp : am_PF Pf) {l1 : Option Value} {l2 : Option Value} {l3 : Option Value} {l4 : Option Value} {l5 : Option Value} (q1 : Pf 3 0 = some 1) (q2 : P (.inl (some (.int 1)), (am_SH, am_u I 1 3 ((I 1 3) + 1), J, Pf), k, n)) : am_go sc d 32 (154, [some (.ref 3), l1, l2, l3, l4, l5], [], (am_SH, I, J, Pf), k, n) P := by
  refine am_s_aload_n rfl dc32_9.2.2.1 ?_
  refine am_s_getR (r := 1) dc32_9.2.2.2 rfl rfl rfl (q1) ?_
  refine am_s_dup rfl dc32_10.1.1 ?_
  refine am_x_getI (x := I 1 3) dc32_10.1.2.1 rfl rfl (Or.inl rfl) rfl ?_
  refine am_s_iconst am_cc1 dc32_10.1.2.2 ?_
  refine am_s_iadd dc32_10.2.1.1 ?_
  refine am_s_putI dc32_10.2.1.2 rfl rfl rfl rfl ?_
  refine am_s_iconst am_cc1 dc32_10.2.2.1 ?_
  exact am_s_zreturn dc32_10.2.2.2 rfl (by decide) (q2)
theorem t32_17 {sc : Option (Nat × (Nat → Int32))} {d k n : Nat} {P : am_O → Prop} {I : am_I} {J : am_J} {Pf : am_R} (hp : am_PF Pf) {x1 : Nat} (hx1 : am_SH[x1]? = some (.inl 6)) {l2 : Option Value} {l3 : Option Value} {l4 : Option Value} {l5 : Option Value} (q1 : am_go sc d 32 (19, [some (.ref 3), some (.ref x1), some (.int 0), l3, l4, l5], [], (am_SH, I, J, Pf), k, n) P) : am_go sc d 32 (17, [some (.ref 3), some (.ref x1), l2, l3, l4, l5], [], (am_SH, I, J, Pf), k, n) P := by
  refine am_s_iconst am_cc0 dc32_1.1.1.2 ?_
  refine am_s_istore_n (ls' := [some (.ref 3), some (.ref x1), some (.int 0), l3, l4, l5]) rfl rfl dc32_1.1.2.1 ?_
  exact q1
theorem t32_33 {sc : Option (Nat × (Nat → Int32))} {d k n : Nat} {P : am_O → Prop} {I : am_I} {J : am_J} {Pf : am_R} (hp : am_PF Pf) {x1 : Nat} (hx1 : am_SH[x1]? = some (.inl 6)) {x2 : Int32} {l3 : Option Value} {l4 : Option Value} {l5 : Option Value} {s0 : Int32} (q1 : (s0 = 93) → am_go sc d 32 (154, [some (.ref 3), some (.ref x1), some (.int x2), l3, l4, l5], [], (am_SH, I, J, Pf), k, n) P) (q2 : (¬ (s0 = 93)) → Pf 3 0 = some 1) (q3 : (¬ (s0 = 93)) → am_mth d 63 [.ref 1, .int 0] (am_SH, I, J, Pf) (am_af sc d 32 43 [some (.ref 3), some (.ref x1), some (.int x2), l3, l4, l5] [.int 0, .ref 1] [] (am_SH, I, J, Pf) k n false P)) : am_go sc d 32 (33, [some (.ref 3), some (.ref x1), some (.int x2), l3, l4, l5], [.int s0], (am_SH, I, J, Pf), k, n) P := by
  refine am_s_bipush am_cb93 dc32_2.1.1.2 ?_
  refine am_s_ic_eq dc32_2.1.2.1 rfl (fun c1 => ?_) (fun c1 => ?_)
  · exact q1 c1
  · refine am_s_aload_n rfl dc32_2.1.2.2 ?_
    refine am_s_getR (r := 1) dc32_2.2.1.1 rfl rfl rfl (q2 c1) ?_
    refine am_s_iconst am_cc0 dc32_2.2.1.2 ?_
    exact am_s_virtual false dc32_2.2.2.1 rfl (by decide) rfl rfl rfl (q3 c1)
theorem t32_142 {sc : Option (Nat × (Nat → Int32))} {d k n : Nat} {P : am_O → Prop} {I : am_I} {J : am_J} {Pf : am_R} (hp : am_PF Pf) {x1 : Nat} (hx1 : am_SH[x1]? = some (.inl 6)) {x2 : Int32} {l3 : Option Value} {x4 : Int32} {x5 : Int32} (q1 : am_go sc d 32 (129, [some (.ref 3), some (.ref x1), some (.int x2), l3, some (.int x4), some (.int (x5 + 1))], [], (am_SH, I, J, Pf), k, n) P) : am_go sc d 32 (142, [some (.ref 3), some (.ref x1), some (.int x2), l3, some (.int x4), some (.int x5)], [], (am_SH, I, J, Pf), k, n) P := by
  refine am_s_iinc (ls' := [some (.ref 3), some (.ref x1), some (.int x2), l3, some (.int x4), some (.int (x5 + 1))]) am_cc1 rfl rfl dc32_9.1.2.1 ?_
  refine am_s_goto rfl dc32_9.1.2.2 ?_
  exact q1
theorem t32_46 {sc : Option (Nat × (Nat → Int32))} {d k n : Nat} {P : am_O → Prop} {I : am_I} {J : am_J} {Pf : am_R} (hp : am_PF Pf) {x1 : Nat} (hx1 : am_SH[x1]? = some (.inl 6)) {x2 : Int32} {l3 : Option Value} {l4 : Option Value} {l5 : Option Value} {s0 : Int32} (q1 : (¬ s0 = (-1)) → Pf 3 0 = some 1) (q2 : (¬ s0 = (-1)) → am_mth d 54 [.ref 1] (am_SH, I, J, Pf) (am_af sc d 32 61 [some (.ref 3), some (.ref x1), some (.int x2), some (.int s0), some (.int s0), l5] [.ref 1] [] (am_SH, I, J, Pf) k n false P)) (q3 : (¬ (¬ s0 = (-1))) → P (.inl (some (.int 0)), (am_SH, I, J, Pf), k, n)) : am_go sc d 32 (46, [some (.ref 3), some (.ref x1), some (.int x2), l3, l4, l5], [.int s0], (am_SH, I, J, Pf), k, n) P := by
  refine am_s_istore_n (ls' := [some (.ref 3), some (.ref x1), some (.int x2), some (.int s0), l4, l5]) rfl rfl dc32_2.2.2.2 ?_
  refine am_s_iload_n rfl dc32_3.1.1.1 ?_
  refine am_s_iconst am_ccm1 dc32_3.1.1.2 ?_
  refine am_s_ic_ne dc32_3.1.2.1 rfl (fun c1 => ?_) (fun c1 => ?_)
  · refine am_s_iload_n rfl dc32_3.2.1.2 ?_
    refine am_s_istore (ls' := [some (.ref 3), some (.ref x1), some (.int x2), some (.int s0), some (.int s0), l5]) rfl rfl dc32_3.2.2.1 ?_
    refine am_s_aload_n rfl dc32_3.2.2.2 ?_
    refine am_s_getR (r := 1) dc32_4.1.1.1 rfl rfl rfl (q1 c1) ?_
    exact am_s_virtual false dc32_4.1.1.2 rfl (by decide) rfl rfl rfl (q2 c1)
  · refine am_s_iconst am_cc0 dc32_3.1.2.2 ?_
    exact am_s_zreturn dc32_3.2.1.1 rfl (by decide) (q3 c1)
theorem t32_64 {sc : Option (Nat × (Nat → Int32))} {d k n : Nat} {P : am_O → Prop} {I : am_I} {J : am_J} {Pf : am_R} (hp : am_PF Pf) {x1 : Nat} (hx1 : am_SH[x1]? = some (.inl 6)) {x2 : Int32} {x3 : Int32} {x4 : Int32} {l5 : Option Value} {s0 : Int32} (q1 : (¬ s0 = 45) → am_go sc d 32 (126, [some (.ref 3), some (.ref x1), some (.int x2), some (.int x3), some (.int x4), l5], [], (am_SH, I, J, Pf), k, n) P) (q2 : (¬ (¬ s0 = 45)) → Pf 3 0 = some 1) (q3 : (¬ (¬ s0 = 45)) → Pf 3 0 = some 1) (q4 : (¬ (¬ s0 = 45)) → Pf 3 0 = some 1) (q5 : (¬ (¬ s0 = 45)) → am_mth d 63 [.ref 1, .int 0] (am_SH, am_u I 1 3 ((I 1 3) + 1), J, Pf) (am_af sc d 32 96 [some (.ref 3), some (.ref x1), some (.int x2), some (.int x3), some (.int x4), some (.int ((I 1 3) + 1))] [.int 0, .ref 1] [] (am_SH, am_u I 1 3 ((I 1 3) + 1), J, Pf) k n false P)) : am_go sc d 32 (64, [some (.ref 3), some (.ref x1), some (.int x2), some (.int x3), some (.int x4), l5], [.int s0], (am_SH, I, J, Pf), k, n) P := by
  refine am_s_bipush am_cb45 dc32_4.1.2.1 ?_
  refine am_s_ic_ne dc32_4.1.2.2 rfl (fun c1 => ?_) (fun c1 => ?_)
  · exact q1 c1
  · refine am_s_aload_n rfl dc32_4.2.1.1 ?_
    refine am_s_getR (r := 1) dc32_4.2.1.2 rfl rfl rfl (q2 c1) ?_
    refine am_s_dup rfl dc32_4.2.2.1 ?_
    refine am_x_getI (x := I 1 3) dc32_4.2.2.2 rfl rfl (Or.inl rfl) rfl ?_
    refine am_s_iconst am_cc1 dc32_5.1.1.1 ?_
    refine am_s_iadd dc32_5.1.1.2 ?_
    refine am_s_putI dc32_5.1.2.1 rfl rfl rfl rfl ?_
    refine am_s_aload_n rfl dc32_5.1.2.2 ?_
    refine am_s_getR (r := 1) dc32_5.2.1.1 rfl rfl rfl (q3 c1) ?_
    refine am_x_getI (x := (I 1 3) + 1) dc32_5.2.1.2 rfl rfl (Or.inl rfl) rfl ?_
    refine am_s_istore (ls' := [some (.ref 3), some (.ref x1), some (.int x2), some (.int x3), some (.int x4), some (.int ((I 1 3) + 1))]) rfl rfl dc32_5.2.2.1 ?_
    refine am_s_aload_n rfl dc32_5.2.2.2 ?_
    refine am_s_getR (r := 1) dc32_6.1.1.1 rfl rfl rfl (q4 c1) ?_
    refine am_s_iconst am_cc0 dc32_6.1.1.2 ?_
    exact am_s_virtual false dc32_6.1.2.1 rfl (by decide) rfl rfl rfl (q5 c1)
theorem t32_99 {sc : Option (Nat × (Nat → Int32))} {d k n : Nat} {P : am_O → Prop} {I : am_I} {J : am_J} {Pf : am_R} (hp : am_PF Pf) {x1 : Nat} (hx1 : am_SH[x1]? = some (.inl 6)) {x2 : Int32} {x3 : Int32} {l4 : Option Value} {x5 : Int32} {s0 : Int32} (q1 : (¬ s0 = (-1)) → (x3 ≤ s0) → am_go sc d 32 (126, [some (.ref 3), some (.ref x1), some (.int x2), some (.int x3), some (.int s0), some (.int x5)], [], (am_SH, I, J, Pf), k, n) P) (q2 : (¬ s0 = (-1)) → (¬ (x3 ≤ s0)) → Pf 3 0 = some 1) (q3 : (¬ s0 = (-1)) → (¬ (x3 ≤ s0)) → am_mth d 53 [.ref 1, .int 2, .int x5] (am_SH, I, J, Pf) (am_af sc d 32 122 [some (.ref 3), some (.ref x1), some (.int x2), some (.int x3), some (.int s0), some (.int x5)] [.int x5, .int 2, .ref 1] [] (am_SH, I, J, Pf) k n false P)) (q4 : (¬ (¬ s0 = (-1))) → P (.inl (some (.int 0)), (am_SH, I, J, Pf), k, n)) : am_go sc d 32 (99, [some (.ref 3), some (.ref x1), some (.int x2), some (.int x3), l4, some (.int x5)], [.int s0], (am_SH, I, J, Pf), k, n) P := by
  refine am_s_istore (ls' := [some (.ref 3), some (.ref x1), some (.int x2), some (.int x3), some (.int s0), some (.int x5)]) rfl rfl dc32_6.1.2.2 ?_
  refine am_s_iload rfl dc32_6.2.1.1 ?_
  refine am_s_iconst am_ccm1 dc32_6.2.1.2 ?_
  refine am_s_ic_ne dc32_6.2.2.1 rfl (fun c1 => ?_) (fun c1 => ?_)
  · refine am_s_iload rfl dc32_7.1.1.2 ?_
    refine am_s_iload_n rfl dc32_7.1.2.1 ?_
    refine am_s_ic_ge dc32_7.1.2.2 rfl (fun c2 => ?_) (fun c2 => ?_)
    · exact q1 c1 c2
    · refine am_s_aload_n rfl dc32_7.2.1.1 ?_
      refine am_s_getR (r := 1) dc32_7.2.1.2 rfl rfl rfl (q2 c1 c2) ?_
      refine am_s_iconst am_cc2 dc32_7.2.2.1 ?_
      refine am_s_iload rfl dc32_7.2.2.2 ?_
      exact am_s_virtual false dc32_8.1.1.1 rfl (by decide) rfl rfl rfl (q3 c1 c2)
  · refine am_s_iconst am_cc0 dc32_6.2.2.2 ?_
    exact am_s_zreturn dc32_7.1.1.1 rfl (by decide) (q4 c1)
theorem t32_125 {sc : Option (Nat × (Nat → Int32))} {d k n : Nat} {P : am_O → Prop} {I : am_I} {J : am_J} {Pf : am_R} (hp : am_PF Pf) {l0 : Option Value} {l1 : Option Value} {l2 : Option Value} {l3 : Option Value} {l4 : Option Value} {l5 : Option Value} {s0 : Int32} (q1 : P (.inl (some (.int s0)), (am_SH, I, J, Pf), k, n)) (q2 : s0 = 0 ∨ s0 = 1) : am_go sc d 32 (125, [l0, l1, l2, l3, l4, l5], [.int s0], (am_SH, I, J, Pf), k, n) P := by
  exact am_s_zreturn dc32_8.1.1.2 rfl (q2) (q1)
-- readProduction (Z)Z
theorem dc33_0 : (((decode (am_by 33) 0 = .ok (.aload_n 0, 1)) ∧ (decode (am_by 33) 1 = .ok (.invokevirtual 212, 3))) ∧ ((decode (am_by 33) 4 = .ok (.istore_n 2, 1)) ∧ (decode (am_by 33) 5 = .ok (.iload_n 2, 1)))) ∧ (((decode (am_by 33) 6 = .ok (.iconst (-1), 1)) ∧ (decode (am_by 33) 7 = .ok (.if_icmp .ne 5, 3))) ∧ ((decode (am_by 33) 10 = .ok (.iconst 0, 1)) ∧ (decode (am_by 33) 11 = .ok (.ireturn, 1)))) := by decide +kernel
theorem dc33_1 : (((decode (am_by 33) 12 = .ok (.aload_n 0, 1)) ∧ (decode (am_by 33) 13 = .ok (.getfield 32, 3))) ∧ ((decode (am_by 33) 16 = .ok (.getfield 146, 3)) ∧ (decode (am_by 33) 19 = .ok (.istore_n 3, 1)))) ∧ (((decode (am_by 33) 20 = .ok (.aload_n 0, 1)) ∧ (decode (am_by 33) 21 = .ok (.getfield 32, 3))) ∧ ((decode (am_by 33) 24 = .ok (.getfield 215, 3)) ∧ (decode (am_by 33) 27 = .ok (.iload_n 3, 1)))) := by decide +kernel
theorem dc33_2 : (((decode (am_by 33) 28 = .ok (.iload_n 2, 1)) ∧ (decode (am_by 33) 29 = .ok (.iastore, 1))) ∧ ((decode (am_by 33) 30 = .ok (.aload_n 0, 1)) ∧ (decode (am_by 33) 31 = .ok (.getfield 32, 3)))) ∧ (((decode (am_by 33) 34 = .ok (.getfield 218, 3)) ∧ (decode (am_by 33) 37 = .ok (.iload_n 3, 1))) ∧ ((decode (am_by 33) 38 = .ok (.iload_n 1, 1)) ∧ (decode (am_by 33) 39 = .ok (.bastore, 1)))) := by decide +kernel
theorem dc33_3 : (((decode (am_by 33) 40 = .ok (.iconst 0, 1)) ∧ (decode (am_by 33) 41 = .ok (.istore 4, 2))) ∧ ((decode (am_by 33) 43 = .ok (.iload 4, 2)) ∧ (decode (am_by 33) 45 = .ok (.iconst 4, 1)))) ∧ (((decode (am_by 33) 46 = .ok (.if_icmp .gt 92, 3)) ∧ (decode (am_by 33) 49 = .ok (.aload_n 0, 1))) ∧ ((decode (am_by 33) 50 = .ok (.getfield 32, 3)) ∧ (decode (am_by 33) 53 = .ok (.getfield 222, 3)))) := by decide +kernel
theorem dc33_4 : (((decode (am_by 33) 56 = .ok (.iload_n 3, 1)) ∧ (decode (am_by 33) 57 = .ok (.iload 4, 2))) ∧ ((decode (am_by 33) 59 = .ok (.iastore, 1)) ∧ (decode (am_by 33) 60 = .ok (.aload_n 0, 1)))) ∧ (((decode (am_by 33) 61 = .ok (.getfield 28, 3)) ∧ (decode (am_by 33) 64 = .ok (.invokevirtual 45, 3))) ∧ ((decode (am_by 33) 67 = .ok (.istore 5, 2)) ∧ (decode (am_by 33) 69 = .ok (.iload 5, 2)))) := by decide +kernel
theorem dc33_5 : (((decode (am_by 33) 71 = .ok (.bipush 35, 2)) ∧ (decode (am_by 33) 73 = .ok (.if_icmp .eq 20, 3))) ∧ ((decode (am_by 33) 76 = .ok (.iload 5, 2)) ∧ (decode (am_by 33) 78 = .ok (.bipush 64, 2)))) ∧ (((decode (am_by 33) 80 = .ok (.if_icmp .eq 13, 3)) ∧ (decode (am_by 33) 83 = .ok (.iload 5, 2))) ∧ ((decode (am_by 33) 85 = .ok (.bipush 39, 2)) ∧ (decode (am_by 33) 87 = .ok (.if_icmp .eq 6, 3)))) := by decide +kernel
theorem dc33_6 : (((decode (am_by 33) 90 = .ok (.goto 48, 3)) ∧ (decode (am_by 33) 93 = .ok (.iload 4, 2))) ∧ ((decode (am_by 33) 95 = .ok (.iconst 4, 1)) ∧ (decode (am_by 33) 96 = .ok (.if_icmp .ne 19, 3)))) ∧ (((decode (am_by 33) 99 = .ok (.aload_n 0, 1)) ∧ (decode (am_by 33) 100 = .ok (.getfield 28, 3))) ∧ ((decode (am_by 33) 103 = .ok (.iconst 3, 1)) ∧ (decode (am_by 33) 104 = .ok (.aload_n 0, 1)))) := by decide +kernel
theorem dc33_7 : (((decode (am_by 33) 105 = .ok (.getfield 28, 3)) ∧ (decode (am_by 33) 108 = .ok (.getfield 169, 3))) ∧ ((decode (am_by 33) 111 = .ok (.invokevirtual 87, 3)) ∧ (decode (am_by 33) 114 = .ok (.ireturn, 1)))) ∧ (((decode (am_by 33) 115 = .ok (.aload_n 0, 1)) ∧ (decode (am_by 33) 116 = .ok (.iload_n 3, 1))) ∧ ((decode (am_by 33) 117 = .ok (.iconst 4, 1)) ∧ (decode (am_by 33) 118 = .ok (.imul, 1)))) := by decide +kernel
theorem dc33_8 : (((decode (am_by 33) 119 = .ok (.iload 4, 2)) ∧ (decode (am_by 33) 121 = .ok (.iadd, 1))) ∧ ((decode (am_by 33) 122 = .ok (.iload 5, 2)) ∧ (decode (am_by 33) 124 = .ok (.invokevirtual 225, 3)))) ∧ (((decode (am_by 33) 127 = .ok (.ifCond .ne 5, 3)) ∧ (decode (am_by 33) 130 = .ok (.iconst 0, 1))) ∧ ((decode (am_by 33) 131 = .ok (.ireturn, 1)) ∧ (decode (am_by 33) 132 = .ok (.iinc 4 1, 3)))) := by decide +kernel
theorem dc33_9 : (((decode (am_by 33) 135 = .ok (.goto (-92), 3)) ∧ (decode (am_by 33) 138 = .ok (.aload_n 0, 1))) ∧ ((decode (am_by 33) 139 = .ok (.getfield 32, 3)) ∧ (decode (am_by 33) 142 = .ok (.dup, 1)))) ∧ (((decode (am_by 33) 143 = .ok (.getfield 146, 3)) ∧ (decode (am_by 33) 146 = .ok (.iconst 1, 1))) ∧ ((decode (am_by 33) 147 = .ok (.iadd, 1)) ∧ (decode (am_by 33) 148 = .ok (.putfield 146, 3)))) := by decide +kernel
theorem dc33_10 : (decode (am_by 33) 151 = .ok (.iconst 1, 1)) ∧ (decode (am_by 33) 152 = .ok (.ireturn, 1)) := by decide +kernel
theorem t33_0 {sc : Option (Nat × (Nat → Int32))} {d k n : Nat} {P : am_O → Prop} {I : am_I} {J : am_J} {Pf : am_R} (hp : am_PF Pf) {x1 : Int32} {l2 : Option Value} {l3 : Option Value} {l4 : Option Value} {l5 : Option Value} (q1 : am_mth d 26 [.ref 3] (am_SH, I, J, Pf) (am_af sc d 33 1 [some (.ref 3), some (.int x1), l2, l3, l4, l5] [.ref 3] [] (am_SH, I, J, Pf) k n true P)) : am_go sc d 33 (0, [some (.ref 3), some (.int x1), l2, l3, l4, l5], [], (am_SH, I, J, Pf), k, n) P := by
  refine am_s_aload_n rfl dc33_0.1.1.1 ?_
  exact am_s_virtual true dc33_0.1.1.2 rfl (by decide) rfl rfl rfl (q1)
theorem t33_43 {sc : Option (Nat × (Nat → Int32))} {d k n : Nat} {P : am_O → Prop} {I : am_I} {J : am_J} {Pf : am_R} (hp : am_PF Pf) {l1 : Option Value} {l2 : Option Value} {x3 : Int32} {x4 : Int32} {l5 : Option Value} {r3_1 : Nat} (q1 : (4 < x4) → am_go sc d 33 (138, [some (.ref 3), l1, l2, some (.int x3), some (.int x4), l5], [], (am_SH, I, J, Pf), k, n) P) (q2 : (¬ (4 < x4)) → Pf 3 1 = some r3_1) (q3 : (¬ (4 < x4)) → am_SH[r3_1]? = some (.inl 4)) (q4 : (¬ (4 < x4)) → am_in x3 20 = true) (q5 : (¬ (4 < x4)) → Pf 3 0 = some 1) (q6 : (¬ (4 < x4)) → am_mth d 55 [.ref 1] (am_SH, am_u I (r3_1 + 4) (Int32.toNatClampNeg x3) x4, J, Pf) (am_af sc d 33 64 [some (.ref 3), l1, l2, some (.int x3), some (.int x4), l5] [.ref 1] [] (am_SH, am_u I (r3_1 + 4) (Int32.toNatClampNeg x3) x4, J, Pf) k n false P)) : am_go sc d 33 (43, [some (.ref 3), l1, l2, some (.int x3), some (.int x4), l5], [], (am_SH, I, J, Pf), k, n) P := by
  refine am_s_iload rfl dc33_3.1.2.1 ?_
  refine am_s_iconst am_cc4 dc33_3.1.2.2 ?_
  refine am_s_ic_gt dc33_3.2.1.1 rfl (fun c1 => ?_) (fun c1 => ?_)
  · exact q1 c1
  · refine am_s_aload_n rfl dc33_3.2.1.2 ?_
    refine am_s_getR (r := r3_1) dc33_3.2.2.1 rfl rfl rfl (q2 c1) ?_
    refine am_s_getR (r := r3_1 + 4) dc33_3.2.2.2 rfl (q3 c1) rfl (am_r4_5 hp (q3 c1)) ?_
    refine am_s_iload_n rfl dc33_4.1.1.1 ?_
    refine am_s_iload rfl dc33_4.1.1.2 ?_
    refine am_s_iastore dc33_4.1.2.1 (am_h4_5 (q3 c1)) (q4 c1) rfl ?_
    refine am_s_aload_n rfl dc33_4.1.2.2 ?_
    refine am_s_getR (r := 1) dc33_4.2.1.1 rfl rfl rfl (q5 c1) ?_
    exact am_s_virtual false dc33_4.2.1.2 rfl (by decide) rfl rfl rfl (q6 c1)
theorem t33_93 {sc : Option (Nat × (Nat → Int32))} {d k n : Nat} {P : am_O → Prop} {I : am_I} {J : am_J} {Pf : am_R} (hp : am_PF Pf) {l1 : Option Value} {l2 : Option Value} {x3 : Int32} {x4 : Int32} {x5 : Int32} (q1 : (¬ x4 = 4) → am_mth d 34 [.ref 3, .int ((x3 * 4) + x4), .int x5] (am_SH, I, J, Pf) (am_af sc d 33 124 [some (.ref 3), l1, l2, some (.int x3), some (.int x4), some (.int x5)] [.int x5, .int ((x3 * 4) + x4), .ref 3] [] (am_SH, I, J, Pf) k n true P)) (q2 : (¬ (¬ x4 = 4)) → Pf 3 0 = some 1) (q3 : (¬ (¬ x4 = 4)) → Pf 3 0 = some 1) (q4 : (¬ (¬ x4 = 4)) → am_mth d 53 [.ref 1, .int 3, .int (I 1 3)] (am_SH, I, J, Pf) (am_af sc d 33 111 [some (.ref 3), l1, l2, some (.int x3), some (.int x4), some (.int x5)] [.int (I 1 3), .int 3, .ref 1] [] (am_SH, I, J, Pf) k n false P)) : am_go sc d 33 (93, [some (.ref 3), l1, l2, some (.int x3), some (.int x4), some (.int x5)], [], (am_SH, I, J, Pf), k, n) P := by
  refine am_s_iload rfl dc33_6.1.1.2 ?_
  refine am_s_iconst am_cc4 dc33_6.1.2.1 ?_
  refine am_s_ic_ne dc33_6.1.2.2 rfl (fun c1 => ?_) (fun c1 => ?_)
  · refine am_s_aload_n rfl dc33_7.2.1.1 ?_
    refine am_s_iload_n rfl dc33_7.2.1.2 ?_
    refine am_s_iconst am_cc4 dc33_7.2.2.1 ?_
    refine am_s_imul dc33_7.2.2.2 ?_
    refine am_s_iload rfl dc33_8.1.1.1 ?_
    refine am_s_iadd dc33_8.1.1.2 ?_
    refine am_s_iload rfl dc33_8.1.2.1 ?_
    exact am_s_virtual true dc33_8.1.2.2 rfl (by decide) rfl rfl rfl (q1 c1)
  · refine am_s_aload_n rfl dc33_6.2.1.1 ?_
    refine am_s_getR (r := 1) dc33_6.2.1.2 rfl rfl rfl (q2 c1) ?_
    refine am_s_iconst am_cc3 dc33_6.2.2.1 ?_
    refine am_s_aload_n rfl dc33_6.2.2.2 ?_
    refine am_s_getR (r := 1) dc33_7.1.1.1 rfl rfl rfl (q3 c1) ?_
    refine am_x_getI (x := I 1 3) dc33_7.1.1.2 rfl rfl (Or.inl rfl) rfl ?_
    exact am_s_virtual false dc33_7.1.2.1 rfl (by decide) rfl rfl rfl (q4 c1)
theorem t33_138 {sc : Option (Nat × (Nat → Int32))} {d k n : Nat} {P : am_O → Prop} {I : am_I} {J : am_J} {Pf : am_R} (hp : am_PF Pf) {l1 : Option Value} {l2 : Option Value} {l3 : Option Value} {l4 : Option Value} {l5 : Option Value} {r3_1 : Nat} (q1 : Pf 3 1 = some r3_1) (q2 : am_SH[r3_1]? = some (.inl 4)) (q3 : P (.inl (some (.int 1)), (am_SH, am_u I r3_1 2 ((I r3_1 2) + 1), J, Pf), k, n)) : am_go sc d 33 (138, [some (.ref 3), l1, l2, l3, l4, l5], [], (am_SH, I, J, Pf), k, n) P := by
  refine am_s_aload_n rfl dc33_9.1.1.2 ?_
  refine am_s_getR (r := r3_1) dc33_9.1.2.1 rfl rfl rfl (q1) ?_
  refine am_s_dup rfl dc33_9.1.2.2 ?_
  refine am_x_getI (x := I r3_1 2) dc33_9.2.1.1 rfl (q2) (Or.inl rfl) rfl ?_
  refine am_s_iconst am_cc1 dc33_9.2.1.2 ?_
  refine am_s_iadd dc33_9.2.2.1 ?_
  refine am_s_putI dc33_9.2.2.2 rfl (q2) rfl rfl ?_
  refine am_s_iconst am_cc1 dc33_10.1 ?_
  exact am_s_zreturn dc33_10.2 rfl (by decide) (q3)
theorem t33_4 {sc : Option (Nat × (Nat → Int32))} {d k n : Nat} {P : am_O → Prop} {I : am_I} {J : am_J} {Pf : am_R} (hp : am_PF Pf) {x1 : Int32} {l2 : Option Value} {l3 : Option Value} {l4 : Option Value} {l5 : Option Value} {s0 : Int32} {r3_1 : Nat} (q1 : (¬ s0 = (-1)) → Pf 3 1 = some r3_1) (q2 : (¬ s0 = (-1)) → am_SH[r3_1]? = some (.inl 4)) (q3 : (¬ s0 = (-1)) → Pf 3 1 = some r3_1) (q4 : (¬ s0 = (-1)) → am_SH[r3_1]? = some (.inl 4)) (q5 : (¬ s0 = (-1)) → am_in (I r3_1 2) 20 = true) (q6 : (¬ s0 = (-1)) → Pf 3 1 = some r3_1) (q7 : (¬ s0 = (-1)) → am_SH[r3_1]? = some (.inl 4)) (q8 : (¬ s0 = (-1)) → am_in (I r3_1 2) 20 = true) (q9 : (¬ s0 = (-1)) → x1 = 0 ∨ x1 = 1) (q10 : (¬ s0 = (-1)) → am_go sc d 33 (43, [some (.ref 3), some (.int x1), some (.int s0), some (.int (I r3_1 2)), some (.int 0), l5], [], (am_SH, am_u (am_u I (r3_1 + 2) (Int32.toNatClampNeg (I r3_1 2)) s0) (r3_1 + 3) (Int32.toNatClampNeg (I r3_1 2)) x1, J, Pf), k, n) P) (q11 : (¬ (¬ s0 = (-1))) → P (.inl (some (.int 0)), (am_SH, I, J, Pf), k, n)) : am_go sc d 33 (4, [some (.ref 3), some (.int x1), l2, l3, l4, l5], [.int s0], (am_SH, I, J, Pf), k, n) P := by
  refine am_s_istore_n (ls' := [some (.ref 3), some (.int x1), some (.int s0), l3, l4, l5]) rfl rfl dc33_0.1.2.1 ?_
  refine am_s_iload_n rfl dc33_0.1.2.2 ?_
  refine am_s_iconst am_ccm1 dc33_0.2.1.1 ?_
  refine am_s_ic_ne dc33_0.2.1.2 rfl (fun c1 => ?_) (fun c1 => ?_)
  · refine am_s_aload_n rfl dc33_1.1.1.1 ?_
    refine am_s_getR (r := r3_1) dc33_1.1.1.2 rfl rfl rfl (q1 c1) ?_
    refine am_x_getI (x := I r3_1 2) dc33_1.1.2.1 rfl (q2 c1) (Or.inl rfl) rfl ?_
    refine am_s_istore_n (ls' := [some (.ref 3), some (.int x1), some (.int s0), some (.int (I r3_1 2)), l4, l5]) rfl rfl dc33_1.1.2.2 ?_
    refine am_s_aload_n rfl dc33_1.2.1.1 ?_
    refine am_s_getR (r := r3_1) dc33_1.2.1.2 rfl rfl rfl (q3 c1) ?_
    refine am_s_getR (r := r3_1 + 2) dc33_1.2.2.1 rfl (q4 c1) rfl (am_r4_3 hp (q4 c1)) ?_
    refine am_s_iload_n rfl dc33_1.2.2.2 ?_
    refine am_s_iload_n rfl dc33_2.1.1.1 ?_
    refine am_s_iastore dc33_2.1.1.2 (am_h4_3 (q4 c1)) (q5 c1) rfl ?_
    refine am_s_aload_n rfl dc33_2.1.2.1 ?_
    refine am_s_getR (r := r3_1) dc33_2.1.2.2 rfl rfl rfl (q6 c1) ?_
    refine am_s_getR (r := r3_1 + 3) dc33_2.2.1.1 rfl (q7 c1) rfl (am_r4_4 hp (q7 c1)) ?_
    refine am_s_iload_n rfl dc33_2.2.1.2 ?_
    refine am_s_iload_n rfl dc33_2.2.2.1 ?_
    refine am_s_bastore dc33_2.2.2.2 (am_h4_4 (q7 c1)) (q8 c1) (q9 c1) rfl ?_
    refine am_s_iconst am_cc0 dc33_3.1.1.1 ?_
    refine am_s_istore (ls' := [some (.ref 3), some (.int x1), some (.int s0), some (.int (I r3_1 2)), some (.int 0), l5]) rfl rfl dc33_3.1.1.2 ?_
    exact q10 c1
  · refine am_s_iconst am_cc0 dc33_0.2.2.1 ?_
    exact am_s_zreturn dc33_0.2.2.2 rfl (by decide) (q11 c1)
theorem t33_67 {sc : Option (Nat × (Nat → Int32))} {d k n : Nat} {P : am_O → Prop} {I : am_I} {J : am_J} {Pf : am_R} (hp : am_PF Pf) {l1 : Option Value} {l2 : Option Value} {x3 : Int32} {x4 : Int32} {l5 : Option Value} {s0 : Int32} (q1 : (s0 = 35) → am_go sc d 33 (93, [some (.ref 3), l1, l2, some (.int x3), some (.int x4), some (.int s0)], [], (am_SH, I, J, Pf), k, n) P) (q2 : (¬ (s0 = 35)) → (s0 = 64) → am_go sc d 33 (93, [some (.ref 3), l1, l2, some (.int x3), some (.int x4), some (.int s0)], [], (am_SH, I, J, Pf), k, n) P) (q3 : (¬ (s0 = 35)) → (¬ (s0 = 64)) → (s0 = 39) → am_go sc d 33 (93, [some (.ref 3), l1, l2, some (.int x3), some (.int x4), some (.int s0)], [], (am_SH, I, J, Pf), k, n) P) (q4 : (¬ (s0 = 35)) → (¬ (s0 = 64)) → (¬ (s0 = 39)) → am_go sc d 33 (138, [some (.ref 3), l1, l2, some (.int x3), some (.int x4), some (.int s0)], [], (am_SH, I, J, Pf), k, n) P) : am_go sc d 33 (67, [some (.ref 3), l1, l2, some (.int x3), some (.int x4), l5], [.int s0], (am_SH, I, J, Pf), k, n) P := by
  refine am_s_istore (ls' := [some (.ref 3), l1, l2, some (.int x3), some (.int x4), some (.int s0)]) rfl rfl dc33_4.2.2.1 ?_
  refine am_s_iload rfl dc33_4.2.2.2 ?_
  refine am_s_bipush am_cb35 dc33_5.1.1.1 ?_
  refine am_s_ic_eq dc33_5.1.1.2 rfl (fun c1 => ?_) (fun c1 => ?_)
  · exact q1 c1
  · refine am_s_iload rfl dc33_5.1.2.1 ?_
    refine am_s_bipush am_cb64 dc33_5.1.2.2 ?_
    refine am_s_ic_eq dc33_5.2.1.1 rfl (fun c2 => ?_) (fun c2 => ?_)
    · exact q2 c1 c2
    · refine am_s_iload rfl dc33_5.2.1.2 ?_
      refine am_s_bipush am_cb39 dc33_5.2.2.1 ?_
      refine am_s_ic_eq dc33_5.2.2.2 rfl (fun c3 => ?_) (fun c3 => ?_)
      · exact q3 c1 c2 c3
      · refine am_s_goto rfl dc33_6.1.1.1 ?_
        exact q4 c1 c2 c3
theorem t33_114 {sc : Option (Nat × (Nat → Int32))} {d k n : Nat} {P : am_O → Prop} {I : am_I} {J : am_J} {Pf : am_R} (hp : am_PF Pf) {l0 : Option Value} {l1 : Option Value} {l2 : Option Value} {l3 : Option Value} {l4 : Option Value} {l5 : Option Value} {s0 : Int32} (q1 : P (.inl (some (.int s0)), (am_SH, I, J, Pf), k, n)) (q2 : s0 = 0 ∨ s0 = 1) : am_go sc d 33 (114, [l0, l1, l2, l3, l4, l5], [.int s0], (am_SH, I, J, Pf), k, n) P := by
  exact am_s_zreturn dc33_7.1.2.2 rfl (q2) (q1)
theorem t33_127 {sc : Option (Nat × (Nat → Int32))} {d k n : Nat} {P : am_O → Prop} {I : am_I} {J : am_J} {Pf : am_R} (hp : am_PF Pf) {l1 : Option Value} {l2 : Option Value} {x3 : Int32} {x4 : Int32} {l5 : Option Value} {s0 : Int32} (q1 : (¬ s0 = 0) → am_go sc d 33 (43, [some (.ref 3), l1, l2, some (.int x3), some (.int (x4 + 1)), l5], [], (am_SH, I, J, Pf), k, n) P) (q2 : (¬ (¬ s0 = 0)) → P (.inl (some (.int 0)), (am_SH, I, J, Pf), k, n)) : am_go sc d 33 (127, [some (.ref 3), l1, l2, some (.int x3), some (.int x4), l5], [.int s0], (am_SH, I, J, Pf), k, n) P := by
  refine am_s_if_ne dc33_8.2.1.1 rfl (fun c1 => ?_) (fun c1 => ?_)
  · refine am_s_iinc (ls' := [some (.ref 3), l1, l2, some (.int x3), some (.int (x4 + 1)), l5]) am_cc1 rfl rfl dc33_8.2.2.2 ?_
    refine am_s_goto rfl dc33_9.1.1.1 ?_
    exact q1 c1
  · refine am_s_iconst am_cc0 dc33_8.2.1.2 ?_
    exact am_s_zreturn dc33_8.2.2.1 rfl (by decide) (q2 c1)
-- readPart (II)Z
theorem dc34_0 : (((decode (am_by 34) 0 = .ok (.iload_n 2, 1)) ∧ (decode (am_by 34) 1 = .ok (.bipush 35, 2))) ∧ ((decode (am_by 34) 3 = .ok (.if_icmp .ne 21, 3)) ∧ (decode (am_by 34) 6 = .ok (.aload_n 0, 1)))) ∧ (((decode (am_by 34) 7 = .ok (.getfield 32, 3)) ∧ (decode (am_by 34) 10 = .ok (.getfield 228, 3))) ∧ ((decode (am_by 34) 13 = .ok (.iload_n 1, 1)) ∧ (decode (am_by 34) 14 = .ok (.iconst 0, 1)))) := by decide +kernel
theorem dc34_1 : (((decode (am_by 34) 15 = .ok (.iastore, 1)) ∧ (decode (am_by 34) 16 = .ok (.aload_n 0, 1))) ∧ ((decode (am_by 34) 17 = .ok (.invokevirtual 188, 3)) ∧ (decode (am_by 34) 20 = .ok (.istore_n 3, 1)))) ∧ (((decode (am_by 34) 21 = .ok (.goto 69, 3)) ∧ (decode (am_by 34) 24 = .ok (.iload_n 2, 1))) ∧ ((decode (am_by 34) 25 = .ok (.bipush 64, 2)) ∧ (decode (am_by 34) 27 = .ok (.if_icmp .ne 34, 3)))) := by decide +kernel
theorem dc34_2 : (((decode (am_by 34) 30 = .ok (.aload_n 0, 1)) ∧ (decode (am_by 34) 31 = .ok (.getfield 32, 3))) ∧ ((decode (am_by 34) 34 = .ok (.getfield 228, 3)) ∧ (decode (am_by 34) 37 = .ok (.iload_n 1, 1)))) ∧ (((decode (am_by 34) 38 = .ok (.iconst 1, 1)) ∧ (decode (am_by 34) 39 = .ok (.iastore, 1))) ∧ ((decode (am_by 34) 40 = .ok (.aload_n 0, 1)) ∧ (decode (am_by 34) 41 = .ok (.getfield 28, 3)))) := by decide +kernel
theorem dc34_3 : (((decode (am_by 34) 44 = .ok (.dup, 1)) ∧ (decode (am_by 34) 45 = .ok (.getfield 169, 3))) ∧ ((decode (am_by 34) 48 = .ok (.iconst 1, 1)) ∧ (decode (am_by 34) 49 = .ok (.iadd, 1)))) ∧ (((decode (am_by 34) 50 = .ok (.putfield 169, 3)) ∧ (decode (am_by 34) 53 = .ok (.aload_n 0, 1))) ∧ ((decode (am_by 34) 54 = .ok (.invokevirtual 212, 3)) ∧ (decode (am_by 34) 57 = .ok (.istore_n 3, 1)))) := by decide +kernel
theorem dc34_4 : (((decode (am_by 34) 58 = .ok (.goto 32, 3)) ∧ (decode (am_by 34) 61 = .ok (.aload_n 0, 1))) ∧ ((decode (am_by 34) 62 = .ok (.getfield 32, 3)) ∧ (decode (am_by 34) 65 = .ok (.getfield 228, 3)))) ∧ (((decode (am_by 34) 68 = .ok (.iload_n 1, 1)) ∧ (decode (am_by 34) 69 = .ok (.iconst 2, 1))) ∧ ((decode (am_by 34) 70 = .ok (.iastore, 1)) ∧ (decode (am_by 34) 71 = .ok (.aload_n 0, 1)))) := by decide +kernel
theorem dc34_5 : (((decode (am_by 34) 72 = .ok (.getfield 28, 3)) ∧ (decode (am_by 34) 75 = .ok (.aload_n 0, 1))) ∧ ((decode (am_by 34) 76 = .ok (.getfield 32, 3)) ∧ (decode (am_by 34) 79 = .ok (.getfield 231, 3)))) ∧ (((decode (am_by 34) 82 = .ok (.iload_n 1, 1)) ∧ (decode (am_by 34) 83 = .ok (.bipush 8, 2))) ∧ ((decode (am_by 34) 85 = .ok (.imul, 1)) ∧ (decode (am_by 34) 86 = .ok (.invokevirtual 234, 3)))) := by decide +kernel
theorem dc34_6 : (((decode (am_by 34) 89 = .ok (.istore_n 3, 1)) ∧ (decode (am_by 34) 90 = .ok (.aload_n 0, 1))) ∧ ((decode (am_by 34) 91 = .ok (.getfield 32, 3)) ∧ (decode (am_by 34) 94 = .ok (.getfield 238, 3)))) ∧ (((decode (am_by 34) 97 = .ok (.iload_n 1, 1)) ∧ (decode (am_by 34) 98 = .ok (.iload_n 3, 1))) ∧ ((decode (am_by 34) 99 = .ok (.iastore, 1)) ∧ (decode (am_by 34) 100 = .ok (.iload_n 3, 1)))) := by decide +kernel
theorem dc34_7 : ((decode (am_by 34) 101 = .ok (.iconst (-1), 1)) ∧ ((decode (am_by 34) 102 = .ok (.if_icmp .eq 7, 3)) ∧ (decode (am_by 34) 105 = .ok (.iconst 1, 1)))) ∧ ((decode (am_by 34) 106 = .ok (.goto 4, 3)) ∧ ((decode (am_by 34) 109 = .ok (.iconst 0, 1)) ∧ (decode (am_by 34) 110 = .ok (.ireturn, 1)))) := by decide +kernel
theorem t34_0 {sc : Option (Nat × (Nat → Int32))} {d k n : Nat} {P : am_O → Prop} {I : am_I} {J : am_J} {Pf : am_R} (hp : am_PF Pf) {x1 : Int32} {x2 : Int32} {l3 : Option Value} {r3_1 : Nat} (q1 : (¬ x2 = 35) → (¬ x2 = 64) → Pf 3 1 = some r3_1) (q2 : (¬ x2 = 35) → (¬ x2 = 64) → am_SH[r3_1]? = some (.inl 4)) (q3 : (¬ x2 = 35) → (¬ x2 = 64) → am_in x1 80 = true) (q4 : (¬ x2 = 35) → (¬ x2 = 64) → Pf 3 0 = some 1) (q5 : (¬ x2 = 35) → (¬ x2 = 64) → Pf 3 1 = some r3_1) (q6 : (¬ x2 = 35) → (¬ x2 = 64) → am_SH[r3_1]? = some (.inl 4)) (q7 : (¬ x2 = 35) → (¬ x2 = 64) → am_mth d 65 [.ref 1, .ref (r3_1 + 7), .int (x1 * 8)] (am_SH, am_u I (r3_1 + 5) (Int32.toNatClampNeg x1) 2, J, Pf) (am_af sc d 34 86 [some (.ref 3), some (.int x1), some (.int x2), l3] [.int (x1 * 8), .ref (r3_1 + 7), .ref 1] [] (am_SH, am_u I (r3_1 + 5) (Int32.toNatClampNeg x1) 2, J, Pf) k n false P)) (q8 : (¬ x2 = 35) → (¬ (¬ x2 = 64)) → Pf 3 1 = some r3_1) (q9 : (¬ x2 = 35) → (¬ (¬ x2 = 64)) → am_SH[r3_1]? = some (.inl 4)) (q10 : (¬ x2 = 35) → (¬ (¬ x2 = 64)) → am_in x1 80 = true) (q11 : (¬ x2 = 35) → (¬ (¬ x2 = 64)) → Pf 3 0 = some 1) (q12 : (¬ x2 = 35) → (¬ (¬ x2 = 64)) → am_mth d 26 [.ref 3] (am_SH, am_u (am_u I (r3_1 + 5) (Int32.toNatClampNeg x1) 1) 1 3 (((am_u I (r3_1 + 5) (Int32.toNatClampNeg x1) 1) 1 3) + 1), J, Pf) (am_af sc d 34 54 [some (.ref 3), some (.int x1), some (.int x2), l3] [.ref 3] [] (am_SH, am_u (am_u I (r3_1 + 5) (Int32.toNatClampNeg x1) 1) 1 3 (((am_u I (r3_1 + 5) (Int32.toNatClampNeg x1) 1) 1 3) + 1), J, Pf) k n true P)) (q13 : (¬ (¬ x2 = 35)) → Pf 3 1 = some r3_1) (q14 : (¬ (¬ x2 = 35)) → am_SH[r3_1]? = some (.inl 4)) (q15 : (¬ (¬ x2 = 35)) → am_in x1 80 = true) (q16 : (¬ (¬ x2 = 35)) → am_mth d 27 [.ref 3] (am_SH, am_u I (r3_1 + 5) (Int32.toNatClampNeg x1) 0, J, Pf) (am_af sc d 34 17 [some (.ref 3), some (.int x1), some (.int x2), l3] [.ref 3] [] (am_SH, am_u I (r3_1 + 5) (Int32.toNatClampNeg x1) 0, J, Pf) k n true P)) : am_go sc d 34 (0, [some (.ref 3), some (.int x1), some (.int x2), l3], [], (am_SH, I, J, Pf), k, n) P := by
  refine am_s_iload_n rfl dc34_0.1.1.1 ?_
  refine am_s_bipush am_cb35 dc34_0.1.1.2 ?_
  refine am_s_ic_ne dc34_0.1.2.1 rfl (fun c1 => ?_) (fun c1 => ?_)
  · refine am_s_iload_n rfl dc34_1.2.1.2 ?_
    refine am_s_bipush am_cb64 dc34_1.2.2.1 ?_
    refine am_s_ic_ne dc34_1.2.2.2 rfl (fun c2 => ?_) (fun c2 => ?_)
    · refine am_s_aload_n rfl dc34_4.1.1.2 ?_
      refine am_s_getR (r := r3_1) dc34_4.1.2.1 rfl rfl rfl (q1 c1 c2) ?_
      refine am_s_getR (r := r3_1 + 5) dc34_4.1.2.2 rfl (q2 c1 c2) rfl (am_r4_6 hp (q2 c1 c2)) ?_
      refine am_s_iload_n rfl dc34_4.2.1.1 ?_
      refine am_s_iconst am_cc2 dc34_4.2.1.2 ?_
      refine am_s_iastore dc34_4.2.2.1 (am_h4_6 (q2 c1 c2)) (q3 c1 c2) rfl ?_
      refine am_s_aload_n rfl dc34_4.2.2.2 ?_
      refine am_s_getR (r := 1) dc34_5.1.1.1 rfl rfl rfl (q4 c1 c2) ?_
      refine am_s_aload_n rfl dc34_5.1.1.2 ?_
      refine am_s_getR (r := r3_1) dc34_5.1.2.1 rfl rfl rfl (q5 c1 c2) ?_
      refine am_s_getR (r := r3_1 + 7) dc34_5.1.2.2 rfl (q6 c1 c2) rfl (am_r4_8 hp (q6 c1 c2)) ?_
      refine am_s_iload_n rfl dc34_5.2.1.1 ?_
      refine am_s_bipush am_cb8 dc34_5.2.1.2 ?_
      refine am_s_imul dc34_5.2.2.1 ?_
      exact am_s_virtual false dc34_5.2.2.2 rfl (by decide) rfl rfl rfl (q7 c1 c2)
    · refine am_s_aload_n rfl dc34_2.1.1.1 ?_
      refine am_s_getR (r := r3_1) dc34_2.1.1.2 rfl rfl rfl (q8 c1 c2) ?_
      refine am_s_getR (r := r3_1 + 5) dc34_2.1.2.1 rfl (q9 c1 c2) rfl (am_r4_6 hp (q9 c1 c2)) ?_
      refine am_s_iload_n rfl dc34_2.1.2.2 ?_
      refine am_s_iconst am_cc1 dc34_2.2.1.1 ?_
      refine am_s_iastore dc34_2.2.1.2 (am_h4_6 (q9 c1 c2)) (q10 c1 c2) rfl ?_
      refine am_s_aload_n rfl dc34_2.2.2.1 ?_
      refine am_s_getR (r := 1) dc34_2.2.2.2 rfl rfl rfl (q11 c1 c2) ?_
      refine am_s_dup rfl dc34_3.1.1.1 ?_
      refine am_x_getI (x := (am_u I (r3_1 + 5) (Int32.toNatClampNeg x1) 1) 1 3) dc34_3.1.1.2 rfl rfl (Or.inl rfl) rfl ?_
      refine am_s_iconst am_cc1 dc34_3.1.2.1 ?_
      refine am_s_iadd dc34_3.1.2.2 ?_
      refine am_s_putI dc34_3.2.1.1 rfl rfl rfl rfl ?_
      refine am_s_aload_n rfl dc34_3.2.1.2 ?_
      exact am_s_virtual true dc34_3.2.2.1 rfl (by decide) rfl rfl rfl (q12 c1 c2)
  · refine am_s_aload_n rfl dc34_0.1.2.2 ?_
    refine am_s_getR (r := r3_1) dc34_0.2.1.1 rfl rfl rfl (q13 c1) ?_
    refine am_s_getR (r := r3_1 + 5) dc34_0.2.1.2 rfl (q14 c1) rfl (am_r4_6 hp (q14 c1)) ?_
    refine am_s_iload_n rfl dc34_0.2.2.1 ?_
    refine am_s_iconst am_cc0 dc34_0.2.2.2 ?_
    refine am_s_iastore dc34_1.1.1.1 (am_h4_6 (q14 c1)) (q15 c1) rfl ?_
    refine am_s_aload_n rfl dc34_1.1.1.2 ?_
    exact am_s_virtual true dc34_1.1.2.1 rfl (by decide) rfl rfl rfl (q16 c1)
theorem t34_90 {sc : Option (Nat × (Nat → Int32))} {d k n : Nat} {P : am_O → Prop} {I : am_I} {J : am_J} {Pf : am_R} (hp : am_PF Pf) {x1 : Int32} {l2 : Option Value} {x3 : Int32} {r3_1 : Nat} (q1 : Pf 3 1 = some r3_1) (q2 : am_SH[r3_1]? = some (.inl 4)) (q3 : am_in x1 80 = true) (q4 : (x3 = (-1)) → P (.inl (some (.int 0)), (am_SH, am_u I (r3_1 + 6) (Int32.toNatClampNeg x1) x3, J, Pf), k, n)) (q5 : (¬ (x3 = (-1))) → P (.inl (some (.int 1)), (am_SH, am_u I (r3_1 + 6) (Int32.toNatClampNeg x1) x3, J, Pf), k, n)) : am_go sc d 34 (90, [some (.ref 3), some (.int x1), l2, some (.int x3)], [], (am_SH, I, J, Pf), k, n) P := by
  refine am_s_aload_n rfl dc34_6.1.1.2 ?_
  refine am_s_getR (r := r3_1) dc34_6.1.2.1 rfl rfl rfl (q1) ?_
  refine am_s_getR (r := r3_1 + 6) dc34_6.1.2.2 rfl (q2) rfl (am_r4_7 hp (q2)) ?_
  refine am_s_iload_n rfl dc34_6.2.1.1 ?_
  refine am_s_iload_n rfl dc34_6.2.1.2 ?_
  refine am_s_iastore dc34_6.2.2.1 (am_h4_7 (q2)) (q3) rfl ?_
  refine am_s_iload_n rfl dc34_6.2.2.2 ?_
  refine am_s_iconst am_ccm1 dc34_7.1.1 ?_
  refine am_s_ic_eq dc34_7.1.2.1 rfl (fun c1 => ?_) (fun c1 => ?_)
  · refine am_s_iconst am_cc0 dc34_7.2.2.1 ?_
    exact am_s_zreturn dc34_7.2.2.2 rfl (by decide) (q4 c1)
  · refine am_s_iconst am_cc1 dc34_7.1.2.2 ?_
    refine am_s_goto rfl dc34_7.2.1 ?_
    exact am_s_zreturn dc34_7.2.2.2 rfl (by decide) (q5 c1)
theorem t34_20 {sc : Option (Nat × (Nat → Int32))} {d k n : Nat} {P : am_O → Prop} {I : am_I} {J : am_J} {Pf : am_R} (hp : am_PF Pf) {x1 : Int32} {l2 : Option Value} {l3 : Option Value} {s0 : Int32} (hl2 : am_k1 l2 = true) (q1 : am_go sc d 34 (90, [some (.ref 3), some (.int x1), l2, some (.int s0)], [], (am_SH, I, J, Pf), k, n) P) : am_go sc d 34 (20, [some (.ref 3), some (.int x1), l2, l3], [.int s0], (am_SH, I, J, Pf), k, n) P := by
  refine am_s_istore_n (ls' := [some (.ref 3), some (.int x1), l2, some (.int s0)]) rfl (am_set1_k (am_kill_x (j := 2) rfl hl2) rfl) dc34_1.1.2.2 ?_
  refine am_s_goto rfl dc34_1.2.1.1 ?_
  exact q1
theorem t34_57 {sc : Option (Nat × (Nat → Int32))} {d k n : Nat} {P : am_O → Prop} {I : am_I} {J : am_J} {Pf : am_R} (hp : am_PF Pf) {x1 : Int32} {l2 : Option Value} {l3 : Option Value} {s0 : Int32} (hl2 : am_k1 l2 = true) (q1 : am_go sc d 34 (90, [some (.ref 3), some (.int x1), l2, some (.int s0)], [], (am_SH, I, J, Pf), k, n) P) : am_go sc d 34 (57, [some (.ref 3), some (.int x1), l2, l3], [.int s0], (am_SH, I, J, Pf), k, n) P := by
  refine am_s_istore_n (ls' := [some (.ref 3), some (.int x1), l2, some (.int s0)]) rfl (am_set1_k (am_kill_x (j := 2) rfl hl2) rfl) dc34_3.2.2.2 ?_
  refine am_s_goto rfl dc34_4.1.1.1 ?_
  exact q1
theorem t34_89 {sc : Option (Nat × (Nat → Int32))} {d k n : Nat} {P : am_O → Prop} {I : am_I} {J : am_J} {Pf : am_R} (hp : am_PF Pf) {x1 : Int32} {l2 : Option Value} {l3 : Option Value} {s0 : Int32} (hl2 : am_k1 l2 = true) (q1 : am_go sc d 34 (90, [some (.ref 3), some (.int x1), l2, some (.int s0)], [], (am_SH, I, J, Pf), k, n) P) : am_go sc d 34 (89, [some (.ref 3), some (.int x1), l2, l3], [.int s0], (am_SH, I, J, Pf), k, n) P := by
  refine am_s_istore_n (ls' := [some (.ref 3), some (.int x1), l2, some (.int s0)]) rfl (am_set1_k (am_kill_x (j := 2) rfl hl2) rfl) dc34_6.1.1.1 ?_
  exact q1
-- readQuote ()Z
theorem dc35_0 : (((decode (am_by 35) 0 = .ok (.aload_n 0, 1)) ∧ (decode (am_by 35) 1 = .ok (.invokevirtual 212, 3))) ∧ ((decode (am_by 35) 4 = .ok (.istore_n 1, 1)) ∧ (decode (am_by 35) 5 = .ok (.iload_n 1, 1)))) ∧ (((decode (am_by 35) 6 = .ok (.iconst (-1), 1)) ∧ (decode (am_by 35) 7 = .ok (.if_icmp .ne 5, 3))) ∧ ((decode (am_by 35) 10 = .ok (.iconst 0, 1)) ∧ (decode (am_by 35) 11 = .ok (.ireturn, 1)))) := by decide +kernel
theorem dc35_1 : (((decode (am_by 35) 12 = .ok (.aload_n 0, 1)) ∧ (decode (am_by 35) 13 = .ok (.invokevirtual 212, 3))) ∧ ((decode (am_by 35) 16 = .ok (.istore_n 2, 1)) ∧ (decode (am_by 35) 17 = .ok (.iload_n 2, 1)))) ∧ (((decode (am_by 35) 18 = .ok (.iconst (-1), 1)) ∧ (decode (am_by 35) 19 = .ok (.if_icmp .ne 5, 3))) ∧ ((decode (am_by 35) 22 = .ok (.iconst 0, 1)) ∧ (decode (am_by 35) 23 = .ok (.ireturn, 1)))) := by decide +kernel
theorem dc35_2 : (((decode (am_by 35) 24 = .ok (.aload_n 0, 1)) ∧ (decode (am_by 35) 25 = .ok (.getfield 28, 3))) ∧ ((decode (am_by 35) 28 = .ok (.aload_n 0, 1)) ∧ (decode (am_by 35) 29 = .ok (.getfield 24, 3)))) ∧ (((decode (am_by 35) 32 = .ok (.iconst 0, 1)) ∧ (decode (am_by 35) 33 = .ok (.invokevirtual 234, 3))) ∧ ((decode (am_by 35) 36 = .ok (.istore_n 3, 1)) ∧ (decode (am_by 35) 37 = .ok (.iload_n 3, 1)))) := by decide +kernel
theorem dc35_3 : (((decode (am_by 35) 38 = .ok (.iconst (-1), 1)) ∧ (decode (am_by 35) 39 = .ok (.if_icmp .ne 5, 3))) ∧ ((decode (am_by 35) 42 = .ok (.iconst 0, 1)) ∧ (decode (am_by 35) 43 = .ok (.ireturn, 1)))) ∧ (((decode (am_by 35) 44 = .ok (.iload_n 3, 1)) ∧ (decode (am_by 35) 45 = .ok (.iconst 3, 1))) ∧ ((decode (am_by 35) 46 = .ok (.if_icmp .eq 21, 3)) ∧ (decode (am_by 35) 49 = .ok (.aload_n 0, 1)))) := by decide +kernel
theorem dc35_4 : (((decode (am_by 35) 50 = .ok (.getfield 28, 3)) ∧ (decode (am_by 35) 53 = .ok (.iconst 2, 1))) ∧ ((decode (am_by 35) 54 = .ok (.aload_n 0, 1)) ∧ (decode (am_by 35) 55 = .ok (.getfield 28, 3)))) ∧ (((decode (am_by 35) 58 = .ok (.getfield 169, 3)) ∧ (decode (am_by 35) 61 = .ok (.iconst 1, 1))) ∧ ((decode (am_by 35) 62 = .ok (.isub, 1)) ∧ (decode (am_by 35) 63 = .ok (.invokevirtual 87, 3)))) := by decide +kernel
theorem dc35_5 : (((decode (am_by 35) 66 = .ok (.ireturn, 1)) ∧ (decode (am_by 35) 67 = .ok (.aload_n 0, 1))) ∧ ((decode (am_by 35) 68 = .ok (.getfield 24, 3)) ∧ (decode (am_by 35) 71 = .ok (.iconst 2, 1)))) ∧ (((decode (am_by 35) 72 = .ok (.iaload, 1)) ∧ (decode (am_by 35) 73 = .ok (.aload_n 0, 1))) ∧ ((decode (am_by 35) 74 = .ok (.getfield 24, 3)) ∧ (decode (am_by 35) 77 = .ok (.iconst 0, 1)))) := by decide +kernel
theorem dc35_6 : (((decode (am_by 35) 78 = .ok (.iaload, 1)) ∧ (decode (am_by 35) 79 = .ok (.if_icmp .eq 18, 3))) ∧ ((decode (am_by 35) 82 = .ok (.aload_n 0, 1)) ∧ (decode (am_by 35) 83 = .ok (.getfield 24, 3)))) ∧ (((decode (am_by 35) 86 = .ok (.iconst 2, 1)) ∧ (decode (am_by 35) 87 = .ok (.iaload, 1))) ∧ ((decode (am_by 35) 88 = .ok (.aload_n 0, 1)) ∧ (decode (am_by 35) 89 = .ok (.getfield 24, 3)))) := by decide +kernel
theorem dc35_7 : (((decode (am_by 35) 92 = .ok (.iconst 1, 1)) ∧ (decode (am_by 35) 93 = .ok (.iaload, 1))) ∧ ((decode (am_by 35) 94 = .ok (.if_icmp .ne 19, 3)) ∧ (decode (am_by 35) 97 = .ok (.aload_n 0, 1)))) ∧ (((decode (am_by 35) 98 = .ok (.getfield 28, 3)) ∧ (decode (am_by 35) 101 = .ok (.iconst 2, 1))) ∧ ((decode (am_by 35) 102 = .ok (.aload_n 0, 1)) ∧ (decode (am_by 35) 103 = .ok (.getfield 28, 3)))) := by decide +kernel
theorem dc35_8 : (((decode (am_by 35) 106 = .ok (.getfield 241, 3)) ∧ (decode (am_by 35) 109 = .ok (.invokevirtual 87, 3))) ∧ ((decode (am_by 35) 112 = .ok (.ireturn, 1)) ∧ (decode (am_by 35) 113 = .ok (.aload_n 0, 1)))) ∧ (((decode (am_by 35) 114 = .ok (.getfield 32, 3)) ∧ (decode (am_by 35) 117 = .ok (.getfield 149, 3))) ∧ ((decode (am_by 35) 120 = .ok (.istore 4, 2)) ∧ (decode (am_by 35) 122 = .ok (.aload_n 0, 1)))) := by decide +kernel
theorem dc35_9 : (((decode (am_by 35) 123 = .ok (.getfield 32, 3)) ∧ (decode (am_by 35) 126 = .ok (.getfield 244, 3))) ∧ ((decode (am_by 35) 129 = .ok (.iload 4, 2)) ∧ (decode (am_by 35) 131 = .ok (.iload_n 1, 1)))) ∧ (((decode (am_by 35) 132 = .ok (.iastore, 1)) ∧ (decode (am_by 35) 133 = .ok (.aload_n 0, 1))) ∧ ((decode (am_by 35) 134 = .ok (.getfield 32, 3)) ∧ (decode (am_by 35) 137 = .ok (.getfield 247, 3)))) := by decide +kernel
theorem dc35_10 : (((decode (am_by 35) 140 = .ok (.iload 4, 2)) ∧ (decode (am_by 35) 142 = .ok (.iload_n 2, 1))) ∧ ((decode (am_by 35) 143 = .ok (.iastore, 1)) ∧ (decode (am_by 35) 144 = .ok (.iconst 0, 1)))) ∧ (((decode (am_by 35) 145 = .ok (.istore 5, 2)) ∧ (decode (am_by 35) 147 = .ok (.iload 5, 2))) ∧ ((decode (am_by 35) 149 = .ok (.iconst 3, 1)) ∧ (decode (am_by 35) 150 = .ok (.if_icmp .ge 31, 3)))) := by decide +kernel
theorem dc35_11 : (((decode (am_by 35) 153 = .ok (.aload_n 0, 1)) ∧ (decode (am_by 35) 154 = .ok (.getfield 32, 3))) ∧ ((decode (am_by 35) 157 = .ok (.getfield 250, 3)) ∧ (decode (am_by 35) 160 = .ok (.iload 4, 2)))) ∧ (((decode (am_by 35) 162 = .ok (.iconst 3, 1)) ∧ (decode (am_by 35) 163 = .ok (.imul, 1))) ∧ ((decode (am_by 35) 164 = .ok (.iload 5, 2)) ∧ (decode (am_by 35) 166 = .ok (.iadd, 1)))) := by decide +kernel
theorem dc35_12 : (((decode (am_by 35) 167 = .ok (.aload_n 0, 1)) ∧ (decode (am_by 35) 168 = .ok (.getfield 24, 3))) ∧ ((decode (am_by 35) 171 = .ok (.iload 5, 2)) ∧ (decode (am_by 35) 173 = .ok (.iaload, 1)))) ∧ (((decode (am_by 35) 174 = .ok (.iastore, 1)) ∧ (decode (am_by 35) 175 = .ok (.iinc 5 1, 3))) ∧ ((decode (am_by 35) 178 = .ok (.goto (-31), 3)) ∧ (decode (am_by 35) 181 = .ok (.aload_n 0, 1)))) := by decide +kernel
theorem dc35_13 : (((decode (am_by 35) 182 = .ok (.getfield 32, 3)) ∧ (decode (am_by 35) 185 = .ok (.dup, 1))) ∧ ((decode (am_by 35) 186 = .ok (.getfield 149, 3)) ∧ (decode (am_by 35) 189 = .ok (.iconst 1, 1)))) ∧ (((decode (am_by 35) 190 = .ok (.iadd, 1)) ∧ (decode (am_by 35) 191 = .ok (.putfield 149, 3))) ∧ ((decode (am_by 35) 194 = .ok (.iconst 1, 1)) ∧ (decode (am_by 35) 195 = .ok (.ireturn, 1)))) := by decide +kernel
theorem t35_0 {sc : Option (Nat × (Nat → Int32))} {d k n : Nat} {P : am_O → Prop} {I : am_I} {J : am_J} {Pf : am_R} (hp : am_PF Pf) {l1 : Option Value} {l2 : Option Value} {l3 : Option Value} {l4 : Option Value} {l5 : Option Value} (q1 : am_mth d 26 [.ref 3] (am_SH, I, J, Pf) (am_af sc d 35 1 [some (.ref 3), l1, l2, l3, l4, l5] [.ref 3] [] (am_SH, I, J, Pf) k n true P)) : am_go sc d 35 (0, [some (.ref 3), l1, l2, l3, l4, l5], [], (am_SH, I, J, Pf), k, n) P := by
  refine am_s_aload_n rfl dc35_0.1.1.1 ?_
  exact am_s_virtual true dc35_0.1.1.2 rfl (by decide) rfl rfl rfl (q1)
theorem t35_97 {sc : Option (Nat × (Nat → Int32))} {d k n : Nat} {P : am_O → Prop} {I : am_I} {J : am_J} {Pf : am_R} (hp : am_PF Pf) {l1 : Option Value} {l2 : Option Value} {l3 : Option Value} {l4 : Option Value} {l5 : Option Value} (q1 : Pf 3 0 = some 1) (q2 : Pf 3 0 = some 1) (q3 : am_mth d 53 [.ref 1, .int 2, .int (I 1 9)] (am_SH, I, J, Pf) (am_af sc d 35 109 [some (.ref 3), l1, l2, l3, l4, l5] [.int (I 1 9), .int 2, .ref 1] [] (am_SH, I, J, Pf) k n false P)) : am_go sc d 35 (97, [some (.ref 3), l1, l2, l3, l4, l5], [], (am_SH, I, J, Pf), k, n) P := by
  refine am_s_aload_n rfl dc35_7.1.2.2 ?_
  refine am_s_getR (r := 1) dc35_7.2.1.1 rfl rfl rfl (q1) ?_
  refine am_s_iconst am_cc2 dc35_7.2.1.2 ?_
  refine am_s_aload_n rfl dc35_7.2.2.1 ?_
  refine am_s_getR (r := 1) dc35_7.2.2.2 rfl rfl rfl (q2) ?_
  refine am_x_getI (x := I 1 9) dc35_8.1.1.1 rfl rfl (Or.inl rfl) rfl ?_
  exact am_s_virtual false dc35_8.1.1.2 rfl (by decide) rfl rfl rfl (q3)
theorem t35_147 {sc : Option (Nat × (Nat → Int32))} {d k n : Nat} {P : am_O → Prop} {I : am_I} {J : am_J} {Pf : am_R} (hp : am_PF Pf) {l1 : Option Value} {l2 : Option Value} {l3 : Option Value} {x4 : Int32} {x5 : Int32} {r3_1 : Nat} (q1 : (3 ≤ x5) → Pf 3 1 = some r3_1) (q2 : (3 ≤ x5) → am_SH[r3_1]? = some (.inl 4)) (q3 : (3 ≤ x5) → P (.inl (some (.int 1)), (am_SH, am_u I r3_1 9 ((I r3_1 9) + 1), J, Pf), k, n)) (q4 : (¬ (3 ≤ x5)) → Pf 3 1 = some r3_1) (q5 : (¬ (3 ≤ x5)) → am_SH[r3_1]? = some (.inl 4)) (q6 : (¬ (3 ≤ x5)) → am_in x5 8 = true) (q7 : (¬ (3 ≤ x5)) → am_in ((x4 * 3) + x5) 12 = true) (q8 : (¬ (3 ≤ x5)) → am_go sc d 35 (147, [some (.ref 3), l1, l2, l3, some (.int x4), some (.int (x5 + 1))], [], (am_SH, am_u I (r3_1 + 10) (Int32.toNatClampNeg ((x4 * 3) + x5)) (I 7 (Int32.toNatClampNeg x5)), J, Pf), k, n) P) : am_go sc d 35 (147, [some (.ref 3), l1, l2, l3, some (.int x4), some (.int x5)], [], (am_SH, I, J, Pf), k, n) P := by
  refine am_s_iload rfl dc35_10.2.1.2 ?_
  refine am_s_iconst am_cc3 dc35_10.2.2.1 ?_
  refine am_s_ic_ge dc35_10.2.2.2 rfl (fun c1 => ?_) (fun c1 => ?_)
  · refine am_s_aload_n rfl dc35_12.2.2.2 ?_
    refine am_s_getR (r := r3_1) dc35_13.1.1.1 rfl rfl rfl (q1 c1) ?_
    refine am_s_dup rfl dc35_13.1.1.2 ?_
    refine am_x_getI (x := I r3_1 9) dc35_13.1.2.1 rfl (q2 c1) (Or.inl rfl) rfl ?_
    refine am_s_iconst am_cc1 dc35_13.1.2.2 ?_
    refine am_s_iadd dc35_13.2.1.1 ?_
    refine am_s_putI dc35_13.2.1.2 rfl (q2 c1) rfl rfl ?_
    refine am_s_iconst am_cc1 dc35_13.2.2.1 ?_
    exact am_s_zreturn dc35_13.2.2.2 rfl (by decide) (q3 c1)
  · refine am_s_aload_n rfl dc35_11.1.1.1 ?_
    refine am_s_getR (r := r3_1) dc35_11.1.1.2 rfl rfl rfl (q4 c1) ?_
    refine am_s_getR (r := r3_1 + 10) dc35_11.1.2.1 rfl (q5 c1) rfl (am_r4_12 hp (q5 c1)) ?_
    refine am_s_iload rfl dc35_11.1.2.2 ?_
    refine am_s_iconst am_cc3 dc35_11.2.1.1 ?_
    refine am_s_imul dc35_11.2.1.2 ?_
    refine am_s_iload rfl dc35_11.2.2.1 ?_
    refine am_s_iadd dc35_11.2.2.2 ?_
    refine am_s_aload_n rfl dc35_12.1.1.1 ?_
    refine am_s_getR (r := 7) dc35_12.1.1.2 rfl rfl rfl (hp _ _ _ rfl) ?_
    refine am_s_iload rfl dc35_12.1.2.1 ?_
    refine am_x_iaload (x := I 7 (Int32.toNatClampNeg x5)) dc35_12.1.2.2 rfl (q6 c1) rfl rfl ?_
    refine am_s_iastore dc35_12.2.1.1 (am_h4_12 (q5 c1)) (q7 c1) rfl ?_
    refine am_s_iinc (ls' := [some (.ref 3), l1, l2, l3, some (.int x4), some (.int (x5 + 1))]) am_cc1 rfl rfl dc35_12.2.1.2 ?_
    refine am_s_goto rfl dc35_12.2.2.1 ?_
    exact q8 c1
theorem t35_4 {sc : Option (Nat × (Nat → Int32))} {d k n : Nat} {P : am_O → Prop} {I : am_I} {J : am_J} {Pf : am_R} (hp : am_PF Pf) {l1 : Option Value} {l2 : Option Value} {l3 : Option Value} {l4 : Option Value} {l5 : Option Value} {s0 : Int32} (q1 : (¬ s0 = (-1)) → am_mth d 26 [.ref 3] (am_SH, I, J, Pf) (am_af sc d 35 13 [some (.ref 3), some (.int s0), l2, l3, l4, l5] [.ref 3] [] (am_SH, I, J, Pf) k n true P)) (q2 : (¬ (¬ s0 = (-1))) → P (.inl (some (.int 0)), (am_SH, I, J, Pf), k, n)) : am_go sc d 35 (4, [some (.ref 3), l1, l2, l3, l4, l5], [.int s0], (am_SH, I, J, Pf), k, n) P := by
  refine am_s_istore_n (ls' := [some (.ref 3), some (.int s0), l2, l3, l4, l5]) rfl rfl dc35_0.1.2.1 ?_
  refine am_s_iload_n rfl dc35_0.1.2.2 ?_
  refine am_s_iconst am_ccm1 dc35_0.2.1.1 ?_
  refine am_s_ic_ne dc35_0.2.1.2 rfl (fun c1 => ?_) (fun c1 => ?_)
  · refine am_s_aload_n rfl dc35_1.1.1.1 ?_
    exact am_s_virtual true dc35_1.1.1.2 rfl (by decide) rfl rfl rfl (q1 c1)
  · refine am_s_iconst am_cc0 dc35_0.2.2.1 ?_
    exact am_s_zreturn dc35_0.2.2.2 rfl (by decide) (q2 c1)
theorem t35_112 {sc : Option (Nat × (Nat → Int32))} {d k n : Nat} {P : am_O → Prop} {I : am_I} {J : am_J} {Pf : am_R} (hp : am_PF Pf) {l0 : Option Value} {l1 : Option Value} {l2 : Option Value} {l3 : Option Value} {l4 : Option Value} {l5 : Option Value} {s0 : Int32} (q1 : P (.inl (some (.int s0)), (am_SH, I, J, Pf), k, n)) (q2 : s0 = 0 ∨ s0 = 1) : am_go sc d 35 (112, [l0, l1, l2, l3, l4, l5], [.int s0], (am_SH, I, J, Pf), k, n) P := by
  exact am_s_zreturn dc35_8.1.2.1 rfl (q2) (q1)
theorem t35_16 {sc : Option (Nat × (Nat → Int32))} {d k n : Nat} {P : am_O → Prop} {I : am_I} {J : am_J} {Pf : am_R} (hp : am_PF Pf) {x1 : Int32} {l2 : Option Value} {l3 : Option Value} {l4 : Option Value} {l5 : Option Value} {s0 : Int32} (q1 : (¬ s0 = (-1)) → Pf 3 0 = some 1) (q2 : (¬ s0 = (-1)) → am_mth d 65 [.ref 1, .ref 7, .int 0] (am_SH, I, J, Pf) (am_af sc d 35 33 [some (.ref 3), some (.int x1), some (.int s0), l3, l4, l5] [.int 0, .ref 7, .ref 1] [] (am_SH, I, J, Pf) k n false P)) (q3 : (¬ (¬ s0 = (-1))) → P (.inl (some (.int 0)), (am_SH, I, J, Pf), k, n)) : am_go sc d 35 (16, [some (.ref 3), some (.int x1), l2, l3, l4, l5], [.int s0], (am_SH, I, J, Pf), k, n) P := by
  refine am_s_istore_n (ls' := [some (.ref 3), some (.int x1), some (.int s0), l3, l4, l5]) rfl rfl dc35_1.1.2.1 ?_
  refine am_s_iload_n rfl dc35_1.1.2.2 ?_
  refine am_s_iconst am_ccm1 dc35_1.2.1.1 ?_
  refine am_s_ic_ne dc35_1.2.1.2 rfl (fun c1 => ?_) (fun c1 => ?_)
  · refine am_s_aload_n rfl dc35_2.1.1.1 ?_
    refine am_s_getR (r := 1) dc35_2.1.1.2 rfl rfl rfl (q1 c1) ?_
    refine am_s_aload_n rfl dc35_2.1.2.1 ?_
    refine am_s_getR (r := 7) dc35_2.1.2.2 rfl rfl rfl (hp _ _ _ rfl) ?_
    refine am_s_iconst am_cc0 dc35_2.2.1.1 ?_
    exact am_s_virtual false dc35_2.2.1.2 rfl (by decide) rfl rfl rfl (q2 c1)
  · refine am_s_iconst am_cc0 dc35_1.2.2.1 ?_
    exact am_s_zreturn dc35_1.2.2.2 rfl (by decide) (q3 c1)
theorem t35_36 {sc : Option (Nat × (Nat → Int32))} {d k n : Nat} {P : am_O → Prop} {I : am_I} {J : am_J} {Pf : am_R} (hp : am_PF Pf) {x1 : Int32} {x2 : Int32} {l3 : Option Value} {l4 : Option Value} {l5 : Option Value} {s0 : Int32} {r3_1 : Nat} (q1 : (¬ s0 = (-1)) → (s0 = 3) → ((I 7 2) = (I 7 0)) → am_go sc d 35 (97, [some (.ref 3), some (.int x1), some (.int x2), some (.int s0), l4, l5], [], (am_SH, I, J, Pf), k, n) P) (q2 : (¬ s0 = (-1)) → (s0 = 3) → (¬ ((I 7 2) = (I 7 0))) → (¬ (I 7 2) = (I 7 1)) → Pf 3 1 = some r3_1) (q3 : (¬ s0 = (-1)) → (s0 = 3) → (¬ ((I 7 2) = (I 7 0))) → (¬ (I 7 2) = (I 7 1)) → am_SH[r3_1]? = some (.inl 4)) (q4 : (¬ s0 = (-1)) → (s0 = 3) → (¬ ((I 7 2) = (I 7 0))) → (¬ (I 7 2) = (I 7 1)) → Pf 3 1 = some r3_1) (q5 : (¬ s0 = (-1)) → (s0 = 3) → (¬ ((I 7 2) = (I 7 0))) → (¬ (I 7 2) = (I 7 1)) → am_SH[r3_1]? = some (.inl 4)) (q6 : (¬ s0 = (-1)) → (s0 = 3) → (¬ ((I 7 2) = (I 7 0))) → (¬ (I 7 2) = (I 7 1)) → am_in (I r3_1 9) 4 = true) (q7 : (¬ s0 = (-1)) → (s0 = 3) → (¬ ((I 7 2) = (I 7 0))) → (¬ (I 7 2) = (I 7 1)) → Pf 3 1 = some r3_1) (q8 : (¬ s0 = (-1)) → (s0 = 3) → (¬ ((I 7 2) = (I 7 0))) → (¬ (I 7 2) = (I 7 1)) → am_SH[r3_1]? = some (.inl 4)) (q9 : (¬ s0 = (-1)) → (s0 = 3) → (¬ ((I 7 2) = (I 7 0))) → (¬ (I 7 2) = (I 7 1)) → am_in (I r3_1 9) 4 = true) (q10 : (¬ s0 = (-1)) → (s0 = 3) → (¬ ((I 7 2) = (I 7 0))) → (¬ (I 7 2) = (I 7 1)) → am_go sc d 35 (147, [some (.ref 3), some (.int x1), some (.int x2), some (.int s0), some (.int (I r3_1 9)), some (.int 0)], [], (am_SH, am_u (am_u I (r3_1 + 8) (Int32.toNatClampNeg (I r3_1 9)) x1) (r3_1 + 9) (Int32.toNatClampNeg (I r3_1 9)) x2, J, Pf), k, n) P) (q11 : (¬ s0 = (-1)) → (s0 = 3) → (¬ ((I 7 2) = (I 7 0))) → (¬ (¬ (I 7 2) = (I 7 1))) → am_go sc d 35 (97, [some (.ref 3), some (.int x1), some (.int x2), some (.int s0), l4, l5], [], (am_SH, I, J, Pf), k, n) P) (q12 : (¬ s0 = (-1)) → (¬ (s0 = 3)) → Pf 3 0 = some 1) (q13 : (¬ s0 = (-1)) → (¬ (s0 = 3)) → Pf 3 0 = some 1) (q14 : (¬ s0 = (-1)) → (¬ (s0 = 3)) → am_mth d 53 [.ref 1, .int 2, .int ((I 1 3) - 1)] (am_SH, I, J, Pf) (am_af sc d 35 63 [some (.ref 3), some (.int x1), some (.int x2), some (.int s0), l4, l5] [.int ((I 1 3) - 1), .int 2, .ref 1] [] (am_SH, I, J, Pf) k n false P)) (q15 : (¬ (¬ s0 = (-1))) → P (.inl (some (.int 0)), (am_SH, I, J, Pf), k, n)) : am_go sc d 35 (36, [some (.ref 3), some (.int x1), some (.int x2), l3, l4, l5], [.int s0], (am_SH, I, J, Pf), k, n) P := by
  refine am_s_istore_n (ls' := [some (.ref 3), some (.int x1), some (.int x2), some (.int s0), l4, l5]) rfl rfl dc35_2.2.2.1 ?_
  refine am_s_iload_n rfl dc35_2.2.2.2 ?_
  refine am_s_iconst am_ccm1 dc35_3.1.1.1 ?_
  refine am_s_ic_ne dc35_3.1.1.2 rfl (fun c1 => ?_) (fun c1 => ?_)
  · refine am_s_iload_n rfl dc35_3.2.1.1 ?_
    refine am_s_iconst am_cc3 dc35_3.2.1.2 ?_
    refine am_s_ic_eq dc35_3.2.2.1 rfl (fun c2 => ?_) (fun c2 => ?_)
    · refine am_s_aload_n rfl dc35_5.1.1.2 ?_
      refine am_s_getR (r := 7) dc35_5.1.2.1 rfl rfl rfl (hp _ _ _ rfl) ?_
      refine am_s_iconst am_cc2 dc35_5.1.2.2 ?_
      refine am_x_iaload (x := I 7 2) dc35_5.2.1.1 rfl (by decide +kernel) am_cN2 rfl ?_
      refine am_s_aload_n rfl dc35_5.2.1.2 ?_
      refine am_s_getR (r := 7) dc35_5.2.2.1 rfl rfl rfl (hp _ _ _ rfl) ?_
      refine am_s_iconst am_cc0 dc35_5.2.2.2 ?_
      refine am_x_iaload (x := I 7 0) dc35_6.1.1.1 rfl (by decide +kernel) am_cN0 rfl ?_
      refine am_s_ic_eq dc35_6.1.1.2 rfl (fun c3 => ?_) (fun c3 => ?_)
      · exact q1 c1 c2 c3
      · refine am_s_aload_n rfl dc35_6.1.2.1 ?_
        refine am_s_getR (r := 7) dc35_6.1.2.2 rfl rfl rfl (hp _ _ _ rfl) ?_
        refine am_s_iconst am_cc2 dc35_6.2.1.1 ?_
        refine am_x_iaload (x := I 7 2) dc35_6.2.1.2 rfl (by decide +kernel) am_cN2 rfl ?_
        refine am_s_aload_n rfl dc35_6.2.2.1 ?_
        refine am_s_getR (r := 7) dc35_6.2.2.2 rfl rfl rfl (hp _ _ _ rfl) ?_
        refine am_s_iconst am_cc1 dc35_7.1.1.1 ?_
        refine am_x_iaload (x := I 7 1) dc35_7.1.1.2 rfl (by decide +kernel) am_cN1 rfl ?_
        refine am_s_ic_ne dc35_7.1.2.1 rfl (fun c4 => ?_) (fun c4 => ?_)
        · refine am_s_aload_n rfl dc35_8.1.2.2 ?_
          refine am_s_getR (r := r3_1) dc35_8.2.1.1 rfl rfl rfl (q2 c1 c2 c3 c4) ?_
          refine am_x_getI (x := I r3_1 9) dc35_8.2.1.2 rfl (q3 c1 c2 c3 c4) (Or.inl rfl) rfl ?_
          refine am_s_istore (ls' := [some (.ref 3), some (.int x1), some (.int x2), some (.int s0), some (.int (I r3_1 9)), l5]) rfl rfl dc35_8.2.2.1 ?_
          refine am_s_aload_n rfl dc35_8.2.2.2 ?_
          refine am_s_getR (r := r3_1) dc35_9.1.1.1 rfl rfl rfl (q4 c1 c2 c3 c4) ?_
          refine am_s_getR (r := r3_1 + 8) dc35_9.1.1.2 rfl (q5 c1 c2 c3 c4) rfl (am_r4_10 hp (q5 c1 c2 c3 c4)) ?_
          refine am_s_iload rfl dc35_9.1.2.1 ?_
          refine am_s_iload_n rfl dc35_9.1.2.2 ?_
          refine am_s_iastore dc35_9.2.1.1 (am_h4_10 (q5 c1 c2 c3 c4)) (q6 c1 c2 c3 c4) rfl ?_
          refine am_s_aload_n rfl dc35_9.2.1.2 ?_
          refine am_s_getR (r := r3_1) dc35_9.2.2.1 rfl rfl rfl (q7 c1 c2 c3 c4) ?_
          refine am_s_getR (r := r3_1 + 9) dc35_9.2.2.2 rfl (q8 c1 c2 c3 c4) rfl (am_r4_11 hp (q8 c1 c2 c3 c4)) ?_
          refine am_s_iload rfl dc35_10.1.1.1 ?_
          refine am_s_iload_n rfl dc35_10.1.1.2 ?_
          refine am_s_iastore dc35_10.1.2.1 (am_h4_11 (q8 c1 c2 c3 c4)) (q9 c1 c2 c3 c4) rfl ?_
          refine am_s_iconst am_cc0 dc35_10.1.2.2 ?_
          refine am_s_istore (ls' := [some (.ref 3), some (.int x1), some (.int x2), some (.int s0), some (.int (I r3_1 9)), some (.int 0)]) rfl rfl dc35_10.2.1.1 ?_
          exact q10 c1 c2 c3 c4
        · exact q11 c1 c2 c3 c4
    · refine am_s_aload_n rfl dc35_3.2.2.2 ?_
      refine am_s_getR (r := 1) dc35_4.1.1.1 rfl rfl rfl (q12 c1 c2) ?_
      refine am_s_iconst am_cc2 dc35_4.1.1.2 ?_
      refine am_s_aload_n rfl dc35_4.1.2.1 ?_
      refine am_s_getR (r := 1) dc35_4.1.2.2 rfl rfl rfl (q13 c1 c2) ?_
      refine am_x_getI (x := I 1 3) dc35_4.2.1.1 rfl rfl (Or.inl rfl) rfl ?_
      refine am_s_iconst am_cc1 dc35_4.2.1.2 ?_
      refine am_s_isub dc35_4.2.2.1 ?_
      exact am_s_virtual false dc35_4.2.2.2 rfl (by decide) rfl rfl rfl (q14 c1 c2)
  · refine am_s_iconst am_cc0 dc35_3.1.2.1 ?_
    exact am_s_zreturn dc35_3.1.2.2 rfl (by decide) (q15 c1)
theorem t35_66 {sc : Option (Nat × (Nat → Int32))} {d k n : Nat} {P : am_O → Prop} {I : am_I} {J : am_J} {Pf : am_R} (hp : am_PF Pf) {l0 : Option Value} {l1 : Option Value} {l2 : Option Value} {l3 : Option Value} {l4 : Option Value} {l5 : Option Value} {s0 : Int32} (q1 : P (.inl (some (.int s0)), (am_SH, I, J, Pf), k, n)) (q2 : s0 = 0 ∨ s0 = 1) : am_go sc d 35 (66, [l0, l1, l2, l3, l4, l5], [.int s0], (am_SH, I, J, Pf), k, n) P := by
  exact am_s_zreturn dc35_5.1.1.1 rfl (q2) (q1)
-- readNot ()Z
theorem dc36_0 : (((decode (am_by 36) 0 = .ok (.aload_n 0, 1)) ∧ (decode (am_by 36) 1 = .ok (.invokevirtual 212, 3))) ∧ ((decode (am_by 36) 4 = .ok (.istore_n 1, 1)) ∧ (decode (am_by 36) 5 = .ok (.iload_n 1, 1)))) ∧ (((decode (am_by 36) 6 = .ok (.iconst (-1), 1)) ∧ (decode (am_by 36) 7 = .ok (.if_icmp .ne 5, 3))) ∧ ((decode (am_by 36) 10 = .ok (.iconst 0, 1)) ∧ (decode (am_by 36) 11 = .ok (.ireturn, 1)))) := by decide +kernel
theorem dc36_1 : (((decode (am_by 36) 12 = .ok (.aload_n 0, 1)) ∧ (decode (am_by 36) 13 = .ok (.invokevirtual 188, 3))) ∧ ((decode (am_by 36) 16 = .ok (.istore_n 2, 1)) ∧ (decode (am_by 36) 17 = .ok (.iload_n 2, 1)))) ∧ (((decode (am_by 36) 18 = .ok (.iconst (-1), 1)) ∧ (decode (am_by 36) 19 = .ok (.if_icmp .ne 5, 3))) ∧ ((decode (am_by 36) 22 = .ok (.iconst 0, 1)) ∧ (decode (am_by 36) 23 = .ok (.ireturn, 1)))) := by decide +kernel
theorem dc36_2 : (((decode (am_by 36) 24 = .ok (.aload_n 0, 1)) ∧ (decode (am_by 36) 25 = .ok (.getfield 32, 3))) ∧ ((decode (am_by 36) 28 = .ok (.getfield 253, 3)) ∧ (decode (am_by 36) 31 = .ok (.aload_n 0, 1)))) ∧ (((decode (am_by 36) 32 = .ok (.getfield 32, 3)) ∧ (decode (am_by 36) 35 = .ok (.getfield 152, 3))) ∧ ((decode (am_by 36) 38 = .ok (.iload_n 1, 1)) ∧ (decode (am_by 36) 39 = .ok (.iastore, 1)))) := by decide +kernel
theorem dc36_3 : (((decode (am_by 36) 40 = .ok (.aload_n 0, 1)) ∧ (decode (am_by 36) 41 = .ok (.getfield 32, 3))) ∧ ((decode (am_by 36) 44 = .ok (.getfield 256, 3)) ∧ (decode (am_by 36) 47 = .ok (.aload_n 0, 1)))) ∧ (((decode (am_by 36) 48 = .ok (.getfield 32, 3)) ∧ (decode (am_by 36) 51 = .ok (.getfield 152, 3))) ∧ ((decode (am_by 36) 54 = .ok (.iload_n 2, 1)) ∧ (decode (am_by 36) 55 = .ok (.iastore, 1)))) := by decide +kernel
theorem dc36_4 : (((decode (am_by 36) 56 = .ok (.aload_n 0, 1)) ∧ (decode (am_by 36) 57 = .ok (.getfield 32, 3))) ∧ ((decode (am_by 36) 60 = .ok (.dup, 1)) ∧ (decode (am_by 36) 61 = .ok (.getfield 152, 3)))) ∧ (((decode (am_by 36) 64 = .ok (.iconst 1, 1)) ∧ (decode (am_by 36) 65 = .ok (.iadd, 1))) ∧ ((decode (am_by 36) 66 = .ok (.putfield 152, 3)) ∧ (decode (am_by 36) 69 = .ok (.iconst 1, 1)))) := by decide +kernel
theorem dc36_5 : decode (am_by 36) 70 = .ok (.ireturn, 1) := by decide +kernel
theorem t36_0 {sc : Option (Nat × (Nat → Int32))} {d k n : Nat} {P : am_O → Prop} {I : am_I} {J : am_J} {Pf : am_R} (hp : am_PF Pf) {l1 : Option Value} {l2 : Option Value} (q1 : am_mth d 26 [.ref 3] (am_SH, I, J, Pf) (am_af sc d 36 1 [some (.ref 3), l1, l2] [.ref 3] [] (am_SH, I, J, Pf) k n true P)) : am_go sc d 36 (0, [some (.ref 3), l1, l2], [], (am_SH, I, J, Pf), k, n) P := by
  refine am_s_aload_n rfl dc36_0.1.1.1 ?_
  exact am_s_virtual true dc36_0.1.1.2 rfl (by decide) rfl rfl rfl (q1)
theorem t36_4 {sc : Option (Nat × (Nat → Int32))} {d k n : Nat} {P : am_O → Prop} {I : am_I} {J : am_J} {Pf : am_R} (hp : am_PF Pf) {l1 : Option Value} {l2 : Option Value} {s0 : Int32} (q1 : (¬ s0 = (-1)) → am_mth d 27 [.ref 3] (am_SH, I, J, Pf) (am_af sc d 36 13 [some (.ref 3), some (.int s0), l2] [.ref 3] [] (am_SH, I, J, Pf) k n true P)) (q2 : (¬ (¬ s0 = (-1))) → P (.inl (some (.int 0)), (am_SH, I, J, Pf), k, n)) : am_go sc d 36 (4, [some (.ref 3), l1, l2], [.int s0], (am_SH, I, J, Pf), k, n) P := by
  refine am_s_istore_n (ls' := [some (.ref 3), some (.int s0), l2]) rfl rfl dc36_0.1.2.1 ?_
  refine am_s_iload_n rfl dc36_0.1.2.2 ?_
  refine am_s_iconst am_ccm1 dc36_0.2.1.1 ?_
  refine am_s_ic_ne dc36_0.2.1.2 rfl (fun c1 => ?_) (fun c1 => ?_)
  · refine am_s_aload_n rfl dc36_1.1.1.1 ?_
    exact am_s_virtual true dc36_1.1.1.2 rfl (by decide) rfl rfl rfl (q1 c1)
  · refine am_s_iconst am_cc0 dc36_0.2.2.1 ?_
    exact am_s_zreturn dc36_0.2.2.2 rfl (by decide) (q2 c1)
theorem t36_16 {sc : Option (Nat × (Nat → Int32))} {d k n : Nat} {P : am_O → Prop} {I : am_I} {J : am_J} {Pf : am_R} (hp : am_PF Pf) {x1 : Int32} {l2 : Option Value} {s0 : Int32} {r3_1 : Nat} (q1 : (¬ s0 = (-1)) → Pf 3 1 = some r3_1) (q2 : (¬ s0 = (-1)) → am_SH[r3_1]? = some (.inl 4)) (q3 : (¬ s0 = (-1)) → Pf 3 1 = some r3_1) (q4 : (¬ s0 = (-1)) → am_SH[r3_1]? = some (.inl 4)) (q5 : (¬ s0 = (-1)) → am_in (I r3_1 13) 8 = true) (q6 : (¬ s0 = (-1)) → Pf 3 1 = some r3_1) (q7 : (¬ s0 = (-1)) → am_SH[r3_1]? = some (.inl 4)) (q8 : (¬ s0 = (-1)) → Pf 3 1 = some r3_1) (q9 : (¬ s0 = (-1)) → am_SH[r3_1]? = some (.inl 4)) (q10 : (¬ s0 = (-1)) → am_in ((am_u I (r3_1 + 11) (Int32.toNatClampNeg (I r3_1 13)) x1) r3_1 13) 8 = true) (q11 : (¬ s0 = (-1)) → Pf 3 1 = some r3_1) (q12 : (¬ s0 = (-1)) → am_SH[r3_1]? = some (.inl 4)) (q13 : (¬ s0 = (-1)) → P (.inl (some (.int 1)), (am_SH, am_u (am_u (am_u I (r3_1 + 11) (Int32.toNatClampNeg (I r3_1 13)) x1) (r3_1 + 12) (Int32.toNatClampNeg ((am_u I (r3_1 + 11) (Int32.toNatClampNeg (I r3_1 13)) x1) r3_1 13)) s0) r3_1 13 (((am_u (am_u I (r3_1 + 11) (Int32.toNatClampNeg (I r3_1 13)) x1) (r3_1 + 12) (Int32.toNatClampNeg ((am_u I (r3_1 + 11) (Int32.toNatClampNeg (I r3_1 13)) x1) r3_1 13)) s0) r3_1 13) + 1), J, Pf), k, n)) (q14 : (¬ (¬ s0 = (-1))) → P (.inl (some (.int 0)), (am_SH, I, J, Pf), k, n)) : am_go sc d 36 (16, [some (.ref 3), some (.int x1), l2], [.int s0], (am_SH, I, J, Pf), k, n) P := by
  refine am_s_istore_n (ls' := [some (.ref 3), some (.int x1), some (.int s0)]) rfl rfl dc36_1.1.2.1 ?_
  refine am_s_iload_n rfl dc36_1.1.2.2 ?_
  refine am_s_iconst am_ccm1 dc36_1.2.1.1 ?_
  refine am_s_ic_ne dc36_1.2.1.2 rfl (fun c1 => ?_) (fun c1 => ?_)
  · refine am_s_aload_n rfl dc36_2.1.1.1 ?_
    refine am_s_getR (r := r3_1) dc36_2.1.1.2 rfl rfl rfl (q1 c1) ?_
    refine am_s_getR (r := r3_1 + 11) dc36_2.1.2.1 rfl (q2 c1) rfl (am_r4_14 hp (q2 c1)) ?_
    refine am_s_aload_n rfl dc36_2.1.2.2 ?_
    refine am_s_getR (r := r3_1) dc36_2.2.1.1 rfl rfl rfl (q3 c1) ?_
    refine am_x_getI (x := I r3_1 13) dc36_2.2.1.2 rfl (q4 c1) (Or.inl rfl) rfl ?_
    refine am_s_iload_n rfl dc36_2.2.2.1 ?_
    refine am_s_iastore dc36_2.2.2.2 (am_h4_14 (q2 c1)) (q5 c1) rfl ?_
    refine am_s_aload_n rfl dc36_3.1.1.1 ?_
    refine am_s_getR (r := r3_1) dc36_3.1.1.2 rfl rfl rfl (q6 c1) ?_
    refine am_s_getR (r := r3_1 + 12) dc36_3.1.2.1 rfl (q7 c1) rfl (am_r4_15 hp (q7 c1)) ?_
    refine am_s_aload_n rfl dc36_3.1.2.2 ?_
    refine am_s_getR (r := r3_1) dc36_3.2.1.1 rfl rfl rfl (q8 c1) ?_
    refine am_x_getI (x := (am_u I (r3_1 + 11) (Int32.toNatClampNeg (I r3_1 13)) x1) r3_1 13) dc36_3.2.1.2 rfl (q9 c1) (Or.inl rfl) rfl ?_
    refine am_s_iload_n rfl dc36_3.2.2.1 ?_
    refine am_s_iastore dc36_3.2.2.2 (am_h4_15 (q7 c1)) (q10 c1) rfl ?_
    refine am_s_aload_n rfl dc36_4.1.1.1 ?_
    refine am_s_getR (r := r3_1) dc36_4.1.1.2 rfl rfl rfl (q11 c1) ?_
    refine am_s_dup rfl dc36_4.1.2.1 ?_
    refine am_x_getI (x := (am_u (am_u I (r3_1 + 11) (Int32.toNatClampNeg (I r3_1 13)) x1) (r3_1 + 12) (Int32.toNatClampNeg ((am_u I (r3_1 + 11) (Int32.toNatClampNeg (I r3_1 13)) x1) r3_1 13)) s0) r3_1 13) dc36_4.1.2.2 rfl (q12 c1) (Or.inl rfl) rfl ?_
    refine am_s_iconst am_cc1 dc36_4.2.1.1 ?_
    refine am_s_iadd dc36_4.2.1.2 ?_
    refine am_s_putI dc36_4.2.2.1 rfl (q12 c1) rfl rfl ?_
    refine am_s_iconst am_cc1 dc36_4.2.2.2 ?_
    exact am_s_zreturn dc36_5 rfl (by decide) (q13 c1)
  · refine am_s_iconst am_cc0 dc36_1.2.2.1 ?_
    exact am_s_zreturn dc36_1.2.2.2 rfl (by decide) (q14 c1)
-- readDrop ()Z
theorem dc37_0 : (((decode (am_by 37) 0 = .ok (.aload_n 0, 1)) ∧ (decode (am_by 37) 1 = .ok (.getfield 32, 3))) ∧ ((decode (am_by 37) 4 = .ok (.getfield 75, 3)) ∧ (decode (am_by 37) 7 = .ok (.istore_n 1, 1)))) ∧ (((decode (am_by 37) 8 = .ok (.aload_n 0, 1)) ∧ (decode (am_by 37) 9 = .ok (.getfield 17, 3))) ∧ ((decode (am_by 37) 12 = .ok (.iload_n 1, 1)) ∧ (decode (am_by 37) 13 = .ok (.aload_n 0, 1)))) := by decide +kernel
theorem dc37_1 : (((decode (am_by 37) 14 = .ok (.getfield 28, 3)) ∧ (decode (am_by 37) 17 = .ok (.getfield 97, 3))) ∧ ((decode (am_by 37) 20 = .ok (.iastore, 1)) ∧ (decode (am_by 37) 21 = .ok (.aload_n 0, 1)))) ∧ (((decode (am_by 37) 22 = .ok (.getfield 21, 3)) ∧ (decode (am_by 37) 25 = .ok (.iload_n 1, 1))) ∧ ((decode (am_by 37) 26 = .ok (.aload_n 0, 1)) ∧ (decode (am_by 37) 27 = .ok (.getfield 41, 3)))) := by decide +kernel
theorem dc37_2 : (((decode (am_by 37) 30 = .ok (.iastore, 1)) ∧ (decode (am_by 37) 31 = .ok (.aload_n 0, 1))) ∧ ((decode (am_by 37) 32 = .ok (.invokevirtual 212, 3)) ∧ (decode (am_by 37) 35 = .ok (.istore_n 2, 1)))) ∧ (((decode (am_by 37) 36 = .ok (.iload_n 2, 1)) ∧ (decode (am_by 37) 37 = .ok (.iconst (-1), 1))) ∧ ((decode (am_by 37) 38 = .ok (.if_icmp .ne 5, 3)) ∧ (decode (am_by 37) 41 = .ok (.iconst 0, 1)))) := by decide +kernel
theorem dc37_3 : (((decode (am_by 37) 42 = .ok (.ireturn, 1)) ∧ (decode (am_by 37) 43 = .ok (.aload_n 0, 1))) ∧ ((decode (am_by 37) 44 = .ok (.invokevirtual 212, 3)) ∧ (decode (am_by 37) 47 = .ok (.istore_n 3, 1)))) ∧ (((decode (am_by 37) 48 = .ok (.iload_n 3, 1)) ∧ (decode (am_by 37) 49 = .ok (.iconst (-1), 1))) ∧ ((decode (am_by 37) 50 = .ok (.if_icmp .ne 5, 3)) ∧ (decode (am_by 37) 53 = .ok (.iconst 0, 1)))) := by decide +kernel
theorem dc37_4 : (((decode (am_by 37) 54 = .ok (.ireturn, 1)) ∧ (decode (am_by 37) 55 = .ok (.iload_n 3, 1))) ∧ ((decode (am_by 37) 56 = .ok (.iload_n 2, 1)) ∧ (decode (am_by 37) 57 = .ok (.if_icmp .ne 19, 3)))) ∧ (((decode (am_by 37) 60 = .ok (.aload_n 0, 1)) ∧ (decode (am_by 37) 61 = .ok (.getfield 28, 3))) ∧ ((decode (am_by 37) 64 = .ok (.iconst 2, 1)) ∧ (decode (am_by 37) 65 = .ok (.aload_n 0, 1)))) := by decide +kernel
theorem dc37_5 : (((decode (am_by 37) 66 = .ok (.getfield 28, 3)) ∧ (decode (am_by 37) 69 = .ok (.getfield 259, 3))) ∧ ((decode (am_by 37) 72 = .ok (.invokevirtual 87, 3)) ∧ (decode (am_by 37) 75 = .ok (.ireturn, 1)))) ∧ (((decode (am_by 37) 76 = .ok (.aload_n 0, 1)) ∧ (decode (am_by 37) 77 = .ok (.getfield 32, 3))) ∧ ((decode (am_by 37) 80 = .ok (.getfield 84, 3)) ∧ (decode (am_by 37) 83 = .ok (.iload_n 1, 1)))) := by decide +kernel
theorem dc37_6 : (((decode (am_by 37) 84 = .ok (.iload_n 2, 1)) ∧ (decode (am_by 37) 85 = .ok (.iastore, 1))) ∧ ((decode (am_by 37) 86 = .ok (.aload_n 0, 1)) ∧ (decode (am_by 37) 87 = .ok (.getfield 32, 3)))) ∧ (((decode (am_by 37) 90 = .ok (.getfield 81, 3)) ∧ (decode (am_by 37) 93 = .ok (.iload_n 1, 1))) ∧ ((decode (am_by 37) 94 = .ok (.iload_n 3, 1)) ∧ (decode (am_by 37) 95 = .ok (.iastore, 1)))) := by decide +kernel
theorem dc37_7 : (((decode (am_by 37) 96 = .ok (.aload_n 0, 1)) ∧ (decode (am_by 37) 97 = .ok (.getfield 32, 3))) ∧ ((decode (am_by 37) 100 = .ok (.dup, 1)) ∧ (decode (am_by 37) 101 = .ok (.getfield 75, 3)))) ∧ (((decode (am_by 37) 104 = .ok (.iconst 1, 1)) ∧ (decode (am_by 37) 105 = .ok (.iadd, 1))) ∧ ((decode (am_by 37) 106 = .ok (.putfield 75, 3)) ∧ (decode (am_by 37) 109 = .ok (.iconst 1, 1)))) := by decide +kernel
theorem dc37_8 : decode (am_by 37) 110 = .ok (.ireturn, 1) := by decide +kernel
theorem t37_0 {sc : Option (Nat × (Nat → Int32))} {d k n : Nat} {P : am_O → Prop} {I : am_I} {J : am_J} {Pf : am_R} (hp : am_PF Pf) {l1 : Option Value} {l2 : Option Value} {l3 : Option Value} {r3_1 : Nat} (q1 : Pf 3 1 = some r3_1) (q2 : am_SH[r3_1]? = some (.inl 4)) (q3 : Pf 3 0 = some 1) (q4 : am_in (I r3_1 16) 8 = true) (q5 : am_in (I r3_1 16) 8 = true) (q6 : am_mth d 26 [.ref 3] (am_SH, am_u (am_u I 5 (Int32.toNatClampNeg (I r3_1 16)) (I 1 7)) 6 (Int32.toNatClampNeg (I r3_1 16)) (I 3 2), J, Pf) (am_af sc d 37 32 [some (.ref 3), some (.int (I r3_1 16)), l2, l3] [.ref 3] [] (am_SH, am_u (am_u I 5 (Int32.toNatClampNeg (I r3_1 16)) (I 1 7)) 6 (Int32.toNatClampNeg (I r3_1 16)) (I 3 2), J, Pf) k n true P)) : am_go sc d 37 (0, [some (.ref 3), l1, l2, l3], [], (am_SH, I, J, Pf), k, n) P := by
  refine am_s_aload_n rfl dc37_0.1.1.1 ?_
  refine am_s_getR (r := r3_1) dc37_0.1.1.2 rfl rfl rfl (q1) ?_
  refine am_x_getI (x := I r3_1 16) dc37_0.1.2.1 rfl (q2) (Or.inl rfl) rfl ?_
  refine am_s_istore_n (ls' := [some (.ref 3), some (.int (I r3_1 16)), l2, l3]) rfl rfl dc37_0.1.2.2 ?_
  refine am_s_aload_n rfl dc37_0.2.1.1 ?_
  refine am_s_getR (r := 5) dc37_0.2.1.2 rfl rfl rfl (hp _ _ _ rfl) ?_
  refine am_s_iload_n rfl dc37_0.2.2.1 ?_
  refine am_s_aload_n rfl dc37_0.2.2.2 ?_
  refine am_s_getR (r := 1) dc37_1.1.1.1 rfl rfl rfl (q3) ?_
  refine am_x_getI (x := I 1 7) dc37_1.1.1.2 rfl rfl (Or.inl rfl) rfl ?_
  refine am_s_iastore dc37_1.1.2.1 rfl (q4) rfl ?_
  refine am_s_aload_n rfl dc37_1.1.2.2 ?_
  refine am_s_getR (r := 6) dc37_1.2.1.1 rfl rfl rfl (hp _ _ _ rfl) ?_
  refine am_s_iload_n rfl dc37_1.2.1.2 ?_
  refine am_s_aload_n rfl dc37_1.2.2.1 ?_
  refine am_x_getI (x := I 3 2) dc37_1.2.2.2 rfl rfl (Or.inl rfl) rfl ?_
  refine am_s_iastore dc37_2.1.1.1 rfl (q5) rfl ?_
  refine am_s_aload_n rfl dc37_2.1.1.2 ?_
  exact am_s_virtual true dc37_2.1.2.1 rfl (by decide) rfl rfl rfl (q6)
theorem t37_35 {sc : Option (Nat × (Nat → Int32))} {d k n : Nat} {P : am_O → Prop} {I : am_I} {J : am_J} {Pf : am_R} (hp : am_PF Pf) {x1 : Int32} {l2 : Option Value} {l3 : Option Value} {s0 : Int32} (q1 : (¬ s0 = (-1)) → am_mth d 26 [.ref 3] (am_SH, I, J, Pf) (am_af sc d 37 44 [some (.ref 3), some (.int x1), some (.int s0), l3] [.ref 3] [] (am_SH, I, J, Pf) k n true P)) (q2 : (¬ (¬ s0 = (-1))) → P (.inl (some (.int 0)), (am_SH, I, J, Pf), k, n)) : am_go sc d 37 (35, [some (.ref 3), some (.int x1), l2, l3], [.int s0], (am_SH, I, J, Pf), k, n) P := by
  refine am_s_istore_n (ls' := [some (.ref 3), some (.int x1), some (.int s0), l3]) rfl rfl dc37_2.1.2.2 ?_
  refine am_s_iload_n rfl dc37_2.2.1.1 ?_
  refine am_s_iconst am_ccm1 dc37_2.2.1.2 ?_
  refine am_s_ic_ne dc37_2.2.2.1 rfl (fun c1 => ?_) (fun c1 => ?_)
  · refine am_s_aload_n rfl dc37_3.1.1.2 ?_
    exact am_s_virtual true dc37_3.1.2.1 rfl (by decide) rfl rfl rfl (q1 c1)
  · refine am_s_iconst am_cc0 dc37_2.2.2.2 ?_
    exact am_s_zreturn dc37_3.1.1.1 rfl (by decide) (q2 c1)
theorem t37_47 {sc : Option (Nat × (Nat → Int32))} {d k n : Nat} {P : am_O → Prop} {I : am_I} {J : am_J} {Pf : am_R} (hp : am_PF Pf) {x1 : Int32} {x2 : Int32} {l3 : Option Value} {s0 : Int32} {r3_1 : Nat} (q1 : (¬ s0 = (-1)) → (¬ s0 = x2) → Pf 3 1 = some r3_1) (q2 : (¬ s0 = (-1)) → (¬ s0 = x2) → am_SH[r3_1]? = some (.inl 4)) (q3 : (¬ s0 = (-1)) → (¬ s0 = x2) → am_in x1 8 = true) (q4 : (¬ s0 = (-1)) → (¬ s0 = x2) → Pf 3 1 = some r3_1) (q5 : (¬ s0 = (-1)) → (¬ s0 = x2) → am_SH[r3_1]? = some (.inl 4)) (q6 : (¬ s0 = (-1)) → (¬ s0 = x2) → am_in x1 8 = true) (q7 : (¬ s0 = (-1)) → (¬ s0 = x2) → Pf 3 1 = some r3_1) (q8 : (¬ s0 = (-1)) → (¬ s0 = x2) → am_SH[r3_1]? = some (.inl 4)) (q9 : (¬ s0 = (-1)) → (¬ s0 = x2) → P (.inl (some (.int 1)), (am_SH, am_u (am_u (am_u I (r3_1 + 13) (Int32.toNatClampNeg x1) x2) (r3_1 + 14) (Int32.toNatClampNeg x1) s0) r3_1 16 (((am_u (am_u I (r3_1 + 13) (Int32.toNatClampNeg x1) x2) (r3_1 + 14) (Int32.toNatClampNeg x1) s0) r3_1 16) + 1), J, Pf), k, n)) (q10 : (¬ s0 = (-1)) → (¬ (¬ s0 = x2)) → Pf 3 0 = some 1) (q11 : (¬ s0 = (-1)) → (¬ (¬ s0 = x2)) → Pf 3 0 = some 1) (q12 : (¬ s0 = (-1)) → (¬ (¬ s0 = x2)) → am_mth d 53 [.ref 1, .int 2, .int (I 1 8)] (am_SH, I, J, Pf) (am_af sc d 37 72 [some (.ref 3), some (.int x1), some (.int x2), some (.int s0)] [.int (I 1 8), .int 2, .ref 1] [] (am_SH, I, J, Pf) k n false P)) (q13 : (¬ (¬ s0 = (-1))) → P (.inl (some (.int 0)), (am_SH, I, J, Pf), k, n)) : am_go sc d 37 (47, [some (.ref 3), some (.int x1), some (.int x2), l3], [.int s0], (am_SH, I, J, Pf), k, n) P := by
  refine am_s_istore_n (ls' := [some (.ref 3), some (.int x1), some (.int x2), some (.int s0)]) rfl rfl dc37_3.1.2.2 ?_
  refine am_s_iload_n rfl dc37_3.2.1.1 ?_
  refine am_s_iconst am_ccm1 dc37_3.2.1.2 ?_
  refine am_s_ic_ne dc37_3.2.2.1 rfl (fun c1 => ?_) (fun c1 => ?_)
  · refine am_s_iload_n rfl dc37_4.1.1.2 ?_
    refine am_s_iload_n rfl dc37_4.1.2.1 ?_
    refine am_s_ic_ne dc37_4.1.2.2 rfl (fun c2 => ?_) (fun c2 => ?_)
    · refine am_s_aload_n rfl dc37_5.2.1.1 ?_
      refine am_s_getR (r := r3_1) dc37_5.2.1.2 rfl rfl rfl (q1 c1 c2) ?_
      refine am_s_getR (r := r3_1 + 13) dc37_5.2.2.1 rfl (q2 c1 c2) rfl (am_r4_17 hp (q2 c1 c2)) ?_
      refine am_s_iload_n rfl dc37_5.2.2.2 ?_
      refine am_s_iload_n rfl dc37_6.1.1.1 ?_
      refine am_s_iastore dc37_6.1.1.2 (am_h4_17 (q2 c1 c2)) (q3 c1 c2) rfl ?_
      refine am_s_aload_n rfl dc37_6.1.2.1 ?_
      refine am_s_getR (r := r3_1) dc37_6.1.2.2 rfl rfl rfl (q4 c1 c2) ?_
      refine am_s_getR (r := r3_1 + 14) dc37_6.2.1.1 rfl (q5 c1 c2) rfl (am_r4_18 hp (q5 c1 c2)) ?_
      refine am_s_iload_n rfl dc37_6.2.1.2 ?_
      refine am_s_iload_n rfl dc37_6.2.2.1 ?_
      refine am_s_iastore dc37_6.2.2.2 (am_h4_18 (q5 c1 c2)) (q6 c1 c2) rfl ?_
      refine am_s_aload_n rfl dc37_7.1.1.1 ?_
      refine am_s_getR (r := r3_1) dc37_7.1.1.2 rfl rfl rfl (q7 c1 c2) ?_
      refine am_s_dup rfl dc37_7.1.2.1 ?_
      refine am_x_getI (x := (am_u (am_u I (r3_1 + 13) (Int32.toNatClampNeg x1) x2) (r3_1 + 14) (Int32.toNatClampNeg x1) s0) r3_1 16) dc37_7.1.2.2 rfl (q8 c1 c2) (Or.inl rfl) rfl ?_
      refine am_s_iconst am_cc1 dc37_7.2.1.1 ?_
      refine am_s_iadd dc37_7.2.1.2 ?_
      refine am_s_putI dc37_7.2.2.1 rfl (q8 c1 c2) rfl rfl ?_
      refine am_s_iconst am_cc1 dc37_7.2.2.2 ?_
      exact am_s_zreturn dc37_8 rfl (by decide) (q9 c1 c2)
    · refine am_s_aload_n rfl dc37_4.2.1.1 ?_
      refine am_s_getR (r := 1) dc37_4.2.1.2 rfl rfl rfl (q10 c1 c2) ?_
      refine am_s_iconst am_cc2 dc37_4.2.2.1 ?_
      refine am_s_aload_n rfl dc37_4.2.2.2 ?_
      refine am_s_getR (r := 1) dc37_5.1.1.1 rfl rfl rfl (q11 c1 c2) ?_
      refine am_x_getI (x := I 1 8) dc37_5.1.1.2 rfl rfl (Or.inl rfl) rfl ?_
      exact am_s_virtual false dc37_5.1.2.1 rfl (by decide) rfl rfl rfl (q12 c1 c2)
  · refine am_s_iconst am_cc0 dc37_3.2.2.2 ?_
    exact am_s_zreturn dc37_4.1.1.1 rfl (by decide) (q13 c1)
theorem t37_75 {sc : Option (Nat × (Nat → Int32))} {d k n : Nat} {P : am_O → Prop} {I : am_I} {J : am_J} {Pf : am_R} (hp : am_PF Pf) {l0 : Option Value} {l1 : Option Value} {l2 : Option Value} {l3 : Option Value} {s0 : Int32} (q1 : P (.inl (some (.int s0)), (am_SH, I, J, Pf), k, n)) (q2 : s0 = 0 ∨ s0 = 1) : am_go sc d 37 (75, [l0, l1, l2, l3], [.int s0], (am_SH, I, J, Pf), k, n) P := by
  exact am_s_zreturn dc37_5.1.2.2 rfl (q2) (q1)
-- readLay ()Z
theorem dc38_0 : (((decode (am_by 38) 0 = .ok (.aload_n 0, 1)) ∧ (decode (am_by 38) 1 = .ok (.invokevirtual 188, 3))) ∧ ((decode (am_by 38) 4 = .ok (.istore_n 1, 1)) ∧ (decode (am_by 38) 5 = .ok (.iload_n 1, 1)))) ∧ (((decode (am_by 38) 6 = .ok (.iconst (-1), 1)) ∧ (decode (am_by 38) 7 = .ok (.if_icmp .ne 5, 3))) ∧ ((decode (am_by 38) 10 = .ok (.iconst 0, 1)) ∧ (decode (am_by 38) 11 = .ok (.ireturn, 1)))) := by decide +kernel
theorem dc38_1 : ((decode (am_by 38) 12 = .ok (.aload_n 0, 1)) ∧ ((decode (am_by 38) 13 = .ok (.getfield 32, 3)) ∧ (decode (am_by 38) 16 = .ok (.iload_n 1, 1)))) ∧ ((decode (am_by 38) 17 = .ok (.putfield 262, 3)) ∧ ((decode (am_by 38) 20 = .ok (.iconst 1, 1)) ∧ (decode (am_by 38) 21 = .ok (.ireturn, 1)))) := by decide +kernel
theorem t38_0 {sc : Option (Nat × (Nat → Int32))} {d k n : Nat} {P : am_O → Prop} {I : am_I} {J : am_J} {Pf : am_R} (hp : am_PF Pf) {l1 : Option Value} (q1 : am_mth d 27 [.ref 3] (am_SH, I, J, Pf) (am_af sc d 38 1 [some (.ref 3), l1] [.ref 3] [] (am_SH, I, J, Pf) k n true P)) : am_go sc d 38 (0, [some (.ref 3), l1], [], (am_SH, I, J, Pf), k, n) P := by
  refine am_s_aload_n rfl dc38_0.1.1.1 ?_
  exact am_s_virtual true dc38_0.1.1.2 rfl (by decide) rfl rfl rfl (q1)
theorem t38_4 {sc : Option (Nat × (Nat → Int32))} {d k n : Nat} {P : am_O → Prop} {I : am_I} {J : am_J} {Pf : am_R} (hp : am_PF Pf) {l1 : Option Value} {s0 : Int32} {r3_1 : Nat} (q1 : (¬ s0 = (-1)) → Pf 3 1 = some r3_1) (q2 : (¬ s0 = (-1)) → am_SH[r3_1]? = some (.inl 4)) (q3 : (¬ s0 = (-1)) → P (.inl (some (.int 1)), (am_SH, am_u I r3_1 19 s0, J, Pf), k, n)) (q4 : (¬ (¬ s0 = (-1))) → P (.inl (some (.int 0)), (am_SH, I, J, Pf), k, n)) : am_go sc d 38 (4, [some (.ref 3), l1], [.int s0], (am_SH, I, J, Pf), k, n) P := by
  refine am_s_istore_n (ls' := [some (.ref 3), some (.int s0)]) rfl rfl dc38_0.1.2.1 ?_
  refine am_s_iload_n rfl dc38_0.1.2.2 ?_
  refine am_s_iconst am_ccm1 dc38_0.2.1.1 ?_
  refine am_s_ic_ne dc38_0.2.1.2 rfl (fun c1 => ?_) (fun c1 => ?_)
  · refine am_s_aload_n rfl dc38_1.1.1 ?_
    refine am_s_getR (r := r3_1) dc38_1.1.2.1 rfl rfl rfl (q1 c1) ?_
    refine am_s_iload_n rfl dc38_1.1.2.2 ?_
    refine am_s_putI dc38_1.2.1 rfl (q2 c1) rfl rfl ?_
    refine am_s_iconst am_cc1 dc38_1.2.2.1 ?_
    exact am_s_zreturn dc38_1.2.2.2 rfl (by decide) (q3 c1)
  · refine am_s_iconst am_cc0 dc38_0.2.2.1 ?_
    exact am_s_zreturn dc38_0.2.2.2 rfl (by decide) (q4 c1)
