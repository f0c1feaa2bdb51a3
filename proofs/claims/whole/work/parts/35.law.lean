/-! Walks: law -/
-- clear ()V
theorem dc40_0 : (((decode (am_by 40) 0 = .ok (.aload_n 0, 1)) ∧ (decode (am_by 40) 1 = .ok (.iconst 0, 1))) ∧ ((decode (am_by 40) 2 = .ok (.putfield 24, 3)) ∧ (decode (am_by 40) 5 = .ok (.aload_n 0, 1)))) ∧ (((decode (am_by 40) 6 = .ok (.iconst 0, 1)) ∧ (decode (am_by 40) 7 = .ok (.iconst 1, 1))) ∧ ((decode (am_by 40) 8 = .ok (.invokevirtual 28, 3)) ∧ (decode (am_by 40) 11 = .ok (.return_, 1)))) := by decide +kernel
theorem t40_0 {sc : Option (Nat × (Nat → Int32))} {d k n : Nat} {P : am_O → Prop} {I : am_I} {J : am_J} {Pf : am_R} (hp : am_PF Pf) {x0 : Nat} (hx0 : am_SH[x0]? = some (.inl 2)) (q1 : am_mth d 41 [.ref x0, .int 0, .int 1] (am_SH, am_u I x0 2 0, J, Pf) (am_af sc d 40 8 [some (.ref x0)] [.int 1, .int 0, .ref x0] [] (am_SH, am_u I x0 2 0, J, Pf) k n true P)) : am_go sc d 40 (0, [some (.ref x0)], [], (am_SH, I, J, Pf), k, n) P := by
  refine am_s_aload_n rfl dc40_0.1.1.1 ?_
  refine am_s_iconst am_cc0 dc40_0.1.1.2 ?_
  refine am_s_putI dc40_0.1.2.1 rfl hx0 rfl rfl ?_
  refine am_s_aload_n rfl dc40_0.1.2.2 ?_
  refine am_s_iconst am_cc0 dc40_0.2.1.1 ?_
  refine am_s_iconst am_cc1 dc40_0.2.1.2 ?_
  exact am_s_virtual true dc40_0.2.2.1 rfl (by decide) rfl hx0 rfl (q1)
theorem t40_11 {sc : Option (Nat × (Nat → Int32))} {d k n : Nat} {P : am_O → Prop} {I : am_I} {J : am_J} {Pf : am_R} (hp : am_PF Pf) {l0 : Option Value} (q1 : P (.inl none, (am_SH, I, J, Pf), k, n)) : am_go sc d 40 (11, [l0], [], (am_SH, I, J, Pf), k, n) P := by
  exact am_s_return dc40_0.2.2.2 rfl (q1)
-- add (II)V
theorem dc41_0 : (((decode (am_by 41) 0 = .ok (.aload_n 0, 1)) ∧ (decode (am_by 41) 1 = .ok (.getfield 24, 3))) ∧ ((decode (am_by 41) 4 = .ok (.sipush 150, 3)) ∧ (decode (am_by 41) 7 = .ok (.if_icmp .lt 4, 3)))) ∧ (((decode (am_by 41) 10 = .ok (.return_, 1)) ∧ (decode (am_by 41) 11 = .ok (.aload_n 0, 1))) ∧ ((decode (am_by 41) 12 = .ok (.getfield 9, 3)) ∧ (decode (am_by 41) 15 = .ok (.aload_n 0, 1)))) := by decide +kernel
theorem dc41_1 : (((decode (am_by 41) 16 = .ok (.getfield 24, 3)) ∧ (decode (am_by 41) 19 = .ok (.iload_n 1, 1))) ∧ ((decode (am_by 41) 20 = .ok (.iastore, 1)) ∧ (decode (am_by 41) 21 = .ok (.aload_n 0, 1)))) ∧ (((decode (am_by 41) 22 = .ok (.getfield 15, 3)) ∧ (decode (am_by 41) 25 = .ok (.aload_n 0, 1))) ∧ ((decode (am_by 41) 26 = .ok (.getfield 24, 3)) ∧ (decode (am_by 41) 29 = .ok (.iload_n 2, 1)))) := by decide +kernel
theorem dc41_2 : (((decode (am_by 41) 30 = .ok (.iastore, 1)) ∧ (decode (am_by 41) 31 = .ok (.aload_n 0, 1))) ∧ ((decode (am_by 41) 32 = .ok (.dup, 1)) ∧ (decode (am_by 41) 33 = .ok (.getfield 24, 3)))) ∧ (((decode (am_by 41) 36 = .ok (.iconst 1, 1)) ∧ (decode (am_by 41) 37 = .ok (.iadd, 1))) ∧ ((decode (am_by 41) 38 = .ok (.putfield 24, 3)) ∧ (decode (am_by 41) 41 = .ok (.return_, 1)))) := by decide +kernel
theorem t41_0 {sc : Option (Nat × (Nat → Int32))} {d k n : Nat} {P : am_O → Prop} {I : am_I} {J : am_J} {Pf : am_R} (hp : am_PF Pf) {x0 : Nat} (hx0 : am_SH[x0]? = some (.inl 2)) {x1 : Int32} {x2 : Int32} (q1 : ((I x0 2) < 150) → am_in (I x0 2) 150 = true) (q2 : ((I x0 2) < 150) → am_in ((am_u I (x0 + 1) (Int32.toNatClampNeg (I x0 2)) x1) x0 2) 150 = true) (q3 : ((I x0 2) < 150) → P (.inl none, (am_SH, am_u (am_u (am_u I (x0 + 1) (Int32.toNatClampNeg (I x0 2)) x1) (x0 + 2) (Int32.toNatClampNeg ((am_u I (x0 + 1) (Int32.toNatClampNeg (I x0 2)) x1) x0 2)) x2) x0 2 (((am_u (am_u I (x0 + 1) (Int32.toNatClampNeg (I x0 2)) x1) (x0 + 2) (Int32.toNatClampNeg ((am_u I (x0 + 1) (Int32.toNatClampNeg (I x0 2)) x1) x0 2)) x2) x0 2) + 1), J, Pf), k, n)) (q4 : (¬ ((I x0 2) < 150)) → P (.inl none, (am_SH, I, J, Pf), k, n)) : am_go sc d 41 (0, [some (.ref x0), some (.int x1), some (.int x2)], [], (am_SH, I, J, Pf), k, n) P := by
  refine am_s_aload_n rfl dc41_0.1.1.1 ?_
  refine am_x_getI (x := I x0 2) dc41_0.1.1.2 rfl hx0 (Or.inl rfl) rfl ?_
  refine am_s_sipush am_cs150 dc41_0.1.2.1 ?_
  refine am_s_ic_lt dc41_0.1.2.2 rfl (fun c1 => ?_) (fun c1 => ?_)
  · refine am_s_aload_n rfl dc41_0.2.1.2 ?_
    refine am_s_getR (r := x0 + 1) dc41_0.2.2.1 rfl hx0 rfl (am_r2_0 hp hx0) ?_
    refine am_s_aload_n rfl dc41_0.2.2.2 ?_
    refine am_x_getI (x := I x0 2) dc41_1.1.1.1 rfl hx0 (Or.inl rfl) rfl ?_
    refine am_s_iload_n rfl dc41_1.1.1.2 ?_
    refine am_s_iastore dc41_1.1.2.1 (am_h2_0 hx0) (q1 c1) rfl ?_
    refine am_s_aload_n rfl dc41_1.1.2.2 ?_
    refine am_s_getR (r := x0 + 2) dc41_1.2.1.1 rfl hx0 rfl (am_r2_1 hp hx0) ?_
    refine am_s_aload_n rfl dc41_1.2.1.2 ?_
    refine am_x_getI (x := (am_u I (x0 + 1) (Int32.toNatClampNeg (I x0 2)) x1) x0 2) dc41_1.2.2.1 rfl hx0 (Or.inl rfl) rfl ?_
    refine am_s_iload_n rfl dc41_1.2.2.2 ?_
    refine am_s_iastore dc41_2.1.1.1 (am_h2_1 hx0) (q2 c1) rfl ?_
    refine am_s_aload_n rfl dc41_2.1.1.2 ?_
    refine am_s_dup rfl dc41_2.1.2.1 ?_
    refine am_x_getI (x := (am_u (am_u I (x0 + 1) (Int32.toNatClampNeg (I x0 2)) x1) (x0 + 2) (Int32.toNatClampNeg ((am_u I (x0 + 1) (Int32.toNatClampNeg (I x0 2)) x1) x0 2)) x2) x0 2) dc41_2.1.2.2 rfl hx0 (Or.inl rfl) rfl ?_
    refine am_s_iconst am_cc1 dc41_2.2.1.1 ?_
    refine am_s_iadd dc41_2.2.1.2 ?_
    refine am_s_putI dc41_2.2.2.1 rfl hx0 rfl rfl ?_
    exact am_s_return dc41_2.2.2.2 rfl (q3 c1)
  · exact am_s_return dc41_0.2.1.1 rfl (q4 c1)
-- readAll (LPrunedParses$Reader;)Z
theorem dc42_0 : (((decode (am_by 42) 0 = .ok (.aload_n 0, 1)) ∧ (decode (am_by 42) 1 = .ok (.aload_n 1, 1))) ∧ ((decode (am_by 42) 2 = .ok (.putfield 32, 3)) ∧ (decode (am_by 42) 5 = .ok (.aload_n 0, 1)))) ∧ (((decode (am_by 42) 6 = .ok (.iconst 0, 1)) ∧ (decode (am_by 42) 7 = .ok (.putfield 24, 3))) ∧ ((decode (am_by 42) 10 = .ok (.aload_n 0, 1)) ∧ (decode (am_by 42) 11 = .ok (.iconst 0, 1)))) := by decide +kernel
theorem dc42_1 : (((decode (am_by 42) 12 = .ok (.invokevirtual 36, 3)) ∧ (decode (am_by 42) 15 = .ok (.ifCond .eq 17, 3))) ∧ ((decode (am_by 42) 18 = .ok (.aload_n 0, 1)) ∧ (decode (am_by 42) 19 = .ok (.getfield 32, 3)))) ∧ (((decode (am_by 42) 22 = .ok (.invokevirtual 40, 3)) ∧ (decode (am_by 42) 25 = .ok (.ifCond .eq 7, 3))) ∧ ((decode (am_by 42) 28 = .ok (.iconst 1, 1)) ∧ (decode (am_by 42) 29 = .ok (.goto 4, 3)))) := by decide +kernel
theorem dc42_2 : (decode (am_by 42) 32 = .ok (.iconst 0, 1)) ∧ (decode (am_by 42) 33 = .ok (.ireturn, 1)) := by decide +kernel
theorem t42_0 {sc : Option (Nat × (Nat → Int32))} {d k n : Nat} {P : am_O → Prop} {I : am_I} {J : am_J} {Pf : am_R} (hp : am_PF Pf) {x0 : Nat} (hx0 : am_SH[x0]? = some (.inl 2)) (q1 : am_mth d 43 [.ref x0, .int 0] (am_SH, am_u I x0 2 0, J, am_u Pf x0 4 (some 1)) (am_af sc d 42 12 [some (.ref x0), some (.ref 1)] [.int 0, .ref x0] [] (am_SH, am_u I x0 2 0, J, am_u Pf x0 4 (some 1)) k n true P)) : am_go sc d 42 (0, [some (.ref x0), some (.ref 1)], [], (am_SH, I, J, Pf), k, n) P := by
  refine am_s_aload_n rfl dc42_0.1.1.1 ?_
  refine am_s_aload_n rfl dc42_0.1.1.2 ?_
  refine am_s_putR dc42_0.1.2.1 rfl hx0 rfl rfl (am_bltc rfl) ?_
  refine am_s_aload_n rfl dc42_0.1.2.2 ?_
  refine am_s_iconst am_cc0 dc42_0.2.1.1 ?_
  refine am_s_putI dc42_0.2.1.2 rfl hx0 rfl rfl ?_
  refine am_s_aload_n rfl dc42_0.2.2.1 ?_
  refine am_s_iconst am_cc0 dc42_0.2.2.2 ?_
  exact am_s_virtual true dc42_1.1.1.1 rfl (by decide) rfl hx0 rfl (q1)
theorem t42_15 {sc : Option (Nat × (Nat → Int32))} {d k n : Nat} {P : am_O → Prop} {I : am_I} {J : am_J} {Pf : am_R} (hp : am_PF Pf) {x0 : Nat} (hx0 : am_SH[x0]? = some (.inl 2)) {l1 : Option Value} {s0 : Int32} (q1 : (s0 = 0) → P (.inl (some (.int 0)), (am_SH, I, J, Pf), k, n)) (q2 : (¬ (s0 = 0)) → Pf x0 4 = some 1) (q3 : (¬ (s0 = 0)) → am_mth d 57 [.ref 1] (am_SH, I, J, Pf) (am_af sc d 42 22 [some (.ref x0), l1] [.ref 1] [] (am_SH, I, J, Pf) k n false P)) : am_go sc d 42 (15, [some (.ref x0), l1], [.int s0], (am_SH, I, J, Pf), k, n) P := by
  refine am_s_if_eq dc42_1.1.1.2 rfl (fun c1 => ?_) (fun c1 => ?_)
  · refine am_s_iconst am_cc0 dc42_2.1 ?_
    exact am_s_zreturn dc42_2.2 rfl (by decide) (q1 c1)
  · refine am_s_aload_n rfl dc42_1.1.2.1 ?_
    refine am_s_getR (r := 1) dc42_1.1.2.2 rfl hx0 rfl (q2 c1) ?_
    exact am_s_virtual false dc42_1.2.1.1 rfl (by decide) rfl rfl rfl (q3 c1)
theorem t42_25 {sc : Option (Nat × (Nat → Int32))} {d k n : Nat} {P : am_O → Prop} {I : am_I} {J : am_J} {Pf : am_R} (hp : am_PF Pf) {l0 : Option Value} {l1 : Option Value} {s0 : Int32} (q1 : (s0 = 0) → P (.inl (some (.int 0)), (am_SH, I, J, Pf), k, n)) (q2 : (¬ (s0 = 0)) → P (.inl (some (.int 1)), (am_SH, I, J, Pf), k, n)) : am_go sc d 42 (25, [l0, l1], [.int s0], (am_SH, I, J, Pf), k, n) P := by
  refine am_s_if_eq dc42_1.2.1.2 rfl (fun c1 => ?_) (fun c1 => ?_)
  · refine am_s_iconst am_cc0 dc42_2.1 ?_
    exact am_s_zreturn dc42_2.2 rfl (by decide) (q1 c1)
  · refine am_s_iconst am_cc1 dc42_1.2.2.1 ?_
    refine am_s_goto rfl dc42_1.2.2.2 ?_
    exact am_s_zreturn dc42_2.2 rfl (by decide) (q2 c1)
-- readSum (I)Z
theorem dc43_0 : (((decode (am_by 43) 0 = .ok (.iload_n 1, 1)) ∧ (decode (am_by 43) 1 = .ok (.bipush 6, 2))) ∧ ((decode (am_by 43) 3 = .ok (.if_icmp .gt 11, 3)) ∧ (decode (am_by 43) 6 = .ok (.aload_n 0, 1)))) ∧ (((decode (am_by 43) 7 = .ok (.iload_n 1, 1)) ∧ (decode (am_by 43) 8 = .ok (.invokevirtual 46, 3))) ∧ ((decode (am_by 43) 11 = .ok (.ifCond .ne 5, 3)) ∧ (decode (am_by 43) 14 = .ok (.iconst 0, 1)))) := by decide +kernel
theorem dc43_1 : (((decode (am_by 43) 15 = .ok (.ireturn, 1)) ∧ (decode (am_by 43) 16 = .ok (.iconst 0, 1))) ∧ ((decode (am_by 43) 17 = .ok (.istore_n 2, 1)) ∧ (decode (am_by 43) 18 = .ok (.iload_n 2, 1)))) ∧ (((decode (am_by 43) 19 = .ok (.sipush 150, 3)) ∧ (decode (am_by 43) 22 = .ok (.if_icmp .ge 60, 3))) ∧ ((decode (am_by 43) 25 = .ok (.aload_n 0, 1)) ∧ (decode (am_by 43) 26 = .ok (.getfield 32, 3)))) := by decide +kernel
theorem dc43_2 : (((decode (am_by 43) 29 = .ok (.invokevirtual 49, 3)) ∧ (decode (am_by 43) 32 = .ok (.istore_n 3, 1))) ∧ ((decode (am_by 43) 33 = .ok (.iload_n 3, 1)) ∧ (decode (am_by 43) 34 = .ok (.bipush 43, 2)))) ∧ (((decode (am_by 43) 36 = .ok (.if_icmp .eq 11, 3)) ∧ (decode (am_by 43) 39 = .ok (.iload_n 3, 1))) ∧ ((decode (am_by 43) 40 = .ok (.bipush 45, 2)) ∧ (decode (am_by 43) 42 = .ok (.if_icmp .eq 5, 3)))) := by decide +kernel
theorem dc43_3 : (((decode (am_by 43) 45 = .ok (.iconst 1, 1)) ∧ (decode (am_by 43) 46 = .ok (.ireturn, 1))) ∧ ((decode (am_by 43) 47 = .ok (.aload_n 0, 1)) ∧ (decode (am_by 43) 48 = .ok (.getfield 32, 3)))) ∧ (((decode (am_by 43) 51 = .ok (.dup, 1)) ∧ (decode (am_by 43) 52 = .ok (.getfield 53, 3))) ∧ ((decode (am_by 43) 55 = .ok (.iconst 1, 1)) ∧ (decode (am_by 43) 56 = .ok (.iadd, 1)))) := by decide +kernel
theorem dc43_4 : (((decode (am_by 43) 57 = .ok (.putfield 53, 3)) ∧ (decode (am_by 43) 60 = .ok (.aload_n 0, 1))) ∧ ((decode (am_by 43) 61 = .ok (.iload_n 1, 1)) ∧ (decode (am_by 43) 62 = .ok (.invokevirtual 46, 3)))) ∧ (((decode (am_by 43) 65 = .ok (.ifCond .ne 5, 3)) ∧ (decode (am_by 43) 68 = .ok (.iconst 0, 1))) ∧ ((decode (am_by 43) 69 = .ok (.ireturn, 1)) ∧ (decode (am_by 43) 70 = .ok (.aload_n 0, 1)))) := by decide +kernel
theorem dc43_5 : ((decode (am_by 43) 71 = .ok (.iload_n 3, 1)) ∧ ((decode (am_by 43) 72 = .ok (.iconst 0, 1)) ∧ (decode (am_by 43) 73 = .ok (.invokevirtual 28, 3)))) ∧ (((decode (am_by 43) 76 = .ok (.iinc 2 1, 3)) ∧ (decode (am_by 43) 79 = .ok (.goto (-61), 3))) ∧ ((decode (am_by 43) 82 = .ok (.iconst 0, 1)) ∧ (decode (am_by 43) 83 = .ok (.ireturn, 1)))) := by decide +kernel
theorem t43_0 {sc : Option (Nat × (Nat → Int32))} {d k n : Nat} {P : am_O → Prop} {I : am_I} {J : am_J} {Pf : am_R} (hp : am_PF Pf) {x0 : Nat} (hx0 : am_SH[x0]? = some (.inl 2)) {x1 : Int32} {l2 : Option Value} {l3 : Option Value} (q1 : (6 < x1) → P (.inl (some (.int 0)), (am_SH, I, J, Pf), k, n)) (q2 : (¬ (6 < x1)) → am_mth d 44 [.ref x0, .int x1] (am_SH, I, J, Pf) (am_af sc d 43 8 [some (.ref x0), some (.int x1), l2, l3] [.int x1, .ref x0] [] (am_SH, I, J, Pf) k n true P)) : am_go sc d 43 (0, [some (.ref x0), some (.int x1), l2, l3], [], (am_SH, I, J, Pf), k, n) P := by
  refine am_s_iload_n rfl dc43_0.1.1.1 ?_
  refine am_s_bipush am_cb6 dc43_0.1.1.2 ?_
  refine am_s_ic_gt dc43_0.1.2.1 rfl (fun c1 => ?_) (fun c1 => ?_)
  · refine am_s_iconst am_cc0 dc43_0.2.2.2 ?_
    exact am_s_zreturn dc43_1.1.1.1 rfl (by decide) (q1 c1)
  · refine am_s_aload_n rfl dc43_0.1.2.2 ?_
    refine am_s_iload_n rfl dc43_0.2.1.1 ?_
    exact am_s_virtual true dc43_0.2.1.2 rfl (by decide) rfl hx0 rfl (q2 c1)
theorem t43_18 {sc : Option (Nat × (Nat → Int32))} {d k n : Nat} {P : am_O → Prop} {I : am_I} {J : am_J} {Pf : am_R} (hp : am_PF Pf) {x0 : Nat} (hx0 : am_SH[x0]? = some (.inl 2)) {x1 : Int32} {x2 : Int32} {l3 : Option Value} (q1 : (150 ≤ x2) → P (.inl (some (.int 0)), (am_SH, I, J, Pf), k, n)) (q2 : (¬ (150 ≤ x2)) → Pf x0 4 = some 1) (q3 : (¬ (150 ≤ x2)) → am_mth d 55 [.ref 1] (am_SH, I, J, Pf) (am_af sc d 43 29 [some (.ref x0), some (.int x1), some (.int x2), l3] [.ref 1] [] (am_SH, I, J, Pf) k n false P)) : am_go sc d 43 (18, [some (.ref x0), some (.int x1), some (.int x2), l3], [], (am_SH, I, J, Pf), k, n) P := by
  refine am_s_iload_n rfl dc43_1.1.2.2 ?_
  refine am_s_sipush am_cs150 dc43_1.2.1.1 ?_
  refine am_s_ic_ge dc43_1.2.1.2 rfl (fun c1 => ?_) (fun c1 => ?_)
  · refine am_s_iconst am_cc0 dc43_5.2.2.1 ?_
    exact am_s_zreturn dc43_5.2.2.2 rfl (by decide) (q1 c1)
  · refine am_s_aload_n rfl dc43_1.2.2.1 ?_
    refine am_s_getR (r := 1) dc43_1.2.2.2 rfl hx0 rfl (q2 c1) ?_
    exact am_s_virtual false dc43_2.1.1.1 rfl (by decide) rfl rfl rfl (q3 c1)
theorem t43_47 {sc : Option (Nat × (Nat → Int32))} {d k n : Nat} {P : am_O → Prop} {I : am_I} {J : am_J} {Pf : am_R} (hp : am_PF Pf) {x0 : Nat} (hx0 : am_SH[x0]? = some (.inl 2)) {x1 : Int32} {x2 : Int32} {x3 : Int32} (q1 : Pf x0 4 = some 1) (q2 : am_mth d 44 [.ref x0, .int x1] (am_SH, am_u I 1 3 ((I 1 3) + 1), J, Pf) (am_af sc d 43 62 [some (.ref x0), some (.int x1), some (.int x2), some (.int x3)] [.int x1, .ref x0] [] (am_SH, am_u I 1 3 ((I 1 3) + 1), J, Pf) k n true P)) : am_go sc d 43 (47, [some (.ref x0), some (.int x1), some (.int x2), some (.int x3)], [], (am_SH, I, J, Pf), k, n) P := by
  refine am_s_aload_n rfl dc43_3.1.2.1 ?_
  refine am_s_getR (r := 1) dc43_3.1.2.2 rfl hx0 rfl (q1) ?_
  refine am_s_dup rfl dc43_3.2.1.1 ?_
  refine am_x_getI (x := I 1 3) dc43_3.2.1.2 rfl rfl (Or.inl rfl) rfl ?_
  refine am_s_iconst am_cc1 dc43_3.2.2.1 ?_
  refine am_s_iadd dc43_3.2.2.2 ?_
  refine am_s_putI dc43_4.1.1.1 rfl rfl rfl rfl ?_
  refine am_s_aload_n rfl dc43_4.1.1.2 ?_
  refine am_s_iload_n rfl dc43_4.1.2.1 ?_
  exact am_s_virtual true dc43_4.1.2.2 rfl (by decide) rfl hx0 rfl (q2)
theorem t43_11 {sc : Option (Nat × (Nat → Int32))} {d k n : Nat} {P : am_O → Prop} {I : am_I} {J : am_J} {Pf : am_R} (hp : am_PF Pf) {x0 : Nat} (hx0 : am_SH[x0]? = some (.inl 2)) {x1 : Int32} {l2 : Option Value} {l3 : Option Value} {s0 : Int32} (q1 : (¬ s0 = 0) → am_go sc d 43 (18, [some (.ref x0), some (.int x1), some (.int 0), l3], [], (am_SH, I, J, Pf), k, n) P) (q2 : (¬ (¬ s0 = 0)) → P (.inl (some (.int 0)), (am_SH, I, J, Pf), k, n)) : am_go sc d 43 (11, [some (.ref x0), some (.int x1), l2, l3], [.int s0], (am_SH, I, J, Pf), k, n) P := by
  refine am_s_if_ne dc43_0.2.2.1 rfl (fun c1 => ?_) (fun c1 => ?_)
  · refine am_s_iconst am_cc0 dc43_1.1.1.2 ?_
    refine am_s_istore_n (ls' := [some (.ref x0), some (.int x1), some (.int 0), l3]) rfl rfl dc43_1.1.2.1 ?_
    exact q1 c1
  · refine am_s_iconst am_cc0 dc43_0.2.2.2 ?_
    exact am_s_zreturn dc43_1.1.1.1 rfl (by decide) (q2 c1)
theorem t43_32 {sc : Option (Nat × (Nat → Int32))} {d k n : Nat} {P : am_O → Prop} {I : am_I} {J : am_J} {Pf : am_R} (hp : am_PF Pf) {x0 : Nat} (hx0 : am_SH[x0]? = some (.inl 2)) {x1 : Int32} {x2 : Int32} {l3 : Option Value} {s0 : Int32} (q1 : (s0 = 43) → am_go sc d 43 (47, [some (.ref x0), some (.int x1), some (.int x2), some (.int s0)], [], (am_SH, I, J, Pf), k, n) P) (q2 : (¬ (s0 = 43)) → (s0 = 45) → am_go sc d 43 (47, [some (.ref x0), some (.int x1), some (.int x2), some (.int s0)], [], (am_SH, I, J, Pf), k, n) P) (q3 : (¬ (s0 = 43)) → (¬ (s0 = 45)) → P (.inl (some (.int 1)), (am_SH, I, J, Pf), k, n)) : am_go sc d 43 (32, [some (.ref x0), some (.int x1), some (.int x2), l3], [.int s0], (am_SH, I, J, Pf), k, n) P := by
  refine am_s_istore_n (ls' := [some (.ref x0), some (.int x1), some (.int x2), some (.int s0)]) rfl rfl dc43_2.1.1.2 ?_
  refine am_s_iload_n rfl dc43_2.1.2.1 ?_
  refine am_s_bipush am_cb43 dc43_2.1.2.2 ?_
  refine am_s_ic_eq dc43_2.2.1.1 rfl (fun c1 => ?_) (fun c1 => ?_)
  · exact q1 c1
  · refine am_s_iload_n rfl dc43_2.2.1.2 ?_
    refine am_s_bipush am_cb45 dc43_2.2.2.1 ?_
    refine am_s_ic_eq dc43_2.2.2.2 rfl (fun c2 => ?_) (fun c2 => ?_)
    · exact q2 c1 c2
    · refine am_s_iconst am_cc1 dc43_3.1.1.1 ?_
      exact am_s_zreturn dc43_3.1.1.2 rfl (by decide) (q3 c1 c2)
theorem t43_65 {sc : Option (Nat × (Nat → Int32))} {d k n : Nat} {P : am_O → Prop} {I : am_I} {J : am_J} {Pf : am_R} (hp : am_PF Pf) {x0 : Nat} (hx0 : am_SH[x0]? = some (.inl 2)) {x1 : Int32} {x2 : Int32} {x3 : Int32} {s0 : Int32} (q1 : (¬ s0 = 0) → am_mth d 41 [.ref x0, .int x3, .int 0] (am_SH, I, J, Pf) (am_af sc d 43 73 [some (.ref x0), some (.int x1), some (.int x2), some (.int x3)] [.int 0, .int x3, .ref x0] [] (am_SH, I, J, Pf) k n true P)) (q2 : (¬ (¬ s0 = 0)) → P (.inl (some (.int 0)), (am_SH, I, J, Pf), k, n)) : am_go sc d 43 (65, [some (.ref x0), some (.int x1), some (.int x2), some (.int x3)], [.int s0], (am_SH, I, J, Pf), k, n) P := by
  refine am_s_if_ne dc43_4.2.1.1 rfl (fun c1 => ?_) (fun c1 => ?_)
  · refine am_s_aload_n rfl dc43_4.2.2.2 ?_
    refine am_s_iload_n rfl dc43_5.1.1 ?_
    refine am_s_iconst am_cc0 dc43_5.1.2.1 ?_
    exact am_s_virtual true dc43_5.1.2.2 rfl (by decide) rfl hx0 rfl (q1 c1)
  · refine am_s_iconst am_cc0 dc43_4.2.1.2 ?_
    exact am_s_zreturn dc43_4.2.2.1 rfl (by decide) (q2 c1)
theorem t43_76 {sc : Option (Nat × (Nat → Int32))} {d k n : Nat} {P : am_O → Prop} {I : am_I} {J : am_J} {Pf : am_R} (hp : am_PF Pf) {x0 : Nat} (hx0 : am_SH[x0]? = some (.inl 2)) {x1 : Int32} {x2 : Int32} {l3 : Option Value} (q1 : am_go sc d 43 (18, [some (.ref x0), some (.int x1), some (.int (x2 + 1)), l3], [], (am_SH, I, J, Pf), k, n) P) : am_go sc d 43 (76, [some (.ref x0), some (.int x1), some (.int x2), l3], [], (am_SH, I, J, Pf), k, n) P := by
  refine am_s_iinc (ls' := [some (.ref x0), some (.int x1), some (.int (x2 + 1)), l3]) am_cc1 rfl rfl dc43_5.2.1.1 ?_
  refine am_s_goto rfl dc43_5.2.1.2 ?_
  exact q1
-- readProduct (I)Z
theorem dc44_0 : (((decode (am_by 44) 0 = .ok (.aload_n 0, 1)) ∧ (decode (am_by 44) 1 = .ok (.iload_n 1, 1))) ∧ ((decode (am_by 44) 2 = .ok (.invokevirtual 56, 3)) ∧ (decode (am_by 44) 5 = .ok (.ifCond .ne 5, 3)))) ∧ (((decode (am_by 44) 8 = .ok (.iconst 0, 1)) ∧ (decode (am_by 44) 9 = .ok (.ireturn, 1))) ∧ ((decode (am_by 44) 10 = .ok (.iconst 0, 1)) ∧ (decode (am_by 44) 11 = .ok (.istore_n 2, 1)))) := by decide +kernel
theorem dc44_1 : (((decode (am_by 44) 12 = .ok (.iload_n 2, 1)) ∧ (decode (am_by 44) 13 = .ok (.sipush 150, 3))) ∧ ((decode (am_by 44) 16 = .ok (.if_icmp .ge 66, 3)) ∧ (decode (am_by 44) 19 = .ok (.aload_n 0, 1)))) ∧ (((decode (am_by 44) 20 = .ok (.getfield 32, 3)) ∧ (decode (am_by 44) 23 = .ok (.invokevirtual 49, 3))) ∧ ((decode (am_by 44) 26 = .ok (.istore_n 3, 1)) ∧ (decode (am_by 44) 27 = .ok (.iload_n 3, 1)))) := by decide +kernel
theorem dc44_2 : (((decode (am_by 44) 28 = .ok (.bipush 42, 2)) ∧ (decode (am_by 44) 30 = .ok (.if_icmp .eq 17, 3))) ∧ ((decode (am_by 44) 33 = .ok (.iload_n 3, 1)) ∧ (decode (am_by 44) 34 = .ok (.bipush 47, 2)))) ∧ (((decode (am_by 44) 36 = .ok (.if_icmp .eq 11, 3)) ∧ (decode (am_by 44) 39 = .ok (.iload_n 3, 1))) ∧ ((decode (am_by 44) 40 = .ok (.bipush 37, 2)) ∧ (decode (am_by 44) 42 = .ok (.if_icmp .eq 5, 3)))) := by decide +kernel
theorem dc44_3 : (((decode (am_by 44) 45 = .ok (.iconst 1, 1)) ∧ (decode (am_by 44) 46 = .ok (.ireturn, 1))) ∧ ((decode (am_by 44) 47 = .ok (.aload_n 0, 1)) ∧ (decode (am_by 44) 48 = .ok (.getfield 32, 3)))) ∧ (((decode (am_by 44) 51 = .ok (.dup, 1)) ∧ (decode (am_by 44) 52 = .ok (.getfield 53, 3))) ∧ ((decode (am_by 44) 55 = .ok (.iconst 1, 1)) ∧ (decode (am_by 44) 56 = .ok (.iadd, 1)))) := by decide +kernel
theorem dc44_4 : (((decode (am_by 44) 57 = .ok (.putfield 53, 3)) ∧ (decode (am_by 44) 60 = .ok (.aload_n 0, 1))) ∧ ((decode (am_by 44) 61 = .ok (.iload_n 1, 1)) ∧ (decode (am_by 44) 62 = .ok (.invokevirtual 56, 3)))) ∧ (((decode (am_by 44) 65 = .ok (.ifCond .ne 5, 3)) ∧ (decode (am_by 44) 68 = .ok (.iconst 0, 1))) ∧ ((decode (am_by 44) 69 = .ok (.ireturn, 1)) ∧ (decode (am_by 44) 70 = .ok (.aload_n 0, 1)))) := by decide +kernel
theorem dc44_5 : ((decode (am_by 44) 71 = .ok (.iload_n 3, 1)) ∧ ((decode (am_by 44) 72 = .ok (.iconst 0, 1)) ∧ (decode (am_by 44) 73 = .ok (.invokevirtual 28, 3)))) ∧ (((decode (am_by 44) 76 = .ok (.iinc 2 1, 3)) ∧ (decode (am_by 44) 79 = .ok (.goto (-67), 3))) ∧ ((decode (am_by 44) 82 = .ok (.iconst 0, 1)) ∧ (decode (am_by 44) 83 = .ok (.ireturn, 1)))) := by decide +kernel
theorem t44_0 {sc : Option (Nat × (Nat → Int32))} {d k n : Nat} {P : am_O → Prop} {I : am_I} {J : am_J} {Pf : am_R} (hp : am_PF Pf) {x0 : Nat} (hx0 : am_SH[x0]? = some (.inl 2)) {x1 : Int32} {l2 : Option Value} {l3 : Option Value} (q1 : am_mth d 45 [.ref x0, .int x1] (am_SH, I, J, Pf) (am_af sc d 44 2 [some (.ref x0), some (.int x1), l2, l3] [.int x1, .ref x0] [] (am_SH, I, J, Pf) k n true P)) : am_go sc d 44 (0, [some (.ref x0), some (.int x1), l2, l3], [], (am_SH, I, J, Pf), k, n) P := by
  refine am_s_aload_n rfl dc44_0.1.1.1 ?_
  refine am_s_iload_n rfl dc44_0.1.1.2 ?_
  exact am_s_virtual true dc44_0.1.2.1 rfl (by decide) rfl hx0 rfl (q1)
theorem t44_12 {sc : Option (Nat × (Nat → Int32))} {d k n : Nat} {P : am_O → Prop} {I : am_I} {J : am_J} {Pf : am_R} (hp : am_PF Pf) {x0 : Nat} (hx0 : am_SH[x0]? = some (.inl 2)) {x1 : Int32} {x2 : Int32} {l3 : Option Value} (q1 : (150 ≤ x2) → P (.inl (some (.int 0)), (am_SH, I, J, Pf), k, n)) (q2 : (¬ (150 ≤ x2)) → Pf x0 4 = some 1) (q3 : (¬ (150 ≤ x2)) → am_mth d 55 [.ref 1] (am_SH, I, J, Pf) (am_af sc d 44 23 [some (.ref x0), some (.int x1), some (.int x2), l3] [.ref 1] [] (am_SH, I, J, Pf) k n false P)) : am_go sc d 44 (12, [some (.ref x0), some (.int x1), some (.int x2), l3], [], (am_SH, I, J, Pf), k, n) P := by
  refine am_s_iload_n rfl dc44_1.1.1.1 ?_
  refine am_s_sipush am_cs150 dc44_1.1.1.2 ?_
  refine am_s_ic_ge dc44_1.1.2.1 rfl (fun c1 => ?_) (fun c1 => ?_)
  · refine am_s_iconst am_cc0 dc44_5.2.2.1 ?_
    exact am_s_zreturn dc44_5.2.2.2 rfl (by decide) (q1 c1)
  · refine am_s_aload_n rfl dc44_1.1.2.2 ?_
    refine am_s_getR (r := 1) dc44_1.2.1.1 rfl hx0 rfl (q2 c1) ?_
    exact am_s_virtual false dc44_1.2.1.2 rfl (by decide) rfl rfl rfl (q3 c1)
theorem t44_47 {sc : Option (Nat × (Nat → Int32))} {d k n : Nat} {P : am_O → Prop} {I : am_I} {J : am_J} {Pf : am_R} (hp : am_PF Pf) {x0 : Nat} (hx0 : am_SH[x0]? = some (.inl 2)) {x1 : Int32} {x2 : Int32} {x3 : Int32} (q1 : Pf x0 4 = some 1) (q2 : am_mth d 45 [.ref x0, .int x1] (am_SH, am_u I 1 3 ((I 1 3) + 1), J, Pf) (am_af sc d 44 62 [some (.ref x0), some (.int x1), some (.int x2), some (.int x3)] [.int x1, .ref x0] [] (am_SH, am_u I 1 3 ((I 1 3) + 1), J, Pf) k n true P)) : am_go sc d 44 (47, [some (.ref x0), some (.int x1), some (.int x2), some (.int x3)], [], (am_SH, I, J, Pf), k, n) P := by
  refine am_s_aload_n rfl dc44_3.1.2.1 ?_
  refine am_s_getR (r := 1) dc44_3.1.2.2 rfl hx0 rfl (q1) ?_
  refine am_s_dup rfl dc44_3.2.1.1 ?_
  refine am_x_getI (x := I 1 3) dc44_3.2.1.2 rfl rfl (Or.inl rfl) rfl ?_
  refine am_s_iconst am_cc1 dc44_3.2.2.1 ?_
  refine am_s_iadd dc44_3.2.2.2 ?_
  refine am_s_putI dc44_4.1.1.1 rfl rfl rfl rfl ?_
  refine am_s_aload_n rfl dc44_4.1.1.2 ?_
  refine am_s_iload_n rfl dc44_4.1.2.1 ?_
  exact am_s_virtual true dc44_4.1.2.2 rfl (by decide) rfl hx0 rfl (q2)
theorem t44_5 {sc : Option (Nat × (Nat → Int32))} {d k n : Nat} {P : am_O → Prop} {I : am_I} {J : am_J} {Pf : am_R} (hp : am_PF Pf) {x0 : Nat} (hx0 : am_SH[x0]? = some (.inl 2)) {x1 : Int32} {l2 : Option Value} {l3 : Option Value} {s0 : Int32} (q1 : (¬ s0 = 0) → am_go sc d 44 (12, [some (.ref x0), some (.int x1), some (.int 0), l3], [], (am_SH, I, J, Pf), k, n) P) (q2 : (¬ (¬ s0 = 0)) → P (.inl (some (.int 0)), (am_SH, I, J, Pf), k, n)) : am_go sc d 44 (5, [some (.ref x0), some (.int x1), l2, l3], [.int s0], (am_SH, I, J, Pf), k, n) P := by
  refine am_s_if_ne dc44_0.1.2.2 rfl (fun c1 => ?_) (fun c1 => ?_)
  · refine am_s_iconst am_cc0 dc44_0.2.2.1 ?_
    refine am_s_istore_n (ls' := [some (.ref x0), some (.int x1), some (.int 0), l3]) rfl rfl dc44_0.2.2.2 ?_
    exact q1 c1
  · refine am_s_iconst am_cc0 dc44_0.2.1.1 ?_
    exact am_s_zreturn dc44_0.2.1.2 rfl (by decide) (q2 c1)
theorem t44_26 {sc : Option (Nat × (Nat → Int32))} {d k n : Nat} {P : am_O → Prop} {I : am_I} {J : am_J} {Pf : am_R} (hp : am_PF Pf) {x0 : Nat} (hx0 : am_SH[x0]? = some (.inl 2)) {x1 : Int32} {x2 : Int32} {l3 : Option Value} {s0 : Int32} (q1 : (s0 = 42) → am_go sc d 44 (47, [some (.ref x0), some (.int x1), some (.int x2), some (.int s0)], [], (am_SH, I, J, Pf), k, n) P) (q2 : (¬ (s0 = 42)) → (s0 = 47) → am_go sc d 44 (47, [some (.ref x0), some (.int x1), some (.int x2), some (.int s0)], [], (am_SH, I, J, Pf), k, n) P) (q3 : (¬ (s0 = 42)) → (¬ (s0 = 47)) → (s0 = 37) → am_go sc d 44 (47, [some (.ref x0), some (.int x1), some (.int x2), some (.int s0)], [], (am_SH, I, J, Pf), k, n) P) (q4 : (¬ (s0 = 42)) → (¬ (s0 = 47)) → (¬ (s0 = 37)) → P (.inl (some (.int 1)), (am_SH, I, J, Pf), k, n)) : am_go sc d 44 (26, [some (.ref x0), some (.int x1), some (.int x2), l3], [.int s0], (am_SH, I, J, Pf), k, n) P := by
  refine am_s_istore_n (ls' := [some (.ref x0), some (.int x1), some (.int x2), some (.int s0)]) rfl rfl dc44_1.2.2.1 ?_
  refine am_s_iload_n rfl dc44_1.2.2.2 ?_
  refine am_s_bipush am_cb42 dc44_2.1.1.1 ?_
  refine am_s_ic_eq dc44_2.1.1.2 rfl (fun c1 => ?_) (fun c1 => ?_)
  · exact q1 c1
  · refine am_s_iload_n rfl dc44_2.1.2.1 ?_
    refine am_s_bipush am_cb47 dc44_2.1.2.2 ?_
    refine am_s_ic_eq dc44_2.2.1.1 rfl (fun c2 => ?_) (fun c2 => ?_)
    · exact q2 c1 c2
    · refine am_s_iload_n rfl dc44_2.2.1.2 ?_
      refine am_s_bipush am_cb37 dc44_2.2.2.1 ?_
      refine am_s_ic_eq dc44_2.2.2.2 rfl (fun c3 => ?_) (fun c3 => ?_)
      · exact q3 c1 c2 c3
      · refine am_s_iconst am_cc1 dc44_3.1.1.1 ?_
        exact am_s_zreturn dc44_3.1.1.2 rfl (by decide) (q4 c1 c2 c3)
theorem t44_65 {sc : Option (Nat × (Nat → Int32))} {d k n : Nat} {P : am_O → Prop} {I : am_I} {J : am_J} {Pf : am_R} (hp : am_PF Pf) {x0 : Nat} (hx0 : am_SH[x0]? = some (.inl 2)) {x1 : Int32} {x2 : Int32} {x3 : Int32} {s0 : Int32} (q1 : (¬ s0 = 0) → am_mth d 41 [.ref x0, .int x3, .int 0] (am_SH, I, J, Pf) (am_af sc d 44 73 [some (.ref x0), some (.int x1), some (.int x2), some (.int x3)] [.int 0, .int x3, .ref x0] [] (am_SH, I, J, Pf) k n true P)) (q2 : (¬ (¬ s0 = 0)) → P (.inl (some (.int 0)), (am_SH, I, J, Pf), k, n)) : am_go sc d 44 (65, [some (.ref x0), some (.int x1), some (.int x2), some (.int x3)], [.int s0], (am_SH, I, J, Pf), k, n) P := by
  refine am_s_if_ne dc44_4.2.1.1 rfl (fun c1 => ?_) (fun c1 => ?_)
  · refine am_s_aload_n rfl dc44_4.2.2.2 ?_
    refine am_s_iload_n rfl dc44_5.1.1 ?_
    refine am_s_iconst am_cc0 dc44_5.1.2.1 ?_
    exact am_s_virtual true dc44_5.1.2.2 rfl (by decide) rfl hx0 rfl (q1 c1)
  · refine am_s_iconst am_cc0 dc44_4.2.1.2 ?_
    exact am_s_zreturn dc44_4.2.2.1 rfl (by decide) (q2 c1)
theorem t44_76 {sc : Option (Nat × (Nat → Int32))} {d k n : Nat} {P : am_O → Prop} {I : am_I} {J : am_J} {Pf : am_R} (hp : am_PF Pf) {x0 : Nat} (hx0 : am_SH[x0]? = some (.inl 2)) {x1 : Int32} {x2 : Int32} {l3 : Option Value} (q1 : am_go sc d 44 (12, [some (.ref x0), some (.int x1), some (.int (x2 + 1)), l3], [], (am_SH, I, J, Pf), k, n) P) : am_go sc d 44 (76, [some (.ref x0), some (.int x1), some (.int x2), l3], [], (am_SH, I, J, Pf), k, n) P := by
  refine am_s_iinc (ls' := [some (.ref x0), some (.int x1), some (.int (x2 + 1)), l3]) am_cc1 rfl rfl dc44_5.2.1.1 ?_
  refine am_s_goto rfl dc44_5.2.1.2 ?_
  exact q1
-- readUnit (I)Z
theorem dc45_0 : (((decode (am_by 45) 0 = .ok (.aload_n 0, 1)) ∧ (decode (am_by 45) 1 = .ok (.getfield 32, 3))) ∧ ((decode (am_by 45) 4 = .ok (.invokevirtual 49, 3)) ∧ (decode (am_by 45) 7 = .ok (.istore_n 2, 1)))) ∧ (((decode (am_by 45) 8 = .ok (.iload_n 2, 1)) ∧ (decode (am_by 45) 9 = .ok (.invokestatic 59, 3))) ∧ ((decode (am_by 45) 12 = .ok (.ifCond .eq 31, 3)) ∧ (decode (am_by 45) 15 = .ok (.aload_n 0, 1)))) := by decide +kernel
theorem dc45_1 : (((decode (am_by 45) 16 = .ok (.getfield 32, 3)) ∧ (decode (am_by 45) 19 = .ok (.sipush 999, 3))) ∧ ((decode (am_by 45) 22 = .ok (.invokevirtual 62, 3)) ∧ (decode (am_by 45) 25 = .ok (.istore_n 3, 1)))) ∧ (((decode (am_by 45) 26 = .ok (.aload_n 0, 1)) ∧ (decode (am_by 45) 27 = .ok (.iconst 0, 1))) ∧ ((decode (am_by 45) 28 = .ok (.iload_n 3, 1)) ∧ (decode (am_by 45) 29 = .ok (.invokevirtual 28, 3)))) := by decide +kernel
theorem dc45_2 : (((decode (am_by 45) 32 = .ok (.iload_n 3, 1)) ∧ (decode (am_by 45) 33 = .ok (.iconst (-1), 1))) ∧ ((decode (am_by 45) 34 = .ok (.if_icmp .eq 7, 3)) ∧ (decode (am_by 45) 37 = .ok (.iconst 1, 1)))) ∧ (((decode (am_by 45) 38 = .ok (.goto 4, 3)) ∧ (decode (am_by 45) 41 = .ok (.iconst 0, 1))) ∧ ((decode (am_by 45) 42 = .ok (.ireturn, 1)) ∧ (decode (am_by 45) 43 = .ok (.iload_n 2, 1)))) := by decide +kernel
theorem dc45_3 : (((decode (am_by 45) 44 = .ok (.bipush 40, 2)) ∧ (decode (am_by 45) 46 = .ok (.if_icmp .ne 68, 3))) ∧ ((decode (am_by 45) 49 = .ok (.aload_n 0, 1)) ∧ (decode (am_by 45) 50 = .ok (.getfield 32, 3)))) ∧ (((decode (am_by 45) 53 = .ok (.aload_n 0, 1)) ∧ (decode (am_by 45) 54 = .ok (.getfield 32, 3))) ∧ ((decode (am_by 45) 57 = .ok (.getfield 53, 3)) ∧ (decode (am_by 45) 60 = .ok (.invokevirtual 66, 3)))) := by decide +kernel
theorem dc45_4 : (((decode (am_by 45) 63 = .ok (.ifCond .ne 5, 3)) ∧ (decode (am_by 45) 66 = .ok (.iconst 0, 1))) ∧ ((decode (am_by 45) 67 = .ok (.ireturn, 1)) ∧ (decode (am_by 45) 68 = .ok (.aload_n 0, 1)))) ∧ (((decode (am_by 45) 69 = .ok (.getfield 32, 3)) ∧ (decode (am_by 45) 72 = .ok (.dup, 1))) ∧ ((decode (am_by 45) 73 = .ok (.getfield 53, 3)) ∧ (decode (am_by 45) 76 = .ok (.iconst 1, 1)))) := by decide +kernel
theorem dc45_5 : (((decode (am_by 45) 77 = .ok (.iadd, 1)) ∧ (decode (am_by 45) 78 = .ok (.putfield 53, 3))) ∧ ((decode (am_by 45) 81 = .ok (.aload_n 0, 1)) ∧ (decode (am_by 45) 82 = .ok (.iload_n 1, 1)))) ∧ (((decode (am_by 45) 83 = .ok (.iconst 1, 1)) ∧ (decode (am_by 45) 84 = .ok (.iadd, 1))) ∧ ((decode (am_by 45) 85 = .ok (.invokevirtual 36, 3)) ∧ (decode (am_by 45) 88 = .ok (.ifCond .eq 15, 3)))) := by decide +kernel
theorem dc45_6 : (((decode (am_by 45) 91 = .ok (.aload_n 0, 1)) ∧ (decode (am_by 45) 92 = .ok (.getfield 32, 3))) ∧ ((decode (am_by 45) 95 = .ok (.bipush 41, 2)) ∧ (decode (am_by 45) 97 = .ok (.invokevirtual 69, 3)))) ∧ (((decode (am_by 45) 100 = .ok (.ifCond .ne 5, 3)) ∧ (decode (am_by 45) 103 = .ok (.iconst 0, 1))) ∧ ((decode (am_by 45) 104 = .ok (.ireturn, 1)) ∧ (decode (am_by 45) 105 = .ok (.aload_n 0, 1)))) := by decide +kernel
theorem dc45_7 : (((decode (am_by 45) 106 = .ok (.getfield 32, 3)) ∧ (decode (am_by 45) 109 = .ok (.invokevirtual 72, 3))) ∧ ((decode (am_by 45) 112 = .ok (.iconst 1, 1)) ∧ (decode (am_by 45) 113 = .ok (.ireturn, 1)))) ∧ (((decode (am_by 45) 114 = .ok (.aload_n 0, 1)) ∧ (decode (am_by 45) 115 = .ok (.getfield 32, 3))) ∧ ((decode (am_by 45) 118 = .ok (.invokevirtual 75, 3)) ∧ (decode (am_by 45) 121 = .ok (.ifCond .ne 5, 3)))) := by decide +kernel
theorem dc45_8 : (((decode (am_by 45) 124 = .ok (.iconst 0, 1)) ∧ (decode (am_by 45) 125 = .ok (.ireturn, 1))) ∧ ((decode (am_by 45) 126 = .ok (.aload_n 0, 1)) ∧ (decode (am_by 45) 127 = .ok (.getfield 32, 3)))) ∧ (((decode (am_by 45) 130 = .ok (.ldc 78, 2)) ∧ (decode (am_by 45) 132 = .ok (.invokevirtual 80, 3))) ∧ ((decode (am_by 45) 135 = .ok (.ifCond .eq 10, 3)) ∧ (decode (am_by 45) 138 = .ok (.aload_n 0, 1)))) := by decide +kernel
theorem dc45_9 : (((decode (am_by 45) 139 = .ok (.iconst 2, 1)) ∧ (decode (am_by 45) 140 = .ok (.iload_n 1, 1))) ∧ ((decode (am_by 45) 141 = .ok (.invokevirtual 84, 3)) ∧ (decode (am_by 45) 144 = .ok (.ireturn, 1)))) ∧ (((decode (am_by 45) 145 = .ok (.aload_n 0, 1)) ∧ (decode (am_by 45) 146 = .ok (.getfield 32, 3))) ∧ ((decode (am_by 45) 149 = .ok (.ldc 88, 2)) ∧ (decode (am_by 45) 151 = .ok (.invokevirtual 80, 3)))) := by decide +kernel
theorem dc45_10 : (((decode (am_by 45) 154 = .ok (.ifCond .eq 10, 3)) ∧ (decode (am_by 45) 157 = .ok (.aload_n 0, 1))) ∧ ((decode (am_by 45) 158 = .ok (.iconst 3, 1)) ∧ (decode (am_by 45) 159 = .ok (.iload_n 1, 1)))) ∧ (((decode (am_by 45) 160 = .ok (.invokevirtual 84, 3)) ∧ (decode (am_by 45) 163 = .ok (.ireturn, 1))) ∧ ((decode (am_by 45) 164 = .ok (.aload_n 0, 1)) ∧ (decode (am_by 45) 165 = .ok (.invokevirtual 90, 3)))) := by decide +kernel
theorem dc45_11 : (((decode (am_by 45) 168 = .ok (.istore_n 3, 1)) ∧ (decode (am_by 45) 169 = .ok (.iload_n 3, 1))) ∧ ((decode (am_by 45) 170 = .ok (.iconst (-1), 1)) ∧ (decode (am_by 45) 171 = .ok (.if_icmp .ne 19, 3)))) ∧ (((decode (am_by 45) 174 = .ok (.aload_n 0, 1)) ∧ (decode (am_by 45) 175 = .ok (.getfield 32, 3))) ∧ ((decode (am_by 45) 178 = .ok (.iconst 1, 1)) ∧ (decode (am_by 45) 179 = .ok (.aload_n 0, 1)))) := by decide +kernel
theorem dc45_12 : (((decode (am_by 45) 180 = .ok (.getfield 32, 3)) ∧ (decode (am_by 45) 183 = .ok (.getfield 93, 3))) ∧ ((decode (am_by 45) 186 = .ok (.invokevirtual 96, 3)) ∧ (decode (am_by 45) 189 = .ok (.ireturn, 1)))) ∧ (((decode (am_by 45) 190 = .ok (.aload_n 0, 1)) ∧ (decode (am_by 45) 191 = .ok (.iconst 1, 1))) ∧ ((decode (am_by 45) 192 = .ok (.iload_n 3, 1)) ∧ (decode (am_by 45) 193 = .ok (.invokevirtual 28, 3)))) := by decide +kernel
theorem dc45_13 : (decode (am_by 45) 196 = .ok (.iconst 1, 1)) ∧ (decode (am_by 45) 197 = .ok (.ireturn, 1)) := by decide +kernel
theorem t45_0 {sc : Option (Nat × (Nat → Int32))} {d k n : Nat} {P : am_O → Prop} {I : am_I} {J : am_J} {Pf : am_R} (hp : am_PF Pf) {x0 : Nat} (hx0 : am_SH[x0]? = some (.inl 2)) {x1 : Int32} {l2 : Option Value} {l3 : Option Value} (q1 : Pf x0 4 = some 1) (q2 : am_mth d 55 [.ref 1] (am_SH, I, J, Pf) (am_af sc d 45 4 [some (.ref x0), some (.int x1), l2, l3] [.ref 1] [] (am_SH, I, J, Pf) k n false P)) : am_go sc d 45 (0, [some (.ref x0), some (.int x1), l2, l3], [], (am_SH, I, J, Pf), k, n) P := by
  refine am_s_aload_n rfl dc45_0.1.1.1 ?_
  refine am_s_getR (r := 1) dc45_0.1.1.2 rfl hx0 rfl (q1) ?_
  exact am_s_virtual false dc45_0.1.2.1 rfl (by decide) rfl rfl rfl (q2)
theorem t45_7 {sc : Option (Nat × (Nat → Int32))} {d k n : Nat} {P : am_O → Prop} {I : am_I} {J : am_J} {Pf : am_R} (hp : am_PF Pf) {x0 : Nat} (hx0 : am_SH[x0]? = some (.inl 2)) {x1 : Int32} {l2 : Option Value} {l3 : Option Value} {s0 : Int32} (q1 : am_mth d 186 [.int s0] (am_SH, I, J, Pf) (am_af sc d 45 9 [some (.ref x0), some (.int x1), some (.int s0), l3] [.int s0] [] (am_SH, I, J, Pf) k n false P)) : am_go sc d 45 (7, [some (.ref x0), some (.int x1), l2, l3], [.int s0], (am_SH, I, J, Pf), k, n) P := by
  refine am_s_istore_n (ls' := [some (.ref x0), some (.int x1), some (.int s0), l3]) rfl rfl dc45_0.1.2.2 ?_
  refine am_s_iload_n rfl dc45_0.2.1.1 ?_
  exact am_s_static dc45_0.2.1.2 rfl rfl rfl (q1)
theorem t45_12 {sc : Option (Nat × (Nat → Int32))} {d k n : Nat} {P : am_O → Prop} {I : am_I} {J : am_J} {Pf : am_R} (hp : am_PF Pf) {x0 : Nat} (hx0 : am_SH[x0]? = some (.inl 2)) {x1 : Int32} {x2 : Int32} {l3 : Option Value} {s0 : Int32} (q1 : (s0 = 0) → (¬ x2 = 40) → Pf x0 4 = some 1) (q2 : (s0 = 0) → (¬ x2 = 40) → am_mth d 59 [.ref 1] (am_SH, I, J, Pf) (am_af sc d 45 118 [some (.ref x0), some (.int x1), some (.int x2), l3] [.ref 1] [] (am_SH, I, J, Pf) k n false P)) (q3 : (s0 = 0) → (¬ (¬ x2 = 40)) → Pf x0 4 = some 1) (q4 : (s0 = 0) → (¬ (¬ x2 = 40)) → Pf x0 4 = some 1) (q5 : (s0 = 0) → (¬ (¬ x2 = 40)) → am_mth d 61 [.ref 1, .int (I 1 3)] (am_SH, I, J, Pf) (am_af sc d 45 60 [some (.ref x0), some (.int x1), some (.int x2), l3] [.int (I 1 3), .ref 1] [] (am_SH, I, J, Pf) k n false P)) (q6 : (¬ (s0 = 0)) → Pf x0 4 = some 1) (q7 : (¬ (s0 = 0)) → am_mth d 58 [.ref 1, .int 999] (am_SH, I, J, Pf) (am_af sc d 45 22 [some (.ref x0), some (.int x1), some (.int x2), l3] [.int 999, .ref 1] [] (am_SH, I, J, Pf) k n false P)) : am_go sc d 45 (12, [some (.ref x0), some (.int x1), some (.int x2), l3], [.int s0], (am_SH, I, J, Pf), k, n) P := by
  refine am_s_if_eq dc45_0.2.2.1 rfl (fun c1 => ?_) (fun c1 => ?_)
  · refine am_s_iload_n rfl dc45_2.2.2.2 ?_
    refine am_s_bipush am_cb40 dc45_3.1.1.1 ?_
    refine am_s_ic_ne dc45_3.1.1.2 rfl (fun c2 => ?_) (fun c2 => ?_)
    · refine am_s_aload_n rfl dc45_7.2.1.1 ?_
      refine am_s_getR (r := 1) dc45_7.2.1.2 rfl hx0 rfl (q1 c1 c2) ?_
      exact am_s_virtual false dc45_7.2.2.1 rfl (by decide) rfl rfl rfl (q2 c1 c2)
    · refine am_s_aload_n rfl dc45_3.1.2.1 ?_
      refine am_s_getR (r := 1) dc45_3.1.2.2 rfl hx0 rfl (q3 c1 c2) ?_
      refine am_s_aload_n rfl dc45_3.2.1.1 ?_
      refine am_s_getR (r := 1) dc45_3.2.1.2 rfl hx0 rfl (q4 c1 c2) ?_
      refine am_x_getI (x := I 1 3) dc45_3.2.2.1 rfl rfl (Or.inl rfl) rfl ?_
      exact am_s_virtual false dc45_3.2.2.2 rfl (by decide) rfl rfl rfl (q5 c1 c2)
  · refine am_s_aload_n rfl dc45_0.2.2.2 ?_
    refine am_s_getR (r := 1) dc45_1.1.1.1 rfl hx0 rfl (q6 c1) ?_
    refine am_s_sipush am_cs999 dc45_1.1.1.2 ?_
    exact am_s_virtual false dc45_1.1.2.1 rfl (by decide) rfl rfl rfl (q7 c1)
theorem t45_25 {sc : Option (Nat × (Nat → Int32))} {d k n : Nat} {P : am_O → Prop} {I : am_I} {J : am_J} {Pf : am_R} (hp : am_PF Pf) {x0 : Nat} (hx0 : am_SH[x0]? = some (.inl 2)) {l1 : Option Value} {l2 : Option Value} {l3 : Option Value} {s0 : Int32} (hl2 : am_k1 l2 = true) (q1 : am_mth d 41 [.ref x0, .int 0, .int s0] (am_SH, I, J, Pf) (am_af sc d 45 29 [some (.ref x0), l1, l2, some (.int s0)] [.int s0, .int 0, .ref x0] [] (am_SH, I, J, Pf) k n true P)) : am_go sc d 45 (25, [some (.ref x0), l1, l2, l3], [.int s0], (am_SH, I, J, Pf), k, n) P := by
  refine am_s_istore_n (ls' := [some (.ref x0), l1, l2, some (.int s0)]) rfl (am_set1_k (am_kill_x (j := 2) rfl hl2) rfl) dc45_1.1.2.2 ?_
  refine am_s_aload_n rfl dc45_1.2.1.1 ?_
  refine am_s_iconst am_cc0 dc45_1.2.1.2 ?_
  refine am_s_iload_n rfl dc45_1.2.2.1 ?_
  exact am_s_virtual true dc45_1.2.2.2 rfl (by decide) rfl hx0 rfl (q1)
theorem t45_63 {sc : Option (Nat × (Nat → Int32))} {d k n : Nat} {P : am_O → Prop} {I : am_I} {J : am_J} {Pf : am_R} (hp : am_PF Pf) {x0 : Nat} (hx0 : am_SH[x0]? = some (.inl 2)) {x1 : Int32} {l2 : Option Value} {l3 : Option Value} {s0 : Int32} (q1 : (¬ s0 = 0) → Pf x0 4 = some 1) (q2 : (¬ s0 = 0) → am_mth d 43 [.ref x0, .int (x1 + 1)] (am_SH, am_u I 1 3 ((I 1 3) + 1), J, Pf) (am_af sc d 45 85 [some (.ref x0), some (.int x1), l2, l3] [.int (x1 + 1), .ref x0] [] (am_SH, am_u I 1 3 ((I 1 3) + 1), J, Pf) k n true P)) (q3 : (¬ (¬ s0 = 0)) → P (.inl (some (.int 0)), (am_SH, I, J, Pf), k, n)) : am_go sc d 45 (63, [some (.ref x0), some (.int x1), l2, l3], [.int s0], (am_SH, I, J, Pf), k, n) P := by
  refine am_s_if_ne dc45_4.1.1.1 rfl (fun c1 => ?_) (fun c1 => ?_)
  · refine am_s_aload_n rfl dc45_4.1.2.2 ?_
    refine am_s_getR (r := 1) dc45_4.2.1.1 rfl hx0 rfl (q1 c1) ?_
    refine am_s_dup rfl dc45_4.2.1.2 ?_
    refine am_x_getI (x := I 1 3) dc45_4.2.2.1 rfl rfl (Or.inl rfl) rfl ?_
    refine am_s_iconst am_cc1 dc45_4.2.2.2 ?_
    refine am_s_iadd dc45_5.1.1.1 ?_
    refine am_s_putI dc45_5.1.1.2 rfl rfl rfl rfl ?_
    refine am_s_aload_n rfl dc45_5.1.2.1 ?_
    refine am_s_iload_n rfl dc45_5.1.2.2 ?_
    refine am_s_iconst am_cc1 dc45_5.2.1.1 ?_
    refine am_s_iadd dc45_5.2.1.2 ?_
    exact am_s_virtual true dc45_5.2.2.1 rfl (by decide) rfl hx0 rfl (q2 c1)
  · refine am_s_iconst am_cc0 dc45_4.1.1.2 ?_
    exact am_s_zreturn dc45_4.1.2.1 rfl (by decide) (q3 c1)
theorem t45_121 {sc : Option (Nat × (Nat → Int32))} {d k n : Nat} {P : am_O → Prop} {I : am_I} {J : am_J} {Pf : am_R} (hp : am_PF Pf) {x0 : Nat} (hx0 : am_SH[x0]? = some (.inl 2)) {x1 : Int32} {l2 : Option Value} {l3 : Option Value} {s0 : Int32} (q1 : (¬ s0 = 0) → Pf x0 4 = some 1) (q2 : (¬ s0 = 0) → am_mth d 60 [.ref 1, .retAddr 9] (am_SH, I, J, Pf) (am_af sc d 45 132 [some (.ref x0), some (.int x1), l2, l3] [.retAddr 9, .ref 1] [] (am_SH, I, J, Pf) k n false P)) (q3 : (¬ (¬ s0 = 0)) → P (.inl (some (.int 0)), (am_SH, I, J, Pf), k, n)) : am_go sc d 45 (121, [some (.ref x0), some (.int x1), l2, l3], [.int s0], (am_SH, I, J, Pf), k, n) P := by
  refine am_s_if_ne dc45_7.2.2.2 rfl (fun c1 => ?_) (fun c1 => ?_)
  · refine am_s_aload_n rfl dc45_8.1.2.1 ?_
    refine am_s_getR (r := 1) dc45_8.1.2.2 rfl hx0 rfl (q1 c1) ?_
    refine am_s_ldcT (x := 9) dc45_8.2.1.1 rfl rfl ?_
    exact am_s_virtual false dc45_8.2.1.2 rfl (by decide) rfl rfl rfl (q2 c1)
  · refine am_s_iconst am_cc0 dc45_8.1.1.1 ?_
    exact am_s_zreturn dc45_8.1.1.2 rfl (by decide) (q3 c1)
theorem t45_32 {sc : Option (Nat × (Nat → Int32))} {d k n : Nat} {P : am_O → Prop} {I : am_I} {J : am_J} {Pf : am_R} (hp : am_PF Pf) {l0 : Option Value} {l1 : Option Value} {l2 : Option Value} {x3 : Int32} (q1 : (x3 = (-1)) → P (.inl (some (.int 0)), (am_SH, I, J, Pf), k, n)) (q2 : (¬ (x3 = (-1))) → P (.inl (some (.int 1)), (am_SH, I, J, Pf), k, n)) : am_go sc d 45 (32, [l0, l1, l2, some (.int x3)], [], (am_SH, I, J, Pf), k, n) P := by
  refine am_s_iload_n rfl dc45_2.1.1.1 ?_
  refine am_s_iconst am_ccm1 dc45_2.1.1.2 ?_
  refine am_s_ic_eq dc45_2.1.2.1 rfl (fun c1 => ?_) (fun c1 => ?_)
  · refine am_s_iconst am_cc0 dc45_2.2.1.2 ?_
    exact am_s_zreturn dc45_2.2.2.1 rfl (by decide) (q1 c1)
  · refine am_s_iconst am_cc1 dc45_2.1.2.2 ?_
    refine am_s_goto rfl dc45_2.2.1.1 ?_
    exact am_s_zreturn dc45_2.2.2.1 rfl (by decide) (q2 c1)
theorem t45_88 {sc : Option (Nat × (Nat → Int32))} {d k n : Nat} {P : am_O → Prop} {I : am_I} {J : am_J} {Pf : am_R} (hp : am_PF Pf) {x0 : Nat} (hx0 : am_SH[x0]? = some (.inl 2)) {l1 : Option Value} {l2 : Option Value} {l3 : Option Value} {s0 : Int32} (q1 : (s0 = 0) → P (.inl (some (.int 0)), (am_SH, I, J, Pf), k, n)) (q2 : (¬ (s0 = 0)) → Pf x0 4 = some 1) (q3 : (¬ (s0 = 0)) → am_mth d 56 [.ref 1, .int 41] (am_SH, I, J, Pf) (am_af sc d 45 97 [some (.ref x0), l1, l2, l3] [.int 41, .ref 1] [] (am_SH, I, J, Pf) k n false P)) : am_go sc d 45 (88, [some (.ref x0), l1, l2, l3], [.int s0], (am_SH, I, J, Pf), k, n) P := by
  refine am_s_if_eq dc45_5.2.2.2 rfl (fun c1 => ?_) (fun c1 => ?_)
  · refine am_s_iconst am_cc0 dc45_6.2.1.2 ?_
    exact am_s_zreturn dc45_6.2.2.1 rfl (by decide) (q1 c1)
  · refine am_s_aload_n rfl dc45_6.1.1.1 ?_
    refine am_s_getR (r := 1) dc45_6.1.1.2 rfl hx0 rfl (q2 c1) ?_
    refine am_s_bipush am_cb41 dc45_6.1.2.1 ?_
    exact am_s_virtual false dc45_6.1.2.2 rfl (by decide) rfl rfl rfl (q3 c1)
theorem t45_135 {sc : Option (Nat × (Nat → Int32))} {d k n : Nat} {P : am_O → Prop} {I : am_I} {J : am_J} {Pf : am_R} (hp : am_PF Pf) {x0 : Nat} (hx0 : am_SH[x0]? = some (.inl 2)) {x1 : Int32} {l2 : Option Value} {l3 : Option Value} {s0 : Int32} (q1 : (s0 = 0) → Pf x0 4 = some 1) (q2 : (s0 = 0) → am_mth d 60 [.ref 1, .retAddr 10] (am_SH, I, J, Pf) (am_af sc d 45 151 [some (.ref x0), some (.int x1), l2, l3] [.retAddr 10, .ref 1] [] (am_SH, I, J, Pf) k n false P)) (q3 : (¬ (s0 = 0)) → am_mth d 46 [.ref x0, .int 2, .int x1] (am_SH, I, J, Pf) (am_af sc d 45 141 [some (.ref x0), some (.int x1), l2, l3] [.int x1, .int 2, .ref x0] [] (am_SH, I, J, Pf) k n true P)) : am_go sc d 45 (135, [some (.ref x0), some (.int x1), l2, l3], [.int s0], (am_SH, I, J, Pf), k, n) P := by
  refine am_s_if_eq dc45_8.2.2.1 rfl (fun c1 => ?_) (fun c1 => ?_)
  · refine am_s_aload_n rfl dc45_9.2.1.1 ?_
    refine am_s_getR (r := 1) dc45_9.2.1.2 rfl hx0 rfl (q1 c1) ?_
    refine am_s_ldcT (x := 10) dc45_9.2.2.1 rfl rfl ?_
    exact am_s_virtual false dc45_9.2.2.2 rfl (by decide) rfl rfl rfl (q2 c1)
  · refine am_s_aload_n rfl dc45_8.2.2.2 ?_
    refine am_s_iconst am_cc2 dc45_9.1.1.1 ?_
    refine am_s_iload_n rfl dc45_9.1.1.2 ?_
    exact am_s_virtual true dc45_9.1.2.1 rfl (by decide) rfl hx0 rfl (q3 c1)
theorem t45_100 {sc : Option (Nat × (Nat → Int32))} {d k n : Nat} {P : am_O → Prop} {I : am_I} {J : am_J} {Pf : am_R} (hp : am_PF Pf) {x0 : Nat} (hx0 : am_SH[x0]? = some (.inl 2)) {l1 : Option Value} {l2 : Option Value} {l3 : Option Value} {s0 : Int32} (q1 : (¬ s0 = 0) → Pf x0 4 = some 1) (q2 : (¬ s0 = 0) → am_mth d 62 [.ref 1] (am_SH, I, J, Pf) (am_af sc d 45 109 [some (.ref x0), l1, l2, l3] [.ref 1] [] (am_SH, I, J, Pf) k n false P)) (q3 : (¬ (¬ s0 = 0)) → P (.inl (some (.int 0)), (am_SH, I, J, Pf), k, n)) : am_go sc d 45 (100, [some (.ref x0), l1, l2, l3], [.int s0], (am_SH, I, J, Pf), k, n) P := by
  refine am_s_if_ne dc45_6.2.1.1 rfl (fun c1 => ?_) (fun c1 => ?_)
  · refine am_s_aload_n rfl dc45_6.2.2.2 ?_
    refine am_s_getR (r := 1) dc45_7.1.1.1 rfl hx0 rfl (q1 c1) ?_
    exact am_s_virtual false dc45_7.1.1.2 rfl (by decide) rfl rfl rfl (q2 c1)
  · refine am_s_iconst am_cc0 dc45_6.2.1.2 ?_
    exact am_s_zreturn dc45_6.2.2.1 rfl (by decide) (q3 c1)
theorem t45_144 {sc : Option (Nat × (Nat → Int32))} {d k n : Nat} {P : am_O → Prop} {I : am_I} {J : am_J} {Pf : am_R} (hp : am_PF Pf) {l0 : Option Value} {l1 : Option Value} {l2 : Option Value} {l3 : Option Value} {s0 : Int32} (q1 : P (.inl (some (.int s0)), (am_SH, I, J, Pf), k, n)) (q2 : s0 = 0 ∨ s0 = 1) : am_go sc d 45 (144, [l0, l1, l2, l3], [.int s0], (am_SH, I, J, Pf), k, n) P := by
  exact am_s_zreturn dc45_9.1.2.2 rfl (q2) (q1)
theorem t45_154 {sc : Option (Nat × (Nat → Int32))} {d k n : Nat} {P : am_O → Prop} {I : am_I} {J : am_J} {Pf : am_R} (hp : am_PF Pf) {x0 : Nat} (hx0 : am_SH[x0]? = some (.inl 2)) {x1 : Int32} {l2 : Option Value} {l3 : Option Value} {s0 : Int32} (q1 : (s0 = 0) → am_mth d 47 [.ref x0] (am_SH, I, J, Pf) (am_af sc d 45 165 [some (.ref x0), some (.int x1), l2, l3] [.ref x0] [] (am_SH, I, J, Pf) k n true P)) (q2 : (¬ (s0 = 0)) → am_mth d 46 [.ref x0, .int 3, .int x1] (am_SH, I, J, Pf) (am_af sc d 45 160 [some (.ref x0), some (.int x1), l2, l3] [.int x1, .int 3, .ref x0] [] (am_SH, I, J, Pf) k n true P)) : am_go sc d 45 (154, [some (.ref x0), some (.int x1), l2, l3], [.int s0], (am_SH, I, J, Pf), k, n) P := by
  refine am_s_if_eq dc45_10.1.1.1 rfl (fun c1 => ?_) (fun c1 => ?_)
  · refine am_s_aload_n rfl dc45_10.2.2.1 ?_
    exact am_s_virtual true dc45_10.2.2.2 rfl (by decide) rfl hx0 rfl (q1 c1)
  · refine am_s_aload_n rfl dc45_10.1.1.2 ?_
    refine am_s_iconst am_cc3 dc45_10.1.2.1 ?_
    refine am_s_iload_n rfl dc45_10.1.2.2 ?_
    exact am_s_virtual true dc45_10.2.1.1 rfl (by decide) rfl hx0 rfl (q2 c1)
theorem t45_112 {sc : Option (Nat × (Nat → Int32))} {d k n : Nat} {P : am_O → Prop} {I : am_I} {J : am_J} {Pf : am_R} (hp : am_PF Pf) {l0 : Option Value} {l1 : Option Value} {l2 : Option Value} {l3 : Option Value} (q1 : P (.inl (some (.int 1)), (am_SH, I, J, Pf), k, n)) : am_go sc d 45 (112, [l0, l1, l2, l3], [], (am_SH, I, J, Pf), k, n) P := by
  refine am_s_iconst am_cc1 dc45_7.1.2.1 ?_
  exact am_s_zreturn dc45_7.1.2.2 rfl (by decide) (q1)
theorem t45_163 {sc : Option (Nat × (Nat → Int32))} {d k n : Nat} {P : am_O → Prop} {I : am_I} {J : am_J} {Pf : am_R} (hp : am_PF Pf) {l0 : Option Value} {l1 : Option Value} {l2 : Option Value} {l3 : Option Value} {s0 : Int32} (q1 : P (.inl (some (.int s0)), (am_SH, I, J, Pf), k, n)) (q2 : s0 = 0 ∨ s0 = 1) : am_go sc d 45 (163, [l0, l1, l2, l3], [.int s0], (am_SH, I, J, Pf), k, n) P := by
  exact am_s_zreturn dc45_10.2.1.2 rfl (q2) (q1)
theorem t45_168 {sc : Option (Nat × (Nat → Int32))} {d k n : Nat} {P : am_O → Prop} {I : am_I} {J : am_J} {Pf : am_R} (hp : am_PF Pf) {x0 : Nat} (hx0 : am_SH[x0]? = some (.inl 2)) {l1 : Option Value} {l2 : Option Value} {l3 : Option Value} {s0 : Int32} (hl2 : am_k1 l2 = true) (q1 : (¬ s0 = (-1)) → am_mth d 41 [.ref x0, .int 1, .int s0] (am_SH, I, J, Pf) (am_af sc d 45 193 [some (.ref x0), l1, l2, some (.int s0)] [.int s0, .int 1, .ref x0] [] (am_SH, I, J, Pf) k n true P)) (q2 : (¬ (¬ s0 = (-1))) → Pf x0 4 = some 1) (q3 : (¬ (¬ s0 = (-1))) → Pf x0 4 = some 1) (q4 : (¬ (¬ s0 = (-1))) → am_mth d 53 [.ref 1, .int 1, .int (I 1 7)] (am_SH, I, J, Pf) (am_af sc d 45 186 [some (.ref x0), l1, l2, some (.int s0)] [.int (I 1 7), .int 1, .ref 1] [] (am_SH, I, J, Pf) k n false P)) : am_go sc d 45 (168, [some (.ref x0), l1, l2, l3], [.int s0], (am_SH, I, J, Pf), k, n) P := by
  refine am_s_istore_n (ls' := [some (.ref x0), l1, l2, some (.int s0)]) rfl (am_set1_k (am_kill_x (j := 2) rfl hl2) rfl) dc45_11.1.1.1 ?_
  refine am_s_iload_n rfl dc45_11.1.1.2 ?_
  refine am_s_iconst am_ccm1 dc45_11.1.2.1 ?_
  refine am_s_ic_ne dc45_11.1.2.2 rfl (fun c1 => ?_) (fun c1 => ?_)
  · refine am_s_aload_n rfl dc45_12.2.1.1 ?_
    refine am_s_iconst am_cc1 dc45_12.2.1.2 ?_
    refine am_s_iload_n rfl dc45_12.2.2.1 ?_
    exact am_s_virtual true dc45_12.2.2.2 rfl (by decide) rfl hx0 rfl (q1 c1)
  · refine am_s_aload_n rfl dc45_11.2.1.1 ?_
    refine am_s_getR (r := 1) dc45_11.2.1.2 rfl hx0 rfl (q2 c1) ?_
    refine am_s_iconst am_cc1 dc45_11.2.2.1 ?_
    refine am_s_aload_n rfl dc45_11.2.2.2 ?_
    refine am_s_getR (r := 1) dc45_12.1.1.1 rfl hx0 rfl (q3 c1) ?_
    refine am_x_getI (x := I 1 7) dc45_12.1.1.2 rfl rfl (Or.inl rfl) rfl ?_
    exact am_s_virtual false dc45_12.1.2.1 rfl (by decide) rfl rfl rfl (q4 c1)
theorem t45_189 {sc : Option (Nat × (Nat → Int32))} {d k n : Nat} {P : am_O → Prop} {I : am_I} {J : am_J} {Pf : am_R} (hp : am_PF Pf) {l0 : Option Value} {l1 : Option Value} {l2 : Option Value} {l3 : Option Value} {s0 : Int32} (q1 : P (.inl (some (.int s0)), (am_SH, I, J, Pf), k, n)) (q2 : s0 = 0 ∨ s0 = 1) : am_go sc d 45 (189, [l0, l1, l2, l3], [.int s0], (am_SH, I, J, Pf), k, n) P := by
  exact am_s_zreturn dc45_12.1.2.2 rfl (q2) (q1)
theorem t45_196 {sc : Option (Nat × (Nat → Int32))} {d k n : Nat} {P : am_O → Prop} {I : am_I} {J : am_J} {Pf : am_R} (hp : am_PF Pf) {l0 : Option Value} {l1 : Option Value} {l2 : Option Value} {l3 : Option Value} (q1 : P (.inl (some (.int 1)), (am_SH, I, J, Pf), k, n)) : am_go sc d 45 (196, [l0, l1, l2, l3], [], (am_SH, I, J, Pf), k, n) P := by
  refine am_s_iconst am_cc1 dc45_13.1 ?_
  exact am_s_zreturn dc45_13.2 rfl (by decide) (q1)
-- readPair (II)Z
theorem dc46_0 : (((decode (am_by 46) 0 = .ok (.aload_n 0, 1)) ∧ (decode (am_by 46) 1 = .ok (.getfield 32, 3))) ∧ ((decode (am_by 46) 4 = .ok (.aload_n 0, 1)) ∧ (decode (am_by 46) 5 = .ok (.getfield 32, 3)))) ∧ (((decode (am_by 46) 8 = .ok (.getfield 93, 3)) ∧ (decode (am_by 46) 11 = .ok (.invokevirtual 66, 3))) ∧ ((decode (am_by 46) 14 = .ok (.ifCond .eq 15, 3)) ∧ (decode (am_by 46) 17 = .ok (.aload_n 0, 1)))) := by decide +kernel
theorem dc46_1 : (((decode (am_by 46) 18 = .ok (.getfield 32, 3)) ∧ (decode (am_by 46) 21 = .ok (.bipush 91, 2))) ∧ ((decode (am_by 46) 23 = .ok (.invokevirtual 69, 3)) ∧ (decode (am_by 46) 26 = .ok (.ifCond .ne 5, 3)))) ∧ (((decode (am_by 46) 29 = .ok (.iconst 0, 1)) ∧ (decode (am_by 46) 30 = .ok (.ireturn, 1))) ∧ ((decode (am_by 46) 31 = .ok (.aload_n 0, 1)) ∧ (decode (am_by 46) 32 = .ok (.iload_n 2, 1)))) := by decide +kernel
theorem dc46_2 : (((decode (am_by 46) 33 = .ok (.iconst 1, 1)) ∧ (decode (am_by 46) 34 = .ok (.iadd, 1))) ∧ ((decode (am_by 46) 35 = .ok (.invokevirtual 36, 3)) ∧ (decode (am_by 46) 38 = .ok (.ifCond .eq 15, 3)))) ∧ (((decode (am_by 46) 41 = .ok (.aload_n 0, 1)) ∧ (decode (am_by 46) 42 = .ok (.getfield 32, 3))) ∧ ((decode (am_by 46) 45 = .ok (.bipush 44, 2)) ∧ (decode (am_by 46) 47 = .ok (.invokevirtual 69, 3)))) := by decide +kernel
theorem dc46_3 : (((decode (am_by 46) 50 = .ok (.ifCond .ne 5, 3)) ∧ (decode (am_by 46) 53 = .ok (.iconst 0, 1))) ∧ ((decode (am_by 46) 54 = .ok (.ireturn, 1)) ∧ (decode (am_by 46) 55 = .ok (.aload_n 0, 1)))) ∧ (((decode (am_by 46) 56 = .ok (.iload_n 2, 1)) ∧ (decode (am_by 46) 57 = .ok (.iconst 1, 1))) ∧ ((decode (am_by 46) 58 = .ok (.iadd, 1)) ∧ (decode (am_by 46) 59 = .ok (.invokevirtual 36, 3)))) := by decide +kernel
theorem dc46_4 : (((decode (am_by 46) 62 = .ok (.ifCond .eq 15, 3)) ∧ (decode (am_by 46) 65 = .ok (.aload_n 0, 1))) ∧ ((decode (am_by 46) 66 = .ok (.getfield 32, 3)) ∧ (decode (am_by 46) 69 = .ok (.bipush 93, 2)))) ∧ (((decode (am_by 46) 71 = .ok (.invokevirtual 69, 3)) ∧ (decode (am_by 46) 74 = .ok (.ifCond .ne 5, 3))) ∧ ((decode (am_by 46) 77 = .ok (.iconst 0, 1)) ∧ (decode (am_by 46) 78 = .ok (.ireturn, 1)))) := by decide +kernel
theorem dc46_5 : (((decode (am_by 46) 79 = .ok (.aload_n 0, 1)) ∧ (decode (am_by 46) 80 = .ok (.getfield 32, 3))) ∧ ((decode (am_by 46) 83 = .ok (.invokevirtual 72, 3)) ∧ (decode (am_by 46) 86 = .ok (.aload_n 0, 1)))) ∧ (((decode (am_by 46) 87 = .ok (.iload_n 1, 1)) ∧ (decode (am_by 46) 88 = .ok (.iconst 0, 1))) ∧ ((decode (am_by 46) 89 = .ok (.invokevirtual 28, 3)) ∧ (decode (am_by 46) 92 = .ok (.iconst 1, 1)))) := by decide +kernel
theorem dc46_6 : decode (am_by 46) 93 = .ok (.ireturn, 1) := by decide +kernel
theorem t46_0 {sc : Option (Nat × (Nat → Int32))} {d k n : Nat} {P : am_O → Prop} {I : am_I} {J : am_J} {Pf : am_R} (hp : am_PF Pf) {x0 : Nat} (hx0 : am_SH[x0]? = some (.inl 2)) {x1 : Int32} {x2 : Int32} (q1 : Pf x0 4 = some 1) (q2 : Pf x0 4 = some 1) (q3 : am_mth d 61 [.ref 1, .int (I 1 7)] (am_SH, I, J, Pf) (am_af sc d 46 11 [some (.ref x0), some (.int x1), some (.int x2)] [.int (I 1 7), .ref 1] [] (am_SH, I, J, Pf) k n false P)) : am_go sc d 46 (0, [some (.ref x0), some (.int x1), some (.int x2)], [], (am_SH, I, J, Pf), k, n) P := by
  refine am_s_aload_n rfl dc46_0.1.1.1 ?_
  refine am_s_getR (r := 1) dc46_0.1.1.2 rfl hx0 rfl (q1) ?_
  refine am_s_aload_n rfl dc46_0.1.2.1 ?_
  refine am_s_getR (r := 1) dc46_0.1.2.2 rfl hx0 rfl (q2) ?_
  refine am_x_getI (x := I 1 7) dc46_0.2.1.1 rfl rfl (Or.inl rfl) rfl ?_
  exact am_s_virtual false dc46_0.2.1.2 rfl (by decide) rfl rfl rfl (q3)
theorem t46_14 {sc : Option (Nat × (Nat → Int32))} {d k n : Nat} {P : am_O → Prop} {I : am_I} {J : am_J} {Pf : am_R} (hp : am_PF Pf) {x0 : Nat} (hx0 : am_SH[x0]? = some (.inl 2)) {x1 : Int32} {x2 : Int32} {s0 : Int32} (q1 : (s0 = 0) → P (.inl (some (.int 0)), (am_SH, I, J, Pf), k, n)) (q2 : (¬ (s0 = 0)) → Pf x0 4 = some 1) (q3 : (¬ (s0 = 0)) → am_mth d 56 [.ref 1, .int 91] (am_SH, I, J, Pf) (am_af sc d 46 23 [some (.ref x0), some (.int x1), some (.int x2)] [.int 91, .ref 1] [] (am_SH, I, J, Pf) k n false P)) : am_go sc d 46 (14, [some (.ref x0), some (.int x1), some (.int x2)], [.int s0], (am_SH, I, J, Pf), k, n) P := by
  refine am_s_if_eq dc46_0.2.2.1 rfl (fun c1 => ?_) (fun c1 => ?_)
  · refine am_s_iconst am_cc0 dc46_1.2.1.1 ?_
    exact am_s_zreturn dc46_1.2.1.2 rfl (by decide) (q1 c1)
  · refine am_s_aload_n rfl dc46_0.2.2.2 ?_
    refine am_s_getR (r := 1) dc46_1.1.1.1 rfl hx0 rfl (q2 c1) ?_
    refine am_s_bipush am_cb91 dc46_1.1.1.2 ?_
    exact am_s_virtual false dc46_1.1.2.1 rfl (by decide) rfl rfl rfl (q3 c1)
theorem t46_26 {sc : Option (Nat × (Nat → Int32))} {d k n : Nat} {P : am_O → Prop} {I : am_I} {J : am_J} {Pf : am_R} (hp : am_PF Pf) {x0 : Nat} (hx0 : am_SH[x0]? = some (.inl 2)) {x1 : Int32} {x2 : Int32} {s0 : Int32} (q1 : (¬ s0 = 0) → am_mth d 43 [.ref x0, .int (x2 + 1)] (am_SH, I, J, Pf) (am_af sc d 46 35 [some (.ref x0), some (.int x1), some (.int x2)] [.int (x2 + 1), .ref x0] [] (am_SH, I, J, Pf) k n true P)) (q2 : (¬ (¬ s0 = 0)) → P (.inl (some (.int 0)), (am_SH, I, J, Pf), k, n)) : am_go sc d 46 (26, [some (.ref x0), some (.int x1), some (.int x2)], [.int s0], (am_SH, I, J, Pf), k, n) P := by
  refine am_s_if_ne dc46_1.1.2.2 rfl (fun c1 => ?_) (fun c1 => ?_)
  · refine am_s_aload_n rfl dc46_1.2.2.1 ?_
    refine am_s_iload_n rfl dc46_1.2.2.2 ?_
    refine am_s_iconst am_cc1 dc46_2.1.1.1 ?_
    refine am_s_iadd dc46_2.1.1.2 ?_
    exact am_s_virtual true dc46_2.1.2.1 rfl (by decide) rfl hx0 rfl (q1 c1)
  · refine am_s_iconst am_cc0 dc46_1.2.1.1 ?_
    exact am_s_zreturn dc46_1.2.1.2 rfl (by decide) (q2 c1)
theorem t46_38 {sc : Option (Nat × (Nat → Int32))} {d k n : Nat} {P : am_O → Prop} {I : am_I} {J : am_J} {Pf : am_R} (hp : am_PF Pf) {x0 : Nat} (hx0 : am_SH[x0]? = some (.inl 2)) {x1 : Int32} {x2 : Int32} {s0 : Int32} (q1 : (s0 = 0) → P (.inl (some (.int 0)), (am_SH, I, J, Pf), k, n)) (q2 : (¬ (s0 = 0)) → Pf x0 4 = some 1) (q3 : (¬ (s0 = 0)) → am_mth d 56 [.ref 1, .int 44] (am_SH, I, J, Pf) (am_af sc d 46 47 [some (.ref x0), some (.int x1), some (.int x2)] [.int 44, .ref 1] [] (am_SH, I, J, Pf) k n false P)) : am_go sc d 46 (38, [some (.ref x0), some (.int x1), some (.int x2)], [.int s0], (am_SH, I, J, Pf), k, n) P := by
  refine am_s_if_eq dc46_2.1.2.2 rfl (fun c1 => ?_) (fun c1 => ?_)
  · refine am_s_iconst am_cc0 dc46_3.1.1.2 ?_
    exact am_s_zreturn dc46_3.1.2.1 rfl (by decide) (q1 c1)
  · refine am_s_aload_n rfl dc46_2.2.1.1 ?_
    refine am_s_getR (r := 1) dc46_2.2.1.2 rfl hx0 rfl (q2 c1) ?_
    refine am_s_bipush am_cb44 dc46_2.2.2.1 ?_
    exact am_s_virtual false dc46_2.2.2.2 rfl (by decide) rfl rfl rfl (q3 c1)
theorem t46_50 {sc : Option (Nat × (Nat → Int32))} {d k n : Nat} {P : am_O → Prop} {I : am_I} {J : am_J} {Pf : am_R} (hp : am_PF Pf) {x0 : Nat} (hx0 : am_SH[x0]? = some (.inl 2)) {x1 : Int32} {x2 : Int32} {s0 : Int32} (q1 : (¬ s0 = 0) → am_mth d 43 [.ref x0, .int (x2 + 1)] (am_SH, I, J, Pf) (am_af sc d 46 59 [some (.ref x0), some (.int x1), some (.int x2)] [.int (x2 + 1), .ref x0] [] (am_SH, I, J, Pf) k n true P)) (q2 : (¬ (¬ s0 = 0)) → P (.inl (some (.int 0)), (am_SH, I, J, Pf), k, n)) : am_go sc d 46 (50, [some (.ref x0), some (.int x1), some (.int x2)], [.int s0], (am_SH, I, J, Pf), k, n) P := by
  refine am_s_if_ne dc46_3.1.1.1 rfl (fun c1 => ?_) (fun c1 => ?_)
  · refine am_s_aload_n rfl dc46_3.1.2.2 ?_
    refine am_s_iload_n rfl dc46_3.2.1.1 ?_
    refine am_s_iconst am_cc1 dc46_3.2.1.2 ?_
    refine am_s_iadd dc46_3.2.2.1 ?_
    exact am_s_virtual true dc46_3.2.2.2 rfl (by decide) rfl hx0 rfl (q1 c1)
  · refine am_s_iconst am_cc0 dc46_3.1.1.2 ?_
    exact am_s_zreturn dc46_3.1.2.1 rfl (by decide) (q2 c1)
theorem t46_62 {sc : Option (Nat × (Nat → Int32))} {d k n : Nat} {P : am_O → Prop} {I : am_I} {J : am_J} {Pf : am_R} (hp : am_PF Pf) {x0 : Nat} (hx0 : am_SH[x0]? = some (.inl 2)) {x1 : Int32} {l2 : Option Value} {s0 : Int32} (q1 : (s0 = 0) → P (.inl (some (.int 0)), (am_SH, I, J, Pf), k, n)) (q2 : (¬ (s0 = 0)) → Pf x0 4 = some 1) (q3 : (¬ (s0 = 0)) → am_mth d 56 [.ref 1, .int 93] (am_SH, I, J, Pf) (am_af sc d 46 71 [some (.ref x0), some (.int x1), l2] [.int 93, .ref 1] [] (am_SH, I, J, Pf) k n false P)) : am_go sc d 46 (62, [some (.ref x0), some (.int x1), l2], [.int s0], (am_SH, I, J, Pf), k, n) P := by
  refine am_s_if_eq dc46_4.1.1.1 rfl (fun c1 => ?_) (fun c1 => ?_)
  · refine am_s_iconst am_cc0 dc46_4.2.2.1 ?_
    exact am_s_zreturn dc46_4.2.2.2 rfl (by decide) (q1 c1)
  · refine am_s_aload_n rfl dc46_4.1.1.2 ?_
    refine am_s_getR (r := 1) dc46_4.1.2.1 rfl hx0 rfl (q2 c1) ?_
    refine am_s_bipush am_cb93 dc46_4.1.2.2 ?_
    exact am_s_virtual false dc46_4.2.1.1 rfl (by decide) rfl rfl rfl (q3 c1)
theorem t46_74 {sc : Option (Nat × (Nat → Int32))} {d k n : Nat} {P : am_O → Prop} {I : am_I} {J : am_J} {Pf : am_R} (hp : am_PF Pf) {x0 : Nat} (hx0 : am_SH[x0]? = some (.inl 2)) {x1 : Int32} {l2 : Option Value} {s0 : Int32} (q1 : (¬ s0 = 0) → Pf x0 4 = some 1) (q2 : (¬ s0 = 0) → am_mth d 62 [.ref 1] (am_SH, I, J, Pf) (am_af sc d 46 83 [some (.ref x0), some (.int x1), l2] [.ref 1] [] (am_SH, I, J, Pf) k n false P)) (q3 : (¬ (¬ s0 = 0)) → P (.inl (some (.int 0)), (am_SH, I, J, Pf), k, n)) : am_go sc d 46 (74, [some (.ref x0), some (.int x1), l2], [.int s0], (am_SH, I, J, Pf), k, n) P := by
  refine am_s_if_ne dc46_4.2.1.2 rfl (fun c1 => ?_) (fun c1 => ?_)
  · refine am_s_aload_n rfl dc46_5.1.1.1 ?_
    refine am_s_getR (r := 1) dc46_5.1.1.2 rfl hx0 rfl (q1 c1) ?_
    exact am_s_virtual false dc46_5.1.2.1 rfl (by decide) rfl rfl rfl (q2 c1)
  · refine am_s_iconst am_cc0 dc46_4.2.2.1 ?_
    exact am_s_zreturn dc46_4.2.2.2 rfl (by decide) (q3 c1)
theorem t46_86 {sc : Option (Nat × (Nat → Int32))} {d k n : Nat} {P : am_O → Prop} {I : am_I} {J : am_J} {Pf : am_R} (hp : am_PF Pf) {x0 : Nat} (hx0 : am_SH[x0]? = some (.inl 2)) {x1 : Int32} {l2 : Option Value} (q1 : am_mth d 41 [.ref x0, .int x1, .int 0] (am_SH, I, J, Pf) (am_af sc d 46 89 [some (.ref x0), some (.int x1), l2] [.int 0, .int x1, .ref x0] [] (am_SH, I, J, Pf) k n true P)) : am_go sc d 46 (86, [some (.ref x0), some (.int x1), l2], [], (am_SH, I, J, Pf), k, n) P := by
  refine am_s_aload_n rfl dc46_5.1.2.2 ?_
  refine am_s_iload_n rfl dc46_5.2.1.1 ?_
  refine am_s_iconst am_cc0 dc46_5.2.1.2 ?_
  exact am_s_virtual true dc46_5.2.2.1 rfl (by decide) rfl hx0 rfl (q1)
theorem t46_92 {sc : Option (Nat × (Nat → Int32))} {d k n : Nat} {P : am_O → Prop} {I : am_I} {J : am_J} {Pf : am_R} (hp : am_PF Pf) {l0 : Option Value} {l1 : Option Value} {l2 : Option Value} (q1 : P (.inl (some (.int 1)), (am_SH, I, J, Pf), k, n)) : am_go sc d 46 (92, [l0, l1, l2], [], (am_SH, I, J, Pf), k, n) P := by
  refine am_s_iconst am_cc1 dc46_5.2.2.2 ?_
  exact am_s_zreturn dc46_6 rfl (by decide) (q1)
-- namedFact ()I
theorem dc47_0 : (((decode (am_by 47) 0 = .ok (.aload_n 0, 1)) ∧ (decode (am_by 47) 1 = .ok (.getfield 32, 3))) ∧ ((decode (am_by 47) 4 = .ok (.ldc 99, 2)) ∧ (decode (am_by 47) 6 = .ok (.invokevirtual 80, 3)))) ∧ (((decode (am_by 47) 9 = .ok (.ifCond .eq 5, 3)) ∧ (decode (am_by 47) 12 = .ok (.iconst 0, 1))) ∧ ((decode (am_by 47) 13 = .ok (.ireturn, 1)) ∧ (decode (am_by 47) 14 = .ok (.aload_n 0, 1)))) := by decide +kernel
theorem dc47_1 : (((decode (am_by 47) 15 = .ok (.getfield 32, 3)) ∧ (decode (am_by 47) 18 = .ok (.ldc 101, 2))) ∧ ((decode (am_by 47) 20 = .ok (.invokevirtual 80, 3)) ∧ (decode (am_by 47) 23 = .ok (.ifCond .eq 5, 3)))) ∧ (((decode (am_by 47) 26 = .ok (.iconst 1, 1)) ∧ (decode (am_by 47) 27 = .ok (.ireturn, 1))) ∧ ((decode (am_by 47) 28 = .ok (.aload_n 0, 1)) ∧ (decode (am_by 47) 29 = .ok (.getfield 32, 3)))) := by decide +kernel
theorem dc47_2 : (((decode (am_by 47) 32 = .ok (.ldc 103, 2)) ∧ (decode (am_by 47) 34 = .ok (.invokevirtual 80, 3))) ∧ ((decode (am_by 47) 37 = .ok (.ifCond .eq 5, 3)) ∧ (decode (am_by 47) 40 = .ok (.iconst 2, 1)))) ∧ (((decode (am_by 47) 41 = .ok (.ireturn, 1)) ∧ (decode (am_by 47) 42 = .ok (.aload_n 0, 1))) ∧ ((decode (am_by 47) 43 = .ok (.getfield 32, 3)) ∧ (decode (am_by 47) 46 = .ok (.ldc 105, 2)))) := by decide +kernel
theorem dc47_3 : (((decode (am_by 47) 48 = .ok (.invokevirtual 80, 3)) ∧ (decode (am_by 47) 51 = .ok (.ifCond .eq 5, 3))) ∧ ((decode (am_by 47) 54 = .ok (.iconst 3, 1)) ∧ (decode (am_by 47) 55 = .ok (.ireturn, 1)))) ∧ (((decode (am_by 47) 56 = .ok (.aload_n 0, 1)) ∧ (decode (am_by 47) 57 = .ok (.getfield 32, 3))) ∧ ((decode (am_by 47) 60 = .ok (.ldc 107, 2)) ∧ (decode (am_by 47) 62 = .ok (.invokevirtual 80, 3)))) := by decide +kernel
theorem dc47_4 : (((decode (am_by 47) 65 = .ok (.ifCond .eq 5, 3)) ∧ (decode (am_by 47) 68 = .ok (.iconst 4, 1))) ∧ ((decode (am_by 47) 69 = .ok (.ireturn, 1)) ∧ (decode (am_by 47) 70 = .ok (.aload_n 0, 1)))) ∧ (((decode (am_by 47) 71 = .ok (.getfield 32, 3)) ∧ (decode (am_by 47) 74 = .ok (.ldc 109, 2))) ∧ ((decode (am_by 47) 76 = .ok (.invokevirtual 80, 3)) ∧ (decode (am_by 47) 79 = .ok (.ifCond .eq 7, 3)))) := by decide +kernel
theorem dc47_5 : ((decode (am_by 47) 82 = .ok (.iconst 5, 1)) ∧ (decode (am_by 47) 83 = .ok (.goto 4, 3))) ∧ ((decode (am_by 47) 86 = .ok (.iconst (-1), 1)) ∧ (decode (am_by 47) 87 = .ok (.ireturn, 1))) := by decide +kernel
theorem t47_0 {sc : Option (Nat × (Nat → Int32))} {d k n : Nat} {P : am_O → Prop} {I : am_I} {J : am_J} {Pf : am_R} (hp : am_PF Pf) {x0 : Nat} (hx0 : am_SH[x0]? = some (.inl 2)) (q1 : Pf x0 4 = some 1) (q2 : am_mth d 60 [.ref 1, .retAddr 11] (am_SH, I, J, Pf) (am_af sc d 47 6 [some (.ref x0)] [.retAddr 11, .ref 1] [] (am_SH, I, J, Pf) k n false P)) : am_go sc d 47 (0, [some (.ref x0)], [], (am_SH, I, J, Pf), k, n) P := by
  refine am_s_aload_n rfl dc47_0.1.1.1 ?_
  refine am_s_getR (r := 1) dc47_0.1.1.2 rfl hx0 rfl (q1) ?_
  refine am_s_ldcT (x := 11) dc47_0.1.2.1 rfl rfl ?_
  exact am_s_virtual false dc47_0.1.2.2 rfl (by decide) rfl rfl rfl (q2)
theorem t47_9 {sc : Option (Nat × (Nat → Int32))} {d k n : Nat} {P : am_O → Prop} {I : am_I} {J : am_J} {Pf : am_R} (hp : am_PF Pf) {x0 : Nat} (hx0 : am_SH[x0]? = some (.inl 2)) {s0 : Int32} (q1 : (s0 = 0) → Pf x0 4 = some 1) (q2 : (s0 = 0) → am_mth d 60 [.ref 1, .retAddr 12] (am_SH, I, J, Pf) (am_af sc d 47 20 [some (.ref x0)] [.retAddr 12, .ref 1] [] (am_SH, I, J, Pf) k n false P)) (q3 : (¬ (s0 = 0)) → P (.inl (some (.int 0)), (am_SH, I, J, Pf), k, n)) : am_go sc d 47 (9, [some (.ref x0)], [.int s0], (am_SH, I, J, Pf), k, n) P := by
  refine am_s_if_eq dc47_0.2.1.1 rfl (fun c1 => ?_) (fun c1 => ?_)
  · refine am_s_aload_n rfl dc47_0.2.2.2 ?_
    refine am_s_getR (r := 1) dc47_1.1.1.1 rfl hx0 rfl (q1 c1) ?_
    refine am_s_ldcT (x := 12) dc47_1.1.1.2 rfl rfl ?_
    exact am_s_virtual false dc47_1.1.2.1 rfl (by decide) rfl rfl rfl (q2 c1)
  · refine am_s_iconst am_cc0 dc47_0.2.1.2 ?_
    exact am_s_ireturn dc47_0.2.2.1 rfl (q3 c1)
theorem t47_23 {sc : Option (Nat × (Nat → Int32))} {d k n : Nat} {P : am_O → Prop} {I : am_I} {J : am_J} {Pf : am_R} (hp : am_PF Pf) {x0 : Nat} (hx0 : am_SH[x0]? = some (.inl 2)) {s0 : Int32} (q1 : (s0 = 0) → Pf x0 4 = some 1) (q2 : (s0 = 0) → am_mth d 60 [.ref 1, .retAddr 13] (am_SH, I, J, Pf) (am_af sc d 47 34 [some (.ref x0)] [.retAddr 13, .ref 1] [] (am_SH, I, J, Pf) k n false P)) (q3 : (¬ (s0 = 0)) → P (.inl (some (.int 1)), (am_SH, I, J, Pf), k, n)) : am_go sc d 47 (23, [some (.ref x0)], [.int s0], (am_SH, I, J, Pf), k, n) P := by
  refine am_s_if_eq dc47_1.1.2.2 rfl (fun c1 => ?_) (fun c1 => ?_)
  · refine am_s_aload_n rfl dc47_1.2.2.1 ?_
    refine am_s_getR (r := 1) dc47_1.2.2.2 rfl hx0 rfl (q1 c1) ?_
    refine am_s_ldcT (x := 13) dc47_2.1.1.1 rfl rfl ?_
    exact am_s_virtual false dc47_2.1.1.2 rfl (by decide) rfl rfl rfl (q2 c1)
  · refine am_s_iconst am_cc1 dc47_1.2.1.1 ?_
    exact am_s_ireturn dc47_1.2.1.2 rfl (q3 c1)
theorem t47_37 {sc : Option (Nat × (Nat → Int32))} {d k n : Nat} {P : am_O → Prop} {I : am_I} {J : am_J} {Pf : am_R} (hp : am_PF Pf) {x0 : Nat} (hx0 : am_SH[x0]? = some (.inl 2)) {s0 : Int32} (q1 : (s0 = 0) → Pf x0 4 = some 1) (q2 : (s0 = 0) → am_mth d 60 [.ref 1, .retAddr 14] (am_SH, I, J, Pf) (am_af sc d 47 48 [some (.ref x0)] [.retAddr 14, .ref 1] [] (am_SH, I, J, Pf) k n false P)) (q3 : (¬ (s0 = 0)) → P (.inl (some (.int 2)), (am_SH, I, J, Pf), k, n)) : am_go sc d 47 (37, [some (.ref x0)], [.int s0], (am_SH, I, J, Pf), k, n) P := by
  refine am_s_if_eq dc47_2.1.2.1 rfl (fun c1 => ?_) (fun c1 => ?_)
  · refine am_s_aload_n rfl dc47_2.2.1.2 ?_
    refine am_s_getR (r := 1) dc47_2.2.2.1 rfl hx0 rfl (q1 c1) ?_
    refine am_s_ldcT (x := 14) dc47_2.2.2.2 rfl rfl ?_
    exact am_s_virtual false dc47_3.1.1.1 rfl (by decide) rfl rfl rfl (q2 c1)
  · refine am_s_iconst am_cc2 dc47_2.1.2.2 ?_
    exact am_s_ireturn dc47_2.2.1.1 rfl (q3 c1)
theorem t47_51 {sc : Option (Nat × (Nat → Int32))} {d k n : Nat} {P : am_O → Prop} {I : am_I} {J : am_J} {Pf : am_R} (hp : am_PF Pf) {x0 : Nat} (hx0 : am_SH[x0]? = some (.inl 2)) {s0 : Int32} (q1 : (s0 = 0) → Pf x0 4 = some 1) (q2 : (s0 = 0) → am_mth d 60 [.ref 1, .retAddr 15] (am_SH, I, J, Pf) (am_af sc d 47 62 [some (.ref x0)] [.retAddr 15, .ref 1] [] (am_SH, I, J, Pf) k n false P)) (q3 : (¬ (s0 = 0)) → P (.inl (some (.int 3)), (am_SH, I, J, Pf), k, n)) : am_go sc d 47 (51, [some (.ref x0)], [.int s0], (am_SH, I, J, Pf), k, n) P := by
  refine am_s_if_eq dc47_3.1.1.2 rfl (fun c1 => ?_) (fun c1 => ?_)
  · refine am_s_aload_n rfl dc47_3.2.1.1 ?_
    refine am_s_getR (r := 1) dc47_3.2.1.2 rfl hx0 rfl (q1 c1) ?_
    refine am_s_ldcT (x := 15) dc47_3.2.2.1 rfl rfl ?_
    exact am_s_virtual false dc47_3.2.2.2 rfl (by decide) rfl rfl rfl (q2 c1)
  · refine am_s_iconst am_cc3 dc47_3.1.2.1 ?_
    exact am_s_ireturn dc47_3.1.2.2 rfl (q3 c1)
theorem t47_65 {sc : Option (Nat × (Nat → Int32))} {d k n : Nat} {P : am_O → Prop} {I : am_I} {J : am_J} {Pf : am_R} (hp : am_PF Pf) {x0 : Nat} (hx0 : am_SH[x0]? = some (.inl 2)) {s0 : Int32} (q1 : (s0 = 0) → Pf x0 4 = some 1) (q2 : (s0 = 0) → am_mth d 60 [.ref 1, .retAddr 16] (am_SH, I, J, Pf) (am_af sc d 47 76 [some (.ref x0)] [.retAddr 16, .ref 1] [] (am_SH, I, J, Pf) k n false P)) (q3 : (¬ (s0 = 0)) → P (.inl (some (.int 4)), (am_SH, I, J, Pf), k, n)) : am_go sc d 47 (65, [some (.ref x0)], [.int s0], (am_SH, I, J, Pf), k, n) P := by
  refine am_s_if_eq dc47_4.1.1.1 rfl (fun c1 => ?_) (fun c1 => ?_)
  · refine am_s_aload_n rfl dc47_4.1.2.2 ?_
    refine am_s_getR (r := 1) dc47_4.2.1.1 rfl hx0 rfl (q1 c1) ?_
    refine am_s_ldcT (x := 16) dc47_4.2.1.2 rfl rfl ?_
    exact am_s_virtual false dc47_4.2.2.1 rfl (by decide) rfl rfl rfl (q2 c1)
  · refine am_s_iconst am_cc4 dc47_4.1.1.2 ?_
    exact am_s_ireturn dc47_4.1.2.1 rfl (q3 c1)
theorem t47_79 {sc : Option (Nat × (Nat → Int32))} {d k n : Nat} {P : am_O → Prop} {I : am_I} {J : am_J} {Pf : am_R} (hp : am_PF Pf) {l0 : Option Value} {s0 : Int32} (q1 : (s0 = 0) → P (.inl (some (.int (-1))), (am_SH, I, J, Pf), k, n)) (q2 : (¬ (s0 = 0)) → P (.inl (some (.int 5)), (am_SH, I, J, Pf), k, n)) : am_go sc d 47 (79, [l0], [.int s0], (am_SH, I, J, Pf), k, n) P := by
  refine am_s_if_eq dc47_4.2.2.2 rfl (fun c1 => ?_) (fun c1 => ?_)
  · refine am_s_iconst am_ccm1 dc47_5.2.1 ?_
    exact am_s_ireturn dc47_5.2.2 rfl (q1 c1)
  · refine am_s_iconst am_cc5 dc47_5.1.1 ?_
    refine am_s_goto rfl dc47_5.1.2 ?_
    exact am_s_ireturn dc47_5.2.2 rfl (q2 c1)
-- valueFor (LPrunedParses$Tree;I)I
theorem dc48_0 : (((decode (am_by 48) 0 = .ok (.iconst 0, 1)) ∧ (decode (am_by 48) 1 = .ok (.istore_n 3, 1))) ∧ ((decode (am_by 48) 2 = .ok (.iconst 0, 1)) ∧ (decode (am_by 48) 3 = .ok (.istore 4, 2)))) ∧ (((decode (am_by 48) 5 = .ok (.iload 4, 2)) ∧ (decode (am_by 48) 7 = .ok (.aload_n 0, 1))) ∧ ((decode (am_by 48) 8 = .ok (.getfield 24, 3)) ∧ (decode (am_by 48) 11 = .ok (.if_icmp .ge 114, 3)))) := by decide +kernel
theorem dc48_1 : (((decode (am_by 48) 14 = .ok (.aload_n 0, 1)) ∧ (decode (am_by 48) 15 = .ok (.getfield 9, 3))) ∧ ((decode (am_by 48) 18 = .ok (.iload 4, 2)) ∧ (decode (am_by 48) 20 = .ok (.iaload, 1)))) ∧ (((decode (am_by 48) 21 = .ok (.istore 5, 2)) ∧ (decode (am_by 48) 23 = .ok (.iload 5, 2))) ∧ ((decode (am_by 48) 25 = .ok (.ifCond .eq 9, 3)) ∧ (decode (am_by 48) 28 = .ok (.iload 5, 2)))) := by decide +kernel
theorem dc48_2 : (((decode (am_by 48) 30 = .ok (.iconst 1, 1)) ∧ (decode (am_by 48) 31 = .ok (.if_icmp .ne 51, 3))) ∧ ((decode (am_by 48) 34 = .ok (.iload_n 3, 1)) ∧ (decode (am_by 48) 35 = .ok (.sipush 150, 3)))) ∧ (((decode (am_by 48) 38 = .ok (.if_icmp .lt 5, 3)) ∧ (decode (am_by 48) 41 = .ok (.iconst 0, 1))) ∧ ((decode (am_by 48) 42 = .ok (.ireturn, 1)) ∧ (decode (am_by 48) 43 = .ok (.aload_n 0, 1)))) := by decide +kernel
theorem dc48_3 : (((decode (am_by 48) 44 = .ok (.getfield 18, 3)) ∧ (decode (am_by 48) 47 = .ok (.iload_n 3, 1))) ∧ ((decode (am_by 48) 48 = .ok (.iload 5, 2)) ∧ (decode (am_by 48) 50 = .ok (.ifCond .ne 13, 3)))) ∧ (((decode (am_by 48) 53 = .ok (.aload_n 0, 1)) ∧ (decode (am_by 48) 54 = .ok (.getfield 15, 3))) ∧ ((decode (am_by 48) 57 = .ok (.iload 4, 2)) ∧ (decode (am_by 48) 59 = .ok (.iaload, 1)))) := by decide +kernel
theorem dc48_4 : (((decode (am_by 48) 60 = .ok (.goto 15, 3)) ∧ (decode (am_by 48) 63 = .ok (.aload_n 1, 1))) ∧ ((decode (am_by 48) 64 = .ok (.iload_n 2, 1)) ∧ (decode (am_by 48) 65 = .ok (.aload_n 0, 1)))) ∧ (((decode (am_by 48) 66 = .ok (.getfield 15, 3)) ∧ (decode (am_by 48) 69 = .ok (.iload 4, 2))) ∧ ((decode (am_by 48) 71 = .ok (.iaload, 1)) ∧ (decode (am_by 48) 72 = .ok (.invokevirtual 111, 3)))) := by decide +kernel
theorem dc48_5 : (((decode (am_by 48) 75 = .ok (.iastore, 1)) ∧ (decode (am_by 48) 76 = .ok (.iinc 3 1, 3))) ∧ ((decode (am_by 48) 79 = .ok (.goto 40, 3)) ∧ (decode (am_by 48) 82 = .ok (.iload_n 3, 1)))) ∧ (((decode (am_by 48) 83 = .ok (.iconst 2, 1)) ∧ (decode (am_by 48) 84 = .ok (.if_icmp .ge 5, 3))) ∧ ((decode (am_by 48) 87 = .ok (.iconst 0, 1)) ∧ (decode (am_by 48) 88 = .ok (.ireturn, 1)))) := by decide +kernel
theorem dc48_6 : (((decode (am_by 48) 89 = .ok (.iinc 3 (-1), 3)) ∧ (decode (am_by 48) 92 = .ok (.aload_n 0, 1))) ∧ ((decode (am_by 48) 93 = .ok (.getfield 18, 3)) ∧ (decode (am_by 48) 96 = .ok (.iload_n 3, 1)))) ∧ (((decode (am_by 48) 97 = .ok (.iconst 1, 1)) ∧ (decode (am_by 48) 98 = .ok (.isub, 1))) ∧ ((decode (am_by 48) 99 = .ok (.iload 5, 2)) ∧ (decode (am_by 48) 101 = .ok (.aload_n 0, 1)))) := by decide +kernel
theorem dc48_7 : (((decode (am_by 48) 102 = .ok (.getfield 18, 3)) ∧ (decode (am_by 48) 105 = .ok (.iload_n 3, 1))) ∧ ((decode (am_by 48) 106 = .ok (.iconst 1, 1)) ∧ (decode (am_by 48) 107 = .ok (.isub, 1)))) ∧ (((decode (am_by 48) 108 = .ok (.iaload, 1)) ∧ (decode (am_by 48) 109 = .ok (.aload_n 0, 1))) ∧ ((decode (am_by 48) 110 = .ok (.getfield 18, 3)) ∧ (decode (am_by 48) 113 = .ok (.iload_n 3, 1)))) := by decide +kernel
theorem dc48_8 : (((decode (am_by 48) 114 = .ok (.iaload, 1)) ∧ (decode (am_by 48) 115 = .ok (.invokestatic 117, 3))) ∧ ((decode (am_by 48) 118 = .ok (.iastore, 1)) ∧ (decode (am_by 48) 119 = .ok (.iinc 4 1, 3)))) ∧ (((decode (am_by 48) 122 = .ok (.goto (-117), 3)) ∧ (decode (am_by 48) 125 = .ok (.aload_n 0, 1))) ∧ ((decode (am_by 48) 126 = .ok (.getfield 18, 3)) ∧ (decode (am_by 48) 129 = .ok (.iconst 0, 1)))) := by decide +kernel
theorem dc48_9 : (decode (am_by 48) 130 = .ok (.iaload, 1)) ∧ (decode (am_by 48) 131 = .ok (.ireturn, 1)) := by decide +kernel
theorem t48_0 {sc : Option (Nat × (Nat → Int32))} {d k n : Nat} {P : am_O → Prop} {I : am_I} {J : am_J} {Pf : am_R} (hp : am_PF Pf) {x0 : Nat} (hx0 : am_SH[x0]? = some (.inl 2)) {x2 : Int32} {l3 : Option Value} {l4 : Option Value} {l5 : Option Value} (q1 : am_go sc d 48 (5, [some (.ref x0), some (.ref 145), some (.int x2), some (.int 0), some (.int 0), l5], [], (am_SH, I, J, Pf), k, n) P) : am_go sc d 48 (0, [some (.ref x0), some (.ref 145), some (.int x2), l3, l4, l5], [], (am_SH, I, J, Pf), k, n) P := by
  refine am_s_iconst am_cc0 dc48_0.1.1.1 ?_
  refine am_s_istore_n (ls' := [some (.ref x0), some (.ref 145), some (.int x2), some (.int 0), l4, l5]) rfl rfl dc48_0.1.1.2 ?_
  refine am_s_iconst am_cc0 dc48_0.1.2.1 ?_
  refine am_s_istore (ls' := [some (.ref x0), some (.ref 145), some (.int x2), some (.int 0), some (.int 0), l5]) rfl rfl dc48_0.1.2.2 ?_
  exact q1
theorem t48_5 {sc : Option (Nat × (Nat → Int32))} {d k n : Nat} {P : am_O → Prop} {I : am_I} {J : am_J} {Pf : am_R} (hp : am_PF Pf) {x0 : Nat} (hx0 : am_SH[x0]? = some (.inl 2)) {x2 : Int32} {x3 : Int32} {x4 : Int32} {l5 : Option Value} (q1 : ((I x0 2) ≤ x4) → P (.inl (some (.int (I (x0 + 3) 0))), (am_SH, I, J, Pf), k, n)) (q2 : (¬ ((I x0 2) ≤ x4)) → am_in x4 150 = true) (q3 : (¬ ((I x0 2) ≤ x4)) → ((I (x0 + 1) (Int32.toNatClampNeg x4)) = 0) → (x3 < 150) → (¬ (I (x0 + 1) (Int32.toNatClampNeg x4)) = 0) → am_in x4 150 = true) (q4 : (¬ ((I x0 2) ≤ x4)) → ((I (x0 + 1) (Int32.toNatClampNeg x4)) = 0) → (x3 < 150) → (¬ (I (x0 + 1) (Int32.toNatClampNeg x4)) = 0) → am_mth d 137 [.ref 145, .int x2, .int (I (x0 + 2) (Int32.toNatClampNeg x4))] (am_SH, I, J, Pf) (am_af sc d 48 72 [some (.ref x0), some (.ref 145), some (.int x2), some (.int x3), some (.int x4), some (.int (I (x0 + 1) (Int32.toNatClampNeg x4)))] [.int (I (x0 + 2) (Int32.toNatClampNeg x4)), .int x2, .ref 145, .int x3, .ref (x0 + 3)] [.int x3, .ref (x0 + 3)] (am_SH, I, J, Pf) k n false P)) (q5 : (¬ ((I x0 2) ≤ x4)) → ((I (x0 + 1) (Int32.toNatClampNeg x4)) = 0) → (x3 < 150) → (¬ (¬ (I (x0 + 1) (Int32.toNatClampNeg x4)) = 0)) → am_in x4 150 = true) (q6 : (¬ ((I x0 2) ≤ x4)) → ((I (x0 + 1) (Int32.toNatClampNeg x4)) = 0) → (x3 < 150) → (¬ (¬ (I (x0 + 1) (Int32.toNatClampNeg x4)) = 0)) → am_in x3 150 = true) (q7 : (¬ ((I x0 2) ≤ x4)) → ((I (x0 + 1) (Int32.toNatClampNeg x4)) = 0) → (x3 < 150) → (¬ (¬ (I (x0 + 1) (Int32.toNatClampNeg x4)) = 0)) → am_go sc d 48 (5, [some (.ref x0), some (.ref 145), some (.int x2), some (.int (x3 + 1)), some (.int (x4 + 1)), some (.int (I (x0 + 1) (Int32.toNatClampNeg x4)))], [], (am_SH, am_u I (x0 + 3) (Int32.toNatClampNeg x3) (I (x0 + 2) (Int32.toNatClampNeg x4)), J, Pf), k, n) P) (q8 : (¬ ((I x0 2) ≤ x4)) → ((I (x0 + 1) (Int32.toNatClampNeg x4)) = 0) → (¬ (x3 < 150)) → P (.inl (some (.int 0)), (am_SH, I, J, Pf), k, n)) (q9 : (¬ ((I x0 2) ≤ x4)) → (¬ ((I (x0 + 1) (Int32.toNatClampNeg x4)) = 0)) → (¬ (I (x0 + 1) (Int32.toNatClampNeg x4)) = 1) → (2 ≤ x3) → am_in ((x3 + (-1)) - 1) 150 = true) (q10 : (¬ ((I x0 2) ≤ x4)) → (¬ ((I (x0 + 1) (Int32.toNatClampNeg x4)) = 0)) → (¬ (I (x0 + 1) (Int32.toNatClampNeg x4)) = 1) → (2 ≤ x3) → am_in (x3 + (-1)) 150 = true) (q11 : (¬ ((I x0 2) ≤ x4)) → (¬ ((I (x0 + 1) (Int32.toNatClampNeg x4)) = 0)) → (¬ (I (x0 + 1) (Int32.toNatClampNeg x4)) = 1) → (2 ≤ x3) → am_mth d 49 [.int (I (x0 + 1) (Int32.toNatClampNeg x4)), .int (I (x0 + 3) (Int32.toNatClampNeg ((x3 + (-1)) - 1))), .int (I (x0 + 3) (Int32.toNatClampNeg (x3 + (-1))))] (am_SH, I, J, Pf) (am_af sc d 48 115 [some (.ref x0), some (.ref 145), some (.int x2), some (.int (x3 + (-1))), some (.int x4), some (.int (I (x0 + 1) (Int32.toNatClampNeg x4)))] [.int (I (x0 + 3) (Int32.toNatClampNeg (x3 + (-1)))), .int (I (x0 + 3) (Int32.toNatClampNeg ((x3 + (-1)) - 1))), .int (I (x0 + 1) (Int32.toNatClampNeg x4)), .int ((x3 + (-1)) - 1), .ref (x0 + 3)] [.int ((x3 + (-1)) - 1), .ref (x0 + 3)] (am_SH, I, J, Pf) k n false P)) (q12 : (¬ ((I x0 2) ≤ x4)) → (¬ ((I (x0 + 1) (Int32.toNatClampNeg x4)) = 0)) → (¬ (I (x0 + 1) (Int32.toNatClampNeg x4)) = 1) → (¬ (2 ≤ x3)) → P (.inl (some (.int 0)), (am_SH, I, J, Pf), k, n)) (q13 : (¬ ((I x0 2) ≤ x4)) → (¬ ((I (x0 + 1) (Int32.toNatClampNeg x4)) = 0)) → (¬ (¬ (I (x0 + 1) (Int32.toNatClampNeg x4)) = 1)) → (x3 < 150) → (¬ (I (x0 + 1) (Int32.toNatClampNeg x4)) = 0) → am_in x4 150 = true) (q14 : (¬ ((I x0 2) ≤ x4)) → (¬ ((I (x0 + 1) (Int32.toNatClampNeg x4)) = 0)) → (¬ (¬ (I (x0 + 1) (Int32.toNatClampNeg x4)) = 1)) → (x3 < 150) → (¬ (I (x0 + 1) (Int32.toNatClampNeg x4)) = 0) → am_mth d 137 [.ref 145, .int x2, .int (I (x0 + 2) (Int32.toNatClampNeg x4))] (am_SH, I, J, Pf) (am_af sc d 48 72 [some (.ref x0), some (.ref 145), some (.int x2), some (.int x3), some (.int x4), some (.int (I (x0 + 1) (Int32.toNatClampNeg x4)))] [.int (I (x0 + 2) (Int32.toNatClampNeg x4)), .int x2, .ref 145, .int x3, .ref (x0 + 3)] [.int x3, .ref (x0 + 3)] (am_SH, I, J, Pf) k n false P)) (q15 : (¬ ((I x0 2) ≤ x4)) → (¬ ((I (x0 + 1) (Int32.toNatClampNeg x4)) = 0)) → (¬ (¬ (I (x0 + 1) (Int32.toNatClampNeg x4)) = 1)) → (x3 < 150) → (¬ (¬ (I (x0 + 1) (Int32.toNatClampNeg x4)) = 0)) → am_in x4 150 = true) (q16 : (¬ ((I x0 2) ≤ x4)) → (¬ ((I (x0 + 1) (Int32.toNatClampNeg x4)) = 0)) → (¬ (¬ (I (x0 + 1) (Int32.toNatClampNeg x4)) = 1)) → (x3 < 150) → (¬ (¬ (I (x0 + 1) (Int32.toNatClampNeg x4)) = 0)) → am_in x3 150 = true) (q17 : (¬ ((I x0 2) ≤ x4)) → (¬ ((I (x0 + 1) (Int32.toNatClampNeg x4)) = 0)) → (¬ (¬ (I (x0 + 1) (Int32.toNatClampNeg x4)) = 1)) → (x3 < 150) → (¬ (¬ (I (x0 + 1) (Int32.toNatClampNeg x4)) = 0)) → am_go sc d 48 (5, [some (.ref x0), some (.ref 145), some (.int x2), some (.int (x3 + 1)), some (.int (x4 + 1)), some (.int (I (x0 + 1) (Int32.toNatClampNeg x4)))], [], (am_SH, am_u I (x0 + 3) (Int32.toNatClampNeg x3) (I (x0 + 2) (Int32.toNatClampNeg x4)), J, Pf), k, n) P) (q18 : (¬ ((I x0 2) ≤ x4)) → (¬ ((I (x0 + 1) (Int32.toNatClampNeg x4)) = 0)) → (¬ (¬ (I (x0 + 1) (Int32.toNatClampNeg x4)) = 1)) → (¬ (x3 < 150)) → P (.inl (some (.int 0)), (am_SH, I, J, Pf), k, n)) : am_go sc d 48 (5, [some (.ref x0), some (.ref 145), some (.int x2), some (.int x3), some (.int x4), l5], [], (am_SH, I, J, Pf), k, n) P := by
  refine am_s_iload rfl dc48_0.2.1.1 ?_
  refine am_s_aload_n rfl dc48_0.2.1.2 ?_
  refine am_x_getI (x := I x0 2) dc48_0.2.2.1 rfl hx0 (Or.inl rfl) rfl ?_
  refine am_s_ic_ge dc48_0.2.2.2 rfl (fun c1 => ?_) (fun c1 => ?_)
  · refine am_s_aload_n rfl dc48_8.2.1.2 ?_
    refine am_s_getR (r := x0 + 3) dc48_8.2.2.1 rfl hx0 rfl (am_r2_3 hp hx0) ?_
    refine am_s_iconst am_cc0 dc48_8.2.2.2 ?_
    refine am_x_iaload (x := I (x0 + 3) 0) dc48_9.1 (am_h2_3 hx0) (by decide +kernel) am_cN0 rfl ?_
    exact am_s_ireturn dc48_9.2 rfl (q1 c1)
  · refine am_s_aload_n rfl dc48_1.1.1.1 ?_
    refine am_s_getR (r := x0 + 1) dc48_1.1.1.2 rfl hx0 rfl (am_r2_0 hp hx0) ?_
    refine am_s_iload rfl dc48_1.1.2.1 ?_
    refine am_x_iaload (x := I (x0 + 1) (Int32.toNatClampNeg x4)) dc48_1.1.2.2 (am_h2_0 hx0) (q2 c1) rfl rfl ?_
    refine am_s_istore (ls' := [some (.ref x0), some (.ref 145), some (.int x2), some (.int x3), some (.int x4), some (.int (I (x0 + 1) (Int32.toNatClampNeg x4)))]) rfl rfl dc48_1.2.1.1 ?_
    refine am_s_iload rfl dc48_1.2.1.2 ?_
    refine am_s_if_eq dc48_1.2.2.1 rfl (fun c2 => ?_) (fun c2 => ?_)
    · refine am_s_iload_n rfl dc48_2.1.2.1 ?_
      refine am_s_sipush am_cs150 dc48_2.1.2.2 ?_
      refine am_s_ic_lt dc48_2.2.1.1 rfl (fun c3 => ?_) (fun c3 => ?_)
      · refine am_s_aload_n rfl dc48_2.2.2.2 ?_
        refine am_s_getR (r := x0 + 3) dc48_3.1.1.1 rfl hx0 rfl (am_r2_3 hp hx0) ?_
        refine am_s_iload_n rfl dc48_3.1.1.2 ?_
        refine am_s_iload rfl dc48_3.1.2.1 ?_
        refine am_s_if_ne dc48_3.1.2.2 rfl (fun c4 => ?_) (fun c4 => ?_)
        · refine am_s_aload_n rfl dc48_4.1.1.2 ?_
          refine am_s_iload_n rfl dc48_4.1.2.1 ?_
          refine am_s_aload_n rfl dc48_4.1.2.2 ?_
          refine am_s_getR (r := x0 + 2) dc48_4.2.1.1 rfl hx0 rfl (am_r2_1 hp hx0) ?_
          refine am_s_iload rfl dc48_4.2.1.2 ?_
          refine am_x_iaload (x := I (x0 + 2) (Int32.toNatClampNeg x4)) dc48_4.2.2.1 (am_h2_1 hx0) (q3 c1 c2 c3 c4) rfl rfl ?_
          exact am_s_virtual false dc48_4.2.2.2 rfl (by decide) rfl rfl rfl (q4 c1 c2 c3 c4)
        · refine am_s_aload_n rfl dc48_3.2.1.1 ?_
          refine am_s_getR (r := x0 + 2) dc48_3.2.1.2 rfl hx0 rfl (am_r2_1 hp hx0) ?_
          refine am_s_iload rfl dc48_3.2.2.1 ?_
          refine am_x_iaload (x := I (x0 + 2) (Int32.toNatClampNeg x4)) dc48_3.2.2.2 (am_h2_1 hx0) (q5 c1 c2 c3 c4) rfl rfl ?_
          refine am_s_goto rfl dc48_4.1.1.1 ?_
          refine am_s_iastore dc48_5.1.1.1 (am_h2_3 hx0) (q6 c1 c2 c3 c4) rfl ?_
          refine am_s_iinc (ls' := [some (.ref x0), some (.ref 145), some (.int x2), some (.int (x3 + 1)), some (.int x4), some (.int (I (x0 + 1) (Int32.toNatClampNeg x4)))]) am_cc1 rfl rfl dc48_5.1.1.2 ?_
          refine am_s_goto rfl dc48_5.1.2.1 ?_
          refine am_s_iinc (ls' := [some (.ref x0), some (.ref 145), some (.int x2), some (.int (x3 + 1)), some (.int (x4 + 1)), some (.int (I (x0 + 1) (Int32.toNatClampNeg x4)))]) am_cc1 rfl rfl dc48_8.1.2.2 ?_
          refine am_s_goto rfl dc48_8.2.1.1 ?_
          exact q7 c1 c2 c3 c4
      · refine am_s_iconst am_cc0 dc48_2.2.1.2 ?_
        exact am_s_ireturn dc48_2.2.2.1 rfl (q8 c1 c2 c3)
    · refine am_s_iload rfl dc48_1.2.2.2 ?_
      refine am_s_iconst am_cc1 dc48_2.1.1.1 ?_
      refine am_s_ic_ne dc48_2.1.1.2 rfl (fun c3 => ?_) (fun c3 => ?_)
      · refine am_s_iload_n rfl dc48_5.1.2.2 ?_
        refine am_s_iconst am_cc2 dc48_5.2.1.1 ?_
        refine am_s_ic_ge dc48_5.2.1.2 rfl (fun c4 => ?_) (fun c4 => ?_)
        · refine am_s_iinc (ls' := [some (.ref x0), some (.ref 145), some (.int x2), some (.int (x3 + (-1))), some (.int x4), some (.int (I (x0 + 1) (Int32.toNatClampNeg x4)))]) am_ccm1 rfl rfl dc48_6.1.1.1 ?_
          refine am_s_aload_n rfl dc48_6.1.1.2 ?_
          refine am_s_getR (r := x0 + 3) dc48_6.1.2.1 rfl hx0 rfl (am_r2_3 hp hx0) ?_
          refine am_s_iload_n rfl dc48_6.1.2.2 ?_
          refine am_s_iconst am_cc1 dc48_6.2.1.1 ?_
          refine am_s_isub dc48_6.2.1.2 ?_
          refine am_s_iload rfl dc48_6.2.2.1 ?_
          refine am_s_aload_n rfl dc48_6.2.2.2 ?_
          refine am_s_getR (r := x0 + 3) dc48_7.1.1.1 rfl hx0 rfl (am_r2_3 hp hx0) ?_
          refine am_s_iload_n rfl dc48_7.1.1.2 ?_
          refine am_s_iconst am_cc1 dc48_7.1.2.1 ?_
          refine am_s_isub dc48_7.1.2.2 ?_
          refine am_x_iaload (x := I (x0 + 3) (Int32.toNatClampNeg ((x3 + (-1)) - 1))) dc48_7.2.1.1 (am_h2_3 hx0) (q9 c1 c2 c3 c4) rfl rfl ?_
          refine am_s_aload_n rfl dc48_7.2.1.2 ?_
          refine am_s_getR (r := x0 + 3) dc48_7.2.2.1 rfl hx0 rfl (am_r2_3 hp hx0) ?_
          refine am_s_iload_n rfl dc48_7.2.2.2 ?_
          refine am_x_iaload (x := I (x0 + 3) (Int32.toNatClampNeg (x3 + (-1)))) dc48_8.1.1.1 (am_h2_3 hx0) (q10 c1 c2 c3 c4) rfl rfl ?_
          exact am_s_static dc48_8.1.1.2 rfl rfl rfl (q11 c1 c2 c3 c4)
        · refine am_s_iconst am_cc0 dc48_5.2.2.1 ?_
          exact am_s_ireturn dc48_5.2.2.2 rfl (q12 c1 c2 c3 c4)
      · refine am_s_iload_n rfl dc48_2.1.2.1 ?_
        refine am_s_sipush am_cs150 dc48_2.1.2.2 ?_
        refine am_s_ic_lt dc48_2.2.1.1 rfl (fun c4 => ?_) (fun c4 => ?_)
        · refine am_s_aload_n rfl dc48_2.2.2.2 ?_
          refine am_s_getR (r := x0 + 3) dc48_3.1.1.1 rfl hx0 rfl (am_r2_3 hp hx0) ?_
          refine am_s_iload_n rfl dc48_3.1.1.2 ?_
          refine am_s_iload rfl dc48_3.1.2.1 ?_
          refine am_s_if_ne dc48_3.1.2.2 rfl (fun c5 => ?_) (fun c5 => ?_)
          · refine am_s_aload_n rfl dc48_4.1.1.2 ?_
            refine am_s_iload_n rfl dc48_4.1.2.1 ?_
            refine am_s_aload_n rfl dc48_4.1.2.2 ?_
            refine am_s_getR (r := x0 + 2) dc48_4.2.1.1 rfl hx0 rfl (am_r2_1 hp hx0) ?_
            refine am_s_iload rfl dc48_4.2.1.2 ?_
            refine am_x_iaload (x := I (x0 + 2) (Int32.toNatClampNeg x4)) dc48_4.2.2.1 (am_h2_1 hx0) (q13 c1 c2 c3 c4 c5) rfl rfl ?_
            exact am_s_virtual false dc48_4.2.2.2 rfl (by decide) rfl rfl rfl (q14 c1 c2 c3 c4 c5)
          · refine am_s_aload_n rfl dc48_3.2.1.1 ?_
            refine am_s_getR (r := x0 + 2) dc48_3.2.1.2 rfl hx0 rfl (am_r2_1 hp hx0) ?_
            refine am_s_iload rfl dc48_3.2.2.1 ?_
            refine am_x_iaload (x := I (x0 + 2) (Int32.toNatClampNeg x4)) dc48_3.2.2.2 (am_h2_1 hx0) (q15 c1 c2 c3 c4 c5) rfl rfl ?_
            refine am_s_goto rfl dc48_4.1.1.1 ?_
            refine am_s_iastore dc48_5.1.1.1 (am_h2_3 hx0) (q16 c1 c2 c3 c4 c5) rfl ?_
            refine am_s_iinc (ls' := [some (.ref x0), some (.ref 145), some (.int x2), some (.int (x3 + 1)), some (.int x4), some (.int (I (x0 + 1) (Int32.toNatClampNeg x4)))]) am_cc1 rfl rfl dc48_5.1.1.2 ?_
            refine am_s_goto rfl dc48_5.1.2.1 ?_
            refine am_s_iinc (ls' := [some (.ref x0), some (.ref 145), some (.int x2), some (.int (x3 + 1)), some (.int (x4 + 1)), some (.int (I (x0 + 1) (Int32.toNatClampNeg x4)))]) am_cc1 rfl rfl dc48_8.1.2.2 ?_
            refine am_s_goto rfl dc48_8.2.1.1 ?_
            exact q17 c1 c2 c3 c4 c5
        · refine am_s_iconst am_cc0 dc48_2.2.1.2 ?_
          exact am_s_ireturn dc48_2.2.2.1 rfl (q18 c1 c2 c3 c4)
theorem t48_75 {sc : Option (Nat × (Nat → Int32))} {d k n : Nat} {P : am_O → Prop} {I : am_I} {J : am_J} {Pf : am_R} (hp : am_PF Pf) {x0 : Nat} (hx0 : am_SH[x0]? = some (.inl 2)) {x2 : Int32} {x3 : Int32} {x4 : Int32} {l5 : Option Value} {s0 : Nat} (hs0 : am_SH[s0]? = some (.inr (0, 150))) {s1 : Int32} {s2 : Int32} (q1 : am_in s1 150 = true) (q2 : am_go sc d 48 (5, [some (.ref x0), some (.ref 145), some (.int x2), some (.int (x3 + 1)), some (.int (x4 + 1)), l5], [], (am_SH, am_u I s0 (Int32.toNatClampNeg s1) s2, J, Pf), k, n) P) : am_go sc d 48 (75, [some (.ref x0), some (.ref 145), some (.int x2), some (.int x3), some (.int x4), l5], [.int s2, .int s1, .ref s0], (am_SH, I, J, Pf), k, n) P := by
  refine am_s_iastore dc48_5.1.1.1 hs0 (q1) rfl ?_
  refine am_s_iinc (ls' := [some (.ref x0), some (.ref 145), some (.int x2), some (.int (x3 + 1)), some (.int x4), l5]) am_cc1 rfl rfl dc48_5.1.1.2 ?_
  refine am_s_goto rfl dc48_5.1.2.1 ?_
  refine am_s_iinc (ls' := [some (.ref x0), some (.ref 145), some (.int x2), some (.int (x3 + 1)), some (.int (x4 + 1)), l5]) am_cc1 rfl rfl dc48_8.1.2.2 ?_
  refine am_s_goto rfl dc48_8.2.1.1 ?_
  exact q2
theorem t48_118 {sc : Option (Nat × (Nat → Int32))} {d k n : Nat} {P : am_O → Prop} {I : am_I} {J : am_J} {Pf : am_R} (hp : am_PF Pf) {x0 : Nat} (hx0 : am_SH[x0]? = some (.inl 2)) {x2 : Int32} {x3 : Int32} {x4 : Int32} {l5 : Option Value} {s0 : Nat} (hs0 : am_SH[s0]? = some (.inr (0, 150))) {s1 : Int32} {s2 : Int32} (q1 : am_in s1 150 = true) (q2 : am_go sc d 48 (5, [some (.ref x0), some (.ref 145), some (.int x2), some (.int x3), some (.int (x4 + 1)), l5], [], (am_SH, am_u I s0 (Int32.toNatClampNeg s1) s2, J, Pf), k, n) P) : am_go sc d 48 (118, [some (.ref x0), some (.ref 145), some (.int x2), some (.int x3), some (.int x4), l5], [.int s2, .int s1, .ref s0], (am_SH, I, J, Pf), k, n) P := by
  refine am_s_iastore dc48_8.1.2.1 hs0 (q1) rfl ?_
  refine am_s_iinc (ls' := [some (.ref x0), some (.ref 145), some (.int x2), some (.int x3), some (.int (x4 + 1)), l5]) am_cc1 rfl rfl dc48_8.1.2.2 ?_
  refine am_s_goto rfl dc48_8.2.1.1 ?_
  exact q2
-- combine (III)I
theorem dc49_0 : (((decode (am_by 49) 0 = .ok (.iload_n 0, 1)) ∧ (decode (am_by 49) 1 = .ok (.lookupswitch 101 #[(2, 95), (37, 83), (42, 67), (43, 59), (45, 63), (47, 71)], 59))) ∧ ((decode (am_by 49) 60 = .ok (.iload_n 1, 1)) ∧ (decode (am_by 49) 61 = .ok (.iload_n 2, 1)))) ∧ (((decode (am_by 49) 62 = .ok (.iadd, 1)) ∧ (decode (am_by 49) 63 = .ok (.ireturn, 1))) ∧ ((decode (am_by 49) 64 = .ok (.iload_n 1, 1)) ∧ (decode (am_by 49) 65 = .ok (.iload_n 2, 1)))) := by decide +kernel
theorem dc49_1 : (((decode (am_by 49) 66 = .ok (.isub, 1)) ∧ (decode (am_by 49) 67 = .ok (.ireturn, 1))) ∧ ((decode (am_by 49) 68 = .ok (.iload_n 1, 1)) ∧ (decode (am_by 49) 69 = .ok (.iload_n 2, 1)))) ∧ (((decode (am_by 49) 70 = .ok (.imul, 1)) ∧ (decode (am_by 49) 71 = .ok (.ireturn, 1))) ∧ ((decode (am_by 49) 72 = .ok (.iload_n 2, 1)) ∧ (decode (am_by 49) 73 = .ok (.ifCond .ne 7, 3)))) := by decide +kernel
theorem dc49_2 : (((decode (am_by 49) 76 = .ok (.iconst 0, 1)) ∧ (decode (am_by 49) 77 = .ok (.goto 6, 3))) ∧ ((decode (am_by 49) 80 = .ok (.iload_n 1, 1)) ∧ (decode (am_by 49) 81 = .ok (.iload_n 2, 1)))) ∧ (((decode (am_by 49) 82 = .ok (.idiv, 1)) ∧ (decode (am_by 49) 83 = .ok (.ireturn, 1))) ∧ ((decode (am_by 49) 84 = .ok (.iload_n 2, 1)) ∧ (decode (am_by 49) 85 = .ok (.ifCond .ne 7, 3)))) := by decide +kernel
theorem dc49_3 : (((decode (am_by 49) 88 = .ok (.iconst 0, 1)) ∧ (decode (am_by 49) 89 = .ok (.goto 6, 3))) ∧ ((decode (am_by 49) 92 = .ok (.iload_n 1, 1)) ∧ (decode (am_by 49) 93 = .ok (.iload_n 2, 1)))) ∧ (((decode (am_by 49) 94 = .ok (.irem, 1)) ∧ (decode (am_by 49) 95 = .ok (.ireturn, 1))) ∧ ((decode (am_by 49) 96 = .ok (.iload_n 1, 1)) ∧ (decode (am_by 49) 97 = .ok (.iload_n 2, 1)))) := by decide +kernel
theorem dc49_4 : ((decode (am_by 49) 98 = .ok (.invokestatic 121, 3)) ∧ ((decode (am_by 49) 101 = .ok (.ireturn, 1)) ∧ (decode (am_by 49) 102 = .ok (.iload_n 1, 1)))) ∧ ((decode (am_by 49) 103 = .ok (.iload_n 2, 1)) ∧ ((decode (am_by 49) 104 = .ok (.invokestatic 126, 3)) ∧ (decode (am_by 49) 107 = .ok (.ireturn, 1)))) := by decide +kernel
theorem t49_0 {sc : Option (Nat × (Nat → Int32))} {d k n : Nat} {P : am_O → Prop} {I : am_I} {J : am_J} {Pf : am_R} (hp : am_PF Pf) {x0 : Int32} {x1 : Int32} {x2 : Int32} (q1 : am_go sc d 49 (1, [some (.int x0), some (.int x1), some (.int x2)], [.int x0], (am_SH, I, J, Pf), k, n) P) : am_go sc d 49 (0, [some (.int x0), some (.int x1), some (.int x2)], [], (am_SH, I, J, Pf), k, n) P := by
  refine am_s_iload_n rfl dc49_0.1.1.1 ?_
  exact q1
