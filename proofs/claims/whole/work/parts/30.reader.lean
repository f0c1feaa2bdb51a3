/-! Walks: reader -/
-- put (I)V
theorem dc51_0 : (((decode (am_by 51) 0 = .ok (.bipush 24, 2)) ∧ (decode (am_by 51) 2 = .ok (.istore_n 2, 1))) ∧ ((decode (am_by 51) 3 = .ok (.iload_n 2, 1)) ∧ (decode (am_by 51) 4 = .ok (.ifCond .lt 45, 3)))) ∧ (((decode (am_by 51) 7 = .ok (.aload_n 0, 1)) ∧ (decode (am_by 51) 8 = .ok (.getfield 19, 3))) ∧ ((decode (am_by 51) 11 = .ok (.sipush 600, 3)) ∧ (decode (am_by 51) 14 = .ok (.if_icmp .ge 35, 3)))) := by decide +kernel
theorem dc51_1 : (((decode (am_by 51) 17 = .ok (.aload_n 0, 1)) ∧ (decode (am_by 51) 18 = .ok (.getfield 9, 3))) ∧ ((decode (am_by 51) 21 = .ok (.aload_n 0, 1)) ∧ (decode (am_by 51) 22 = .ok (.getfield 19, 3)))) ∧ (((decode (am_by 51) 25 = .ok (.iload_n 1, 1)) ∧ (decode (am_by 51) 26 = .ok (.iload_n 2, 1))) ∧ ((decode (am_by 51) 27 = .ok (.iushr, 1)) ∧ (decode (am_by 51) 28 = .ok (.sipush 255, 3)))) := by decide +kernel
theorem dc51_2 : (((decode (am_by 51) 31 = .ok (.iand, 1)) ∧ (decode (am_by 51) 32 = .ok (.iastore, 1))) ∧ ((decode (am_by 51) 33 = .ok (.aload_n 0, 1)) ∧ (decode (am_by 51) 34 = .ok (.dup, 1)))) ∧ (((decode (am_by 51) 35 = .ok (.getfield 19, 3)) ∧ (decode (am_by 51) 38 = .ok (.iconst 1, 1))) ∧ ((decode (am_by 51) 39 = .ok (.iadd, 1)) ∧ (decode (am_by 51) 40 = .ok (.putfield 19, 3)))) := by decide +kernel
theorem dc51_3 : (decode (am_by 51) 43 = .ok (.iinc 2 (-8), 3)) ∧ ((decode (am_by 51) 46 = .ok (.goto (-43), 3)) ∧ (decode (am_by 51) 49 = .ok (.return_, 1))) := by decide +kernel
theorem t51_0 {sc : Option (Nat × (Nat → Int32))} {d k n : Nat} {P : am_O → Prop} {I : am_I} {J : am_J} {Pf : am_R} (hp : am_PF Pf) {x1 : Int32} {l2 : Option Value} (q1 : am_go sc d 51 (3, [some (.ref 1), some (.int x1), some (.int 24)], [], (am_SH, I, J, Pf), k, n) P) : am_go sc d 51 (0, [some (.ref 1), some (.int x1), l2], [], (am_SH, I, J, Pf), k, n) P := by
  refine am_s_bipush am_cb24 dc51_0.1.1.1 ?_
  refine am_s_istore_n (ls' := [some (.ref 1), some (.int x1), some (.int 24)]) rfl rfl dc51_0.1.1.2 ?_
  exact q1
theorem t51_3 {sc : Option (Nat × (Nat → Int32))} {d k n : Nat} {P : am_O → Prop} {I : am_I} {J : am_J} {Pf : am_R} (hp : am_PF Pf) {x1 : Int32} {x2 : Int32} (q1 : (x2 < 0) → P (.inl none, (am_SH, I, J, Pf), k, n)) (q2 : (¬ (x2 < 0)) → (600 ≤ (I 1 1)) → P (.inl none, (am_SH, I, J, Pf), k, n)) (q3 : (¬ (x2 < 0)) → (¬ (600 ≤ (I 1 1))) → am_in (I 1 1) 600 = true) (q4 : (¬ (x2 < 0)) → (¬ (600 ≤ (I 1 1))) → am_go sc d 51 (3, [some (.ref 1), some (.int x1), some (.int (x2 + (-8)))], [], (am_SH, am_u (am_u I 2 (Int32.toNatClampNeg (I 1 1)) ((UInt32.toInt32 (Int32.toUInt32 x1 >>> (Int32.toUInt32 x2 &&& Int32.toUInt32 31))) &&& 255)) 1 1 ((I 1 1) + 1), J, Pf), k, n) P) : am_go sc d 51 (3, [some (.ref 1), some (.int x1), some (.int x2)], [], (am_SH, I, J, Pf), k, n) P := by
  refine am_s_iload_n rfl dc51_0.1.2.1 ?_
  refine am_s_if_lt dc51_0.1.2.2 rfl (fun c1 => ?_) (fun c1 => ?_)
  · exact am_s_return dc51_3.2.2 rfl (q1 c1)
  · refine am_s_aload_n rfl dc51_0.2.1.1 ?_
    refine am_x_getI (x := I 1 1) dc51_0.2.1.2 rfl rfl (Or.inl rfl) rfl ?_
    refine am_s_sipush am_cs600 dc51_0.2.2.1 ?_
    refine am_s_ic_ge dc51_0.2.2.2 rfl (fun c2 => ?_) (fun c2 => ?_)
    · exact am_s_return dc51_3.2.2 rfl (q2 c1 c2)
    · refine am_s_aload_n rfl dc51_1.1.1.1 ?_
      refine am_s_getR (r := 2) dc51_1.1.1.2 rfl rfl rfl (hp _ _ _ rfl) ?_
      refine am_s_aload_n rfl dc51_1.1.2.1 ?_
      refine am_x_getI (x := I 1 1) dc51_1.1.2.2 rfl rfl (Or.inl rfl) rfl ?_
      refine am_s_iload_n rfl dc51_1.2.1.1 ?_
      refine am_s_iload_n rfl dc51_1.2.1.2 ?_
      refine am_s_iushr dc51_1.2.2.1 ?_
      refine am_s_sipush am_cs255 dc51_1.2.2.2 ?_
      refine am_s_iand dc51_2.1.1.1 ?_
      refine am_s_iastore dc51_2.1.1.2 rfl (q3 c1 c2) rfl ?_
      refine am_s_aload_n rfl dc51_2.1.2.1 ?_
      refine am_s_dup rfl dc51_2.1.2.2 ?_
      refine am_x_getI (x := I 1 1) dc51_2.2.1.1 rfl rfl (Or.inl rfl) rfl ?_
      refine am_s_iconst am_cc1 dc51_2.2.1.2 ?_
      refine am_s_iadd dc51_2.2.2.1 ?_
      refine am_s_putI dc51_2.2.2.2 rfl rfl rfl rfl ?_
      refine am_s_iinc (ls' := [some (.ref 1), some (.int x1), some (.int (x2 + (-8)))]) am_ccm8 rfl rfl dc51_3.1 ?_
      refine am_s_goto rfl dc51_3.2.1 ?_
      exact q4 c1 c2
-- start (I)V
theorem dc52_0 : (((decode (am_by 52) 0 = .ok (.aload_n 0, 1)) ∧ (decode (am_by 52) 1 = .ok (.iload_n 1, 1))) ∧ ((decode (am_by 52) 2 = .ok (.putfield 22, 3)) ∧ (decode (am_by 52) 5 = .ok (.aload_n 0, 1)))) ∧ (((decode (am_by 52) 6 = .ok (.iconst 0, 1)) ∧ (decode (am_by 52) 7 = .ok (.putfield 19, 3))) ∧ ((decode (am_by 52) 10 = .ok (.aload_n 0, 1)) ∧ (decode (am_by 52) 11 = .ok (.iconst 0, 1)))) := by decide +kernel
theorem dc52_1 : (((decode (am_by 52) 12 = .ok (.putfield 25, 3)) ∧ (decode (am_by 52) 15 = .ok (.aload_n 0, 1))) ∧ ((decode (am_by 52) 16 = .ok (.iconst 0, 1)) ∧ (decode (am_by 52) 17 = .ok (.putfield 28, 3)))) ∧ (((decode (am_by 52) 20 = .ok (.aload_n 0, 1)) ∧ (decode (am_by 52) 21 = .ok (.iconst 0, 1))) ∧ ((decode (am_by 52) 22 = .ok (.putfield 31, 3)) ∧ (decode (am_by 52) 25 = .ok (.aload_n 0, 1)))) := by decide +kernel
theorem dc52_2 : (decode (am_by 52) 26 = .ok (.iconst (-1), 1)) ∧ ((decode (am_by 52) 27 = .ok (.putfield 15, 3)) ∧ (decode (am_by 52) 30 = .ok (.return_, 1))) := by decide +kernel
theorem t52_0 {sc : Option (Nat × (Nat → Int32))} {d k n : Nat} {P : am_O → Prop} {I : am_I} {J : am_J} {Pf : am_R} (hp : am_PF Pf) {x1 : Int32} (q1 : P (.inl none, (am_SH, am_u (am_u (am_u (am_u (am_u (am_u I 1 2 x1) 1 1 0) 1 3 0) 1 4 0) 1 5 0) 1 6 (-1), J, Pf), k, n)) : am_go sc d 52 (0, [some (.ref 1), some (.int x1)], [], (am_SH, I, J, Pf), k, n) P := by
  refine am_s_aload_n rfl dc52_0.1.1.1 ?_
  refine am_s_iload_n rfl dc52_0.1.1.2 ?_
  refine am_s_putI dc52_0.1.2.1 rfl rfl rfl rfl ?_
  refine am_s_aload_n rfl dc52_0.1.2.2 ?_
  refine am_s_iconst am_cc0 dc52_0.2.1.1 ?_
  refine am_s_putI dc52_0.2.1.2 rfl rfl rfl rfl ?_
  refine am_s_aload_n rfl dc52_0.2.2.1 ?_
  refine am_s_iconst am_cc0 dc52_0.2.2.2 ?_
  refine am_s_putI dc52_1.1.1.1 rfl rfl rfl rfl ?_
  refine am_s_aload_n rfl dc52_1.1.1.2 ?_
  refine am_s_iconst am_cc0 dc52_1.1.2.1 ?_
  refine am_s_putI dc52_1.1.2.2 rfl rfl rfl rfl ?_
  refine am_s_aload_n rfl dc52_1.2.1.1 ?_
  refine am_s_iconst am_cc0 dc52_1.2.1.2 ?_
  refine am_s_putI dc52_1.2.2.1 rfl rfl rfl rfl ?_
  refine am_s_aload_n rfl dc52_1.2.2.2 ?_
  refine am_s_iconst am_ccm1 dc52_2.1 ?_
  refine am_s_putI dc52_2.2.1 rfl rfl rfl rfl ?_
  exact am_s_return dc52_2.2.2 rfl (q1)
-- fail (II)Z
theorem dc53_0 : (((decode (am_by 53) 0 = .ok (.aload_n 0, 1)) ∧ (decode (am_by 53) 1 = .ok (.getfield 31, 3))) ∧ ((decode (am_by 53) 4 = .ok (.ifCond .ne 13, 3)) ∧ (decode (am_by 53) 7 = .ok (.aload_n 0, 1)))) ∧ (((decode (am_by 53) 8 = .ok (.iload_n 1, 1)) ∧ (decode (am_by 53) 9 = .ok (.putfield 31, 3))) ∧ ((decode (am_by 53) 12 = .ok (.aload_n 0, 1)) ∧ (decode (am_by 53) 13 = .ok (.iload_n 2, 1)))) := by decide +kernel
theorem dc53_1 : (decode (am_by 53) 14 = .ok (.putfield 15, 3)) ∧ ((decode (am_by 53) 17 = .ok (.iconst 0, 1)) ∧ (decode (am_by 53) 18 = .ok (.ireturn, 1))) := by decide +kernel
theorem t53_0 {sc : Option (Nat × (Nat → Int32))} {d k n : Nat} {P : am_O → Prop} {I : am_I} {J : am_J} {Pf : am_R} (hp : am_PF Pf) {x1 : Int32} {x2 : Int32} (q1 : (¬ (I 1 5) = 0) → P (.inl (some (.int 0)), (am_SH, I, J, Pf), k, n)) (q2 : (¬ (¬ (I 1 5) = 0)) → P (.inl (some (.int 0)), (am_SH, am_u (am_u I 1 5 x1) 1 6 x2, J, Pf), k, n)) : am_go sc d 53 (0, [some (.ref 1), some (.int x1), some (.int x2)], [], (am_SH, I, J, Pf), k, n) P := by
  refine am_s_aload_n rfl dc53_0.1.1.1 ?_
  refine am_x_getI (x := I 1 5) dc53_0.1.1.2 rfl rfl (Or.inl rfl) rfl ?_
  refine am_s_if_ne dc53_0.1.2.1 rfl (fun c1 => ?_) (fun c1 => ?_)
  · refine am_s_iconst am_cc0 dc53_1.2.1 ?_
    exact am_s_zreturn dc53_1.2.2 rfl (by decide) (q1 c1)
  · refine am_s_aload_n rfl dc53_0.1.2.2 ?_
    refine am_s_iload_n rfl dc53_0.2.1.1 ?_
    refine am_s_putI dc53_0.2.1.2 rfl rfl rfl rfl ?_
    refine am_s_aload_n rfl dc53_0.2.2.1 ?_
    refine am_s_iload_n rfl dc53_0.2.2.2 ?_
    refine am_s_putI dc53_1.1 rfl rfl rfl rfl ?_
    refine am_s_iconst am_cc0 dc53_1.2.1 ?_
    exact am_s_zreturn dc53_1.2.2 rfl (by decide) (q2 c1)
-- here ()I
theorem dc54_0 : (((decode (am_by 54) 0 = .ok (.aload_n 0, 1)) ∧ (decode (am_by 54) 1 = .ok (.getfield 25, 3))) ∧ ((decode (am_by 54) 4 = .ok (.ifCond .lt 36, 3)) ∧ (decode (am_by 54) 7 = .ok (.aload_n 0, 1)))) ∧ (((decode (am_by 54) 8 = .ok (.getfield 25, 3)) ∧ (decode (am_by 54) 11 = .ok (.aload_n 0, 1))) ∧ ((decode (am_by 54) 12 = .ok (.getfield 22, 3)) ∧ (decode (am_by 54) 15 = .ok (.if_icmp .ge 25, 3)))) := by decide +kernel
theorem dc54_1 : (((decode (am_by 54) 18 = .ok (.aload_n 0, 1)) ∧ (decode (am_by 54) 19 = .ok (.getfield 25, 3))) ∧ ((decode (am_by 54) 22 = .ok (.sipush 600, 3)) ∧ (decode (am_by 54) 25 = .ok (.if_icmp .ge 15, 3)))) ∧ (((decode (am_by 54) 28 = .ok (.aload_n 0, 1)) ∧ (decode (am_by 54) 29 = .ok (.getfield 9, 3))) ∧ ((decode (am_by 54) 32 = .ok (.aload_n 0, 1)) ∧ (decode (am_by 54) 33 = .ok (.getfield 25, 3)))) := by decide +kernel
theorem dc54_2 : ((decode (am_by 54) 36 = .ok (.iaload, 1)) ∧ (decode (am_by 54) 37 = .ok (.goto 4, 3))) ∧ ((decode (am_by 54) 40 = .ok (.iconst (-1), 1)) ∧ (decode (am_by 54) 41 = .ok (.ireturn, 1))) := by decide +kernel
theorem t54_0 {sc : Option (Nat × (Nat → Int32))} {d k n : Nat} {P : am_O → Prop} {I : am_I} {J : am_J} {Pf : am_R} (hp : am_PF Pf)  (q1 : ((I 1 3) < 0) → P (.inl (some (.int (-1))), (am_SH, I, J, Pf), k, n)) (q2 : (¬ ((I 1 3) < 0)) → ((I 1 2) ≤ (I 1 3)) → P (.inl (some (.int (-1))), (am_SH, I, J, Pf), k, n)) (q3 : (¬ ((I 1 3) < 0)) → (¬ ((I 1 2) ≤ (I 1 3))) → (600 ≤ (I 1 3)) → P (.inl (some (.int (-1))), (am_SH, I, J, Pf), k, n)) (q4 : (¬ ((I 1 3) < 0)) → (¬ ((I 1 2) ≤ (I 1 3))) → (¬ (600 ≤ (I 1 3))) → am_in (I 1 3) 600 = true) (q5 : (¬ ((I 1 3) < 0)) → (¬ ((I 1 2) ≤ (I 1 3))) → (¬ (600 ≤ (I 1 3))) → P (.inl (some (.int (I 2 (Int32.toNatClampNeg (I 1 3))))), (am_SH, I, J, Pf), k, n)) : am_go sc d 54 (0, [some (.ref 1)], [], (am_SH, I, J, Pf), k, n) P := by
  refine am_s_aload_n rfl dc54_0.1.1.1 ?_
  refine am_x_getI (x := I 1 3) dc54_0.1.1.2 rfl rfl (Or.inl rfl) rfl ?_
  refine am_s_if_lt dc54_0.1.2.1 rfl (fun c1 => ?_) (fun c1 => ?_)
  · refine am_s_iconst am_ccm1 dc54_2.2.1 ?_
    exact am_s_ireturn dc54_2.2.2 rfl (q1 c1)
  · refine am_s_aload_n rfl dc54_0.1.2.2 ?_
    refine am_x_getI (x := I 1 3) dc54_0.2.1.1 rfl rfl (Or.inl rfl) rfl ?_
    refine am_s_aload_n rfl dc54_0.2.1.2 ?_
    refine am_x_getI (x := I 1 2) dc54_0.2.2.1 rfl rfl (Or.inl rfl) rfl ?_
    refine am_s_ic_ge dc54_0.2.2.2 rfl (fun c2 => ?_) (fun c2 => ?_)
    · refine am_s_iconst am_ccm1 dc54_2.2.1 ?_
      exact am_s_ireturn dc54_2.2.2 rfl (q2 c1 c2)
    · refine am_s_aload_n rfl dc54_1.1.1.1 ?_
      refine am_x_getI (x := I 1 3) dc54_1.1.1.2 rfl rfl (Or.inl rfl) rfl ?_
      refine am_s_sipush am_cs600 dc54_1.1.2.1 ?_
      refine am_s_ic_ge dc54_1.1.2.2 rfl (fun c3 => ?_) (fun c3 => ?_)
      · refine am_s_iconst am_ccm1 dc54_2.2.1 ?_
        exact am_s_ireturn dc54_2.2.2 rfl (q3 c1 c2 c3)
      · refine am_s_aload_n rfl dc54_1.2.1.1 ?_
        refine am_s_getR (r := 2) dc54_1.2.1.2 rfl rfl rfl (hp _ _ _ rfl) ?_
        refine am_s_aload_n rfl dc54_1.2.2.1 ?_
        refine am_x_getI (x := I 1 3) dc54_1.2.2.2 rfl rfl (Or.inl rfl) rfl ?_
        refine am_x_iaload (x := I 2 (Int32.toNatClampNeg (I 1 3))) dc54_2.1.1 rfl (q4 c1 c2 c3) rfl rfl ?_
        refine am_s_goto rfl dc54_2.1.2 ?_
        exact am_s_ireturn dc54_2.2.2 rfl (q5 c1 c2 c3)
-- hereBehindBlanks ()I
theorem dc55_0 : (((decode (am_by 55) 0 = .ok (.aload_n 0, 1)) ∧ (decode (am_by 55) 1 = .ok (.getfield 25, 3))) ∧ ((decode (am_by 55) 4 = .ok (.ifCond .lt 61, 3)) ∧ (decode (am_by 55) 7 = .ok (.aload_n 0, 1)))) ∧ (((decode (am_by 55) 8 = .ok (.getfield 25, 3)) ∧ (decode (am_by 55) 11 = .ok (.aload_n 0, 1))) ∧ ((decode (am_by 55) 12 = .ok (.getfield 22, 3)) ∧ (decode (am_by 55) 15 = .ok (.if_icmp .ge 50, 3)))) := by decide +kernel
theorem dc55_1 : (((decode (am_by 55) 18 = .ok (.aload_n 0, 1)) ∧ (decode (am_by 55) 19 = .ok (.getfield 25, 3))) ∧ ((decode (am_by 55) 22 = .ok (.sipush 600, 3)) ∧ (decode (am_by 55) 25 = .ok (.if_icmp .ge 40, 3)))) ∧ (((decode (am_by 55) 28 = .ok (.aload_n 0, 1)) ∧ (decode (am_by 55) 29 = .ok (.getfield 9, 3))) ∧ ((decode (am_by 55) 32 = .ok (.aload_n 0, 1)) ∧ (decode (am_by 55) 33 = .ok (.getfield 25, 3)))) := by decide +kernel
theorem dc55_2 : (((decode (am_by 55) 36 = .ok (.iaload, 1)) ∧ (decode (am_by 55) 37 = .ok (.bipush 32, 2))) ∧ ((decode (am_by 55) 39 = .ok (.if_icmp .eq 13, 3)) ∧ (decode (am_by 55) 42 = .ok (.aload_n 0, 1)))) ∧ (((decode (am_by 55) 43 = .ok (.getfield 9, 3)) ∧ (decode (am_by 55) 46 = .ok (.aload_n 0, 1))) ∧ ((decode (am_by 55) 47 = .ok (.getfield 25, 3)) ∧ (decode (am_by 55) 50 = .ok (.iaload, 1)))) := by decide +kernel
theorem dc55_3 : (((decode (am_by 55) 51 = .ok (.ireturn, 1)) ∧ (decode (am_by 55) 52 = .ok (.aload_n 0, 1))) ∧ ((decode (am_by 55) 53 = .ok (.dup, 1)) ∧ (decode (am_by 55) 54 = .ok (.getfield 25, 3)))) ∧ (((decode (am_by 55) 57 = .ok (.iconst 1, 1)) ∧ (decode (am_by 55) 58 = .ok (.iadd, 1))) ∧ ((decode (am_by 55) 59 = .ok (.putfield 25, 3)) ∧ (decode (am_by 55) 62 = .ok (.goto (-62), 3)))) := by decide +kernel
theorem dc55_4 : (decode (am_by 55) 65 = .ok (.iconst (-1), 1)) ∧ (decode (am_by 55) 66 = .ok (.ireturn, 1)) := by decide +kernel
theorem t55_0 {sc : Option (Nat × (Nat → Int32))} {d k n : Nat} {P : am_O → Prop} {I : am_I} {J : am_J} {Pf : am_R} (hp : am_PF Pf)  (q1 : ((I 1 3) < 0) → P (.inl (some (.int (-1))), (am_SH, I, J, Pf), k, n)) (q2 : (¬ ((I 1 3) < 0)) → ((I 1 2) ≤ (I 1 3)) → P (.inl (some (.int (-1))), (am_SH, I, J, Pf), k, n)) (q3 : (¬ ((I 1 3) < 0)) → (¬ ((I 1 2) ≤ (I 1 3))) → (600 ≤ (I 1 3)) → P (.inl (some (.int (-1))), (am_SH, I, J, Pf), k, n)) (q4 : (¬ ((I 1 3) < 0)) → (¬ ((I 1 2) ≤ (I 1 3))) → (¬ (600 ≤ (I 1 3))) → am_in (I 1 3) 600 = true) (q5 : (¬ ((I 1 3) < 0)) → (¬ ((I 1 2) ≤ (I 1 3))) → (¬ (600 ≤ (I 1 3))) → ((I 2 (Int32.toNatClampNeg (I 1 3))) = 32) → am_go sc d 55 (0, [some (.ref 1)], [], (am_SH, am_u I 1 3 ((I 1 3) + 1), J, Pf), k, n) P) (q6 : (¬ ((I 1 3) < 0)) → (¬ ((I 1 2) ≤ (I 1 3))) → (¬ (600 ≤ (I 1 3))) → (¬ ((I 2 (Int32.toNatClampNeg (I 1 3))) = 32)) → am_in (I 1 3) 600 = true) (q7 : (¬ ((I 1 3) < 0)) → (¬ ((I 1 2) ≤ (I 1 3))) → (¬ (600 ≤ (I 1 3))) → (¬ ((I 2 (Int32.toNatClampNeg (I 1 3))) = 32)) → P (.inl (some (.int (I 2 (Int32.toNatClampNeg (I 1 3))))), (am_SH, I, J, Pf), k, n)) : am_go sc d 55 (0, [some (.ref 1)], [], (am_SH, I, J, Pf), k, n) P := by
  refine am_s_aload_n rfl dc55_0.1.1.1 ?_
  refine am_x_getI (x := I 1 3) dc55_0.1.1.2 rfl rfl (Or.inl rfl) rfl ?_
  refine am_s_if_lt dc55_0.1.2.1 rfl (fun c1 => ?_) (fun c1 => ?_)
  · refine am_s_iconst am_ccm1 dc55_4.1 ?_
    exact am_s_ireturn dc55_4.2 rfl (q1 c1)
  · refine am_s_aload_n rfl dc55_0.1.2.2 ?_
    refine am_x_getI (x := I 1 3) dc55_0.2.1.1 rfl rfl (Or.inl rfl) rfl ?_
    refine am_s_aload_n rfl dc55_0.2.1.2 ?_
    refine am_x_getI (x := I 1 2) dc55_0.2.2.1 rfl rfl (Or.inl rfl) rfl ?_
    refine am_s_ic_ge dc55_0.2.2.2 rfl (fun c2 => ?_) (fun c2 => ?_)
    · refine am_s_iconst am_ccm1 dc55_4.1 ?_
      exact am_s_ireturn dc55_4.2 rfl (q2 c1 c2)
    · refine am_s_aload_n rfl dc55_1.1.1.1 ?_
      refine am_x_getI (x := I 1 3) dc55_1.1.1.2 rfl rfl (Or.inl rfl) rfl ?_
      refine am_s_sipush am_cs600 dc55_1.1.2.1 ?_
      refine am_s_ic_ge dc55_1.1.2.2 rfl (fun c3 => ?_) (fun c3 => ?_)
      · refine am_s_iconst am_ccm1 dc55_4.1 ?_
        exact am_s_ireturn dc55_4.2 rfl (q3 c1 c2 c3)
      · refine am_s_aload_n rfl dc55_1.2.1.1 ?_
        refine am_s_getR (r := 2) dc55_1.2.1.2 rfl rfl rfl (hp _ _ _ rfl) ?_
        refine am_s_aload_n rfl dc55_1.2.2.1 ?_
        refine am_x_getI (x := I 1 3) dc55_1.2.2.2 rfl rfl (Or.inl rfl) rfl ?_
        refine am_x_iaload (x := I 2 (Int32.toNatClampNeg (I 1 3))) dc55_2.1.1.1 rfl (q4 c1 c2 c3) rfl rfl ?_
        refine am_s_bipush am_cb32 dc55_2.1.1.2 ?_
        refine am_s_ic_eq dc55_2.1.2.1 rfl (fun c4 => ?_) (fun c4 => ?_)
        · refine am_s_aload_n rfl dc55_3.1.1.2 ?_
          refine am_s_dup rfl dc55_3.1.2.1 ?_
          refine am_x_getI (x := I 1 3) dc55_3.1.2.2 rfl rfl (Or.inl rfl) rfl ?_
          refine am_s_iconst am_cc1 dc55_3.2.1.1 ?_
          refine am_s_iadd dc55_3.2.1.2 ?_
          refine am_s_putI dc55_3.2.2.1 rfl rfl rfl rfl ?_
          refine am_s_goto rfl dc55_3.2.2.2 ?_
          exact q5 c1 c2 c3 c4
        · refine am_s_aload_n rfl dc55_2.1.2.2 ?_
          refine am_s_getR (r := 2) dc55_2.2.1.1 rfl rfl rfl (hp _ _ _ rfl) ?_
          refine am_s_aload_n rfl dc55_2.2.1.2 ?_
          refine am_x_getI (x := I 1 3) dc55_2.2.2.1 rfl rfl (Or.inl rfl) rfl ?_
          refine am_x_iaload (x := I 2 (Int32.toNatClampNeg (I 1 3))) dc55_2.2.2.2 rfl (q6 c1 c2 c3 c4) rfl rfl ?_
          exact am_s_ireturn dc55_3.1.1.1 rfl (q7 c1 c2 c3 c4)
-- take (I)Z
theorem dc56_0 : (((decode (am_by 56) 0 = .ok (.aload_n 0, 1)) ∧ (decode (am_by 56) 1 = .ok (.invokevirtual 34, 3))) ∧ ((decode (am_by 56) 4 = .ok (.iload_n 1, 1)) ∧ (decode (am_by 56) 5 = .ok (.if_icmp .eq 13, 3)))) ∧ (((decode (am_by 56) 8 = .ok (.aload_n 0, 1)) ∧ (decode (am_by 56) 9 = .ok (.iconst 1, 1))) ∧ ((decode (am_by 56) 10 = .ok (.aload_n 0, 1)) ∧ (decode (am_by 56) 11 = .ok (.getfield 25, 3)))) := by decide +kernel
theorem dc56_1 : (((decode (am_by 56) 14 = .ok (.invokevirtual 38, 3)) ∧ (decode (am_by 56) 17 = .ok (.ireturn, 1))) ∧ ((decode (am_by 56) 18 = .ok (.aload_n 0, 1)) ∧ (decode (am_by 56) 19 = .ok (.dup, 1)))) ∧ (((decode (am_by 56) 20 = .ok (.getfield 25, 3)) ∧ (decode (am_by 56) 23 = .ok (.iconst 1, 1))) ∧ ((decode (am_by 56) 24 = .ok (.iadd, 1)) ∧ (decode (am_by 56) 25 = .ok (.putfield 25, 3)))) := by decide +kernel
theorem dc56_2 : (decode (am_by 56) 28 = .ok (.iconst 1, 1)) ∧ (decode (am_by 56) 29 = .ok (.ireturn, 1)) := by decide +kernel
theorem t56_0 {sc : Option (Nat × (Nat → Int32))} {d k n : Nat} {P : am_O → Prop} {I : am_I} {J : am_J} {Pf : am_R} (hp : am_PF Pf) {x1 : Int32} (q1 : am_mth d 55 [.ref 1] (am_SH, I, J, Pf) (am_af sc d 56 1 [some (.ref 1), some (.int x1)] [.ref 1] [] (am_SH, I, J, Pf) k n true P)) : am_go sc d 56 (0, [some (.ref 1), some (.int x1)], [], (am_SH, I, J, Pf), k, n) P := by
  refine am_s_aload_n rfl dc56_0.1.1.1 ?_
  exact am_s_virtual true dc56_0.1.1.2 rfl (by decide) rfl rfl rfl (q1)
theorem t56_4 {sc : Option (Nat × (Nat → Int32))} {d k n : Nat} {P : am_O → Prop} {I : am_I} {J : am_J} {Pf : am_R} (hp : am_PF Pf) {x1 : Int32} {s0 : Int32} (q1 : (s0 = x1) → P (.inl (some (.int 1)), (am_SH, am_u I 1 3 ((I 1 3) + 1), J, Pf), k, n)) (q2 : (¬ (s0 = x1)) → am_mth d 53 [.ref 1, .int 1, .int (I 1 3)] (am_SH, I, J, Pf) (am_af sc d 56 14 [some (.ref 1), some (.int x1)] [.int (I 1 3), .int 1, .ref 1] [] (am_SH, I, J, Pf) k n true P)) : am_go sc d 56 (4, [some (.ref 1), some (.int x1)], [.int s0], (am_SH, I, J, Pf), k, n) P := by
  refine am_s_iload_n rfl dc56_0.1.2.1 ?_
  refine am_s_ic_eq dc56_0.1.2.2 rfl (fun c1 => ?_) (fun c1 => ?_)
  · refine am_s_aload_n rfl dc56_1.1.2.1 ?_
    refine am_s_dup rfl dc56_1.1.2.2 ?_
    refine am_x_getI (x := I 1 3) dc56_1.2.1.1 rfl rfl (Or.inl rfl) rfl ?_
    refine am_s_iconst am_cc1 dc56_1.2.1.2 ?_
    refine am_s_iadd dc56_1.2.2.1 ?_
    refine am_s_putI dc56_1.2.2.2 rfl rfl rfl rfl ?_
    refine am_s_iconst am_cc1 dc56_2.1 ?_
    exact am_s_zreturn dc56_2.2 rfl (by decide) (q1 c1)
  · refine am_s_aload_n rfl dc56_0.2.1.1 ?_
    refine am_s_iconst am_cc1 dc56_0.2.1.2 ?_
    refine am_s_aload_n rfl dc56_0.2.2.1 ?_
    refine am_x_getI (x := I 1 3) dc56_0.2.2.2 rfl rfl (Or.inl rfl) rfl ?_
    exact am_s_virtual true dc56_1.1.1.1 rfl (by decide) rfl rfl rfl (q2 c1)
theorem t56_17 {sc : Option (Nat × (Nat → Int32))} {d k n : Nat} {P : am_O → Prop} {I : am_I} {J : am_J} {Pf : am_R} (hp : am_PF Pf) {l0 : Option Value} {l1 : Option Value} {s0 : Int32} (q1 : P (.inl (some (.int s0)), (am_SH, I, J, Pf), k, n)) (q2 : s0 = 0 ∨ s0 = 1) : am_go sc d 56 (17, [l0, l1], [.int s0], (am_SH, I, J, Pf), k, n) P := by
  exact am_s_zreturn dc56_1.1.1.2 rfl (q2) (q1)
-- takeEnd ()Z
theorem dc57_0 : (((decode (am_by 57) 0 = .ok (.aload_n 0, 1)) ∧ (decode (am_by 57) 1 = .ok (.invokevirtual 34, 3))) ∧ ((decode (am_by 57) 4 = .ok (.iconst (-1), 1)) ∧ (decode (am_by 57) 5 = .ok (.if_icmp .eq 15, 3)))) ∧ (((decode (am_by 57) 8 = .ok (.aload_n 0, 1)) ∧ (decode (am_by 57) 9 = .ok (.iconst 1, 1))) ∧ ((decode (am_by 57) 10 = .ok (.aload_n 0, 1)) ∧ (decode (am_by 57) 11 = .ok (.getfield 25, 3)))) := by decide +kernel
theorem dc57_1 : ((decode (am_by 57) 14 = .ok (.invokevirtual 38, 3)) ∧ ((decode (am_by 57) 17 = .ok (.ifCond .eq 7, 3)) ∧ (decode (am_by 57) 20 = .ok (.iconst 1, 1)))) ∧ ((decode (am_by 57) 21 = .ok (.goto 4, 3)) ∧ ((decode (am_by 57) 24 = .ok (.iconst 0, 1)) ∧ (decode (am_by 57) 25 = .ok (.ireturn, 1)))) := by decide +kernel
theorem t57_0 {sc : Option (Nat × (Nat → Int32))} {d k n : Nat} {P : am_O → Prop} {I : am_I} {J : am_J} {Pf : am_R} (hp : am_PF Pf)  (q1 : am_mth d 55 [.ref 1] (am_SH, I, J, Pf) (am_af sc d 57 1 [some (.ref 1)] [.ref 1] [] (am_SH, I, J, Pf) k n true P)) : am_go sc d 57 (0, [some (.ref 1)], [], (am_SH, I, J, Pf), k, n) P := by
  refine am_s_aload_n rfl dc57_0.1.1.1 ?_
  exact am_s_virtual true dc57_0.1.1.2 rfl (by decide) rfl rfl rfl (q1)
theorem t57_4 {sc : Option (Nat × (Nat → Int32))} {d k n : Nat} {P : am_O → Prop} {I : am_I} {J : am_J} {Pf : am_R} (hp : am_PF Pf) {s0 : Int32} (q1 : (s0 = (-1)) → P (.inl (some (.int 1)), (am_SH, I, J, Pf), k, n)) (q2 : (¬ (s0 = (-1))) → am_mth d 53 [.ref 1, .int 1, .int (I 1 3)] (am_SH, I, J, Pf) (am_af sc d 57 14 [some (.ref 1)] [.int (I 1 3), .int 1, .ref 1] [] (am_SH, I, J, Pf) k n true P)) : am_go sc d 57 (4, [some (.ref 1)], [.int s0], (am_SH, I, J, Pf), k, n) P := by
  refine am_s_iconst am_ccm1 dc57_0.1.2.1 ?_
  refine am_s_ic_eq dc57_0.1.2.2 rfl (fun c1 => ?_) (fun c1 => ?_)
  · refine am_s_iconst am_cc1 dc57_1.1.2.2 ?_
    refine am_s_goto rfl dc57_1.2.1 ?_
    exact am_s_zreturn dc57_1.2.2.2 rfl (by decide) (q1 c1)
  · refine am_s_aload_n rfl dc57_0.2.1.1 ?_
    refine am_s_iconst am_cc1 dc57_0.2.1.2 ?_
    refine am_s_aload_n rfl dc57_0.2.2.1 ?_
    refine am_x_getI (x := I 1 3) dc57_0.2.2.2 rfl rfl (Or.inl rfl) rfl ?_
    exact am_s_virtual true dc57_1.1.1 rfl (by decide) rfl rfl rfl (q2 c1)
theorem t57_17 {sc : Option (Nat × (Nat → Int32))} {d k n : Nat} {P : am_O → Prop} {I : am_I} {J : am_J} {Pf : am_R} (hp : am_PF Pf) {l0 : Option Value} {s0 : Int32} (q1 : (s0 = 0) → P (.inl (some (.int 0)), (am_SH, I, J, Pf), k, n)) (q2 : (¬ (s0 = 0)) → P (.inl (some (.int 1)), (am_SH, I, J, Pf), k, n)) : am_go sc d 57 (17, [l0], [.int s0], (am_SH, I, J, Pf), k, n) P := by
  refine am_s_if_eq dc57_1.1.2.1 rfl (fun c1 => ?_) (fun c1 => ?_)
  · refine am_s_iconst am_cc0 dc57_1.2.2.1 ?_
    exact am_s_zreturn dc57_1.2.2.2 rfl (by decide) (q1 c1)
  · refine am_s_iconst am_cc1 dc57_1.1.2.2 ?_
    refine am_s_goto rfl dc57_1.2.1 ?_
    exact am_s_zreturn dc57_1.2.2.2 rfl (by decide) (q2 c1)
-- takeNumber (I)I
theorem dc58_0 : (((decode (am_by 58) 0 = .ok (.aload_n 0, 1)) ∧ (decode (am_by 58) 1 = .ok (.invokevirtual 34, 3))) ∧ ((decode (am_by 58) 4 = .ok (.invokestatic 42, 3)) ∧ (decode (am_by 58) 7 = .ok (.ifCond .ne 15, 3)))) ∧ (((decode (am_by 58) 10 = .ok (.aload_n 0, 1)) ∧ (decode (am_by 58) 11 = .ok (.iconst 1, 1))) ∧ ((decode (am_by 58) 12 = .ok (.aload_n 0, 1)) ∧ (decode (am_by 58) 13 = .ok (.getfield 25, 3)))) := by decide +kernel
theorem dc58_1 : (((decode (am_by 58) 16 = .ok (.invokevirtual 38, 3)) ∧ (decode (am_by 58) 19 = .ok (.pop, 1))) ∧ ((decode (am_by 58) 20 = .ok (.iconst (-1), 1)) ∧ (decode (am_by 58) 21 = .ok (.ireturn, 1)))) ∧ (((decode (am_by 58) 22 = .ok (.aload_n 0, 1)) ∧ (decode (am_by 58) 23 = .ok (.aload_n 0, 1))) ∧ ((decode (am_by 58) 24 = .ok (.getfield 25, 3)) ∧ (decode (am_by 58) 27 = .ok (.putfield 46, 3)))) := by decide +kernel
theorem dc58_2 : (((decode (am_by 58) 30 = .ok (.iconst 0, 1)) ∧ (decode (am_by 58) 31 = .ok (.istore_n 2, 1))) ∧ ((decode (am_by 58) 32 = .ok (.aload_n 0, 1)) ∧ (decode (am_by 58) 33 = .ok (.getfield 25, 3)))) ∧ (((decode (am_by 58) 36 = .ok (.aload_n 0, 1)) ∧ (decode (am_by 58) 37 = .ok (.getfield 22, 3))) ∧ ((decode (am_by 58) 40 = .ok (.if_icmp .ge 45, 3)) ∧ (decode (am_by 58) 43 = .ok (.aload_n 0, 1)))) := by decide +kernel
theorem dc58_3 : (((decode (am_by 58) 44 = .ok (.invokevirtual 49, 3)) ∧ (decode (am_by 58) 47 = .ok (.invokestatic 42, 3))) ∧ ((decode (am_by 58) 50 = .ok (.ifCond .eq 35, 3)) ∧ (decode (am_by 58) 53 = .ok (.sipush 9999, 3)))) ∧ (((decode (am_by 58) 56 = .ok (.iload_n 2, 1)) ∧ (decode (am_by 58) 57 = .ok (.bipush 10, 2))) ∧ ((decode (am_by 58) 59 = .ok (.imul, 1)) ∧ (decode (am_by 58) 60 = .ok (.aload_n 0, 1)))) := by decide +kernel
theorem dc58_4 : (((decode (am_by 58) 61 = .ok (.invokevirtual 49, 3)) ∧ (decode (am_by 58) 64 = .ok (.iadd, 1))) ∧ ((decode (am_by 58) 65 = .ok (.bipush 48, 2)) ∧ (decode (am_by 58) 67 = .ok (.isub, 1)))) ∧ (((decode (am_by 58) 68 = .ok (.invokestatic 52, 3)) ∧ (decode (am_by 58) 71 = .ok (.istore_n 2, 1))) ∧ ((decode (am_by 58) 72 = .ok (.aload_n 0, 1)) ∧ (decode (am_by 58) 73 = .ok (.dup, 1)))) := by decide +kernel
theorem dc58_5 : (((decode (am_by 58) 74 = .ok (.getfield 25, 3)) ∧ (decode (am_by 58) 77 = .ok (.iconst 1, 1))) ∧ ((decode (am_by 58) 78 = .ok (.iadd, 1)) ∧ (decode (am_by 58) 79 = .ok (.putfield 25, 3)))) ∧ (((decode (am_by 58) 82 = .ok (.goto (-50), 3)) ∧ (decode (am_by 58) 85 = .ok (.iload_n 2, 1))) ∧ ((decode (am_by 58) 86 = .ok (.iload_n 1, 1)) ∧ (decode (am_by 58) 87 = .ok (.if_icmp .gt 5, 3)))) := by decide +kernel
theorem dc58_6 : (((decode (am_by 58) 90 = .ok (.iload_n 2, 1)) ∧ (decode (am_by 58) 91 = .ok (.ireturn, 1))) ∧ ((decode (am_by 58) 92 = .ok (.aload_n 0, 1)) ∧ (decode (am_by 58) 93 = .ok (.iconst 2, 1)))) ∧ (((decode (am_by 58) 94 = .ok (.aload_n 0, 1)) ∧ (decode (am_by 58) 95 = .ok (.getfield 46, 3))) ∧ ((decode (am_by 58) 98 = .ok (.invokevirtual 38, 3)) ∧ (decode (am_by 58) 101 = .ok (.pop, 1)))) := by decide +kernel
theorem dc58_7 : (decode (am_by 58) 102 = .ok (.iconst (-1), 1)) ∧ (decode (am_by 58) 103 = .ok (.ireturn, 1)) := by decide +kernel
theorem t58_0 {sc : Option (Nat × (Nat → Int32))} {d k n : Nat} {P : am_O → Prop} {I : am_I} {J : am_J} {Pf : am_R} (hp : am_PF Pf) {x1 : Int32} {l2 : Option Value} (q1 : am_mth d 55 [.ref 1] (am_SH, I, J, Pf) (am_af sc d 58 1 [some (.ref 1), some (.int x1), l2] [.ref 1] [] (am_SH, I, J, Pf) k n true P)) : am_go sc d 58 (0, [some (.ref 1), some (.int x1), l2], [], (am_SH, I, J, Pf), k, n) P := by
  refine am_s_aload_n rfl dc58_0.1.1.1 ?_
  exact am_s_virtual true dc58_0.1.1.2 rfl (by decide) rfl rfl rfl (q1)
theorem t58_32 {sc : Option (Nat × (Nat → Int32))} {d k n : Nat} {P : am_O → Prop} {I : am_I} {J : am_J} {Pf : am_R} (hp : am_PF Pf) {x1 : Int32} {x2 : Int32} (q1 : ((I 1 2) ≤ (I 1 3)) → (x1 < x2) → am_mth d 53 [.ref 1, .int 2, .int (I 1 8)] (am_SH, I, J, Pf) (am_af sc d 58 98 [some (.ref 1), some (.int x1), some (.int x2)] [.int (I 1 8), .int 2, .ref 1] [] (am_SH, I, J, Pf) k n true P)) (q2 : ((I 1 2) ≤ (I 1 3)) → (¬ (x1 < x2)) → P (.inl (some (.int x2)), (am_SH, I, J, Pf), k, n)) (q3 : (¬ ((I 1 2) ≤ (I 1 3))) → am_mth d 54 [.ref 1] (am_SH, I, J, Pf) (am_af sc d 58 44 [some (.ref 1), some (.int x1), some (.int x2)] [.ref 1] [] (am_SH, I, J, Pf) k n true P)) : am_go sc d 58 (32, [some (.ref 1), some (.int x1), some (.int x2)], [], (am_SH, I, J, Pf), k, n) P := by
  refine am_s_aload_n rfl dc58_2.1.2.1 ?_
  refine am_x_getI (x := I 1 3) dc58_2.1.2.2 rfl rfl (Or.inl rfl) rfl ?_
  refine am_s_aload_n rfl dc58_2.2.1.1 ?_
  refine am_x_getI (x := I 1 2) dc58_2.2.1.2 rfl rfl (Or.inl rfl) rfl ?_
  refine am_s_ic_ge dc58_2.2.2.1 rfl (fun c1 => ?_) (fun c1 => ?_)
  · refine am_s_iload_n rfl dc58_5.2.1.2 ?_
    refine am_s_iload_n rfl dc58_5.2.2.1 ?_
    refine am_s_ic_gt dc58_5.2.2.2 rfl (fun c2 => ?_) (fun c2 => ?_)
    · refine am_s_aload_n rfl dc58_6.1.2.1 ?_
      refine am_s_iconst am_cc2 dc58_6.1.2.2 ?_
      refine am_s_aload_n rfl dc58_6.2.1.1 ?_
      refine am_x_getI (x := I 1 8) dc58_6.2.1.2 rfl rfl (Or.inl rfl) rfl ?_
      exact am_s_virtual true dc58_6.2.2.1 rfl (by decide) rfl rfl rfl (q1 c1 c2)
    · refine am_s_iload_n rfl dc58_6.1.1.1 ?_
      exact am_s_ireturn dc58_6.1.1.2 rfl (q2 c1 c2)
  · refine am_s_aload_n rfl dc58_2.2.2.2 ?_
    exact am_s_virtual true dc58_3.1.1.1 rfl (by decide) rfl rfl rfl (q3 c1)
theorem t58_4 {sc : Option (Nat × (Nat → Int32))} {d k n : Nat} {P : am_O → Prop} {I : am_I} {J : am_J} {Pf : am_R} (hp : am_PF Pf) {x1 : Int32} {l2 : Option Value} {s0 : Int32} (q1 : am_mth d 186 [.int s0] (am_SH, I, J, Pf) (am_af sc d 58 4 [some (.ref 1), some (.int x1), l2] [.int s0] [] (am_SH, I, J, Pf) k n false P)) : am_go sc d 58 (4, [some (.ref 1), some (.int x1), l2], [.int s0], (am_SH, I, J, Pf), k, n) P := by
  exact am_s_static dc58_0.1.2.1 rfl rfl rfl (q1)
theorem t58_47 {sc : Option (Nat × (Nat → Int32))} {d k n : Nat} {P : am_O → Prop} {I : am_I} {J : am_J} {Pf : am_R} (hp : am_PF Pf) {x1 : Int32} {x2 : Int32} {s0 : Int32} (q1 : am_mth d 186 [.int s0] (am_SH, I, J, Pf) (am_af sc d 58 47 [some (.ref 1), some (.int x1), some (.int x2)] [.int s0] [] (am_SH, I, J, Pf) k n false P)) : am_go sc d 58 (47, [some (.ref 1), some (.int x1), some (.int x2)], [.int s0], (am_SH, I, J, Pf), k, n) P := by
  exact am_s_static dc58_3.1.1.2 rfl rfl rfl (q1)
theorem t58_101 {sc : Option (Nat × (Nat → Int32))} {d k n : Nat} {P : am_O → Prop} {I : am_I} {J : am_J} {Pf : am_R} (hp : am_PF Pf) {l0 : Option Value} {l1 : Option Value} {l2 : Option Value} {s0 : Int32} (q1 : P (.inl (some (.int (-1))), (am_SH, I, J, Pf), k, n)) : am_go sc d 58 (101, [l0, l1, l2], [.int s0], (am_SH, I, J, Pf), k, n) P := by
  refine am_s_pop rfl dc58_6.2.2.2 ?_
  refine am_s_iconst am_ccm1 dc58_7.1 ?_
  exact am_s_ireturn dc58_7.2 rfl (q1)
theorem t58_7 {sc : Option (Nat × (Nat → Int32))} {d k n : Nat} {P : am_O → Prop} {I : am_I} {J : am_J} {Pf : am_R} (hp : am_PF Pf) {x1 : Int32} {l2 : Option Value} {s0 : Int32} (q1 : (¬ s0 = 0) → am_go sc d 58 (32, [some (.ref 1), some (.int x1), some (.int 0)], [], (am_SH, am_u I 1 8 (I 1 3), J, Pf), k, n) P) (q2 : (¬ (¬ s0 = 0)) → am_mth d 53 [.ref 1, .int 1, .int (I 1 3)] (am_SH, I, J, Pf) (am_af sc d 58 16 [some (.ref 1), some (.int x1), l2] [.int (I 1 3), .int 1, .ref 1] [] (am_SH, I, J, Pf) k n true P)) : am_go sc d 58 (7, [some (.ref 1), some (.int x1), l2], [.int s0], (am_SH, I, J, Pf), k, n) P := by
  refine am_s_if_ne dc58_0.1.2.2 rfl (fun c1 => ?_) (fun c1 => ?_)
  · refine am_s_aload_n rfl dc58_1.2.1.1 ?_
    refine am_s_aload_n rfl dc58_1.2.1.2 ?_
    refine am_x_getI (x := I 1 3) dc58_1.2.2.1 rfl rfl (Or.inl rfl) rfl ?_
    refine am_s_putI dc58_1.2.2.2 rfl rfl rfl rfl ?_
    refine am_s_iconst am_cc0 dc58_2.1.1.1 ?_
    refine am_s_istore_n (ls' := [some (.ref 1), some (.int x1), some (.int 0)]) rfl rfl dc58_2.1.1.2 ?_
    exact q1 c1
  · refine am_s_aload_n rfl dc58_0.2.1.1 ?_
    refine am_s_iconst am_cc1 dc58_0.2.1.2 ?_
    refine am_s_aload_n rfl dc58_0.2.2.1 ?_
    refine am_x_getI (x := I 1 3) dc58_0.2.2.2 rfl rfl (Or.inl rfl) rfl ?_
    exact am_s_virtual true dc58_1.1.1.1 rfl (by decide) rfl rfl rfl (q2 c1)
theorem t58_50 {sc : Option (Nat × (Nat → Int32))} {d k n : Nat} {P : am_O → Prop} {I : am_I} {J : am_J} {Pf : am_R} (hp : am_PF Pf) {x1 : Int32} {x2 : Int32} {s0 : Int32} (q1 : (s0 = 0) → (x1 < x2) → am_mth d 53 [.ref 1, .int 2, .int (I 1 8)] (am_SH, I, J, Pf) (am_af sc d 58 98 [some (.ref 1), some (.int x1), some (.int x2)] [.int (I 1 8), .int 2, .ref 1] [] (am_SH, I, J, Pf) k n true P)) (q2 : (s0 = 0) → (¬ (x1 < x2)) → P (.inl (some (.int x2)), (am_SH, I, J, Pf), k, n)) (q3 : (¬ (s0 = 0)) → am_mth d 54 [.ref 1] (am_SH, I, J, Pf) (am_af sc d 58 61 [some (.ref 1), some (.int x1), some (.int x2)] [.ref 1, .int (x2 * 10), .int 9999] [.int (x2 * 10), .int 9999] (am_SH, I, J, Pf) k n true P)) : am_go sc d 58 (50, [some (.ref 1), some (.int x1), some (.int x2)], [.int s0], (am_SH, I, J, Pf), k, n) P := by
  refine am_s_if_eq dc58_3.1.2.1 rfl (fun c1 => ?_) (fun c1 => ?_)
  · refine am_s_iload_n rfl dc58_5.2.1.2 ?_
    refine am_s_iload_n rfl dc58_5.2.2.1 ?_
    refine am_s_ic_gt dc58_5.2.2.2 rfl (fun c2 => ?_) (fun c2 => ?_)
    · refine am_s_aload_n rfl dc58_6.1.2.1 ?_
      refine am_s_iconst am_cc2 dc58_6.1.2.2 ?_
      refine am_s_aload_n rfl dc58_6.2.1.1 ?_
      refine am_x_getI (x := I 1 8) dc58_6.2.1.2 rfl rfl (Or.inl rfl) rfl ?_
      exact am_s_virtual true dc58_6.2.2.1 rfl (by decide) rfl rfl rfl (q1 c1 c2)
    · refine am_s_iload_n rfl dc58_6.1.1.1 ?_
      exact am_s_ireturn dc58_6.1.1.2 rfl (q2 c1 c2)
  · refine am_s_sipush am_cs9999 dc58_3.1.2.2 ?_
    refine am_s_iload_n rfl dc58_3.2.1.1 ?_
    refine am_s_bipush am_cb10 dc58_3.2.1.2 ?_
    refine am_s_imul dc58_3.2.2.1 ?_
    refine am_s_aload_n rfl dc58_3.2.2.2 ?_
    exact am_s_virtual true dc58_4.1.1.1 rfl (by decide) rfl rfl rfl (q3 c1)
theorem t58_19 {sc : Option (Nat × (Nat → Int32))} {d k n : Nat} {P : am_O → Prop} {I : am_I} {J : am_J} {Pf : am_R} (hp : am_PF Pf) {l0 : Option Value} {l1 : Option Value} {l2 : Option Value} {s0 : Int32} (q1 : P (.inl (some (.int (-1))), (am_SH, I, J, Pf), k, n)) : am_go sc d 58 (19, [l0, l1, l2], [.int s0], (am_SH, I, J, Pf), k, n) P := by
  refine am_s_pop rfl dc58_1.1.1.2 ?_
  refine am_s_iconst am_ccm1 dc58_1.1.2.1 ?_
  exact am_s_ireturn dc58_1.1.2.2 rfl (q1)
theorem t58_64 {sc : Option (Nat × (Nat → Int32))} {d k n : Nat} {P : am_O → Prop} {I : am_I} {J : am_J} {Pf : am_R} (hp : am_PF Pf) {x1 : Int32} {l2 : Option Value} {s0 : Int32} {s1 : Int32} {s2 : Int32} (q1 : am_mth d 330 [.int s0, .int ((s1 + s2) - 48)] (am_SH, I, J, Pf) (am_af sc d 58 68 [some (.ref 1), some (.int x1), l2] [.int ((s1 + s2) - 48), .int s0] [] (am_SH, I, J, Pf) k n false P)) : am_go sc d 58 (64, [some (.ref 1), some (.int x1), l2], [.int s2, .int s1, .int s0], (am_SH, I, J, Pf), k, n) P := by
  refine am_s_iadd dc58_4.1.1.2 ?_
  refine am_s_bipush am_cb48 dc58_4.1.2.1 ?_
  refine am_s_isub dc58_4.1.2.2 ?_
  exact am_s_static dc58_4.2.1.1 rfl rfl rfl (q1)
theorem t58_71 {sc : Option (Nat × (Nat → Int32))} {d k n : Nat} {P : am_O → Prop} {I : am_I} {J : am_J} {Pf : am_R} (hp : am_PF Pf) {x1 : Int32} {l2 : Option Value} {s0 : Int32} (q1 : am_go sc d 58 (32, [some (.ref 1), some (.int x1), some (.int s0)], [], (am_SH, am_u I 1 3 ((I 1 3) + 1), J, Pf), k, n) P) : am_go sc d 58 (71, [some (.ref 1), some (.int x1), l2], [.int s0], (am_SH, I, J, Pf), k, n) P := by
  refine am_s_istore_n (ls' := [some (.ref 1), some (.int x1), some (.int s0)]) rfl rfl dc58_4.2.1.2 ?_
  refine am_s_aload_n rfl dc58_4.2.2.1 ?_
  refine am_s_dup rfl dc58_4.2.2.2 ?_
  refine am_x_getI (x := I 1 3) dc58_5.1.1.1 rfl rfl (Or.inl rfl) rfl ?_
  refine am_s_iconst am_cc1 dc58_5.1.1.2 ?_
  refine am_s_iadd dc58_5.1.2.1 ?_
  refine am_s_putI dc58_5.1.2.2 rfl rfl rfl rfl ?_
  refine am_s_goto rfl dc58_5.2.1.1 ?_
  exact q1
-- takeName ()Z
theorem dc59_0 : (((decode (am_by 59) 0 = .ok (.aload_n 0, 1)) ∧ (decode (am_by 59) 1 = .ok (.invokevirtual 34, 3))) ∧ ((decode (am_by 59) 4 = .ok (.pop, 1)) ∧ (decode (am_by 59) 5 = .ok (.aload_n 0, 1)))) ∧ (((decode (am_by 59) 6 = .ok (.aload_n 0, 1)) ∧ (decode (am_by 59) 7 = .ok (.getfield 25, 3))) ∧ ((decode (am_by 59) 10 = .ok (.putfield 58, 3)) ∧ (decode (am_by 59) 13 = .ok (.aload_n 0, 1)))) := by decide +kernel
theorem dc59_1 : (((decode (am_by 59) 14 = .ok (.getfield 25, 3)) ∧ (decode (am_by 59) 17 = .ok (.aload_n 0, 1))) ∧ ((decode (am_by 59) 18 = .ok (.getfield 22, 3)) ∧ (decode (am_by 59) 21 = .ok (.if_icmp .ge 26, 3)))) ∧ (((decode (am_by 59) 24 = .ok (.aload_n 0, 1)) ∧ (decode (am_by 59) 25 = .ok (.invokevirtual 49, 3))) ∧ ((decode (am_by 59) 28 = .ok (.invokestatic 61, 3)) ∧ (decode (am_by 59) 31 = .ok (.ifCond .eq 16, 3)))) := by decide +kernel
theorem dc59_2 : (((decode (am_by 59) 34 = .ok (.aload_n 0, 1)) ∧ (decode (am_by 59) 35 = .ok (.dup, 1))) ∧ ((decode (am_by 59) 36 = .ok (.getfield 25, 3)) ∧ (decode (am_by 59) 39 = .ok (.iconst 1, 1)))) ∧ (((decode (am_by 59) 40 = .ok (.iadd, 1)) ∧ (decode (am_by 59) 41 = .ok (.putfield 25, 3))) ∧ ((decode (am_by 59) 44 = .ok (.goto (-31), 3)) ∧ (decode (am_by 59) 47 = .ok (.aload_n 0, 1)))) := by decide +kernel
theorem dc59_3 : (((decode (am_by 59) 48 = .ok (.getfield 25, 3)) ∧ (decode (am_by 59) 51 = .ok (.aload_n 0, 1))) ∧ ((decode (am_by 59) 52 = .ok (.getfield 58, 3)) ∧ (decode (am_by 59) 55 = .ok (.if_icmp .gt 15, 3)))) ∧ (((decode (am_by 59) 58 = .ok (.aload_n 0, 1)) ∧ (decode (am_by 59) 59 = .ok (.iconst 1, 1))) ∧ ((decode (am_by 59) 60 = .ok (.aload_n 0, 1)) ∧ (decode (am_by 59) 61 = .ok (.getfield 25, 3)))) := by decide +kernel
theorem dc59_4 : ((decode (am_by 59) 64 = .ok (.invokevirtual 38, 3)) ∧ ((decode (am_by 59) 67 = .ok (.ifCond .eq 7, 3)) ∧ (decode (am_by 59) 70 = .ok (.iconst 1, 1)))) ∧ ((decode (am_by 59) 71 = .ok (.goto 4, 3)) ∧ ((decode (am_by 59) 74 = .ok (.iconst 0, 1)) ∧ (decode (am_by 59) 75 = .ok (.ireturn, 1)))) := by decide +kernel
theorem t59_0 {sc : Option (Nat × (Nat → Int32))} {d k n : Nat} {P : am_O → Prop} {I : am_I} {J : am_J} {Pf : am_R} (hp : am_PF Pf)  (q1 : am_mth d 55 [.ref 1] (am_SH, I, J, Pf) (am_af sc d 59 1 [some (.ref 1)] [.ref 1] [] (am_SH, I, J, Pf) k n true P)) : am_go sc d 59 (0, [some (.ref 1)], [], (am_SH, I, J, Pf), k, n) P := by
  refine am_s_aload_n rfl dc59_0.1.1.1 ?_
  exact am_s_virtual true dc59_0.1.1.2 rfl (by decide) rfl rfl rfl (q1)
theorem t59_13 {sc : Option (Nat × (Nat → Int32))} {d k n : Nat} {P : am_O → Prop} {I : am_I} {J : am_J} {Pf : am_R} (hp : am_PF Pf)  (q1 : ((I 1 2) ≤ (I 1 3)) → am_go sc d 59 (47, [some (.ref 1)], [], (am_SH, I, J, Pf), k, n) P) (q2 : (¬ ((I 1 2) ≤ (I 1 3))) → am_mth d 54 [.ref 1] (am_SH, I, J, Pf) (am_af sc d 59 25 [some (.ref 1)] [.ref 1] [] (am_SH, I, J, Pf) k n true P)) : am_go sc d 59 (13, [some (.ref 1)], [], (am_SH, I, J, Pf), k, n) P := by
  refine am_s_aload_n rfl dc59_0.2.2.2 ?_
  refine am_x_getI (x := I 1 3) dc59_1.1.1.1 rfl rfl (Or.inl rfl) rfl ?_
  refine am_s_aload_n rfl dc59_1.1.1.2 ?_
  refine am_x_getI (x := I 1 2) dc59_1.1.2.1 rfl rfl (Or.inl rfl) rfl ?_
  refine am_s_ic_ge dc59_1.1.2.2 rfl (fun c1 => ?_) (fun c1 => ?_)
  · exact q1 c1
  · refine am_s_aload_n rfl dc59_1.2.1.1 ?_
    exact am_s_virtual true dc59_1.2.1.2 rfl (by decide) rfl rfl rfl (q2 c1)
theorem t59_47 {sc : Option (Nat × (Nat → Int32))} {d k n : Nat} {P : am_O → Prop} {I : am_I} {J : am_J} {Pf : am_R} (hp : am_PF Pf)  (q1 : ((I 1 7) < (I 1 3)) → P (.inl (some (.int 1)), (am_SH, I, J, Pf), k, n)) (q2 : (¬ ((I 1 7) < (I 1 3))) → am_mth d 53 [.ref 1, .int 1, .int (I 1 3)] (am_SH, I, J, Pf) (am_af sc d 59 64 [some (.ref 1)] [.int (I 1 3), .int 1, .ref 1] [] (am_SH, I, J, Pf) k n true P)) : am_go sc d 59 (47, [some (.ref 1)], [], (am_SH, I, J, Pf), k, n) P := by
  refine am_s_aload_n rfl dc59_2.2.2.2 ?_
  refine am_x_getI (x := I 1 3) dc59_3.1.1.1 rfl rfl (Or.inl rfl) rfl ?_
  refine am_s_aload_n rfl dc59_3.1.1.2 ?_
  refine am_x_getI (x := I 1 7) dc59_3.1.2.1 rfl rfl (Or.inl rfl) rfl ?_
  refine am_s_ic_gt dc59_3.1.2.2 rfl (fun c1 => ?_) (fun c1 => ?_)
  · refine am_s_iconst am_cc1 dc59_4.1.2.2 ?_
    refine am_s_goto rfl dc59_4.2.1 ?_
    exact am_s_zreturn dc59_4.2.2.2 rfl (by decide) (q1 c1)
  · refine am_s_aload_n rfl dc59_3.2.1.1 ?_
    refine am_s_iconst am_cc1 dc59_3.2.1.2 ?_
    refine am_s_aload_n rfl dc59_3.2.2.1 ?_
    refine am_x_getI (x := I 1 3) dc59_3.2.2.2 rfl rfl (Or.inl rfl) rfl ?_
    exact am_s_virtual true dc59_4.1.1 rfl (by decide) rfl rfl rfl (q2 c1)
theorem t59_4 {sc : Option (Nat × (Nat → Int32))} {d k n : Nat} {P : am_O → Prop} {I : am_I} {J : am_J} {Pf : am_R} (hp : am_PF Pf) {s0 : Int32} (q1 : am_go sc d 59 (13, [some (.ref 1)], [], (am_SH, am_u I 1 7 (I 1 3), J, Pf), k, n) P) : am_go sc d 59 (4, [some (.ref 1)], [.int s0], (am_SH, I, J, Pf), k, n) P := by
  refine am_s_pop rfl dc59_0.1.2.1 ?_
  refine am_s_aload_n rfl dc59_0.1.2.2 ?_
  refine am_s_aload_n rfl dc59_0.2.1.1 ?_
  refine am_x_getI (x := I 1 3) dc59_0.2.1.2 rfl rfl (Or.inl rfl) rfl ?_
  refine am_s_putI dc59_0.2.2.1 rfl rfl rfl rfl ?_
  exact q1
theorem t59_28 {sc : Option (Nat × (Nat → Int32))} {d k n : Nat} {P : am_O → Prop} {I : am_I} {J : am_J} {Pf : am_R} (hp : am_PF Pf) {s0 : Int32} (q1 : am_mth d 187 [.int s0] (am_SH, I, J, Pf) (am_af sc d 59 28 [some (.ref 1)] [.int s0] [] (am_SH, I, J, Pf) k n false P)) : am_go sc d 59 (28, [some (.ref 1)], [.int s0], (am_SH, I, J, Pf), k, n) P := by
  exact am_s_static dc59_1.2.2.1 rfl rfl rfl (q1)
theorem t59_67 {sc : Option (Nat × (Nat → Int32))} {d k n : Nat} {P : am_O → Prop} {I : am_I} {J : am_J} {Pf : am_R} (hp : am_PF Pf) {l0 : Option Value} {s0 : Int32} (q1 : (s0 = 0) → P (.inl (some (.int 0)), (am_SH, I, J, Pf), k, n)) (q2 : (¬ (s0 = 0)) → P (.inl (some (.int 1)), (am_SH, I, J, Pf), k, n)) : am_go sc d 59 (67, [l0], [.int s0], (am_SH, I, J, Pf), k, n) P := by
  refine am_s_if_eq dc59_4.1.2.1 rfl (fun c1 => ?_) (fun c1 => ?_)
  · refine am_s_iconst am_cc0 dc59_4.2.2.1 ?_
    exact am_s_zreturn dc59_4.2.2.2 rfl (by decide) (q1 c1)
  · refine am_s_iconst am_cc1 dc59_4.1.2.2 ?_
    refine am_s_goto rfl dc59_4.2.1 ?_
    exact am_s_zreturn dc59_4.2.2.2 rfl (by decide) (q2 c1)
theorem t59_31 {sc : Option (Nat × (Nat → Int32))} {d k n : Nat} {P : am_O → Prop} {I : am_I} {J : am_J} {Pf : am_R} (hp : am_PF Pf) {s0 : Int32} (q1 : (s0 = 0) → am_go sc d 59 (47, [some (.ref 1)], [], (am_SH, I, J, Pf), k, n) P) (q2 : (¬ (s0 = 0)) → am_go sc d 59 (13, [some (.ref 1)], [], (am_SH, am_u I 1 3 ((I 1 3) + 1), J, Pf), k, n) P) : am_go sc d 59 (31, [some (.ref 1)], [.int s0], (am_SH, I, J, Pf), k, n) P := by
  refine am_s_if_eq dc59_1.2.2.2 rfl (fun c1 => ?_) (fun c1 => ?_)
  · exact q1 c1
  · refine am_s_aload_n rfl dc59_2.1.1.1 ?_
    refine am_s_dup rfl dc59_2.1.1.2 ?_
    refine am_x_getI (x := I 1 3) dc59_2.1.2.1 rfl rfl (Or.inl rfl) rfl ?_
    refine am_s_iconst am_cc1 dc59_2.1.2.2 ?_
    refine am_s_iadd dc59_2.2.1.1 ?_
    refine am_s_putI dc59_2.2.1.2 rfl rfl rfl rfl ?_
    refine am_s_goto rfl dc59_2.2.2.1 ?_
    exact q2 c1
-- isNamed (Ljava/lang/String;)Z
theorem dc60_0 : (((decode (am_by 60) 0 = .ok (.aload_n 0, 1)) ∧ (decode (am_by 60) 1 = .ok (.getfield 25, 3))) ∧ ((decode (am_by 60) 4 = .ok (.aload_n 0, 1)) ∧ (decode (am_by 60) 5 = .ok (.getfield 58, 3)))) ∧ (((decode (am_by 60) 8 = .ok (.isub, 1)) ∧ (decode (am_by 60) 9 = .ok (.aload_n 1, 1))) ∧ ((decode (am_by 60) 10 = .ok (.invokevirtual 64, 3)) ∧ (decode (am_by 60) 13 = .ok (.if_icmp .eq 5, 3)))) := by decide +kernel
theorem dc60_1 : (((decode (am_by 60) 16 = .ok (.iconst 0, 1)) ∧ (decode (am_by 60) 17 = .ok (.ireturn, 1))) ∧ ((decode (am_by 60) 18 = .ok (.iconst 0, 1)) ∧ (decode (am_by 60) 19 = .ok (.istore_n 2, 1)))) ∧ (((decode (am_by 60) 20 = .ok (.iload_n 2, 1)) ∧ (decode (am_by 60) 21 = .ok (.aload_n 1, 1))) ∧ ((decode (am_by 60) 22 = .ok (.invokevirtual 64, 3)) ∧ (decode (am_by 60) 25 = .ok (.if_icmp .ge 43, 3)))) := by decide +kernel
theorem dc60_2 : (((decode (am_by 60) 28 = .ok (.aload_n 0, 1)) ∧ (decode (am_by 60) 29 = .ok (.getfield 58, 3))) ∧ ((decode (am_by 60) 32 = .ok (.iload_n 2, 1)) ∧ (decode (am_by 60) 33 = .ok (.iadd, 1)))) ∧ (((decode (am_by 60) 34 = .ok (.istore_n 3, 1)) ∧ (decode (am_by 60) 35 = .ok (.iload_n 3, 1))) ∧ ((decode (am_by 60) 36 = .ok (.ifCond .lt 24, 3)) ∧ (decode (am_by 60) 39 = .ok (.iload_n 3, 1)))) := by decide +kernel
theorem dc60_3 : (((decode (am_by 60) 40 = .ok (.sipush 600, 3)) ∧ (decode (am_by 60) 43 = .ok (.if_icmp .ge 17, 3))) ∧ ((decode (am_by 60) 46 = .ok (.aload_n 0, 1)) ∧ (decode (am_by 60) 47 = .ok (.getfield 9, 3)))) ∧ (((decode (am_by 60) 50 = .ok (.iload_n 3, 1)) ∧ (decode (am_by 60) 51 = .ok (.iaload, 1))) ∧ ((decode (am_by 60) 52 = .ok (.aload_n 1, 1)) ∧ (decode (am_by 60) 53 = .ok (.iload_n 2, 1)))) := by decide +kernel
theorem dc60_4 : (((decode (am_by 60) 54 = .ok (.invokevirtual 68, 3)) ∧ (decode (am_by 60) 57 = .ok (.if_icmp .eq 5, 3))) ∧ ((decode (am_by 60) 60 = .ok (.iconst 0, 1)) ∧ (decode (am_by 60) 61 = .ok (.ireturn, 1)))) ∧ (((decode (am_by 60) 62 = .ok (.iinc 2 1, 3)) ∧ (decode (am_by 60) 65 = .ok (.goto (-45), 3))) ∧ ((decode (am_by 60) 68 = .ok (.iconst 1, 1)) ∧ (decode (am_by 60) 69 = .ok (.ireturn, 1)))) := by decide +kernel
theorem t60_0 {sc : Option (Nat × (Nat → Int32))} {d k n : Nat} {P : am_O → Prop} {I : am_I} {J : am_J} {Pf : am_R} (hp : am_PF Pf) {x1 : Nat} (hx1 : am_strq x1 = true) {l2 : Option Value} {l3 : Option Value} (q1 : am_mth d 331 [.retAddr x1] (am_SH, I, J, Pf) (am_af sc d 60 10 [some (.ref 1), some (.retAddr x1), l2, l3] [.retAddr x1, .int ((I 1 3) - (I 1 7))] [.int ((I 1 3) - (I 1 7))] (am_SH, I, J, Pf) k n false P)) : am_go sc d 60 (0, [some (.ref 1), some (.retAddr x1), l2, l3], [], (am_SH, I, J, Pf), k, n) P := by
  refine am_s_aload_n rfl dc60_0.1.1.1 ?_
  refine am_x_getI (x := I 1 3) dc60_0.1.1.2 rfl rfl (Or.inl rfl) rfl ?_
  refine am_s_aload_n rfl dc60_0.1.2.1 ?_
  refine am_x_getI (x := I 1 7) dc60_0.1.2.2 rfl rfl (Or.inl rfl) rfl ?_
  refine am_s_isub dc60_0.2.1.1 ?_
  refine am_s_aload_nT rfl dc60_0.2.1.2 ?_
  exact am_s_virtualT dc60_0.2.2.1 rfl rfl rfl (am_vT hx1 rfl rfl) (q1)
theorem t60_20 {sc : Option (Nat × (Nat → Int32))} {d k n : Nat} {P : am_O → Prop} {I : am_I} {J : am_J} {Pf : am_R} (hp : am_PF Pf) {x1 : Nat} (hx1 : am_strq x1 = true) {x2 : Int32} {l3 : Option Value} (q1 : am_mth d 331 [.retAddr x1] (am_SH, I, J, Pf) (am_af sc d 60 22 [some (.ref 1), some (.retAddr x1), some (.int x2), l3] [.retAddr x1, .int x2] [.int x2] (am_SH, I, J, Pf) k n false P)) : am_go sc d 60 (20, [some (.ref 1), some (.retAddr x1), some (.int x2), l3], [], (am_SH, I, J, Pf), k, n) P := by
  refine am_s_iload_n rfl dc60_1.2.1.1 ?_
  refine am_s_aload_nT rfl dc60_1.2.1.2 ?_
  exact am_s_virtualT dc60_1.2.2.1 rfl rfl rfl (am_vT hx1 rfl rfl) (q1)
theorem t60_13 {sc : Option (Nat × (Nat → Int32))} {d k n : Nat} {P : am_O → Prop} {I : am_I} {J : am_J} {Pf : am_R} (hp : am_PF Pf) {x1 : Nat} (hx1 : am_strq x1 = true) {l2 : Option Value} {l3 : Option Value} {s0 : Int32} {s1 : Int32} (q1 : (s0 = s1) → am_go sc d 60 (20, [some (.ref 1), some (.retAddr x1), some (.int 0), l3], [], (am_SH, I, J, Pf), k, n) P) (q2 : (¬ (s0 = s1)) → P (.inl (some (.int 0)), (am_SH, I, J, Pf), k, n)) : am_go sc d 60 (13, [some (.ref 1), some (.retAddr x1), l2, l3], [.int s1, .int s0], (am_SH, I, J, Pf), k, n) P := by
  refine am_s_ic_eq dc60_0.2.2.2 rfl (fun c1 => ?_) (fun c1 => ?_)
  · refine am_s_iconst am_cc0 dc60_1.1.2.1 ?_
    refine am_s_istore_n (ls' := [some (.ref 1), some (.retAddr x1), some (.int 0), l3]) rfl rfl dc60_1.1.2.2 ?_
    exact q1 c1
  · refine am_s_iconst am_cc0 dc60_1.1.1.1 ?_
    exact am_s_zreturn dc60_1.1.1.2 rfl (by decide) (q2 c1)
theorem t60_25 {sc : Option (Nat × (Nat → Int32))} {d k n : Nat} {P : am_O → Prop} {I : am_I} {J : am_J} {Pf : am_R} (hp : am_PF Pf) {x1 : Nat} (hx1 : am_strq x1 = true) {x2 : Int32} {l3 : Option Value} {s0 : Int32} {s1 : Int32} (q1 : (s1 ≤ s0) → P (.inl (some (.int 1)), (am_SH, I, J, Pf), k, n)) (q2 : (¬ (s1 ≤ s0)) → (((I 1 7) + x2) < 0) → P (.inl (some (.int 0)), (am_SH, I, J, Pf), k, n)) (q3 : (¬ (s1 ≤ s0)) → (¬ (((I 1 7) + x2) < 0)) → (600 ≤ ((I 1 7) + x2)) → P (.inl (some (.int 0)), (am_SH, I, J, Pf), k, n)) (q4 : (¬ (s1 ≤ s0)) → (¬ (((I 1 7) + x2) < 0)) → (¬ (600 ≤ ((I 1 7) + x2))) → am_in ((I 1 7) + x2) 600 = true) (q5 : (¬ (s1 ≤ s0)) → (¬ (((I 1 7) + x2) < 0)) → (¬ (600 ≤ ((I 1 7) + x2))) → am_mth d 332 [.retAddr x1, .int x2] (am_SH, I, J, Pf) (am_af sc d 60 54 [some (.ref 1), some (.retAddr x1), some (.int x2), some (.int ((I 1 7) + x2))] [.int x2, .retAddr x1, .int (I 2 (Int32.toNatClampNeg ((I 1 7) + x2)))] [.int (I 2 (Int32.toNatClampNeg ((I 1 7) + x2)))] (am_SH, I, J, Pf) k n false P)) : am_go sc d 60 (25, [some (.ref 1), some (.retAddr x1), some (.int x2), l3], [.int s1, .int s0], (am_SH, I, J, Pf), k, n) P := by
  refine am_s_ic_ge dc60_1.2.2.2 rfl (fun c1 => ?_) (fun c1 => ?_)
  · refine am_s_iconst am_cc1 dc60_4.2.2.1 ?_
    exact am_s_zreturn dc60_4.2.2.2 rfl (by decide) (q1 c1)
  · refine am_s_aload_n rfl dc60_2.1.1.1 ?_
    refine am_x_getI (x := I 1 7) dc60_2.1.1.2 rfl rfl (Or.inl rfl) rfl ?_
    refine am_s_iload_n rfl dc60_2.1.2.1 ?_
    refine am_s_iadd dc60_2.1.2.2 ?_
    refine am_s_istore_n (ls' := [some (.ref 1), some (.retAddr x1), some (.int x2), some (.int ((I 1 7) + x2))]) rfl rfl dc60_2.2.1.1 ?_
    refine am_s_iload_n rfl dc60_2.2.1.2 ?_
    refine am_s_if_lt dc60_2.2.2.1 rfl (fun c2 => ?_) (fun c2 => ?_)
    · refine am_s_iconst am_cc0 dc60_4.1.2.1 ?_
      exact am_s_zreturn dc60_4.1.2.2 rfl (by decide) (q2 c1 c2)
    · refine am_s_iload_n rfl dc60_2.2.2.2 ?_
      refine am_s_sipush am_cs600 dc60_3.1.1.1 ?_
      refine am_s_ic_ge dc60_3.1.1.2 rfl (fun c3 => ?_) (fun c3 => ?_)
      · refine am_s_iconst am_cc0 dc60_4.1.2.1 ?_
        exact am_s_zreturn dc60_4.1.2.2 rfl (by decide) (q3 c1 c2 c3)
      · refine am_s_aload_n rfl dc60_3.1.2.1 ?_
        refine am_s_getR (r := 2) dc60_3.1.2.2 rfl rfl rfl (hp _ _ _ rfl) ?_
        refine am_s_iload_n rfl dc60_3.2.1.1 ?_
        refine am_x_iaload (x := I 2 (Int32.toNatClampNeg ((I 1 7) + x2))) dc60_3.2.1.2 rfl (q4 c1 c2 c3) rfl rfl ?_
        refine am_s_aload_nT rfl dc60_3.2.2.1 ?_
        refine am_s_iload_n rfl dc60_3.2.2.2 ?_
        exact am_s_virtualT dc60_4.1.1.1 rfl rfl rfl (am_vT hx1 rfl rfl) (q5 c1 c2 c3)
theorem t60_57 {sc : Option (Nat × (Nat → Int32))} {d k n : Nat} {P : am_O → Prop} {I : am_I} {J : am_J} {Pf : am_R} (hp : am_PF Pf) {x1 : Nat} (hx1 : am_strq x1 = true) {x2 : Int32} {l3 : Option Value} {s0 : Int32} {s1 : Int32} (q1 : (s0 = s1) → am_go sc d 60 (20, [some (.ref 1), some (.retAddr x1), some (.int (x2 + 1)), l3], [], (am_SH, I, J, Pf), k, n) P) (q2 : (¬ (s0 = s1)) → P (.inl (some (.int 0)), (am_SH, I, J, Pf), k, n)) : am_go sc d 60 (57, [some (.ref 1), some (.retAddr x1), some (.int x2), l3], [.int s1, .int s0], (am_SH, I, J, Pf), k, n) P := by
  refine am_s_ic_eq dc60_4.1.1.2 rfl (fun c1 => ?_) (fun c1 => ?_)
  · refine am_s_iinc (ls' := [some (.ref 1), some (.retAddr x1), some (.int (x2 + 1)), l3]) am_cc1 rfl rfl dc60_4.2.1.1 ?_
    refine am_s_goto rfl dc60_4.2.1.2 ?_
    exact q1 c1
  · refine am_s_iconst am_cc0 dc60_4.1.2.1 ?_
    exact am_s_zreturn dc60_4.1.2.2 rfl (by decide) (q2 c1)
-- open (I)Z
theorem dc61_0 : (((decode (am_by 61) 0 = .ok (.aload_n 0, 1)) ∧ (decode (am_by 61) 1 = .ok (.dup, 1))) ∧ ((decode (am_by 61) 2 = .ok (.getfield 28, 3)) ∧ (decode (am_by 61) 5 = .ok (.iconst 1, 1)))) ∧ (((decode (am_by 61) 6 = .ok (.iadd, 1)) ∧ (decode (am_by 61) 7 = .ok (.putfield 28, 3))) ∧ ((decode (am_by 61) 10 = .ok (.aload_n 0, 1)) ∧ (decode (am_by 61) 11 = .ok (.getfield 28, 3)))) := by decide +kernel
theorem dc61_1 : (((decode (am_by 61) 14 = .ok (.bipush 6, 2)) ∧ (decode (am_by 61) 16 = .ok (.if_icmp .le 12, 3))) ∧ ((decode (am_by 61) 19 = .ok (.aload_n 0, 1)) ∧ (decode (am_by 61) 20 = .ok (.iconst 3, 1)))) ∧ (((decode (am_by 61) 21 = .ok (.iload_n 1, 1)) ∧ (decode (am_by 61) 22 = .ok (.invokevirtual 38, 3))) ∧ ((decode (am_by 61) 25 = .ok (.ifCond .eq 7, 3)) ∧ (decode (am_by 61) 28 = .ok (.iconst 1, 1)))) := by decide +kernel
theorem dc61_2 : (decode (am_by 61) 29 = .ok (.goto 4, 3)) ∧ ((decode (am_by 61) 32 = .ok (.iconst 0, 1)) ∧ (decode (am_by 61) 33 = .ok (.ireturn, 1))) := by decide +kernel
theorem t61_0 {sc : Option (Nat × (Nat → Int32))} {d k n : Nat} {P : am_O → Prop} {I : am_I} {J : am_J} {Pf : am_R} (hp : am_PF Pf) {x1 : Int32} (q1 : (((I 1 4) + 1) ≤ 6) → P (.inl (some (.int 1)), (am_SH, am_u I 1 4 ((I 1 4) + 1), J, Pf), k, n)) (q2 : (¬ (((I 1 4) + 1) ≤ 6)) → am_mth d 53 [.ref 1, .int 3, .int x1] (am_SH, am_u I 1 4 ((I 1 4) + 1), J, Pf) (am_af sc d 61 22 [some (.ref 1), some (.int x1)] [.int x1, .int 3, .ref 1] [] (am_SH, am_u I 1 4 ((I 1 4) + 1), J, Pf) k n true P)) : am_go sc d 61 (0, [some (.ref 1), some (.int x1)], [], (am_SH, I, J, Pf), k, n) P := by
  refine am_s_aload_n rfl dc61_0.1.1.1 ?_
  refine am_s_dup rfl dc61_0.1.1.2 ?_
  refine am_x_getI (x := I 1 4) dc61_0.1.2.1 rfl rfl (Or.inl rfl) rfl ?_
  refine am_s_iconst am_cc1 dc61_0.1.2.2 ?_
  refine am_s_iadd dc61_0.2.1.1 ?_
  refine am_s_putI dc61_0.2.1.2 rfl rfl rfl rfl ?_
  refine am_s_aload_n rfl dc61_0.2.2.1 ?_
  refine am_x_getI (x := (I 1 4) + 1) dc61_0.2.2.2 rfl rfl (Or.inl rfl) rfl ?_
  refine am_s_bipush am_cb6 dc61_1.1.1.1 ?_
  refine am_s_ic_le dc61_1.1.1.2 rfl (fun c1 => ?_) (fun c1 => ?_)
  · refine am_s_iconst am_cc1 dc61_1.2.2.2 ?_
    refine am_s_goto rfl dc61_2.1 ?_
    exact am_s_zreturn dc61_2.2.2 rfl (by decide) (q1 c1)
  · refine am_s_aload_n rfl dc61_1.1.2.1 ?_
    refine am_s_iconst am_cc3 dc61_1.1.2.2 ?_
    refine am_s_iload_n rfl dc61_1.2.1.1 ?_
    exact am_s_virtual true dc61_1.2.1.2 rfl (by decide) rfl rfl rfl (q2 c1)
theorem t61_25 {sc : Option (Nat × (Nat → Int32))} {d k n : Nat} {P : am_O → Prop} {I : am_I} {J : am_J} {Pf : am_R} (hp : am_PF Pf) {l0 : Option Value} {l1 : Option Value} {s0 : Int32} (q1 : (s0 = 0) → P (.inl (some (.int 0)), (am_SH, I, J, Pf), k, n)) (q2 : (¬ (s0 = 0)) → P (.inl (some (.int 1)), (am_SH, I, J, Pf), k, n)) : am_go sc d 61 (25, [l0, l1], [.int s0], (am_SH, I, J, Pf), k, n) P := by
  refine am_s_if_eq dc61_1.2.2.1 rfl (fun c1 => ?_) (fun c1 => ?_)
  · refine am_s_iconst am_cc0 dc61_2.2.1 ?_
    exact am_s_zreturn dc61_2.2.2 rfl (by decide) (q1 c1)
  · refine am_s_iconst am_cc1 dc61_1.2.2.2 ?_
    refine am_s_goto rfl dc61_2.1 ?_
    exact am_s_zreturn dc61_2.2.2 rfl (by decide) (q2 c1)
-- shut ()V
theorem dc62_0 : ((decode (am_by 62) 0 = .ok (.aload_n 0, 1)) ∧ ((decode (am_by 62) 1 = .ok (.dup, 1)) ∧ (decode (am_by 62) 2 = .ok (.getfield 28, 3)))) ∧ (((decode (am_by 62) 5 = .ok (.iconst 1, 1)) ∧ (decode (am_by 62) 6 = .ok (.isub, 1))) ∧ ((decode (am_by 62) 7 = .ok (.putfield 28, 3)) ∧ (decode (am_by 62) 10 = .ok (.return_, 1)))) := by decide +kernel
theorem t62_0 {sc : Option (Nat × (Nat → Int32))} {d k n : Nat} {P : am_O → Prop} {I : am_I} {J : am_J} {Pf : am_R} (hp : am_PF Pf)  (q1 : P (.inl none, (am_SH, am_u I 1 4 ((I 1 4) - 1), J, Pf), k, n)) : am_go sc d 62 (0, [some (.ref 1)], [], (am_SH, I, J, Pf), k, n) P := by
  refine am_s_aload_n rfl dc62_0.1.1 ?_
  refine am_s_dup rfl dc62_0.1.2.1 ?_
  refine am_x_getI (x := I 1 4) dc62_0.1.2.2 rfl rfl (Or.inl rfl) rfl ?_
  refine am_s_iconst am_cc1 dc62_0.2.1.1 ?_
  refine am_s_isub dc62_0.2.1.2 ?_
  refine am_s_putI dc62_0.2.2.1 rfl rfl rfl rfl ?_
  exact am_s_return dc62_0.2.2.2 rfl (q1)
-- takeSign (Z)I
theorem dc63_0 : (((decode (am_by 63) 0 = .ok (.aload_n 0, 1)) ∧ (decode (am_by 63) 1 = .ok (.invokevirtual 49, 3))) ∧ ((decode (am_by 63) 4 = .ok (.istore_n 2, 1)) ∧ (decode (am_by 63) 5 = .ok (.iload_n 2, 1)))) ∧ (((decode (am_by 63) 6 = .ok (.bipush 92, 2)) ∧ (decode (am_by 63) 8 = .ok (.if_icmp .ne 7, 3))) ∧ ((decode (am_by 63) 11 = .ok (.iconst 1, 1)) ∧ (decode (am_by 63) 12 = .ok (.goto 4, 3)))) := by decide +kernel
theorem dc63_1 : (((decode (am_by 63) 15 = .ok (.iconst 0, 1)) ∧ (decode (am_by 63) 16 = .ok (.istore_n 3, 1))) ∧ ((decode (am_by 63) 17 = .ok (.iload_n 3, 1)) ∧ (decode (am_by 63) 18 = .ok (.ifCond .eq 18, 3)))) ∧ (((decode (am_by 63) 21 = .ok (.aload_n 0, 1)) ∧ (decode (am_by 63) 22 = .ok (.dup, 1))) ∧ ((decode (am_by 63) 23 = .ok (.getfield 25, 3)) ∧ (decode (am_by 63) 26 = .ok (.iconst 1, 1)))) := by decide +kernel
theorem dc63_2 : (((decode (am_by 63) 27 = .ok (.iadd, 1)) ∧ (decode (am_by 63) 28 = .ok (.putfield 25, 3))) ∧ ((decode (am_by 63) 31 = .ok (.aload_n 0, 1)) ∧ (decode (am_by 63) 32 = .ok (.invokevirtual 49, 3)))) ∧ (((decode (am_by 63) 35 = .ok (.istore_n 2, 1)) ∧ (decode (am_by 63) 36 = .ok (.iload_n 2, 1))) ∧ ((decode (am_by 63) 37 = .ok (.invokestatic 72, 3)) ∧ (decode (am_by 63) 40 = .ok (.ifCond .eq 15, 3)))) := by decide +kernel
theorem dc63_3 : (((decode (am_by 63) 43 = .ok (.iload_n 3, 1)) ∧ (decode (am_by 63) 44 = .ok (.ifCond .ne 23, 3))) ∧ ((decode (am_by 63) 47 = .ok (.iload_n 2, 1)) ∧ (decode (am_by 63) 48 = .ok (.iload_n 1, 1)))) ∧ (((decode (am_by 63) 49 = .ok (.invokestatic 75, 3)) ∧ (decode (am_by 63) 52 = .ok (.ifCond .eq 15, 3))) ∧ ((decode (am_by 63) 55 = .ok (.aload_n 0, 1)) ∧ (decode (am_by 63) 56 = .ok (.iconst 1, 1)))) := by decide +kernel
theorem dc63_4 : (((decode (am_by 63) 57 = .ok (.aload_n 0, 1)) ∧ (decode (am_by 63) 58 = .ok (.getfield 25, 3))) ∧ ((decode (am_by 63) 61 = .ok (.invokevirtual 38, 3)) ∧ (decode (am_by 63) 64 = .ok (.pop, 1)))) ∧ (((decode (am_by 63) 65 = .ok (.iconst (-1), 1)) ∧ (decode (am_by 63) 66 = .ok (.ireturn, 1))) ∧ ((decode (am_by 63) 67 = .ok (.aload_n 0, 1)) ∧ (decode (am_by 63) 68 = .ok (.dup, 1)))) := by decide +kernel
theorem dc63_5 : ((decode (am_by 63) 69 = .ok (.getfield 25, 3)) ∧ ((decode (am_by 63) 72 = .ok (.iconst 1, 1)) ∧ (decode (am_by 63) 73 = .ok (.iadd, 1)))) ∧ ((decode (am_by 63) 74 = .ok (.putfield 25, 3)) ∧ ((decode (am_by 63) 77 = .ok (.iload_n 2, 1)) ∧ (decode (am_by 63) 78 = .ok (.ireturn, 1)))) := by decide +kernel
theorem t63_0 {sc : Option (Nat × (Nat → Int32))} {d k n : Nat} {P : am_O → Prop} {I : am_I} {J : am_J} {Pf : am_R} (hp : am_PF Pf) {x1 : Int32} {l2 : Option Value} {l3 : Option Value} (q1 : am_mth d 54 [.ref 1] (am_SH, I, J, Pf) (am_af sc d 63 1 [some (.ref 1), some (.int x1), l2, l3] [.ref 1] [] (am_SH, I, J, Pf) k n true P)) : am_go sc d 63 (0, [some (.ref 1), some (.int x1), l2, l3], [], (am_SH, I, J, Pf), k, n) P := by
  refine am_s_aload_n rfl dc63_0.1.1.1 ?_
  exact am_s_virtual true dc63_0.1.1.2 rfl (by decide) rfl rfl rfl (q1)
theorem t63_36 {sc : Option (Nat × (Nat → Int32))} {d k n : Nat} {P : am_O → Prop} {I : am_I} {J : am_J} {Pf : am_R} (hp : am_PF Pf) {x1 : Int32} {x2 : Int32} {x3 : Int32} (q1 : am_mth d 185 [.int x2] (am_SH, I, J, Pf) (am_af sc d 63 37 [some (.ref 1), some (.int x1), some (.int x2), some (.int x3)] [.int x2] [] (am_SH, I, J, Pf) k n false P)) : am_go sc d 63 (36, [some (.ref 1), some (.int x1), some (.int x2), some (.int x3)], [], (am_SH, I, J, Pf), k, n) P := by
  refine am_s_iload_n rfl dc63_2.2.1.2 ?_
  exact am_s_static dc63_2.2.2.1 rfl rfl rfl (q1)
theorem t63_55 {sc : Option (Nat × (Nat → Int32))} {d k n : Nat} {P : am_O → Prop} {I : am_I} {J : am_J} {Pf : am_R} (hp : am_PF Pf) {l1 : Option Value} {l2 : Option Value} {l3 : Option Value} (q1 : am_mth d 53 [.ref 1, .int 1, .int (I 1 3)] (am_SH, I, J, Pf) (am_af sc d 63 61 [some (.ref 1), l1, l2, l3] [.int (I 1 3), .int 1, .ref 1] [] (am_SH, I, J, Pf) k n true P)) : am_go sc d 63 (55, [some (.ref 1), l1, l2, l3], [], (am_SH, I, J, Pf), k, n) P := by
  refine am_s_aload_n rfl dc63_3.2.2.1 ?_
  refine am_s_iconst am_cc1 dc63_3.2.2.2 ?_
  refine am_s_aload_n rfl dc63_4.1.1.1 ?_
  refine am_x_getI (x := I 1 3) dc63_4.1.1.2 rfl rfl (Or.inl rfl) rfl ?_
  exact am_s_virtual true dc63_4.1.2.1 rfl (by decide) rfl rfl rfl (q1)
theorem t63_67 {sc : Option (Nat × (Nat → Int32))} {d k n : Nat} {P : am_O → Prop} {I : am_I} {J : am_J} {Pf : am_R} (hp : am_PF Pf) {l1 : Option Value} {x2 : Int32} {l3 : Option Value} (q1 : P (.inl (some (.int x2)), (am_SH, am_u I 1 3 ((I 1 3) + 1), J, Pf), k, n)) : am_go sc d 63 (67, [some (.ref 1), l1, some (.int x2), l3], [], (am_SH, I, J, Pf), k, n) P := by
  refine am_s_aload_n rfl dc63_4.2.2.1 ?_
  refine am_s_dup rfl dc63_4.2.2.2 ?_
  refine am_x_getI (x := I 1 3) dc63_5.1.1 rfl rfl (Or.inl rfl) rfl ?_
  refine am_s_iconst am_cc1 dc63_5.1.2.1 ?_
  refine am_s_iadd dc63_5.1.2.2 ?_
  refine am_s_putI dc63_5.2.1 rfl rfl rfl rfl ?_
  refine am_s_iload_n rfl dc63_5.2.2.1 ?_
  exact am_s_ireturn dc63_5.2.2.2 rfl (q1)
theorem t63_4 {sc : Option (Nat × (Nat → Int32))} {d k n : Nat} {P : am_O → Prop} {I : am_I} {J : am_J} {Pf : am_R} (hp : am_PF Pf) {x1 : Int32} {l2 : Option Value} {l3 : Option Value} {s0 : Int32} (q1 : (¬ s0 = 92) → am_go sc d 63 (36, [some (.ref 1), some (.int x1), some (.int s0), some (.int 0)], [], (am_SH, I, J, Pf), k, n) P) (q2 : (¬ (¬ s0 = 92)) → am_mth d 54 [.ref 1] (am_SH, am_u I 1 3 ((I 1 3) + 1), J, Pf) (am_af sc d 63 32 [some (.ref 1), some (.int x1), some (.int s0), some (.int 1)] [.ref 1] [] (am_SH, am_u I 1 3 ((I 1 3) + 1), J, Pf) k n true P)) : am_go sc d 63 (4, [some (.ref 1), some (.int x1), l2, l3], [.int s0], (am_SH, I, J, Pf), k, n) P := by
  refine am_s_istore_n (ls' := [some (.ref 1), some (.int x1), some (.int s0), l3]) rfl rfl dc63_0.1.2.1 ?_
  refine am_s_iload_n rfl dc63_0.1.2.2 ?_
  refine am_s_bipush am_cb92 dc63_0.2.1.1 ?_
  refine am_s_ic_ne dc63_0.2.1.2 rfl (fun c1 => ?_) (fun c1 => ?_)
  · refine am_s_iconst am_cc0 dc63_1.1.1.1 ?_
    refine am_s_istore_n (ls' := [some (.ref 1), some (.int x1), some (.int s0), some (.int 0)]) rfl rfl dc63_1.1.1.2 ?_
    refine am_s_iload_n rfl dc63_1.1.2.1 ?_
    refine am_s_if_eq dc63_1.1.2.2 rfl (fun _ => ?_) (fun z => absurd z (by decide))
    exact q1 c1
  · refine am_s_iconst am_cc1 dc63_0.2.2.1 ?_
    refine am_s_goto rfl dc63_0.2.2.2 ?_
    refine am_s_istore_n (ls' := [some (.ref 1), some (.int x1), some (.int s0), some (.int 1)]) rfl rfl dc63_1.1.1.2 ?_
    refine am_s_iload_n rfl dc63_1.1.2.1 ?_
    refine am_s_if_eq dc63_1.1.2.2 rfl (fun z => absurd z (by decide)) (fun _ => ?_)
    refine am_s_aload_n rfl dc63_1.2.1.1 ?_
    refine am_s_dup rfl dc63_1.2.1.2 ?_
    refine am_x_getI (x := I 1 3) dc63_1.2.2.1 rfl rfl (Or.inl rfl) rfl ?_
    refine am_s_iconst am_cc1 dc63_1.2.2.2 ?_
    refine am_s_iadd dc63_2.1.1.1 ?_
    refine am_s_putI dc63_2.1.1.2 rfl rfl rfl rfl ?_
    refine am_s_aload_n rfl dc63_2.1.2.1 ?_
    exact am_s_virtual true dc63_2.1.2.2 rfl (by decide) rfl rfl rfl (q2 c1)
theorem t63_40 {sc : Option (Nat × (Nat → Int32))} {d k n : Nat} {P : am_O → Prop} {I : am_I} {J : am_J} {Pf : am_R} (hp : am_PF Pf) {x1 : Int32} {x2 : Int32} {x3 : Int32} {s0 : Int32} (q1 : (s0 = 0) → am_go sc d 63 (55, [some (.ref 1), some (.int x1), some (.int x2), some (.int x3)], [], (am_SH, I, J, Pf), k, n) P) (q2 : (¬ (s0 = 0)) → (¬ x3 = 0) → am_go sc d 63 (67, [some (.ref 1), some (.int x1), some (.int x2), some (.int x3)], [], (am_SH, I, J, Pf), k, n) P) (q3 : (¬ (s0 = 0)) → (¬ (¬ x3 = 0)) → am_mth d 64 [.int x2, .int x1] (am_SH, I, J, Pf) (am_af sc d 63 49 [some (.ref 1), some (.int x1), some (.int x2), some (.int x3)] [.int x1, .int x2] [] (am_SH, I, J, Pf) k n false P)) : am_go sc d 63 (40, [some (.ref 1), some (.int x1), some (.int x2), some (.int x3)], [.int s0], (am_SH, I, J, Pf), k, n) P := by
  refine am_s_if_eq dc63_2.2.2.2 rfl (fun c1 => ?_) (fun c1 => ?_)
  · exact q1 c1
  · refine am_s_iload_n rfl dc63_3.1.1.1 ?_
    refine am_s_if_ne dc63_3.1.1.2 rfl (fun c2 => ?_) (fun c2 => ?_)
    · exact q2 c1 c2
    · refine am_s_iload_n rfl dc63_3.1.2.1 ?_
      refine am_s_iload_n rfl dc63_3.1.2.2 ?_
      exact am_s_static dc63_3.2.1.1 rfl rfl rfl (q3 c1 c2)
theorem t63_64 {sc : Option (Nat × (Nat → Int32))} {d k n : Nat} {P : am_O → Prop} {I : am_I} {J : am_J} {Pf : am_R} (hp : am_PF Pf) {l0 : Option Value} {l1 : Option Value} {l2 : Option Value} {l3 : Option Value} {s0 : Int32} (q1 : P (.inl (some (.int (-1))), (am_SH, I, J, Pf), k, n)) : am_go sc d 63 (64, [l0, l1, l2, l3], [.int s0], (am_SH, I, J, Pf), k, n) P := by
  refine am_s_pop rfl dc63_4.1.2.2 ?_
  refine am_s_iconst am_ccm1 dc63_4.2.1.1 ?_
  exact am_s_ireturn dc63_4.2.1.2 rfl (q1)
theorem t63_35 {sc : Option (Nat × (Nat → Int32))} {d k n : Nat} {P : am_O → Prop} {I : am_I} {J : am_J} {Pf : am_R} (hp : am_PF Pf) {x1 : Int32} {l2 : Option Value} {x3 : Int32} {s0 : Int32} (q1 : am_go sc d 63 (36, [some (.ref 1), some (.int x1), some (.int s0), some (.int x3)], [], (am_SH, I, J, Pf), k, n) P) : am_go sc d 63 (35, [some (.ref 1), some (.int x1), l2, some (.int x3)], [.int s0], (am_SH, I, J, Pf), k, n) P := by
  refine am_s_istore_n (ls' := [some (.ref 1), some (.int x1), some (.int s0), some (.int x3)]) rfl rfl dc63_2.2.1.1 ?_
  exact q1
theorem t63_52 {sc : Option (Nat × (Nat → Int32))} {d k n : Nat} {P : am_O → Prop} {I : am_I} {J : am_J} {Pf : am_R} (hp : am_PF Pf) {l1 : Option Value} {x2 : Int32} {l3 : Option Value} {s0 : Int32} (q1 : (s0 = 0) → am_go sc d 63 (67, [some (.ref 1), l1, some (.int x2), l3], [], (am_SH, I, J, Pf), k, n) P) (q2 : (¬ (s0 = 0)) → am_go sc d 63 (55, [some (.ref 1), l1, some (.int x2), l3], [], (am_SH, I, J, Pf), k, n) P) : am_go sc d 63 (52, [some (.ref 1), l1, some (.int x2), l3], [.int s0], (am_SH, I, J, Pf), k, n) P := by
  refine am_s_if_eq dc63_3.2.1.2 rfl (fun c1 => ?_) (fun c1 => ?_)
  · exact q1 c1
  · exact q2 c1
-- isBarred (IZ)Z
theorem dc64_0 : (((decode (am_by 64) 0 = .ok (.iload_n 1, 1)) ∧ (decode (am_by 64) 1 = .ok (.ifCond .eq 15, 3))) ∧ ((decode (am_by 64) 4 = .ok (.iload_n 0, 1)) ∧ (decode (am_by 64) 5 = .ok (.bipush 39, 2)))) ∧ (((decode (am_by 64) 7 = .ok (.if_icmp .ne 7, 3)) ∧ (decode (am_by 64) 10 = .ok (.iconst 1, 1))) ∧ ((decode (am_by 64) 11 = .ok (.goto 4, 3)) ∧ (decode (am_by 64) 14 = .ok (.iconst 0, 1)))) := by decide +kernel
theorem dc64_1 : (((decode (am_by 64) 15 = .ok (.ireturn, 1)) ∧ (decode (am_by 64) 16 = .ok (.iload_n 0, 1))) ∧ ((decode (am_by 64) 17 = .ok (.bipush 93, 2)) ∧ (decode (am_by 64) 19 = .ok (.if_icmp .eq 15, 3)))) ∧ (((decode (am_by 64) 22 = .ok (.iload_n 0, 1)) ∧ (decode (am_by 64) 23 = .ok (.bipush 45, 2))) ∧ ((decode (am_by 64) 25 = .ok (.if_icmp .eq 9, 3)) ∧ (decode (am_by 64) 28 = .ok (.iload_n 0, 1)))) := by decide +kernel
theorem dc64_2 : ((decode (am_by 64) 29 = .ok (.bipush 32, 2)) ∧ ((decode (am_by 64) 31 = .ok (.if_icmp .ne 7, 3)) ∧ (decode (am_by 64) 34 = .ok (.iconst 1, 1)))) ∧ ((decode (am_by 64) 35 = .ok (.goto 4, 3)) ∧ ((decode (am_by 64) 38 = .ok (.iconst 0, 1)) ∧ (decode (am_by 64) 39 = .ok (.ireturn, 1)))) := by decide +kernel
theorem t64_0 {sc : Option (Nat × (Nat → Int32))} {d k n : Nat} {P : am_O → Prop} {I : am_I} {J : am_J} {Pf : am_R} (hp : am_PF Pf) {x0 : Int32} {x1 : Int32} (q1 : (x1 = 0) → (x0 = 93) → P (.inl (some (.int 1)), (am_SH, I, J, Pf), k, n)) (q2 : (x1 = 0) → (¬ (x0 = 93)) → (x0 = 45) → P (.inl (some (.int 1)), (am_SH, I, J, Pf), k, n)) (q3 : (x1 = 0) → (¬ (x0 = 93)) → (¬ (x0 = 45)) → (¬ x0 = 32) → P (.inl (some (.int 0)), (am_SH, I, J, Pf), k, n)) (q4 : (x1 = 0) → (¬ (x0 = 93)) → (¬ (x0 = 45)) → (¬ (¬ x0 = 32)) → P (.inl (some (.int 1)), (am_SH, I, J, Pf), k, n)) (q5 : (¬ (x1 = 0)) → (¬ x0 = 39) → P (.inl (some (.int 0)), (am_SH, I, J, Pf), k, n)) (q6 : (¬ (x1 = 0)) → (¬ (¬ x0 = 39)) → P (.inl (some (.int 1)), (am_SH, I, J, Pf), k, n)) : am_go sc d 64 (0, [some (.int x0), some (.int x1)], [], (am_SH, I, J, Pf), k, n) P := by
  refine am_s_iload_n rfl dc64_0.1.1.1 ?_
  refine am_s_if_eq dc64_0.1.1.2 rfl (fun c1 => ?_) (fun c1 => ?_)
  · refine am_s_iload_n rfl dc64_1.1.1.2 ?_
    refine am_s_bipush am_cb93 dc64_1.1.2.1 ?_
    refine am_s_ic_eq dc64_1.1.2.2 rfl (fun c2 => ?_) (fun c2 => ?_)
    · refine am_s_iconst am_cc1 dc64_2.1.2.2 ?_
      refine am_s_goto rfl dc64_2.2.1 ?_
      exact am_s_zreturn dc64_2.2.2.2 rfl (by decide) (q1 c1 c2)
    · refine am_s_iload_n rfl dc64_1.2.1.1 ?_
      refine am_s_bipush am_cb45 dc64_1.2.1.2 ?_
      refine am_s_ic_eq dc64_1.2.2.1 rfl (fun c3 => ?_) (fun c3 => ?_)
      · refine am_s_iconst am_cc1 dc64_2.1.2.2 ?_
        refine am_s_goto rfl dc64_2.2.1 ?_
        exact am_s_zreturn dc64_2.2.2.2 rfl (by decide) (q2 c1 c2 c3)
      · refine am_s_iload_n rfl dc64_1.2.2.2 ?_
        refine am_s_bipush am_cb32 dc64_2.1.1 ?_
        refine am_s_ic_ne dc64_2.1.2.1 rfl (fun c4 => ?_) (fun c4 => ?_)
        · refine am_s_iconst am_cc0 dc64_2.2.2.1 ?_
          exact am_s_zreturn dc64_2.2.2.2 rfl (by decide) (q3 c1 c2 c3 c4)
        · refine am_s_iconst am_cc1 dc64_2.1.2.2 ?_
          refine am_s_goto rfl dc64_2.2.1 ?_
          exact am_s_zreturn dc64_2.2.2.2 rfl (by decide) (q4 c1 c2 c3 c4)
  · refine am_s_iload_n rfl dc64_0.1.2.1 ?_
    refine am_s_bipush am_cb39 dc64_0.1.2.2 ?_
    refine am_s_ic_ne dc64_0.2.1.1 rfl (fun c2 => ?_) (fun c2 => ?_)
    · refine am_s_iconst am_cc0 dc64_0.2.2.2 ?_
      exact am_s_zreturn dc64_1.1.1.1 rfl (by decide) (q5 c1 c2)
    · refine am_s_iconst am_cc1 dc64_0.2.1.2 ?_
      refine am_s_goto rfl dc64_0.2.2.1 ?_
      exact am_s_zreturn dc64_1.1.1.1 rfl (by decide) (q6 c1 c2)
-- takeWord ([II)I
theorem dc65_0 : (((decode (am_by 65) 0 = .ok (.aload_n 0, 1)) ∧ (decode (am_by 65) 1 = .ok (.bipush 39, 2))) ∧ ((decode (am_by 65) 3 = .ok (.invokevirtual 79, 3)) ∧ (decode (am_by 65) 6 = .ok (.ifCond .ne 5, 3)))) ∧ (((decode (am_by 65) 9 = .ok (.iconst (-1), 1)) ∧ (decode (am_by 65) 10 = .ok (.ireturn, 1))) ∧ ((decode (am_by 65) 11 = .ok (.aload_n 0, 1)) ∧ (decode (am_by 65) 12 = .ok (.aload_n 0, 1)))) := by decide +kernel
theorem dc65_1 : (((decode (am_by 65) 13 = .ok (.getfield 25, 3)) ∧ (decode (am_by 65) 16 = .ok (.iconst 1, 1))) ∧ ((decode (am_by 65) 17 = .ok (.isub, 1)) ∧ (decode (am_by 65) 18 = .ok (.putfield 82, 3)))) ∧ (((decode (am_by 65) 21 = .ok (.iconst 0, 1)) ∧ (decode (am_by 65) 22 = .ok (.istore_n 3, 1))) ∧ ((decode (am_by 65) 23 = .ok (.aload_n 0, 1)) ∧ (decode (am_by 65) 24 = .ok (.getfield 25, 3)))) := by decide +kernel
theorem dc65_2 : (((decode (am_by 65) 27 = .ok (.aload_n 0, 1)) ∧ (decode (am_by 65) 28 = .ok (.getfield 22, 3))) ∧ ((decode (am_by 65) 31 = .ok (.if_icmp .ge 62, 3)) ∧ (decode (am_by 65) 34 = .ok (.aload_n 0, 1)))) ∧ (((decode (am_by 65) 35 = .ok (.invokevirtual 49, 3)) ∧ (decode (am_by 65) 38 = .ok (.bipush 39, 2))) ∧ ((decode (am_by 65) 40 = .ok (.if_icmp .eq 53, 3)) ∧ (decode (am_by 65) 43 = .ok (.aload_n 0, 1)))) := by decide +kernel
theorem dc65_3 : (((decode (am_by 65) 44 = .ok (.iconst 1, 1)) ∧ (decode (am_by 65) 45 = .ok (.invokevirtual 85, 3))) ∧ ((decode (am_by 65) 48 = .ok (.istore 4, 2)) ∧ (decode (am_by 65) 50 = .ok (.iload 4, 2)))) ∧ (((decode (am_by 65) 52 = .ok (.iconst (-1), 1)) ∧ (decode (am_by 65) 53 = .ok (.if_icmp .ne 5, 3))) ∧ ((decode (am_by 65) 56 = .ok (.iconst (-1), 1)) ∧ (decode (am_by 65) 57 = .ok (.ireturn, 1)))) := by decide +kernel
theorem dc65_4 : (((decode (am_by 65) 58 = .ok (.iload_n 2, 1)) ∧ (decode (am_by 65) 59 = .ok (.iload_n 3, 1))) ∧ ((decode (am_by 65) 60 = .ok (.iadd, 1)) ∧ (decode (am_by 65) 61 = .ok (.istore 5, 2)))) ∧ (((decode (am_by 65) 63 = .ok (.iload_n 3, 1)) ∧ (decode (am_by 65) 64 = .ok (.bipush 8, 2))) ∧ ((decode (am_by 65) 66 = .ok (.if_icmp .ge 21, 3)) ∧ (decode (am_by 65) 69 = .ok (.iload 5, 2)))) := by decide +kernel
theorem dc65_5 : (((decode (am_by 65) 71 = .ok (.ifCond .lt 16, 3)) ∧ (decode (am_by 65) 74 = .ok (.iload 5, 2))) ∧ ((decode (am_by 65) 76 = .ok (.aload_n 1, 1)) ∧ (decode (am_by 65) 77 = .ok (.arraylength, 1)))) ∧ (((decode (am_by 65) 78 = .ok (.if_icmp .ge 9, 3)) ∧ (decode (am_by 65) 81 = .ok (.aload_n 1, 1))) ∧ ((decode (am_by 65) 82 = .ok (.iload 5, 2)) ∧ (decode (am_by 65) 84 = .ok (.iload 4, 2)))) := by decide +kernel
theorem dc65_6 : (((decode (am_by 65) 86 = .ok (.iastore, 1)) ∧ (decode (am_by 65) 87 = .ok (.iinc 3 1, 3))) ∧ ((decode (am_by 65) 90 = .ok (.goto (-67), 3)) ∧ (decode (am_by 65) 93 = .ok (.aload_n 0, 1)))) ∧ (((decode (am_by 65) 94 = .ok (.getfield 25, 3)) ∧ (decode (am_by 65) 97 = .ok (.aload_n 0, 1))) ∧ ((decode (am_by 65) 98 = .ok (.getfield 22, 3)) ∧ (decode (am_by 65) 101 = .ok (.if_icmp .ge 7, 3)))) := by decide +kernel
theorem dc65_7 : (((decode (am_by 65) 104 = .ok (.iconst 1, 1)) ∧ (decode (am_by 65) 105 = .ok (.goto 4, 3))) ∧ ((decode (am_by 65) 108 = .ok (.iconst 0, 1)) ∧ (decode (am_by 65) 109 = .ok (.istore 4, 2)))) ∧ (((decode (am_by 65) 111 = .ok (.iload 4, 2)) ∧ (decode (am_by 65) 113 = .ok (.ifCond .eq 13, 3))) ∧ ((decode (am_by 65) 116 = .ok (.iload_n 3, 1)) ∧ (decode (am_by 65) 117 = .ok (.ifCond .eq 9, 3)))) := by decide +kernel
theorem dc65_8 : (((decode (am_by 65) 120 = .ok (.iload_n 3, 1)) ∧ (decode (am_by 65) 121 = .ok (.bipush 8, 2))) ∧ ((decode (am_by 65) 123 = .ok (.if_icmp .le 30, 3)) ∧ (decode (am_by 65) 126 = .ok (.aload_n 0, 1)))) ∧ (((decode (am_by 65) 127 = .ok (.iload 4, 2)) ∧ (decode (am_by 65) 129 = .ok (.ifCond .eq 13, 3))) ∧ ((decode (am_by 65) 132 = .ok (.iload_n 3, 1)) ∧ (decode (am_by 65) 133 = .ok (.bipush 8, 2)))) := by decide +kernel
theorem dc65_9 : (((decode (am_by 65) 135 = .ok (.if_icmp .le 7, 3)) ∧ (decode (am_by 65) 138 = .ok (.iconst 2, 1))) ∧ ((decode (am_by 65) 139 = .ok (.goto 4, 3)) ∧ (decode (am_by 65) 142 = .ok (.iconst 1, 1)))) ∧ (((decode (am_by 65) 143 = .ok (.aload_n 0, 1)) ∧ (decode (am_by 65) 144 = .ok (.getfield 25, 3))) ∧ ((decode (am_by 65) 147 = .ok (.invokevirtual 38, 3)) ∧ (decode (am_by 65) 150 = .ok (.pop, 1)))) := by decide +kernel
theorem dc65_10 : (((decode (am_by 65) 151 = .ok (.iconst (-1), 1)) ∧ (decode (am_by 65) 152 = .ok (.ireturn, 1))) ∧ ((decode (am_by 65) 153 = .ok (.aload_n 0, 1)) ∧ (decode (am_by 65) 154 = .ok (.dup, 1)))) ∧ (((decode (am_by 65) 155 = .ok (.getfield 25, 3)) ∧ (decode (am_by 65) 158 = .ok (.iconst 1, 1))) ∧ ((decode (am_by 65) 159 = .ok (.iadd, 1)) ∧ (decode (am_by 65) 160 = .ok (.putfield 25, 3)))) := by decide +kernel
theorem dc65_11 : (decode (am_by 65) 163 = .ok (.iload_n 3, 1)) ∧ (decode (am_by 65) 164 = .ok (.ireturn, 1)) := by decide +kernel
theorem t65_0 {sc : Option (Nat × (Nat → Int32))} {d k n : Nat} {P : am_O → Prop} {I : am_I} {J : am_J} {Pf : am_R} (hp : am_PF Pf) {x1 : Nat} {Lx1 : Nat} (hx1 : am_SH[x1]? = some (.inr (0, Lx1))) {x2 : Int32} {l3 : Option Value} {l4 : Option Value} {l5 : Option Value} (q1 : am_mth d 56 [.ref 1, .int 39] (am_SH, I, J, Pf) (am_af sc d 65 3 [some (.ref 1), some (.ref x1), some (.int x2), l3, l4, l5] [.int 39, .ref 1] [] (am_SH, I, J, Pf) k n true P)) : am_go sc d 65 (0, [some (.ref 1), some (.ref x1), some (.int x2), l3, l4, l5], [], (am_SH, I, J, Pf), k, n) P := by
  refine am_s_aload_n rfl dc65_0.1.1.1 ?_
  refine am_s_bipush am_cb39 dc65_0.1.1.2 ?_
  exact am_s_virtual true dc65_0.1.2.1 rfl (by decide) rfl rfl rfl (q1)
theorem t65_23 {sc : Option (Nat × (Nat → Int32))} {d k n : Nat} {P : am_O → Prop} {I : am_I} {J : am_J} {Pf : am_R} (hp : am_PF Pf) {x1 : Nat} {Lx1 : Nat} (hx1 : am_SH[x1]? = some (.inr (0, Lx1))) {x2 : Int32} {x3 : Int32} {l4 : Option Value} {l5 : Option Value} (q1 : ((I 1 2) ≤ (I 1 3)) → am_go sc d 65 (93, [some (.ref 1), some (.ref x1), some (.int x2), some (.int x3), l4, l5], [], (am_SH, I, J, Pf), k, n) P) (q2 : (¬ ((I 1 2) ≤ (I 1 3))) → am_mth d 54 [.ref 1] (am_SH, I, J, Pf) (am_af sc d 65 35 [some (.ref 1), some (.ref x1), some (.int x2), some (.int x3), l4, l5] [.ref 1] [] (am_SH, I, J, Pf) k n true P)) : am_go sc d 65 (23, [some (.ref 1), some (.ref x1), some (.int x2), some (.int x3), l4, l5], [], (am_SH, I, J, Pf), k, n) P := by
  refine am_s_aload_n rfl dc65_1.2.2.1 ?_
  refine am_x_getI (x := I 1 3) dc65_1.2.2.2 rfl rfl (Or.inl rfl) rfl ?_
  refine am_s_aload_n rfl dc65_2.1.1.1 ?_
  refine am_x_getI (x := I 1 2) dc65_2.1.1.2 rfl rfl (Or.inl rfl) rfl ?_
  refine am_s_ic_ge dc65_2.1.2.1 rfl (fun c1 => ?_) (fun c1 => ?_)
  · exact q1 c1
  · refine am_s_aload_n rfl dc65_2.1.2.2 ?_
    exact am_s_virtual true dc65_2.2.1.1 rfl (by decide) rfl rfl rfl (q2 c1)
theorem t65_93 {sc : Option (Nat × (Nat → Int32))} {d k n : Nat} {P : am_O → Prop} {I : am_I} {J : am_J} {Pf : am_R} (hp : am_PF Pf) {l1 : Option Value} {l2 : Option Value} {x3 : Int32} {l4 : Option Value} {l5 : Option Value} (q1 : ((I 1 2) ≤ (I 1 3)) → am_go sc d 65 (126, [some (.ref 1), l1, l2, some (.int x3), some (.int 0), l5], [], (am_SH, I, J, Pf), k, n) P) (q2 : (¬ ((I 1 2) ≤ (I 1 3))) → (x3 = 0) → am_go sc d 65 (126, [some (.ref 1), l1, l2, some (.int x3), some (.int 1), l5], [], (am_SH, I, J, Pf), k, n) P) (q3 : (¬ ((I 1 2) ≤ (I 1 3))) → (¬ (x3 = 0)) → (x3 ≤ 8) → P (.inl (some (.int x3)), (am_SH, am_u I 1 3 ((I 1 3) + 1), J, Pf), k, n)) (q4 : (¬ ((I 1 2) ≤ (I 1 3))) → (¬ (x3 = 0)) → (¬ (x3 ≤ 8)) → am_go sc d 65 (126, [some (.ref 1), l1, l2, some (.int x3), some (.int 1), l5], [], (am_SH, I, J, Pf), k, n) P) : am_go sc d 65 (93, [some (.ref 1), l1, l2, some (.int x3), l4, l5], [], (am_SH, I, J, Pf), k, n) P := by
  refine am_s_aload_n rfl dc65_6.1.2.2 ?_
  refine am_x_getI (x := I 1 3) dc65_6.2.1.1 rfl rfl (Or.inl rfl) rfl ?_
  refine am_s_aload_n rfl dc65_6.2.1.2 ?_
  refine am_x_getI (x := I 1 2) dc65_6.2.2.1 rfl rfl (Or.inl rfl) rfl ?_
  refine am_s_ic_ge dc65_6.2.2.2 rfl (fun c1 => ?_) (fun c1 => ?_)
  · refine am_s_iconst am_cc0 dc65_7.1.2.1 ?_
    refine am_s_istore (ls' := [some (.ref 1), l1, l2, some (.int x3), some (.int 0), l5]) rfl rfl dc65_7.1.2.2 ?_
    refine am_s_iload rfl dc65_7.2.1.1 ?_
    refine am_s_if_eq dc65_7.2.1.2 rfl (fun _ => ?_) (fun z => absurd z (by decide))
    exact q1 c1
  · refine am_s_iconst am_cc1 dc65_7.1.1.1 ?_
    refine am_s_goto rfl dc65_7.1.1.2 ?_
    refine am_s_istore (ls' := [some (.ref 1), l1, l2, some (.int x3), some (.int 1), l5]) rfl rfl dc65_7.1.2.2 ?_
    refine am_s_iload rfl dc65_7.2.1.1 ?_
    refine am_s_if_eq dc65_7.2.1.2 rfl (fun z => absurd z (by decide)) (fun _ => ?_)
    refine am_s_iload_n rfl dc65_7.2.2.1 ?_
    refine am_s_if_eq dc65_7.2.2.2 rfl (fun c2 => ?_) (fun c2 => ?_)
    · exact q2 c1 c2
    · refine am_s_iload_n rfl dc65_8.1.1.1 ?_
      refine am_s_bipush am_cb8 dc65_8.1.1.2 ?_
      refine am_s_ic_le dc65_8.1.2.1 rfl (fun c3 => ?_) (fun c3 => ?_)
      · refine am_s_aload_n rfl dc65_10.1.2.1 ?_
        refine am_s_dup rfl dc65_10.1.2.2 ?_
        refine am_x_getI (x := I 1 3) dc65_10.2.1.1 rfl rfl (Or.inl rfl) rfl ?_
        refine am_s_iconst am_cc1 dc65_10.2.1.2 ?_
        refine am_s_iadd dc65_10.2.2.1 ?_
        refine am_s_putI dc65_10.2.2.2 rfl rfl rfl rfl ?_
        refine am_s_iload_n rfl dc65_11.1 ?_
        exact am_s_ireturn dc65_11.2 rfl (q3 c1 c2 c3)
      · exact q4 c1 c2 c3
theorem t65_126 {sc : Option (Nat × (Nat → Int32))} {d k n : Nat} {P : am_O → Prop} {I : am_I} {J : am_J} {Pf : am_R} (hp : am_PF Pf) {l1 : Option Value} {l2 : Option Value} {x3 : Int32} {x4 : Int32} {l5 : Option Value} (q1 : (x4 = 0) → am_mth d 53 [.ref 1, .int 1, .int (I 1 3)] (am_SH, I, J, Pf) (am_af sc d 65 147 [some (.ref 1), l1, l2, some (.int x3), some (.int x4), l5] [.int (I 1 3), .int 1, .ref 1] [] (am_SH, I, J, Pf) k n true P)) (q2 : (¬ (x4 = 0)) → (x3 ≤ 8) → am_mth d 53 [.ref 1, .int 1, .int (I 1 3)] (am_SH, I, J, Pf) (am_af sc d 65 147 [some (.ref 1), l1, l2, some (.int x3), some (.int x4), l5] [.int (I 1 3), .int 1, .ref 1] [] (am_SH, I, J, Pf) k n true P)) (q3 : (¬ (x4 = 0)) → (¬ (x3 ≤ 8)) → am_mth d 53 [.ref 1, .int 2, .int (I 1 3)] (am_SH, I, J, Pf) (am_af sc d 65 147 [some (.ref 1), l1, l2, some (.int x3), some (.int x4), l5] [.int (I 1 3), .int 2, .ref 1] [] (am_SH, I, J, Pf) k n true P)) : am_go sc d 65 (126, [some (.ref 1), l1, l2, some (.int x3), some (.int x4), l5], [], (am_SH, I, J, Pf), k, n) P := by
  refine am_s_aload_n rfl dc65_8.1.2.2 ?_
  refine am_s_iload rfl dc65_8.2.1.1 ?_
  refine am_s_if_eq dc65_8.2.1.2 rfl (fun c1 => ?_) (fun c1 => ?_)
  · refine am_s_iconst am_cc1 dc65_9.1.2.2 ?_
    refine am_s_aload_n rfl dc65_9.2.1.1 ?_
    refine am_x_getI (x := I 1 3) dc65_9.2.1.2 rfl rfl (Or.inl rfl) rfl ?_
    exact am_s_virtual true dc65_9.2.2.1 rfl (by decide) rfl rfl rfl (q1 c1)
  · refine am_s_iload_n rfl dc65_8.2.2.1 ?_
    refine am_s_bipush am_cb8 dc65_8.2.2.2 ?_
    refine am_s_ic_le dc65_9.1.1.1 rfl (fun c2 => ?_) (fun c2 => ?_)
    · refine am_s_iconst am_cc1 dc65_9.1.2.2 ?_
      refine am_s_aload_n rfl dc65_9.2.1.1 ?_
      refine am_x_getI (x := I 1 3) dc65_9.2.1.2 rfl rfl (Or.inl rfl) rfl ?_
      exact am_s_virtual true dc65_9.2.2.1 rfl (by decide) rfl rfl rfl (q2 c1 c2)
    · refine am_s_iconst am_cc2 dc65_9.1.1.2 ?_
      refine am_s_goto rfl dc65_9.1.2.1 ?_
      refine am_s_aload_n rfl dc65_9.2.1.1 ?_
      refine am_x_getI (x := I 1 3) dc65_9.2.1.2 rfl rfl (Or.inl rfl) rfl ?_
      exact am_s_virtual true dc65_9.2.2.1 rfl (by decide) rfl rfl rfl (q3 c1 c2)
theorem t65_6 {sc : Option (Nat × (Nat → Int32))} {d k n : Nat} {P : am_O → Prop} {I : am_I} {J : am_J} {Pf : am_R} (hp : am_PF Pf) {x1 : Nat} {Lx1 : Nat} (hx1 : am_SH[x1]? = some (.inr (0, Lx1))) {x2 : Int32} {l3 : Option Value} {l4 : Option Value} {l5 : Option Value} {s0 : Int32} (q1 : (¬ s0 = 0) → am_go sc d 65 (23, [some (.ref 1), some (.ref x1), some (.int x2), some (.int 0), l4, l5], [], (am_SH, am_u I 1 9 ((I 1 3) - 1), J, Pf), k, n) P) (q2 : (¬ (¬ s0 = 0)) → P (.inl (some (.int (-1))), (am_SH, I, J, Pf), k, n)) : am_go sc d 65 (6, [some (.ref 1), some (.ref x1), some (.int x2), l3, l4, l5], [.int s0], (am_SH, I, J, Pf), k, n) P := by
  refine am_s_if_ne dc65_0.1.2.2 rfl (fun c1 => ?_) (fun c1 => ?_)
  · refine am_s_aload_n rfl dc65_0.2.2.1 ?_
    refine am_s_aload_n rfl dc65_0.2.2.2 ?_
    refine am_x_getI (x := I 1 3) dc65_1.1.1.1 rfl rfl (Or.inl rfl) rfl ?_
    refine am_s_iconst am_cc1 dc65_1.1.1.2 ?_
    refine am_s_isub dc65_1.1.2.1 ?_
    refine am_s_putI dc65_1.1.2.2 rfl rfl rfl rfl ?_
    refine am_s_iconst am_cc0 dc65_1.2.1.1 ?_
    refine am_s_istore_n (ls' := [some (.ref 1), some (.ref x1), some (.int x2), some (.int 0), l4, l5]) rfl rfl dc65_1.2.1.2 ?_
    exact q1 c1
  · refine am_s_iconst am_ccm1 dc65_0.2.1.1 ?_
    exact am_s_ireturn dc65_0.2.1.2 rfl (q2 c1)
theorem t65_38 {sc : Option (Nat × (Nat → Int32))} {d k n : Nat} {P : am_O → Prop} {I : am_I} {J : am_J} {Pf : am_R} (hp : am_PF Pf) {x1 : Nat} {Lx1 : Nat} (hx1 : am_SH[x1]? = some (.inr (0, Lx1))) {x2 : Int32} {x3 : Int32} {l4 : Option Value} {l5 : Option Value} {s0 : Int32} (q1 : (s0 = 39) → am_go sc d 65 (93, [some (.ref 1), some (.ref x1), some (.int x2), some (.int x3), l4, l5], [], (am_SH, I, J, Pf), k, n) P) (q2 : (¬ (s0 = 39)) → am_mth d 63 [.ref 1, .int 1] (am_SH, I, J, Pf) (am_af sc d 65 45 [some (.ref 1), some (.ref x1), some (.int x2), some (.int x3), l4, l5] [.int 1, .ref 1] [] (am_SH, I, J, Pf) k n true P)) : am_go sc d 65 (38, [some (.ref 1), some (.ref x1), some (.int x2), some (.int x3), l4, l5], [.int s0], (am_SH, I, J, Pf), k, n) P := by
  refine am_s_bipush am_cb39 dc65_2.2.1.2 ?_
  refine am_s_ic_eq dc65_2.2.2.1 rfl (fun c1 => ?_) (fun c1 => ?_)
  · exact q1 c1
  · refine am_s_aload_n rfl dc65_2.2.2.2 ?_
    refine am_s_iconst am_cc1 dc65_3.1.1.1 ?_
    exact am_s_virtual true dc65_3.1.1.2 rfl (by decide) rfl rfl rfl (q2 c1)
theorem t65_150 {sc : Option (Nat × (Nat → Int32))} {d k n : Nat} {P : am_O → Prop} {I : am_I} {J : am_J} {Pf : am_R} (hp : am_PF Pf) {l0 : Option Value} {l1 : Option Value} {l2 : Option Value} {l3 : Option Value} {l4 : Option Value} {l5 : Option Value} {s0 : Int32} (q1 : P (.inl (some (.int (-1))), (am_SH, I, J, Pf), k, n)) : am_go sc d 65 (150, [l0, l1, l2, l3, l4, l5], [.int s0], (am_SH, I, J, Pf), k, n) P := by
  refine am_s_pop rfl dc65_9.2.2.2 ?_
  refine am_s_iconst am_ccm1 dc65_10.1.1.1 ?_
  exact am_s_ireturn dc65_10.1.1.2 rfl (q1)
theorem t65_48 {sc : Option (Nat × (Nat → Int32))} {d k n : Nat} {P : am_O → Prop} {I : am_I} {J : am_J} {Pf : am_R} (hp : am_PF Pf) {x1 : Nat} {Lx1 : Nat} (hx1 : am_SH[x1]? = some (.inr (0, Lx1))) {x2 : Int32} {x3 : Int32} {l4 : Option Value} {l5 : Option Value} {s0 : Int32} (q1 : (¬ s0 = (-1)) → (8 ≤ x3) → am_go sc d 65 (23, [some (.ref 1), some (.ref x1), some (.int x2), some (.int (x3 + 1)), some (.int s0), some (.int (x2 + x3))], [], (am_SH, I, J, Pf), k, n) P) (q2 : (¬ s0 = (-1)) → (¬ (8 ≤ x3)) → ((x2 + x3) < 0) → am_go sc d 65 (23, [some (.ref 1), some (.ref x1), some (.int x2), some (.int (x3 + 1)), some (.int s0), some (.int (x2 + x3))], [], (am_SH, I, J, Pf), k, n) P) (q3 : (¬ s0 = (-1)) → (¬ (8 ≤ x3)) → (¬ ((x2 + x3) < 0)) → ((Int32.ofNat Lx1) ≤ (x2 + x3)) → am_go sc d 65 (23, [some (.ref 1), some (.ref x1), some (.int x2), some (.int (x3 + 1)), some (.int s0), some (.int (x2 + x3))], [], (am_SH, I, J, Pf), k, n) P) (q4 : (¬ s0 = (-1)) → (¬ (8 ≤ x3)) → (¬ ((x2 + x3) < 0)) → (¬ ((Int32.ofNat Lx1) ≤ (x2 + x3))) → am_in (x2 + x3) Lx1 = true) (q5 : (¬ s0 = (-1)) → (¬ (8 ≤ x3)) → (¬ ((x2 + x3) < 0)) → (¬ ((Int32.ofNat Lx1) ≤ (x2 + x3))) → am_go sc d 65 (23, [some (.ref 1), some (.ref x1), some (.int x2), some (.int (x3 + 1)), some (.int s0), some (.int (x2 + x3))], [], (am_SH, am_u I x1 (Int32.toNatClampNeg (x2 + x3)) s0, J, Pf), k, n) P) (q6 : (¬ (¬ s0 = (-1))) → P (.inl (some (.int (-1))), (am_SH, I, J, Pf), k, n)) : am_go sc d 65 (48, [some (.ref 1), some (.ref x1), some (.int x2), some (.int x3), l4, l5], [.int s0], (am_SH, I, J, Pf), k, n) P := by
  refine am_s_istore (ls' := [some (.ref 1), some (.ref x1), some (.int x2), some (.int x3), some (.int s0), l5]) rfl rfl dc65_3.1.2.1 ?_
  refine am_s_iload rfl dc65_3.1.2.2 ?_
  refine am_s_iconst am_ccm1 dc65_3.2.1.1 ?_
  refine am_s_ic_ne dc65_3.2.1.2 rfl (fun c1 => ?_) (fun c1 => ?_)
  · refine am_s_iload_n rfl dc65_4.1.1.1 ?_
    refine am_s_iload_n rfl dc65_4.1.1.2 ?_
    refine am_s_iadd dc65_4.1.2.1 ?_
    refine am_s_istore (ls' := [some (.ref 1), some (.ref x1), some (.int x2), some (.int x3), some (.int s0), some (.int (x2 + x3))]) rfl rfl dc65_4.1.2.2 ?_
    refine am_s_iload_n rfl dc65_4.2.1.1 ?_
    refine am_s_bipush am_cb8 dc65_4.2.1.2 ?_
    refine am_s_ic_ge dc65_4.2.2.1 rfl (fun c2 => ?_) (fun c2 => ?_)
    · refine am_s_iinc (ls' := [some (.ref 1), some (.ref x1), some (.int x2), some (.int (x3 + 1)), some (.int s0), some (.int (x2 + x3))]) am_cc1 rfl rfl dc65_6.1.1.2 ?_
      refine am_s_goto rfl dc65_6.1.2.1 ?_
      exact q1 c1 c2
    · refine am_s_iload rfl dc65_4.2.2.2 ?_
      refine am_s_if_lt dc65_5.1.1.1 rfl (fun c3 => ?_) (fun c3 => ?_)
      · refine am_s_iinc (ls' := [some (.ref 1), some (.ref x1), some (.int x2), some (.int (x3 + 1)), some (.int s0), some (.int (x2 + x3))]) am_cc1 rfl rfl dc65_6.1.1.2 ?_
        refine am_s_goto rfl dc65_6.1.2.1 ?_
        exact q2 c1 c2 c3
      · refine am_s_iload rfl dc65_5.1.1.2 ?_
        refine am_s_aload_n rfl dc65_5.1.2.1 ?_
        refine am_s_len (x := Int32.ofNat Lx1) dc65_5.1.2.2 hx1 rfl rfl ?_
        refine am_s_ic_ge dc65_5.2.1.1 rfl (fun c4 => ?_) (fun c4 => ?_)
        · refine am_s_iinc (ls' := [some (.ref 1), some (.ref x1), some (.int x2), some (.int (x3 + 1)), some (.int s0), some (.int (x2 + x3))]) am_cc1 rfl rfl dc65_6.1.1.2 ?_
          refine am_s_goto rfl dc65_6.1.2.1 ?_
          exact q3 c1 c2 c3 c4
        · refine am_s_aload_n rfl dc65_5.2.1.2 ?_
          refine am_s_iload rfl dc65_5.2.2.1 ?_
          refine am_s_iload rfl dc65_5.2.2.2 ?_
          refine am_s_iastore dc65_6.1.1.1 hx1 (q4 c1 c2 c3 c4) rfl ?_
          refine am_s_iinc (ls' := [some (.ref 1), some (.ref x1), some (.int x2), some (.int (x3 + 1)), some (.int s0), some (.int (x2 + x3))]) am_cc1 rfl rfl dc65_6.1.1.2 ?_
          refine am_s_goto rfl dc65_6.1.2.1 ?_
          exact q5 c1 c2 c3 c4
  · refine am_s_iconst am_ccm1 dc65_3.2.2.1 ?_
    exact am_s_ireturn dc65_3.2.2.2 rfl (q6 c1)
