/-! Walks: tree -/
-- forget ()V
theorem dc123_0 : ((decode (am_by 123) 0 = .ok (.aload_n 0, 1)) ∧ ((decode (am_by 123) 1 = .ok (.iconst 0, 1)) ∧ (decode (am_by 123) 2 = .ok (.putfield 48, 3)))) ∧ (((decode (am_by 123) 5 = .ok (.aload_n 0, 1)) ∧ (decode (am_by 123) 6 = .ok (.iconst (-1), 1))) ∧ ((decode (am_by 123) 7 = .ok (.putfield 44, 3)) ∧ (decode (am_by 123) 10 = .ok (.return_, 1)))) := by decide +kernel
theorem t123_0 {sc : Option (Nat × (Nat → Int32))} {d k n : Nat} {P : am_O → Prop} {I : am_I} {J : am_J} {Pf : am_R} (hp : am_PF Pf)  (q1 : P (.inl none, (am_SH, am_u (am_u I 145 2 0) 145 6 (-1), J, Pf), k, n)) : am_go sc d 123 (0, [some (.ref 145)], [], (am_SH, I, J, Pf), k, n) P := by
  refine am_s_aload_n rfl dc123_0.1.1 ?_
  refine am_s_iconst am_cc0 dc123_0.1.2.1 ?_
  refine am_s_putZ dc123_0.1.2.2 rfl rfl rfl rfl (by decide) ?_
  refine am_s_aload_n rfl dc123_0.2.1.1 ?_
  refine am_s_iconst am_ccm1 dc123_0.2.1.2 ?_
  refine am_s_putI dc123_0.2.2.1 rfl rfl rfl rfl ?_
  exact am_s_return dc123_0.2.2.2 rfl (q1)
-- waysOf (III)I
theorem dc124_0 : (((decode (am_by 124) 0 = .ok (.aload_n 0, 1)) ∧ (decode (am_by 124) 1 = .ok (.getfield 40, 3))) ∧ ((decode (am_by 124) 4 = .ok (.iload_n 1, 1)) ∧ (decode (am_by 124) 5 = .ok (.iload_n 2, 1)))) ∧ (((decode (am_by 124) 6 = .ok (.iload_n 3, 1)) ∧ (decode (am_by 124) 7 = .ok (.invokevirtual 52, 3))) ∧ ((decode (am_by 124) 10 = .ok (.ifCond .ne 5, 3)) ∧ (decode (am_by 124) 13 = .ok (.iconst 0, 1)))) := by decide +kernel
theorem dc124_1 : (((decode (am_by 124) 14 = .ok (.ireturn, 1)) ∧ (decode (am_by 124) 15 = .ok (.aload_n 0, 1))) ∧ ((decode (am_by 124) 16 = .ok (.getfield 36, 3)) ∧ (decode (am_by 124) 19 = .ok (.getfield 58, 3)))) ∧ (((decode (am_by 124) 22 = .ok (.astore 4, 2)) ∧ (decode (am_by 124) 24 = .ok (.iconst 0, 1))) ∧ ((decode (am_by 124) 25 = .ok (.istore 5, 2)) ∧ (decode (am_by 124) 27 = .ok (.iconst 0, 1)))) := by decide +kernel
theorem dc124_2 : (((decode (am_by 124) 28 = .ok (.istore 6, 2)) ∧ (decode (am_by 124) 30 = .ok (.iload 6, 2))) ∧ ((decode (am_by 124) 32 = .ok (.aload 4, 2)) ∧ (decode (am_by 124) 34 = .ok (.getfield 64, 3)))) ∧ (((decode (am_by 124) 37 = .ok (.if_icmp .ge 34, 3)) ∧ (decode (am_by 124) 40 = .ok (.aload 4, 2))) ∧ ((decode (am_by 124) 42 = .ok (.getfield 69, 3)) ∧ (decode (am_by 124) 45 = .ok (.iload 6, 2)))) := by decide +kernel
theorem dc124_3 : (((decode (am_by 124) 47 = .ok (.iaload, 1)) ∧ (decode (am_by 124) 48 = .ok (.iload_n 1, 1))) ∧ ((decode (am_by 124) 49 = .ok (.if_icmp .ne 16, 3)) ∧ (decode (am_by 124) 52 = .ok (.iload 5, 2)))) ∧ (((decode (am_by 124) 54 = .ok (.aload_n 0, 1)) ∧ (decode (am_by 124) 55 = .ok (.iload 6, 2))) ∧ ((decode (am_by 124) 57 = .ok (.iload_n 2, 1)) ∧ (decode (am_by 124) 58 = .ok (.iload_n 3, 1)))) := by decide +kernel
theorem dc124_4 : (((decode (am_by 124) 59 = .ok (.invokevirtual 72, 3)) ∧ (decode (am_by 124) 62 = .ok (.iadd, 1))) ∧ ((decode (am_by 124) 63 = .ok (.istore 5, 2)) ∧ (decode (am_by 124) 65 = .ok (.iinc 6 1, 3)))) ∧ (((decode (am_by 124) 68 = .ok (.goto (-38), 3)) ∧ (decode (am_by 124) 71 = .ok (.iconst 0, 1))) ∧ ((decode (am_by 124) 72 = .ok (.istore 6, 2)) ∧ (decode (am_by 124) 74 = .ok (.iload 6, 2)))) := by decide +kernel
theorem dc124_5 : (((decode (am_by 124) 76 = .ok (.aload 4, 2)) ∧ (decode (am_by 124) 78 = .ok (.getfield 76, 3))) ∧ ((decode (am_by 124) 81 = .ok (.if_icmp .ge 43, 3)) ∧ (decode (am_by 124) 84 = .ok (.aload 4, 2)))) ∧ (((decode (am_by 124) 86 = .ok (.getfield 79, 3)) ∧ (decode (am_by 124) 89 = .ok (.iload 6, 2))) ∧ ((decode (am_by 124) 91 = .ok (.iaload, 1)) ∧ (decode (am_by 124) 92 = .ok (.iload_n 1, 1)))) := by decide +kernel
theorem dc124_6 : (((decode (am_by 124) 93 = .ok (.if_icmp .ne 25, 3)) ∧ (decode (am_by 124) 96 = .ok (.aload_n 0, 1))) ∧ ((decode (am_by 124) 97 = .ok (.getfield 40, 3)) ∧ (decode (am_by 124) 100 = .ok (.getfield 82, 3)))) ∧ (((decode (am_by 124) 103 = .ok (.iload 6, 2)) ∧ (decode (am_by 124) 105 = .ok (.bipush 25, 2))) ∧ ((decode (am_by 124) 107 = .ok (.imul, 1)) ∧ (decode (am_by 124) 108 = .ok (.iload_n 2, 1)))) := by decide +kernel
theorem dc124_7 : (((decode (am_by 124) 109 = .ok (.iadd, 1)) ∧ (decode (am_by 124) 110 = .ok (.iaload, 1))) ∧ ((decode (am_by 124) 111 = .ok (.iload_n 3, 1)) ∧ (decode (am_by 124) 112 = .ok (.if_icmp .ne 6, 3)))) ∧ (((decode (am_by 124) 115 = .ok (.iinc 5 1, 3)) ∧ (decode (am_by 124) 118 = .ok (.iinc 6 1, 3))) ∧ ((decode (am_by 124) 121 = .ok (.goto (-47), 3)) ∧ (decode (am_by 124) 124 = .ok (.iload 5, 2)))) := by decide +kernel
theorem dc124_8 : (decode (am_by 124) 126 = .ok (.sipush 9999, 3)) ∧ ((decode (am_by 124) 129 = .ok (.invokestatic 85, 3)) ∧ (decode (am_by 124) 132 = .ok (.ireturn, 1))) := by decide +kernel
theorem t124_0 {sc : Option (Nat × (Nat → Int32))} {d k n : Nat} {P : am_O → Prop} {I : am_I} {J : am_J} {Pf : am_R} (hp : am_PF Pf) {x1 : Int32} {x2 : Int32} {x3 : Int32} {l4 : Option Value} {l5 : Option Value} {l6 : Option Value} (q1 : am_mth d 118 [.ref 135, .int x1, .int x2, .int x3] (am_SH, I, J, Pf) (am_af sc d 124 7 [some (.ref 145), some (.int x1), some (.int x2), some (.int x3), l4, l5, l6] [.int x3, .int x2, .int x1, .ref 135] [] (am_SH, I, J, Pf) k n false P)) : am_go sc d 124 (0, [some (.ref 145), some (.int x1), some (.int x2), some (.int x3), l4, l5, l6], [], (am_SH, I, J, Pf), k, n) P := by
  refine am_s_aload_n rfl dc124_0.1.1.1 ?_
  refine am_s_getR (r := 135) dc124_0.1.1.2 rfl rfl rfl (hp _ _ _ rfl) ?_
  refine am_s_iload_n rfl dc124_0.1.2.1 ?_
  refine am_s_iload_n rfl dc124_0.1.2.2 ?_
  refine am_s_iload_n rfl dc124_0.2.1.1 ?_
  exact am_s_virtual false dc124_0.2.1.2 rfl (by decide) rfl rfl rfl (q1)
theorem t124_30 {sc : Option (Nat × (Nat → Int32))} {d k n : Nat} {P : am_O → Prop} {I : am_I} {J : am_J} {Pf : am_R} (hp : am_PF Pf) {x1 : Int32} {x2 : Int32} {x3 : Int32} {x4 : Nat} (hx4 : am_SH[x4]? = some (.inl 4)) {x5 : Int32} {x6 : Int32} (q1 : ((I x4 2) ≤ x6) → am_go sc d 124 (74, [some (.ref 145), some (.int x1), some (.int x2), some (.int x3), some (.ref x4), some (.int x5), some (.int 0)], [], (am_SH, I, J, Pf), k, n) P) (q2 : (¬ ((I x4 2) ≤ x6)) → am_in x6 20 = true) (q3 : (¬ ((I x4 2) ≤ x6)) → (¬ (I (x4 + 2) (Int32.toNatClampNeg x6)) = x1) → am_go sc d 124 (30, [some (.ref 145), some (.int x1), some (.int x2), some (.int x3), some (.ref x4), some (.int x5), some (.int (x6 + 1))], [], (am_SH, I, J, Pf), k, n) P) (q4 : (¬ ((I x4 2) ≤ x6)) → (¬ (¬ (I (x4 + 2) (Int32.toNatClampNeg x6)) = x1)) → am_mth d 125 [.ref 145, .int x6, .int x2, .int x3] (am_SH, I, J, Pf) (am_af sc d 124 59 [some (.ref 145), some (.int x1), some (.int x2), some (.int x3), some (.ref x4), some (.int x5), some (.int x6)] [.int x3, .int x2, .int x6, .ref 145, .int x5] [.int x5] (am_SH, I, J, Pf) k n true P)) : am_go sc d 124 (30, [some (.ref 145), some (.int x1), some (.int x2), some (.int x3), some (.ref x4), some (.int x5), some (.int x6)], [], (am_SH, I, J, Pf), k, n) P := by
  refine am_s_iload rfl dc124_2.1.1.2 ?_
  refine am_s_aload rfl dc124_2.1.2.1 ?_
  refine am_x_getI (x := I x4 2) dc124_2.1.2.2 rfl hx4 (Or.inl rfl) rfl ?_
  refine am_s_ic_ge dc124_2.2.1.1 rfl (fun c1 => ?_) (fun c1 => ?_)
  · refine am_s_iconst am_cc0 dc124_4.2.1.2 ?_
    refine am_s_istore (ls' := [some (.ref 145), some (.int x1), some (.int x2), some (.int x3), some (.ref x4), some (.int x5), some (.int 0)]) rfl rfl dc124_4.2.2.1 ?_
    exact q1 c1
  · refine am_s_aload rfl dc124_2.2.1.2 ?_
    refine am_s_getR (r := x4 + 2) dc124_2.2.2.1 rfl hx4 rfl (am_r4_3 hp hx4) ?_
    refine am_s_iload rfl dc124_2.2.2.2 ?_
    refine am_x_iaload (x := I (x4 + 2) (Int32.toNatClampNeg x6)) dc124_3.1.1.1 (am_h4_3 hx4) (q2 c1) rfl rfl ?_
    refine am_s_iload_n rfl dc124_3.1.1.2 ?_
    refine am_s_ic_ne dc124_3.1.2.1 rfl (fun c2 => ?_) (fun c2 => ?_)
    · refine am_s_iinc (ls' := [some (.ref 145), some (.int x1), some (.int x2), some (.int x3), some (.ref x4), some (.int x5), some (.int (x6 + 1))]) am_cc1 rfl rfl dc124_4.1.2.2 ?_
      refine am_s_goto rfl dc124_4.2.1.1 ?_
      exact q3 c1 c2
    · refine am_s_iload rfl dc124_3.1.2.2 ?_
      refine am_s_aload_n rfl dc124_3.2.1.1 ?_
      refine am_s_iload rfl dc124_3.2.1.2 ?_
      refine am_s_iload_n rfl dc124_3.2.2.1 ?_
      refine am_s_iload_n rfl dc124_3.2.2.2 ?_
      exact am_s_virtual true dc124_4.1.1.1 rfl (by decide) rfl rfl rfl (q4 c1 c2)
theorem t124_74 {sc : Option (Nat × (Nat → Int32))} {d k n : Nat} {P : am_O → Prop} {I : am_I} {J : am_J} {Pf : am_R} (hp : am_PF Pf) {x1 : Int32} {x2 : Int32} {x3 : Int32} {x4 : Nat} (hx4 : am_SH[x4]? = some (.inl 4)) {x5 : Int32} {x6 : Int32} (q1 : ((I x4 9) ≤ x6) → am_mth d 330 [.int x5, .int 9999] (am_SH, I, J, Pf) (am_af sc d 124 129 [some (.ref 145), some (.int x1), some (.int x2), some (.int x3), some (.ref x4), some (.int x5), some (.int x6)] [.int 9999, .int x5] [] (am_SH, I, J, Pf) k n false P)) (q2 : (¬ ((I x4 9) ≤ x6)) → am_in x6 4 = true) (q3 : (¬ ((I x4 9) ≤ x6)) → (¬ (I (x4 + 8) (Int32.toNatClampNeg x6)) = x1) → am_go sc d 124 (74, [some (.ref 145), some (.int x1), some (.int x2), some (.int x3), some (.ref x4), some (.int x5), some (.int (x6 + 1))], [], (am_SH, I, J, Pf), k, n) P) (q4 : (¬ ((I x4 9) ≤ x6)) → (¬ (¬ (I (x4 + 8) (Int32.toNatClampNeg x6)) = x1)) → am_in ((x6 * 25) + x2) 100 = true) (q5 : (¬ ((I x4 9) ≤ x6)) → (¬ (¬ (I (x4 + 8) (Int32.toNatClampNeg x6)) = x1)) → (¬ (I 139 (Int32.toNatClampNeg ((x6 * 25) + x2))) = x3) → am_go sc d 124 (74, [some (.ref 145), some (.int x1), some (.int x2), some (.int x3), some (.ref x4), some (.int x5), some (.int (x6 + 1))], [], (am_SH, I, J, Pf), k, n) P) (q6 : (¬ ((I x4 9) ≤ x6)) → (¬ (¬ (I (x4 + 8) (Int32.toNatClampNeg x6)) = x1)) → (¬ (¬ (I 139 (Int32.toNatClampNeg ((x6 * 25) + x2))) = x3)) → am_go sc d 124 (74, [some (.ref 145), some (.int x1), some (.int x2), some (.int x3), some (.ref x4), some (.int (x5 + 1)), some (.int (x6 + 1))], [], (am_SH, I, J, Pf), k, n) P) : am_go sc d 124 (74, [some (.ref 145), some (.int x1), some (.int x2), some (.int x3), some (.ref x4), some (.int x5), some (.int x6)], [], (am_SH, I, J, Pf), k, n) P := by
  refine am_s_iload rfl dc124_4.2.2.2 ?_
  refine am_s_aload rfl dc124_5.1.1.1 ?_
  refine am_x_getI (x := I x4 9) dc124_5.1.1.2 rfl hx4 (Or.inl rfl) rfl ?_
  refine am_s_ic_ge dc124_5.1.2.1 rfl (fun c1 => ?_) (fun c1 => ?_)
  · refine am_s_iload rfl dc124_7.2.2.2 ?_
    refine am_s_sipush am_cs9999 dc124_8.1 ?_
    exact am_s_static dc124_8.2.1 rfl rfl rfl (q1 c1)
  · refine am_s_aload rfl dc124_5.1.2.2 ?_
    refine am_s_getR (r := x4 + 8) dc124_5.2.1.1 rfl hx4 rfl (am_r4_10 hp hx4) ?_
    refine am_s_iload rfl dc124_5.2.1.2 ?_
    refine am_x_iaload (x := I (x4 + 8) (Int32.toNatClampNeg x6)) dc124_5.2.2.1 (am_h4_10 hx4) (q2 c1) rfl rfl ?_
    refine am_s_iload_n rfl dc124_5.2.2.2 ?_
    refine am_s_ic_ne dc124_6.1.1.1 rfl (fun c2 => ?_) (fun c2 => ?_)
    · refine am_s_iinc (ls' := [some (.ref 145), some (.int x1), some (.int x2), some (.int x3), some (.ref x4), some (.int x5), some (.int (x6 + 1))]) am_cc1 rfl rfl dc124_7.2.1.2 ?_
      refine am_s_goto rfl dc124_7.2.2.1 ?_
      exact q3 c1 c2
    · refine am_s_aload_n rfl dc124_6.1.1.2 ?_
      refine am_s_getR (r := 135) dc124_6.1.2.1 rfl rfl rfl (hp _ _ _ rfl) ?_
      refine am_s_getR (r := 139) dc124_6.1.2.2 rfl rfl rfl (hp _ _ _ rfl) ?_
      refine am_s_iload rfl dc124_6.2.1.1 ?_
      refine am_s_bipush am_cb25 dc124_6.2.1.2 ?_
      refine am_s_imul dc124_6.2.2.1 ?_
      refine am_s_iload_n rfl dc124_6.2.2.2 ?_
      refine am_s_iadd dc124_7.1.1.1 ?_
      refine am_x_iaload (x := I 139 (Int32.toNatClampNeg ((x6 * 25) + x2))) dc124_7.1.1.2 rfl (q4 c1 c2) rfl rfl ?_
      refine am_s_iload_n rfl dc124_7.1.2.1 ?_
      refine am_s_ic_ne dc124_7.1.2.2 rfl (fun c3 => ?_) (fun c3 => ?_)
      · refine am_s_iinc (ls' := [some (.ref 145), some (.int x1), some (.int x2), some (.int x3), some (.ref x4), some (.int x5), some (.int (x6 + 1))]) am_cc1 rfl rfl dc124_7.2.1.2 ?_
        refine am_s_goto rfl dc124_7.2.2.1 ?_
        exact q5 c1 c2 c3
      · refine am_s_iinc (ls' := [some (.ref 145), some (.int x1), some (.int x2), some (.int x3), some (.ref x4), some (.int (x5 + 1)), some (.int x6)]) am_cc1 rfl rfl dc124_7.2.1.1 ?_
        refine am_s_iinc (ls' := [some (.ref 145), some (.int x1), some (.int x2), some (.int x3), some (.ref x4), some (.int (x5 + 1)), some (.int (x6 + 1))]) am_cc1 rfl rfl dc124_7.2.1.2 ?_
        refine am_s_goto rfl dc124_7.2.2.1 ?_
        exact q6 c1 c2 c3
theorem t124_10 {sc : Option (Nat × (Nat → Int32))} {d k n : Nat} {P : am_O → Prop} {I : am_I} {J : am_J} {Pf : am_R} (hp : am_PF Pf) {x1 : Int32} {x2 : Int32} {x3 : Int32} {l4 : Option Value} {l5 : Option Value} {l6 : Option Value} {s0 : Int32} {r112_0 : Nat} (q1 : (¬ s0 = 0) → Pf 112 0 = some r112_0) (q2 : (¬ s0 = 0) → am_SH[r112_0]? = some (.inl 4)) (q3 : (¬ s0 = 0) → am_go sc d 124 (30, [some (.ref 145), some (.int x1), some (.int x2), some (.int x3), some (.ref r112_0), some (.int 0), some (.int 0)], [], (am_SH, I, J, Pf), k, n) P) (q4 : (¬ (¬ s0 = 0)) → P (.inl (some (.int 0)), (am_SH, I, J, Pf), k, n)) : am_go sc d 124 (10, [some (.ref 145), some (.int x1), some (.int x2), some (.int x3), l4, l5, l6], [.int s0], (am_SH, I, J, Pf), k, n) P := by
  refine am_s_if_ne dc124_0.2.2.1 rfl (fun c1 => ?_) (fun c1 => ?_)
  · refine am_s_aload_n rfl dc124_1.1.1.2 ?_
    refine am_s_getR (r := 112) dc124_1.1.2.1 rfl rfl rfl (hp _ _ _ rfl) ?_
    refine am_s_getR (r := r112_0) dc124_1.1.2.2 rfl rfl rfl (q1 c1) ?_
    refine am_s_astore (ls' := [some (.ref 145), some (.int x1), some (.int x2), some (.int x3), some (.ref r112_0), l5, l6]) rfl rfl dc124_1.2.1.1 ?_
    refine am_s_iconst am_cc0 dc124_1.2.1.2 ?_
    refine am_s_istore (ls' := [some (.ref 145), some (.int x1), some (.int x2), some (.int x3), some (.ref r112_0), some (.int 0), l6]) rfl rfl dc124_1.2.2.1 ?_
    refine am_s_iconst am_cc0 dc124_1.2.2.2 ?_
    refine am_s_istore (ls' := [some (.ref 145), some (.int x1), some (.int x2), some (.int x3), some (.ref r112_0), some (.int 0), some (.int 0)]) rfl rfl dc124_2.1.1.1 ?_
    exact q3 c1
  · refine am_s_iconst am_cc0 dc124_0.2.2.2 ?_
    exact am_s_ireturn dc124_1.1.1.1 rfl (q4 c1)
theorem t124_62 {sc : Option (Nat × (Nat → Int32))} {d k n : Nat} {P : am_O → Prop} {I : am_I} {J : am_J} {Pf : am_R} (hp : am_PF Pf) {x1 : Int32} {x2 : Int32} {x3 : Int32} {x4 : Nat} (hx4 : am_SH[x4]? = some (.inl 4)) {l5 : Option Value} {x6 : Int32} {s0 : Int32} {s1 : Int32} (q1 : am_go sc d 124 (30, [some (.ref 145), some (.int x1), some (.int x2), some (.int x3), some (.ref x4), some (.int (s0 + s1)), some (.int (x6 + 1))], [], (am_SH, I, J, Pf), k, n) P) : am_go sc d 124 (62, [some (.ref 145), some (.int x1), some (.int x2), some (.int x3), some (.ref x4), l5, some (.int x6)], [.int s1, .int s0], (am_SH, I, J, Pf), k, n) P := by
  refine am_s_iadd dc124_4.1.1.2 ?_
  refine am_s_istore (ls' := [some (.ref 145), some (.int x1), some (.int x2), some (.int x3), some (.ref x4), some (.int (s0 + s1)), some (.int x6)]) rfl rfl dc124_4.1.2.1 ?_
  refine am_s_iinc (ls' := [some (.ref 145), some (.int x1), some (.int x2), some (.int x3), some (.ref x4), some (.int (s0 + s1)), some (.int (x6 + 1))]) am_cc1 rfl rfl dc124_4.1.2.2 ?_
  refine am_s_goto rfl dc124_4.2.1.1 ?_
  exact q1
theorem t124_132 {sc : Option (Nat × (Nat → Int32))} {d k n : Nat} {P : am_O → Prop} {I : am_I} {J : am_J} {Pf : am_R} (hp : am_PF Pf) {l0 : Option Value} {l1 : Option Value} {l2 : Option Value} {l3 : Option Value} {l4 : Option Value} {l5 : Option Value} {l6 : Option Value} {s0 : Int32} (q1 : P (.inl (some (.int s0)), (am_SH, I, J, Pf), k, n)) : am_go sc d 124 (132, [l0, l1, l2, l3, l4, l5, l6], [.int s0], (am_SH, I, J, Pf), k, n) P := by
  exact am_s_ireturn dc124_8.2.2 rfl (q1)
-- rowsOf (III)I
theorem dc125_0 : (((decode (am_by 125) 0 = .ok (.aload_n 0, 1)) ∧ (decode (am_by 125) 1 = .ok (.getfield 36, 3))) ∧ ((decode (am_by 125) 4 = .ok (.getfield 58, 3)) ∧ (decode (am_by 125) 7 = .ok (.astore 4, 2)))) ∧ (((decode (am_by 125) 9 = .ok (.aload_n 0, 1)) ∧ (decode (am_by 125) 10 = .ok (.getfield 30, 3))) ∧ ((decode (am_by 125) 13 = .ok (.iconst 0, 1)) ∧ (decode (am_by 125) 14 = .ok (.invokestatic 91, 3)))) := by decide +kernel
theorem dc125_1 : (((decode (am_by 125) 17 = .ok (.aload_n 0, 1)) ∧ (decode (am_by 125) 18 = .ok (.getfield 30, 3))) ∧ ((decode (am_by 125) 21 = .ok (.iload_n 2, 1)) ∧ (decode (am_by 125) 22 = .ok (.iconst 1, 1)))) ∧ (((decode (am_by 125) 23 = .ok (.iastore, 1)) ∧ (decode (am_by 125) 24 = .ok (.iconst 0, 1))) ∧ ((decode (am_by 125) 25 = .ok (.istore 5, 2)) ∧ (decode (am_by 125) 27 = .ok (.iload 5, 2)))) := by decide +kernel
theorem dc125_2 : (((decode (am_by 125) 29 = .ok (.aload 4, 2)) ∧ (decode (am_by 125) 31 = .ok (.getfield 97, 3))) ∧ ((decode (am_by 125) 34 = .ok (.iload_n 1, 1)) ∧ (decode (am_by 125) 35 = .ok (.iaload, 1)))) ∧ (((decode (am_by 125) 36 = .ok (.if_icmp .ge 163, 3)) ∧ (decode (am_by 125) 39 = .ok (.aload_n 0, 1))) ∧ ((decode (am_by 125) 40 = .ok (.getfield 33, 3)) ∧ (decode (am_by 125) 43 = .ok (.iconst 0, 1)))) := by decide +kernel
theorem dc125_3 : (((decode (am_by 125) 44 = .ok (.invokestatic 91, 3)) ∧ (decode (am_by 125) 47 = .ok (.iload_n 2, 1))) ∧ ((decode (am_by 125) 48 = .ok (.istore 6, 2)) ∧ (decode (am_by 125) 50 = .ok (.iload 6, 2)))) ∧ (((decode (am_by 125) 52 = .ok (.iload_n 3, 1)) ∧ (decode (am_by 125) 53 = .ok (.if_icmp .gt 125, 3))) ∧ ((decode (am_by 125) 56 = .ok (.aload_n 0, 1)) ∧ (decode (am_by 125) 57 = .ok (.getfield 30, 3)))) := by decide +kernel
theorem dc125_4 : (((decode (am_by 125) 60 = .ok (.iload 6, 2)) ∧ (decode (am_by 125) 62 = .ok (.iaload, 1))) ∧ ((decode (am_by 125) 63 = .ok (.ifCond .ne 6, 3)) ∧ (decode (am_by 125) 66 = .ok (.goto 106, 3)))) ∧ (((decode (am_by 125) 69 = .ok (.iload 5, 2)) ∧ (decode (am_by 125) 71 = .ok (.ifCond .le 26, 3))) ∧ ((decode (am_by 125) 74 = .ok (.aload 4, 2)) ∧ (decode (am_by 125) 76 = .ok (.getfield 100, 3)))) := by decide +kernel
theorem dc125_5 : (((decode (am_by 125) 79 = .ok (.iload_n 1, 1)) ∧ (decode (am_by 125) 80 = .ok (.baload, 1))) ∧ ((decode (am_by 125) 81 = .ok (.ifCond .eq 16, 3)) ∧ (decode (am_by 125) 84 = .ok (.aload_n 0, 1)))) ∧ (((decode (am_by 125) 85 = .ok (.getfield 40, 3)) ∧ (decode (am_by 125) 88 = .ok (.getfield 104, 3))) ∧ ((decode (am_by 125) 91 = .ok (.iload 6, 2)) ∧ (decode (am_by 125) 93 = .ok (.iaload, 1)))) := by decide +kernel
theorem dc125_6 : (((decode (am_by 125) 94 = .ok (.goto 5, 3)) ∧ (decode (am_by 125) 97 = .ok (.iload 6, 2))) ∧ ((decode (am_by 125) 99 = .ok (.istore 7, 2)) ∧ (decode (am_by 125) 101 = .ok (.aload_n 0, 1)))) ∧ (((decode (am_by 125) 102 = .ok (.getfield 36, 3)) ∧ (decode (am_by 125) 105 = .ok (.aload_n 0, 1))) ∧ ((decode (am_by 125) 106 = .ok (.getfield 40, 3)) ∧ (decode (am_by 125) 109 = .ok (.iload_n 1, 1)))) := by decide +kernel
theorem dc125_7 : (((decode (am_by 125) 110 = .ok (.iconst 4, 1)) ∧ (decode (am_by 125) 111 = .ok (.imul, 1))) ∧ ((decode (am_by 125) 112 = .ok (.iload 5, 2)) ∧ (decode (am_by 125) 114 = .ok (.iadd, 1)))) ∧ (((decode (am_by 125) 115 = .ok (.iload 7, 2)) ∧ (decode (am_by 125) 117 = .ok (.aload_n 0, 1))) ∧ ((decode (am_by 125) 118 = .ok (.getfield 40, 3)) ∧ (decode (am_by 125) 121 = .ok (.getfield 107, 3)))) := by decide +kernel
theorem dc125_8 : (((decode (am_by 125) 124 = .ok (.invokevirtual 110, 3)) ∧ (decode (am_by 125) 127 = .ok (.istore 8, 2))) ∧ ((decode (am_by 125) 129 = .ok (.iload 7, 2)) ∧ (decode (am_by 125) 131 = .ok (.istore 9, 2)))) ∧ (((decode (am_by 125) 133 = .ok (.iload 9, 2)) ∧ (decode (am_by 125) 135 = .ok (.iload_n 3, 1))) ∧ ((decode (am_by 125) 136 = .ok (.if_icmp .gt 36, 3)) ∧ (decode (am_by 125) 139 = .ok (.iload 8, 2)))) := by decide +kernel
theorem dc125_9 : (((decode (am_by 125) 141 = .ok (.iload 9, 2)) ∧ (decode (am_by 125) 143 = .ok (.iushr, 1))) ∧ ((decode (am_by 125) 144 = .ok (.iconst 1, 1)) ∧ (decode (am_by 125) 145 = .ok (.iand, 1)))) ∧ (((decode (am_by 125) 146 = .ok (.ifCond .eq 20, 3)) ∧ (decode (am_by 125) 149 = .ok (.aload_n 0, 1))) ∧ ((decode (am_by 125) 150 = .ok (.getfield 33, 3)) ∧ (decode (am_by 125) 153 = .ok (.iload 9, 2)))) := by decide +kernel
theorem dc125_10 : (((decode (am_by 125) 155 = .ok (.dup2, 1)) ∧ (decode (am_by 125) 156 = .ok (.iaload, 1))) ∧ ((decode (am_by 125) 157 = .ok (.aload_n 0, 1)) ∧ (decode (am_by 125) 158 = .ok (.getfield 30, 3)))) ∧ (((decode (am_by 125) 161 = .ok (.iload 6, 2)) ∧ (decode (am_by 125) 163 = .ok (.iaload, 1))) ∧ ((decode (am_by 125) 164 = .ok (.iadd, 1)) ∧ (decode (am_by 125) 165 = .ok (.iastore, 1)))) := by decide +kernel
theorem dc125_11 : (((decode (am_by 125) 166 = .ok (.iinc 9 1, 3)) ∧ (decode (am_by 125) 169 = .ok (.goto (-36), 3))) ∧ ((decode (am_by 125) 172 = .ok (.iinc 6 1, 3)) ∧ (decode (am_by 125) 175 = .ok (.goto (-125), 3)))) ∧ (((decode (am_by 125) 178 = .ok (.aload_n 0, 1)) ∧ (decode (am_by 125) 179 = .ok (.getfield 33, 3))) ∧ ((decode (am_by 125) 182 = .ok (.iconst 0, 1)) ∧ (decode (am_by 125) 183 = .ok (.aload_n 0, 1)))) := by decide +kernel
theorem dc125_12 : (((decode (am_by 125) 184 = .ok (.getfield 30, 3)) ∧ (decode (am_by 125) 187 = .ok (.iconst 0, 1))) ∧ ((decode (am_by 125) 188 = .ok (.bipush 25, 2)) ∧ (decode (am_by 125) 190 = .ok (.invokestatic 114, 3)))) ∧ (((decode (am_by 125) 193 = .ok (.iinc 5 1, 3)) ∧ (decode (am_by 125) 196 = .ok (.goto (-169), 3))) ∧ ((decode (am_by 125) 199 = .ok (.aload_n 0, 1)) ∧ (decode (am_by 125) 200 = .ok (.getfield 30, 3)))) := by decide +kernel
theorem dc125_13 : (decode (am_by 125) 203 = .ok (.iload_n 3, 1)) ∧ ((decode (am_by 125) 204 = .ok (.iaload, 1)) ∧ (decode (am_by 125) 205 = .ok (.ireturn, 1))) := by decide +kernel
theorem t125_0 {sc : Option (Nat × (Nat → Int32))} {d k n : Nat} {P : am_O → Prop} {I : am_I} {J : am_J} {Pf : am_R} (hp : am_PF Pf) {x1 : Int32} {x2 : Int32} {x3 : Int32} {l4 : Option Value} {l5 : Option Value} {l6 : Option Value} {l7 : Option Value} {l8 : Option Value} {l9 : Option Value} {r112_0 : Nat} (q1 : Pf 112 0 = some r112_0) (q2 : am_SH[r112_0]? = some (.inl 4)) (q3 : am_mth d 341 [.ref 152, .int 0] (am_SH, I, J, Pf) (am_af sc d 125 14 [some (.ref 145), some (.int x1), some (.int x2), some (.int x3), some (.ref r112_0), l5, l6, l7, l8, l9] [.int 0, .ref 152] [] (am_SH, I, J, Pf) k n false P)) : am_go sc d 125 (0, [some (.ref 145), some (.int x1), some (.int x2), some (.int x3), l4, l5, l6, l7, l8, l9], [], (am_SH, I, J, Pf), k, n) P := by
  refine am_s_aload_n rfl dc125_0.1.1.1 ?_
  refine am_s_getR (r := 112) dc125_0.1.1.2 rfl rfl rfl (hp _ _ _ rfl) ?_
  refine am_s_getR (r := r112_0) dc125_0.1.2.1 rfl rfl rfl (q1) ?_
  refine am_s_astore (ls' := [some (.ref 145), some (.int x1), some (.int x2), some (.int x3), some (.ref r112_0), l5, l6, l7, l8, l9]) rfl rfl dc125_0.1.2.2 ?_
  refine am_s_aload_n rfl dc125_0.2.1.1 ?_
  refine am_s_getR (r := 152) dc125_0.2.1.2 rfl rfl rfl (hp _ _ _ rfl) ?_
  refine am_s_iconst am_cc0 dc125_0.2.2.1 ?_
  exact am_s_static dc125_0.2.2.2 rfl rfl rfl (q3)
theorem t125_27 {sc : Option (Nat × (Nat → Int32))} {d k n : Nat} {P : am_O → Prop} {I : am_I} {J : am_J} {Pf : am_R} (hp : am_PF Pf) {x1 : Int32} {x2 : Int32} {x3 : Int32} {x4 : Nat} (hx4 : am_SH[x4]? = some (.inl 4)) {x5 : Int32} {l6 : Option Value} {l7 : Option Value} {l8 : Option Value} {l9 : Option Value} (q1 : am_in x1 20 = true) (q2 : ((I (x4 + 4) (Int32.toNatClampNeg x1)) ≤ x5) → am_in x3 25 = true) (q3 : ((I (x4 + 4) (Int32.toNatClampNeg x1)) ≤ x5) → P (.inl (some (.int (I 152 (Int32.toNatClampNeg x3)))), (am_SH, I, J, Pf), k, n)) (q4 : (¬ ((I (x4 + 4) (Int32.toNatClampNeg x1)) ≤ x5)) → am_mth d 341 [.ref 153, .int 0] (am_SH, I, J, Pf) (am_af sc d 125 44 [some (.ref 145), some (.int x1), some (.int x2), some (.int x3), some (.ref x4), some (.int x5), l6, l7, l8, l9] [.int 0, .ref 153] [] (am_SH, I, J, Pf) k n false P)) : am_go sc d 125 (27, [some (.ref 145), some (.int x1), some (.int x2), some (.int x3), some (.ref x4), some (.int x5), l6, l7, l8, l9], [], (am_SH, I, J, Pf), k, n) P := by
  refine am_s_iload rfl dc125_1.2.2.2 ?_
  refine am_s_aload rfl dc125_2.1.1.1 ?_
  refine am_s_getR (r := x4 + 4) dc125_2.1.1.2 rfl hx4 rfl (am_r4_5 hp hx4) ?_
  refine am_s_iload_n rfl dc125_2.1.2.1 ?_
  refine am_x_iaload (x := I (x4 + 4) (Int32.toNatClampNeg x1)) dc125_2.1.2.2 (am_h4_5 hx4) (q1) rfl rfl ?_
  refine am_s_ic_ge dc125_2.2.1.1 rfl (fun c1 => ?_) (fun c1 => ?_)
  · refine am_s_aload_n rfl dc125_12.2.2.1 ?_
    refine am_s_getR (r := 152) dc125_12.2.2.2 rfl rfl rfl (hp _ _ _ rfl) ?_
    refine am_s_iload_n rfl dc125_13.1 ?_
    refine am_x_iaload (x := I 152 (Int32.toNatClampNeg x3)) dc125_13.2.1 rfl (q2 c1) rfl rfl ?_
    exact am_s_ireturn dc125_13.2.2 rfl (q3 c1)
  · refine am_s_aload_n rfl dc125_2.2.1.2 ?_
    refine am_s_getR (r := 153) dc125_2.2.2.1 rfl rfl rfl (hp _ _ _ rfl) ?_
    refine am_s_iconst am_cc0 dc125_2.2.2.2 ?_
    exact am_s_static dc125_3.1.1.1 rfl rfl rfl (q4 c1)
theorem t125_50 {sc : Option (Nat × (Nat → Int32))} {d k n : Nat} {P : am_O → Prop} {I : am_I} {J : am_J} {Pf : am_R} (hp : am_PF Pf) {x1 : Int32} {x2 : Int32} {x3 : Int32} {x4 : Nat} (hx4 : am_SH[x4]? = some (.inl 4)) {x5 : Int32} {x6 : Int32} {l7 : Option Value} {l8 : Option Value} {l9 : Option Value} (q1 : (x3 < x6) → am_go sc d 125 (190, [some (.ref 145), some (.int x1), some (.int x2), some (.int x3), some (.ref x4), some (.int x5), some (.int x6), l7, l8, l9], [.int 25, .int 0, .ref 152, .int 0, .ref 153], (am_SH, I, J, Pf), k, n) P) (q2 : (¬ (x3 < x6)) → am_in x6 25 = true) (q3 : (¬ (x3 < x6)) → (¬ (I 152 (Int32.toNatClampNeg x6)) = 0) → (x5 ≤ 0) → am_go sc d 125 (97, [some (.ref 145), some (.int x1), some (.int x2), some (.int x3), some (.ref x4), some (.int x5), some (.int x6), l7, l8, l9], [], (am_SH, I, J, Pf), k, n) P) (q4 : (¬ (x3 < x6)) → (¬ (I 152 (Int32.toNatClampNeg x6)) = 0) → (¬ (x5 ≤ 0)) → am_in x1 20 = true) (q5 : (¬ (x3 < x6)) → (¬ (I 152 (Int32.toNatClampNeg x6)) = 0) → (¬ (x5 ≤ 0)) → ((I (x4 + 3) (Int32.toNatClampNeg x1)) = 0) → am_go sc d 125 (97, [some (.ref 145), some (.int x1), some (.int x2), some (.int x3), some (.ref x4), some (.int x5), some (.int x6), l7, l8, l9], [], (am_SH, I, J, Pf), k, n) P) (q6 : (¬ (x3 < x6)) → (¬ (I 152 (Int32.toNatClampNeg x6)) = 0) → (¬ (x5 ≤ 0)) → (¬ ((I (x4 + 3) (Int32.toNatClampNeg x1)) = 0)) → am_in x6 25 = true) (q7 : (¬ (x3 < x6)) → (¬ (I 152 (Int32.toNatClampNeg x6)) = 0) → (¬ (x5 ≤ 0)) → (¬ ((I (x4 + 3) (Int32.toNatClampNeg x1)) = 0)) → am_mth d 16 [.ref 112, .ref 135, .int ((x1 * 4) + x5), .int (I 137 (Int32.toNatClampNeg x6)), .ref 138] (am_SH, I, J, Pf) (am_af sc d 125 124 [some (.ref 145), some (.int x1), some (.int x2), some (.int x3), some (.ref x4), some (.int x5), some (.int x6), some (.int (I 137 (Int32.toNatClampNeg x6))), l8, l9] [.ref 138, .int (I 137 (Int32.toNatClampNeg x6)), .int ((x1 * 4) + x5), .ref 135, .ref 112] [] (am_SH, I, J, Pf) k n false P)) (q8 : (¬ (x3 < x6)) → (¬ (¬ (I 152 (Int32.toNatClampNeg x6)) = 0)) → am_go sc d 125 (50, [some (.ref 145), some (.int x1), some (.int x2), some (.int x3), some (.ref x4), some (.int x5), some (.int (x6 + 1)), l7, l8, l9], [], (am_SH, I, J, Pf), k, n) P) : am_go sc d 125 (50, [some (.ref 145), some (.int x1), some (.int x2), some (.int x3), some (.ref x4), some (.int x5), some (.int x6), l7, l8, l9], [], (am_SH, I, J, Pf), k, n) P := by
  refine am_s_iload rfl dc125_3.1.2.2 ?_
  refine am_s_iload_n rfl dc125_3.2.1.1 ?_
  refine am_s_ic_gt dc125_3.2.1.2 rfl (fun c1 => ?_) (fun c1 => ?_)
  · refine am_s_aload_n rfl dc125_11.2.1.1 ?_
    refine am_s_getR (r := 153) dc125_11.2.1.2 rfl rfl rfl (hp _ _ _ rfl) ?_
    refine am_s_iconst am_cc0 dc125_11.2.2.1 ?_
    refine am_s_aload_n rfl dc125_11.2.2.2 ?_
    refine am_s_getR (r := 152) dc125_12.1.1.1 rfl rfl rfl (hp _ _ _ rfl) ?_
    refine am_s_iconst am_cc0 dc125_12.1.1.2 ?_
    refine am_s_bipush am_cb25 dc125_12.1.2.1 ?_
    exact q1 c1
  · refine am_s_aload_n rfl dc125_3.2.2.1 ?_
    refine am_s_getR (r := 152) dc125_3.2.2.2 rfl rfl rfl (hp _ _ _ rfl) ?_
    refine am_s_iload rfl dc125_4.1.1.1 ?_
    refine am_x_iaload (x := I 152 (Int32.toNatClampNeg x6)) dc125_4.1.1.2 rfl (q2 c1) rfl rfl ?_
    refine am_s_if_ne dc125_4.1.2.1 rfl (fun c2 => ?_) (fun c2 => ?_)
    · refine am_s_iload rfl dc125_4.2.1.1 ?_
      refine am_s_if_le dc125_4.2.1.2 rfl (fun c3 => ?_) (fun c3 => ?_)
      · exact q3 c1 c2 c3
      · refine am_s_aload rfl dc125_4.2.2.1 ?_
        refine am_s_getR (r := x4 + 3) dc125_4.2.2.2 rfl hx4 rfl (am_r4_4 hp hx4) ?_
        refine am_s_iload_n rfl dc125_5.1.1.1 ?_
        refine am_x_baload (x := I (x4 + 3) (Int32.toNatClampNeg x1)) dc125_5.1.1.2 (am_h4_4 hx4) (q4 c1 c2 c3) rfl rfl ?_
        refine am_s_if_eq dc125_5.1.2.1 rfl (fun c4 => ?_) (fun c4 => ?_)
        · exact q5 c1 c2 c3 c4
        · refine am_s_aload_n rfl dc125_5.1.2.2 ?_
          refine am_s_getR (r := 135) dc125_5.2.1.1 rfl rfl rfl (hp _ _ _ rfl) ?_
          refine am_s_getR (r := 137) dc125_5.2.1.2 rfl rfl rfl (hp _ _ _ rfl) ?_
          refine am_s_iload rfl dc125_5.2.2.1 ?_
          refine am_x_iaload (x := I 137 (Int32.toNatClampNeg x6)) dc125_5.2.2.2 rfl (q6 c1 c2 c3 c4) rfl rfl ?_
          refine am_s_goto rfl dc125_6.1.1.1 ?_
          refine am_s_istore (ls' := [some (.ref 145), some (.int x1), some (.int x2), some (.int x3), some (.ref x4), some (.int x5), some (.int x6), some (.int (I 137 (Int32.toNatClampNeg x6))), l8, l9]) rfl rfl dc125_6.1.2.1 ?_
          refine am_s_aload_n rfl dc125_6.1.2.2 ?_
          refine am_s_getR (r := 112) dc125_6.2.1.1 rfl rfl rfl (hp _ _ _ rfl) ?_
          refine am_s_aload_n rfl dc125_6.2.1.2 ?_
          refine am_s_getR (r := 135) dc125_6.2.2.1 rfl rfl rfl (hp _ _ _ rfl) ?_
          refine am_s_iload_n rfl dc125_6.2.2.2 ?_
          refine am_s_iconst am_cc4 dc125_7.1.1.1 ?_
          refine am_s_imul dc125_7.1.1.2 ?_
          refine am_s_iload rfl dc125_7.1.2.1 ?_
          refine am_s_iadd dc125_7.1.2.2 ?_
          refine am_s_iload rfl dc125_7.2.1.1 ?_
          refine am_s_aload_n rfl dc125_7.2.1.2 ?_
          refine am_s_getR (r := 135) dc125_7.2.2.1 rfl rfl rfl (hp _ _ _ rfl) ?_
          refine am_s_getR (r := 138) dc125_7.2.2.2 rfl rfl rfl (hp _ _ _ rfl) ?_
          exact am_s_virtual false dc125_8.1.1.1 rfl (by decide) rfl rfl rfl (q7 c1 c2 c3 c4)
    · refine am_s_goto rfl dc125_4.1.2.2 ?_
      refine am_s_iinc (ls' := [some (.ref 145), some (.int x1), some (.int x2), some (.int x3), some (.ref x4), some (.int x5), some (.int (x6 + 1)), l7, l8, l9]) am_cc1 rfl rfl dc125_11.1.2.1 ?_
      refine am_s_goto rfl dc125_11.1.2.2 ?_
      exact q8 c1 c2
theorem t125_97 {sc : Option (Nat × (Nat → Int32))} {d k n : Nat} {P : am_O → Prop} {I : am_I} {J : am_J} {Pf : am_R} (hp : am_PF Pf) {x1 : Int32} {x2 : Int32} {x3 : Int32} {x4 : Nat} (hx4 : am_SH[x4]? = some (.inl 4)) {x5 : Int32} {x6 : Int32} {l7 : Option Value} {l8 : Option Value} {l9 : Option Value} (q1 : am_mth d 16 [.ref 112, .ref 135, .int ((x1 * 4) + x5), .int x6, .ref 138] (am_SH, I, J, Pf) (am_af sc d 125 124 [some (.ref 145), some (.int x1), some (.int x2), some (.int x3), some (.ref x4), some (.int x5), some (.int x6), some (.int x6), l8, l9] [.ref 138, .int x6, .int ((x1 * 4) + x5), .ref 135, .ref 112] [] (am_SH, I, J, Pf) k n false P)) : am_go sc d 125 (97, [some (.ref 145), some (.int x1), some (.int x2), some (.int x3), some (.ref x4), some (.int x5), some (.int x6), l7, l8, l9], [], (am_SH, I, J, Pf), k, n) P := by
  refine am_s_iload rfl dc125_6.1.1.2 ?_
  refine am_s_istore (ls' := [some (.ref 145), some (.int x1), some (.int x2), some (.int x3), some (.ref x4), some (.int x5), some (.int x6), some (.int x6), l8, l9]) rfl rfl dc125_6.1.2.1 ?_
  refine am_s_aload_n rfl dc125_6.1.2.2 ?_
  refine am_s_getR (r := 112) dc125_6.2.1.1 rfl rfl rfl (hp _ _ _ rfl) ?_
  refine am_s_aload_n rfl dc125_6.2.1.2 ?_
  refine am_s_getR (r := 135) dc125_6.2.2.1 rfl rfl rfl (hp _ _ _ rfl) ?_
  refine am_s_iload_n rfl dc125_6.2.2.2 ?_
  refine am_s_iconst am_cc4 dc125_7.1.1.1 ?_
  refine am_s_imul dc125_7.1.1.2 ?_
  refine am_s_iload rfl dc125_7.1.2.1 ?_
  refine am_s_iadd dc125_7.1.2.2 ?_
  refine am_s_iload rfl dc125_7.2.1.1 ?_
  refine am_s_aload_n rfl dc125_7.2.1.2 ?_
  refine am_s_getR (r := 135) dc125_7.2.2.1 rfl rfl rfl (hp _ _ _ rfl) ?_
  refine am_s_getR (r := 138) dc125_7.2.2.2 rfl rfl rfl (hp _ _ _ rfl) ?_
  exact am_s_virtual false dc125_8.1.1.1 rfl (by decide) rfl rfl rfl (q1)
theorem t125_133 {sc : Option (Nat × (Nat → Int32))} {d k n : Nat} {P : am_O → Prop} {I : am_I} {J : am_J} {Pf : am_R} (hp : am_PF Pf) {x1 : Int32} {x2 : Int32} {x3 : Int32} {x4 : Nat} (hx4 : am_SH[x4]? = some (.inl 4)) {x5 : Int32} {x6 : Int32} {l7 : Option Value} {x8 : Int32} {x9 : Int32} (q1 : (x3 < x9) → am_go sc d 125 (50, [some (.ref 145), some (.int x1), some (.int x2), some (.int x3), some (.ref x4), some (.int x5), some (.int (x6 + 1)), l7, some (.int x8), some (.int x9)], [], (am_SH, I, J, Pf), k, n) P) (q2 : (¬ (x3 < x9)) → (((UInt32.toInt32 (Int32.toUInt32 x8 >>> (Int32.toUInt32 x9 &&& Int32.toUInt32 31))) &&& 1) = 0) → am_go sc d 125 (133, [some (.ref 145), some (.int x1), some (.int x2), some (.int x3), some (.ref x4), some (.int x5), some (.int x6), l7, some (.int x8), some (.int (x9 + 1))], [], (am_SH, I, J, Pf), k, n) P) (q3 : (¬ (x3 < x9)) → (¬ (((UInt32.toInt32 (Int32.toUInt32 x8 >>> (Int32.toUInt32 x9 &&& Int32.toUInt32 31))) &&& 1) = 0)) → am_in x9 25 = true) (q4 : (¬ (x3 < x9)) → (¬ (((UInt32.toInt32 (Int32.toUInt32 x8 >>> (Int32.toUInt32 x9 &&& Int32.toUInt32 31))) &&& 1) = 0)) → am_in x6 25 = true) (q5 : (¬ (x3 < x9)) → (¬ (((UInt32.toInt32 (Int32.toUInt32 x8 >>> (Int32.toUInt32 x9 &&& Int32.toUInt32 31))) &&& 1) = 0)) → am_in x9 25 = true) (q6 : (¬ (x3 < x9)) → (¬ (((UInt32.toInt32 (Int32.toUInt32 x8 >>> (Int32.toUInt32 x9 &&& Int32.toUInt32 31))) &&& 1) = 0)) → am_go sc d 125 (133, [some (.ref 145), some (.int x1), some (.int x2), some (.int x3), some (.ref x4), some (.int x5), some (.int x6), l7, some (.int x8), some (.int (x9 + 1))], [], (am_SH, am_u I 153 (Int32.toNatClampNeg x9) ((I 153 (Int32.toNatClampNeg x9)) + (I 152 (Int32.toNatClampNeg x6))), J, Pf), k, n) P) : am_go sc d 125 (133, [some (.ref 145), some (.int x1), some (.int x2), some (.int x3), some (.ref x4), some (.int x5), some (.int x6), l7, some (.int x8), some (.int x9)], [], (am_SH, I, J, Pf), k, n) P := by
  refine am_s_iload rfl dc125_8.2.1.1 ?_
  refine am_s_iload_n rfl dc125_8.2.1.2 ?_
  refine am_s_ic_gt dc125_8.2.2.1 rfl (fun c1 => ?_) (fun c1 => ?_)
  · refine am_s_iinc (ls' := [some (.ref 145), some (.int x1), some (.int x2), some (.int x3), some (.ref x4), some (.int x5), some (.int (x6 + 1)), l7, some (.int x8), some (.int x9)]) am_cc1 rfl rfl dc125_11.1.2.1 ?_
    refine am_s_goto rfl dc125_11.1.2.2 ?_
    exact q1 c1
  · refine am_s_iload rfl dc125_8.2.2.2 ?_
    refine am_s_iload rfl dc125_9.1.1.1 ?_
    refine am_s_iushr dc125_9.1.1.2 ?_
    refine am_s_iconst am_cc1 dc125_9.1.2.1 ?_
    refine am_s_iand dc125_9.1.2.2 ?_
    refine am_s_if_eq dc125_9.2.1.1 rfl (fun c2 => ?_) (fun c2 => ?_)
    · refine am_s_iinc (ls' := [some (.ref 145), some (.int x1), some (.int x2), some (.int x3), some (.ref x4), some (.int x5), some (.int x6), l7, some (.int x8), some (.int (x9 + 1))]) am_cc1 rfl rfl dc125_11.1.1.1 ?_
      refine am_s_goto rfl dc125_11.1.1.2 ?_
      exact q2 c1 c2
    · refine am_s_aload_n rfl dc125_9.2.1.2 ?_
      refine am_s_getR (r := 153) dc125_9.2.2.1 rfl rfl rfl (hp _ _ _ rfl) ?_
      refine am_s_iload rfl dc125_9.2.2.2 ?_
      refine am_s_dup2 rfl rfl dc125_10.1.1.1 ?_
      refine am_x_iaload (x := I 153 (Int32.toNatClampNeg x9)) dc125_10.1.1.2 rfl (q3 c1 c2) rfl rfl ?_
      refine am_s_aload_n rfl dc125_10.1.2.1 ?_
      refine am_s_getR (r := 152) dc125_10.1.2.2 rfl rfl rfl (hp _ _ _ rfl) ?_
      refine am_s_iload rfl dc125_10.2.1.1 ?_
      refine am_x_iaload (x := I 152 (Int32.toNatClampNeg x6)) dc125_10.2.1.2 rfl (q4 c1 c2) rfl rfl ?_
      refine am_s_iadd dc125_10.2.2.1 ?_
      refine am_s_iastore dc125_10.2.2.2 rfl (q5 c1 c2) rfl ?_
      refine am_s_iinc (ls' := [some (.ref 145), some (.int x1), some (.int x2), some (.int x3), some (.ref x4), some (.int x5), some (.int x6), l7, some (.int x8), some (.int (x9 + 1))]) am_cc1 rfl rfl dc125_11.1.1.1 ?_
      refine am_s_goto rfl dc125_11.1.1.2 ?_
      exact q6 c1 c2
theorem t125_17 {sc : Option (Nat × (Nat → Int32))} {d k n : Nat} {P : am_O → Prop} {I : am_I} {J : am_J} {Pf : am_R} (hp : am_PF Pf) {x1 : Int32} {x2 : Int32} {x3 : Int32} {x4 : Nat} (hx4 : am_SH[x4]? = some (.inl 4)) {l5 : Option Value} {l6 : Option Value} {l7 : Option Value} {l8 : Option Value} {l9 : Option Value} (q1 : am_in x2 25 = true) (q2 : am_go sc d 125 (27, [some (.ref 145), some (.int x1), some (.int x2), some (.int x3), some (.ref x4), some (.int 0), l6, l7, l8, l9], [], (am_SH, am_u I 152 (Int32.toNatClampNeg x2) 1, J, Pf), k, n) P) : am_go sc d 125 (17, [some (.ref 145), some (.int x1), some (.int x2), some (.int x3), some (.ref x4), l5, l6, l7, l8, l9], [], (am_SH, I, J, Pf), k, n) P := by
  refine am_s_aload_n rfl dc125_1.1.1.1 ?_
  refine am_s_getR (r := 152) dc125_1.1.1.2 rfl rfl rfl (hp _ _ _ rfl) ?_
  refine am_s_iload_n rfl dc125_1.1.2.1 ?_
  refine am_s_iconst am_cc1 dc125_1.1.2.2 ?_
  refine am_s_iastore dc125_1.2.1.1 rfl (q1) rfl ?_
  refine am_s_iconst am_cc0 dc125_1.2.1.2 ?_
  refine am_s_istore (ls' := [some (.ref 145), some (.int x1), some (.int x2), some (.int x3), some (.ref x4), some (.int 0), l6, l7, l8, l9]) rfl rfl dc125_1.2.2.1 ?_
  exact q2
theorem t125_47 {sc : Option (Nat × (Nat → Int32))} {d k n : Nat} {P : am_O → Prop} {I : am_I} {J : am_J} {Pf : am_R} (hp : am_PF Pf) {x1 : Int32} {x2 : Int32} {x3 : Int32} {x4 : Nat} (hx4 : am_SH[x4]? = some (.inl 4)) {x5 : Int32} {l6 : Option Value} {l7 : Option Value} {l8 : Option Value} {l9 : Option Value} (q1 : am_go sc d 125 (50, [some (.ref 145), some (.int x1), some (.int x2), some (.int x3), some (.ref x4), some (.int x5), some (.int x2), l7, l8, l9], [], (am_SH, I, J, Pf), k, n) P) : am_go sc d 125 (47, [some (.ref 145), some (.int x1), some (.int x2), some (.int x3), some (.ref x4), some (.int x5), l6, l7, l8, l9], [], (am_SH, I, J, Pf), k, n) P := by
  refine am_s_iload_n rfl dc125_3.1.1.2 ?_
  refine am_s_istore (ls' := [some (.ref 145), some (.int x1), some (.int x2), some (.int x3), some (.ref x4), some (.int x5), some (.int x2), l7, l8, l9]) rfl rfl dc125_3.1.2.1 ?_
  exact q1
theorem t125_127 {sc : Option (Nat × (Nat → Int32))} {d k n : Nat} {P : am_O → Prop} {I : am_I} {J : am_J} {Pf : am_R} (hp : am_PF Pf) {x1 : Int32} {x2 : Int32} {x3 : Int32} {x4 : Nat} (hx4 : am_SH[x4]? = some (.inl 4)) {x5 : Int32} {x6 : Int32} {x7 : Int32} {l8 : Option Value} {l9 : Option Value} {s0 : Int32} (q1 : am_go sc d 125 (133, [some (.ref 145), some (.int x1), some (.int x2), some (.int x3), some (.ref x4), some (.int x5), some (.int x6), some (.int x7), some (.int s0), some (.int x7)], [], (am_SH, I, J, Pf), k, n) P) : am_go sc d 125 (127, [some (.ref 145), some (.int x1), some (.int x2), some (.int x3), some (.ref x4), some (.int x5), some (.int x6), some (.int x7), l8, l9], [.int s0], (am_SH, I, J, Pf), k, n) P := by
  refine am_s_istore (ls' := [some (.ref 145), some (.int x1), some (.int x2), some (.int x3), some (.ref x4), some (.int x5), some (.int x6), some (.int x7), some (.int s0), l9]) rfl rfl dc125_8.1.1.2 ?_
  refine am_s_iload rfl dc125_8.1.2.1 ?_
  refine am_s_istore (ls' := [some (.ref 145), some (.int x1), some (.int x2), some (.int x3), some (.ref x4), some (.int x5), some (.int x6), some (.int x7), some (.int s0), some (.int x7)]) rfl rfl dc125_8.1.2.2 ?_
  exact q1
-- heightOf (III)I
theorem dc126_0 : (((decode (am_by 126) 0 = .ok (.aload_n 0, 1)) ∧ (decode (am_by 126) 1 = .ok (.getfield 40, 3))) ∧ ((decode (am_by 126) 4 = .ok (.iload_n 1, 1)) ∧ (decode (am_by 126) 5 = .ok (.iload_n 2, 1)))) ∧ (((decode (am_by 126) 6 = .ok (.iload_n 3, 1)) ∧ (decode (am_by 126) 7 = .ok (.invokevirtual 52, 3))) ∧ ((decode (am_by 126) 10 = .ok (.ifCond .ne 5, 3)) ∧ (decode (am_by 126) 13 = .ok (.iconst (-1), 1)))) := by decide +kernel
theorem dc126_1 : (((decode (am_by 126) 14 = .ok (.ireturn, 1)) ∧ (decode (am_by 126) 15 = .ok (.aload_n 0, 1))) ∧ ((decode (am_by 126) 16 = .ok (.invokevirtual 120, 3)) ∧ (decode (am_by 126) 19 = .ok (.aload_n 0, 1)))) ∧ (((decode (am_by 126) 20 = .ok (.getfield 9, 3)) ∧ (decode (am_by 126) 23 = .ok (.iload_n 1, 1))) ∧ ((decode (am_by 126) 24 = .ok (.bipush 25, 2)) ∧ (decode (am_by 126) 26 = .ok (.imul, 1)))) := by decide +kernel
theorem dc126_2 : (((decode (am_by 126) 27 = .ok (.iload_n 2, 1)) ∧ (decode (am_by 126) 28 = .ok (.iadd, 1))) ∧ ((decode (am_by 126) 29 = .ok (.bipush 25, 2)) ∧ (decode (am_by 126) 31 = .ok (.imul, 1)))) ∧ (((decode (am_by 126) 32 = .ok (.iload_n 3, 1)) ∧ (decode (am_by 126) 33 = .ok (.iadd, 1))) ∧ ((decode (am_by 126) 34 = .ok (.iaload, 1)) ∧ (decode (am_by 126) 35 = .ok (.ireturn, 1)))) := by decide +kernel
theorem t126_0 {sc : Option (Nat × (Nat → Int32))} {d k n : Nat} {P : am_O → Prop} {I : am_I} {J : am_J} {Pf : am_R} (hp : am_PF Pf) {x1 : Int32} {x2 : Int32} {x3 : Int32} (q1 : am_mth d 118 [.ref 135, .int x1, .int x2, .int x3] (am_SH, I, J, Pf) (am_af sc d 126 7 [some (.ref 145), some (.int x1), some (.int x2), some (.int x3)] [.int x3, .int x2, .int x1, .ref 135] [] (am_SH, I, J, Pf) k n false P)) : am_go sc d 126 (0, [some (.ref 145), some (.int x1), some (.int x2), some (.int x3)], [], (am_SH, I, J, Pf), k, n) P := by
  refine am_s_aload_n rfl dc126_0.1.1.1 ?_
  refine am_s_getR (r := 135) dc126_0.1.1.2 rfl rfl rfl (hp _ _ _ rfl) ?_
  refine am_s_iload_n rfl dc126_0.1.2.1 ?_
  refine am_s_iload_n rfl dc126_0.1.2.2 ?_
  refine am_s_iload_n rfl dc126_0.2.1.1 ?_
  exact am_s_virtual false dc126_0.2.1.2 rfl (by decide) rfl rfl rfl (q1)
theorem t126_10 {sc : Option (Nat × (Nat → Int32))} {d k n : Nat} {P : am_O → Prop} {I : am_I} {J : am_J} {Pf : am_R} (hp : am_PF Pf) {x1 : Int32} {x2 : Int32} {x3 : Int32} {s0 : Int32} (q1 : (¬ s0 = 0) → am_mth d 127 [.ref 145] (am_SH, I, J, Pf) (am_af sc d 126 16 [some (.ref 145), some (.int x1), some (.int x2), some (.int x3)] [.ref 145] [] (am_SH, I, J, Pf) k n true P)) (q2 : (¬ (¬ s0 = 0)) → P (.inl (some (.int (-1))), (am_SH, I, J, Pf), k, n)) : am_go sc d 126 (10, [some (.ref 145), some (.int x1), some (.int x2), some (.int x3)], [.int s0], (am_SH, I, J, Pf), k, n) P := by
  refine am_s_if_ne dc126_0.2.2.1 rfl (fun c1 => ?_) (fun c1 => ?_)
  · refine am_s_aload_n rfl dc126_1.1.1.2 ?_
    exact am_s_virtual true dc126_1.1.2.1 rfl (by decide) rfl rfl rfl (q1 c1)
  · refine am_s_iconst am_ccm1 dc126_0.2.2.2 ?_
    exact am_s_ireturn dc126_1.1.1.1 rfl (q2 c1)
theorem t126_19 {sc : Option (Nat × (Nat → Int32))} {d k n : Nat} {P : am_O → Prop} {I : am_I} {J : am_J} {Pf : am_R} (hp : am_PF Pf) {x1 : Int32} {x2 : Int32} {x3 : Int32} (q1 : am_in ((((x1 * 25) + x2) * 25) + x3) 5000 = true) (q2 : P (.inl (some (.int (I 146 (Int32.toNatClampNeg ((((x1 * 25) + x2) * 25) + x3))))), (am_SH, I, J, Pf), k, n)) : am_go sc d 126 (19, [some (.ref 145), some (.int x1), some (.int x2), some (.int x3)], [], (am_SH, I, J, Pf), k, n) P := by
  refine am_s_aload_n rfl dc126_1.1.2.2 ?_
  refine am_s_getR (r := 146) dc126_1.2.1.1 rfl rfl rfl (hp _ _ _ rfl) ?_
  refine am_s_iload_n rfl dc126_1.2.1.2 ?_
  refine am_s_bipush am_cb25 dc126_1.2.2.1 ?_
  refine am_s_imul dc126_1.2.2.2 ?_
  refine am_s_iload_n rfl dc126_2.1.1.1 ?_
  refine am_s_iadd dc126_2.1.1.2 ?_
  refine am_s_bipush am_cb25 dc126_2.1.2.1 ?_
  refine am_s_imul dc126_2.1.2.2 ?_
  refine am_s_iload_n rfl dc126_2.2.1.1 ?_
  refine am_s_iadd dc126_2.2.1.2 ?_
  refine am_x_iaload (x := I 146 (Int32.toNatClampNeg ((((x1 * 25) + x2) * 25) + x3))) dc126_2.2.2.1 rfl (q1) rfl rfl ?_
  exact am_s_ireturn dc126_2.2.2.2 rfl (q2)
-- measure ()V
theorem dc127_0 : (((decode (am_by 127) 0 = .ok (.aload_n 0, 1)) ∧ (decode (am_by 127) 1 = .ok (.getfield 48, 3))) ∧ ((decode (am_by 127) 4 = .ok (.ifCond .eq 4, 3)) ∧ (decode (am_by 127) 7 = .ok (.return_, 1)))) ∧ (((decode (am_by 127) 8 = .ok (.aload_n 0, 1)) ∧ (decode (am_by 127) 9 = .ok (.iconst 1, 1))) ∧ ((decode (am_by 127) 10 = .ok (.putfield 48, 3)) ∧ (decode (am_by 127) 13 = .ok (.aload_n 0, 1)))) := by decide +kernel
theorem dc127_1 : (((decode (am_by 127) 14 = .ok (.getfield 15, 3)) ∧ (decode (am_by 127) 17 = .ok (.iconst 0, 1))) ∧ ((decode (am_by 127) 18 = .ok (.invokestatic 91, 3)) ∧ (decode (am_by 127) 21 = .ok (.iconst 1, 1)))) ∧ (((decode (am_by 127) 22 = .ok (.istore_n 1, 1)) ∧ (decode (am_by 127) 23 = .ok (.iconst 1, 1))) ∧ ((decode (am_by 127) 24 = .ok (.istore_n 2, 1)) ∧ (decode (am_by 127) 25 = .ok (.iload_n 2, 1)))) := by decide +kernel
theorem dc127_2 : (((decode (am_by 127) 26 = .ok (.aload_n 0, 1)) ∧ (decode (am_by 127) 27 = .ok (.getfield 9, 3))) ∧ ((decode (am_by 127) 30 = .ok (.arraylength, 1)) ∧ (decode (am_by 127) 31 = .ok (.if_icmp .gt 166, 3)))) ∧ (((decode (am_by 127) 34 = .ok (.iload_n 1, 1)) ∧ (decode (am_by 127) 35 = .ok (.ifCond .eq 162, 3))) ∧ ((decode (am_by 127) 38 = .ok (.iconst 0, 1)) ∧ (decode (am_by 127) 39 = .ok (.istore_n 1, 1)))) := by decide +kernel
theorem dc127_3 : (((decode (am_by 127) 40 = .ok (.iconst 0, 1)) ∧ (decode (am_by 127) 41 = .ok (.istore_n 3, 1))) ∧ ((decode (am_by 127) 42 = .ok (.iload_n 3, 1)) ∧ (decode (am_by 127) 43 = .ok (.bipush 8, 2)))) ∧ (((decode (am_by 127) 45 = .ok (.if_icmp .ge 99, 3)) ∧ (decode (am_by 127) 48 = .ok (.iconst 0, 1))) ∧ ((decode (am_by 127) 49 = .ok (.istore 4, 2)) ∧ (decode (am_by 127) 51 = .ok (.iload 4, 2)))) := by decide +kernel
theorem dc127_4 : (((decode (am_by 127) 53 = .ok (.aload_n 0, 1)) ∧ (decode (am_by 127) 54 = .ok (.getfield 40, 3))) ∧ ((decode (am_by 127) 57 = .ok (.getfield 123, 3)) ∧ (decode (am_by 127) 60 = .ok (.if_icmp .gt 78, 3)))) ∧ (((decode (am_by 127) 63 = .ok (.iload_n 3, 1)) ∧ (decode (am_by 127) 64 = .ok (.bipush 25, 2))) ∧ ((decode (am_by 127) 66 = .ok (.imul, 1)) ∧ (decode (am_by 127) 67 = .ok (.iload 4, 2)))) := by decide +kernel
theorem dc127_5 : (((decode (am_by 127) 69 = .ok (.iadd, 1)) ∧ (decode (am_by 127) 70 = .ok (.istore 5, 2))) ∧ ((decode (am_by 127) 72 = .ok (.aload_n 0, 1)) ∧ (decode (am_by 127) 73 = .ok (.getfield 40, 3)))) ∧ (((decode (am_by 127) 76 = .ok (.getfield 107, 3)) ∧ (decode (am_by 127) 79 = .ok (.iload 5, 2))) ∧ ((decode (am_by 127) 81 = .ok (.iaload, 1)) ∧ (decode (am_by 127) 82 = .ok (.aload_n 0, 1)))) := by decide +kernel
theorem dc127_6 : (((decode (am_by 127) 83 = .ok (.getfield 15, 3)) ∧ (decode (am_by 127) 86 = .ok (.iload 5, 2))) ∧ ((decode (am_by 127) 88 = .ok (.iaload, 1)) ∧ (decode (am_by 127) 89 = .ok (.iconst (-1), 1)))) ∧ (((decode (am_by 127) 90 = .ok (.ixor, 1)) ∧ (decode (am_by 127) 91 = .ok (.iand, 1))) ∧ ((decode (am_by 127) 92 = .ok (.istore 6, 2)) ∧ (decode (am_by 127) 94 = .ok (.aload_n 0, 1)))) := by decide +kernel
theorem dc127_7 : (((decode (am_by 127) 95 = .ok (.getfield 18, 3)) ∧ (decode (am_by 127) 98 = .ok (.iload 5, 2))) ∧ ((decode (am_by 127) 100 = .ok (.iload 6, 2)) ∧ (decode (am_by 127) 102 = .ok (.ifCond .ne 7, 3)))) ∧ (((decode (am_by 127) 105 = .ok (.iconst 0, 1)) ∧ (decode (am_by 127) 106 = .ok (.goto 13, 3))) ∧ ((decode (am_by 127) 109 = .ok (.iload 6, 2)) ∧ (decode (am_by 127) 111 = .ok (.aload_n 0, 1)))) := by decide +kernel
theorem dc127_8 : (((decode (am_by 127) 112 = .ok (.iload_n 3, 1)) ∧ (decode (am_by 127) 113 = .ok (.iload 4, 2))) ∧ ((decode (am_by 127) 115 = .ok (.invokevirtual 126, 3)) ∧ (decode (am_by 127) 118 = .ok (.iand, 1)))) ∧ (((decode (am_by 127) 119 = .ok (.iastore, 1)) ∧ (decode (am_by 127) 120 = .ok (.aload_n 0, 1))) ∧ ((decode (am_by 127) 121 = .ok (.getfield 18, 3)) ∧ (decode (am_by 127) 124 = .ok (.iload 5, 2)))) := by decide +kernel
theorem dc127_9 : (((decode (am_by 127) 126 = .ok (.iaload, 1)) ∧ (decode (am_by 127) 127 = .ok (.ifCond .eq 5, 3))) ∧ ((decode (am_by 127) 130 = .ok (.iconst 1, 1)) ∧ (decode (am_by 127) 131 = .ok (.istore_n 1, 1)))) ∧ (((decode (am_by 127) 132 = .ok (.iinc 4 1, 3)) ∧ (decode (am_by 127) 135 = .ok (.goto (-84), 3))) ∧ ((decode (am_by 127) 138 = .ok (.iinc 3 1, 3)) ∧ (decode (am_by 127) 141 = .ok (.goto (-99), 3)))) := by decide +kernel
theorem dc127_10 : (((decode (am_by 127) 144 = .ok (.iconst 0, 1)) ∧ (decode (am_by 127) 145 = .ok (.istore_n 3, 1))) ∧ ((decode (am_by 127) 146 = .ok (.iload_n 3, 1)) ∧ (decode (am_by 127) 147 = .ok (.bipush 8, 2)))) ∧ (((decode (am_by 127) 149 = .ok (.if_icmp .ge 42, 3)) ∧ (decode (am_by 127) 152 = .ok (.iconst 0, 1))) ∧ ((decode (am_by 127) 153 = .ok (.istore 4, 2)) ∧ (decode (am_by 127) 155 = .ok (.iload 4, 2)))) := by decide +kernel
theorem dc127_11 : (((decode (am_by 127) 157 = .ok (.aload_n 0, 1)) ∧ (decode (am_by 127) 158 = .ok (.getfield 40, 3))) ∧ ((decode (am_by 127) 161 = .ok (.getfield 123, 3)) ∧ (decode (am_by 127) 164 = .ok (.if_icmp .gt 21, 3)))) ∧ (((decode (am_by 127) 167 = .ok (.aload_n 0, 1)) ∧ (decode (am_by 127) 168 = .ok (.iload_n 3, 1))) ∧ ((decode (am_by 127) 169 = .ok (.bipush 25, 2)) ∧ (decode (am_by 127) 171 = .ok (.imul, 1)))) := by decide +kernel
theorem dc127_12 : (((decode (am_by 127) 172 = .ok (.iload 4, 2)) ∧ (decode (am_by 127) 174 = .ok (.iadd, 1))) ∧ ((decode (am_by 127) 175 = .ok (.iload_n 2, 1)) ∧ (decode (am_by 127) 176 = .ok (.invokevirtual 129, 3)))) ∧ (((decode (am_by 127) 179 = .ok (.iinc 4 1, 3)) ∧ (decode (am_by 127) 182 = .ok (.goto (-27), 3))) ∧ ((decode (am_by 127) 185 = .ok (.iinc 3 1, 3)) ∧ (decode (am_by 127) 188 = .ok (.goto (-42), 3)))) := by decide +kernel
theorem dc127_13 : (decode (am_by 127) 191 = .ok (.iinc 2 1, 3)) ∧ ((decode (am_by 127) 194 = .ok (.goto (-169), 3)) ∧ (decode (am_by 127) 197 = .ok (.return_, 1))) := by decide +kernel
theorem t127_0 {sc : Option (Nat × (Nat → Int32))} {d k n : Nat} {P : am_O → Prop} {I : am_I} {J : am_J} {Pf : am_R} (hp : am_PF Pf) {l1 : Option Value} {l2 : Option Value} {l3 : Option Value} {l4 : Option Value} {l5 : Option Value} {l6 : Option Value} (q1 : ((I 145 2) = 0) → am_mth d 341 [.ref 147, .int 0] (am_SH, am_u I 145 2 1, J, Pf) (am_af sc d 127 18 [some (.ref 145), l1, l2, l3, l4, l5, l6] [.int 0, .ref 147] [] (am_SH, am_u I 145 2 1, J, Pf) k n false P)) (q2 : (¬ ((I 145 2) = 0)) → P (.inl none, (am_SH, I, J, Pf), k, n)) : am_go sc d 127 (0, [some (.ref 145), l1, l2, l3, l4, l5, l6], [], (am_SH, I, J, Pf), k, n) P := by
  refine am_s_aload_n rfl dc127_0.1.1.1 ?_
  refine am_x_getI (x := I 145 2) dc127_0.1.1.2 rfl rfl (Or.inr rfl) rfl ?_
  refine am_s_if_eq dc127_0.1.2.1 rfl (fun c1 => ?_) (fun c1 => ?_)
  · refine am_s_aload_n rfl dc127_0.2.1.1 ?_
    refine am_s_iconst am_cc1 dc127_0.2.1.2 ?_
    refine am_s_putZ dc127_0.2.2.1 rfl rfl rfl rfl (by decide) ?_
    refine am_s_aload_n rfl dc127_0.2.2.2 ?_
    refine am_s_getR (r := 147) dc127_1.1.1.1 rfl rfl rfl (hp _ _ _ rfl) ?_
    refine am_s_iconst am_cc0 dc127_1.1.1.2 ?_
    exact am_s_static dc127_1.1.2.1 rfl rfl rfl (q1 c1)
  · exact am_s_return dc127_0.1.2.2 rfl (q2 c1)
theorem t127_25 {sc : Option (Nat × (Nat → Int32))} {d k n : Nat} {P : am_O → Prop} {I : am_I} {J : am_J} {Pf : am_R} (hp : am_PF Pf) {x1 : Int32} {x2 : Int32} {l3 : Option Value} {l4 : Option Value} {l5 : Option Value} {l6 : Option Value} (q1 : (5000 < x2) → P (.inl none, (am_SH, I, J, Pf), k, n)) (q2 : (¬ (5000 < x2)) → (x1 = 0) → P (.inl none, (am_SH, I, J, Pf), k, n)) (q3 : (¬ (5000 < x2)) → (¬ (x1 = 0)) → am_go sc d 127 (42, [some (.ref 145), some (.int 0), some (.int x2), some (.int 0), l4, l5, l6], [], (am_SH, I, J, Pf), k, n) P) : am_go sc d 127 (25, [some (.ref 145), some (.int x1), some (.int x2), l3, l4, l5, l6], [], (am_SH, I, J, Pf), k, n) P := by
  refine am_s_iload_n rfl dc127_1.2.2.2 ?_
  refine am_s_aload_n rfl dc127_2.1.1.1 ?_
  refine am_s_getR (r := 146) dc127_2.1.1.2 rfl rfl rfl (hp _ _ _ rfl) ?_
  refine am_s_len (x := 5000) dc127_2.1.2.1 rfl rfl (by decide +kernel) ?_
  refine am_s_ic_gt dc127_2.1.2.2 rfl (fun c1 => ?_) (fun c1 => ?_)
  · exact am_s_return dc127_13.2.2 rfl (q1 c1)
  · refine am_s_iload_n rfl dc127_2.2.1.1 ?_
    refine am_s_if_eq dc127_2.2.1.2 rfl (fun c2 => ?_) (fun c2 => ?_)
    · exact am_s_return dc127_13.2.2 rfl (q2 c1 c2)
    · refine am_s_iconst am_cc0 dc127_2.2.2.1 ?_
      refine am_s_istore_n (ls' := [some (.ref 145), some (.int 0), some (.int x2), l3, l4, l5, l6]) rfl rfl dc127_2.2.2.2 ?_
      refine am_s_iconst am_cc0 dc127_3.1.1.1 ?_
      refine am_s_istore_n (ls' := [some (.ref 145), some (.int 0), some (.int x2), some (.int 0), l4, l5, l6]) rfl rfl dc127_3.1.1.2 ?_
      exact q3 c1 c2
theorem t127_42 {sc : Option (Nat × (Nat → Int32))} {d k n : Nat} {P : am_O → Prop} {I : am_I} {J : am_J} {Pf : am_R} (hp : am_PF Pf) {x1 : Int32} {x2 : Int32} {x3 : Int32} {l4 : Option Value} {l5 : Option Value} {l6 : Option Value} (q1 : (8 ≤ x3) → am_go sc d 127 (146, [some (.ref 145), some (.int x1), some (.int x2), some (.int 0), l4, l5, l6], [], (am_SH, I, J, Pf), k, n) P) (q2 : (¬ (8 ≤ x3)) → am_go sc d 127 (51, [some (.ref 145), some (.int x1), some (.int x2), some (.int x3), some (.int 0), l5, l6], [], (am_SH, I, J, Pf), k, n) P) : am_go sc d 127 (42, [some (.ref 145), some (.int x1), some (.int x2), some (.int x3), l4, l5, l6], [], (am_SH, I, J, Pf), k, n) P := by
  refine am_s_iload_n rfl dc127_3.1.2.1 ?_
  refine am_s_bipush am_cb8 dc127_3.1.2.2 ?_
  refine am_s_ic_ge dc127_3.2.1.1 rfl (fun c1 => ?_) (fun c1 => ?_)
  · refine am_s_iconst am_cc0 dc127_10.1.1.1 ?_
    refine am_s_istore_n (ls' := [some (.ref 145), some (.int x1), some (.int x2), some (.int 0), l4, l5, l6]) rfl rfl dc127_10.1.1.2 ?_
    exact q1 c1
  · refine am_s_iconst am_cc0 dc127_3.2.1.2 ?_
    refine am_s_istore (ls' := [some (.ref 145), some (.int x1), some (.int x2), some (.int x3), some (.int 0), l5, l6]) rfl rfl dc127_3.2.2.1 ?_
    exact q2 c1
theorem t127_51 {sc : Option (Nat × (Nat → Int32))} {d k n : Nat} {P : am_O → Prop} {I : am_I} {J : am_J} {Pf : am_R} (hp : am_PF Pf) {x1 : Int32} {x2 : Int32} {x3 : Int32} {x4 : Int32} {l5 : Option Value} {l6 : Option Value} (q1 : ((I 135 1) < x4) → am_go sc d 127 (42, [some (.ref 145), some (.int x1), some (.int x2), some (.int (x3 + 1)), some (.int x4), l5, l6], [], (am_SH, I, J, Pf), k, n) P) (q2 : (¬ ((I 135 1) < x4)) → am_in ((x3 * 25) + x4) 200 = true) (q3 : (¬ ((I 135 1) < x4)) → am_in ((x3 * 25) + x4) 200 = true) (q4 : (¬ ((I 135 1) < x4)) → (¬ ((I 138 (Int32.toNatClampNeg ((x3 * 25) + x4))) &&& ((I 147 (Int32.toNatClampNeg ((x3 * 25) + x4))) ^^^ (-1))) = 0) → am_mth d 128 [.ref 145, .int x3, .int x4] (am_SH, I, J, Pf) (am_af sc d 127 115 [some (.ref 145), some (.int x1), some (.int x2), some (.int x3), some (.int x4), some (.int ((x3 * 25) + x4)), some (.int ((I 138 (Int32.toNatClampNeg ((x3 * 25) + x4))) &&& ((I 147 (Int32.toNatClampNeg ((x3 * 25) + x4))) ^^^ (-1))))] [.int x4, .int x3, .ref 145, .int ((I 138 (Int32.toNatClampNeg ((x3 * 25) + x4))) &&& ((I 147 (Int32.toNatClampNeg ((x3 * 25) + x4))) ^^^ (-1))), .int ((x3 * 25) + x4), .ref 148] [.int ((I 138 (Int32.toNatClampNeg ((x3 * 25) + x4))) &&& ((I 147 (Int32.toNatClampNeg ((x3 * 25) + x4))) ^^^ (-1))), .int ((x3 * 25) + x4), .ref 148] (am_SH, I, J, Pf) k n true P)) (q5 : (¬ ((I 135 1) < x4)) → (¬ (¬ ((I 138 (Int32.toNatClampNeg ((x3 * 25) + x4))) &&& ((I 147 (Int32.toNatClampNeg ((x3 * 25) + x4))) ^^^ (-1))) = 0)) → am_in ((x3 * 25) + x4) 200 = true) (q6 : (¬ ((I 135 1) < x4)) → (¬ (¬ ((I 138 (Int32.toNatClampNeg ((x3 * 25) + x4))) &&& ((I 147 (Int32.toNatClampNeg ((x3 * 25) + x4))) ^^^ (-1))) = 0)) → am_in ((x3 * 25) + x4) 200 = true) (q7 : (¬ ((I 135 1) < x4)) → (¬ (¬ ((I 138 (Int32.toNatClampNeg ((x3 * 25) + x4))) &&& ((I 147 (Int32.toNatClampNeg ((x3 * 25) + x4))) ^^^ (-1))) = 0)) → am_go sc d 127 (51, [some (.ref 145), some (.int x1), some (.int x2), some (.int x3), some (.int (x4 + 1)), some (.int ((x3 * 25) + x4)), some (.int ((I 138 (Int32.toNatClampNeg ((x3 * 25) + x4))) &&& ((I 147 (Int32.toNatClampNeg ((x3 * 25) + x4))) ^^^ (-1))))], [], (am_SH, am_u I 148 (Int32.toNatClampNeg ((x3 * 25) + x4)) 0, J, Pf), k, n) P) : am_go sc d 127 (51, [some (.ref 145), some (.int x1), some (.int x2), some (.int x3), some (.int x4), l5, l6], [], (am_SH, I, J, Pf), k, n) P := by
  refine am_s_iload rfl dc127_3.2.2.2 ?_
  refine am_s_aload_n rfl dc127_4.1.1.1 ?_
  refine am_s_getR (r := 135) dc127_4.1.1.2 rfl rfl rfl (hp _ _ _ rfl) ?_
  refine am_x_getI (x := I 135 1) dc127_4.1.2.1 rfl rfl (Or.inl rfl) rfl ?_
  refine am_s_ic_gt dc127_4.1.2.2 rfl (fun c1 => ?_) (fun c1 => ?_)
  · refine am_s_iinc (ls' := [some (.ref 145), some (.int x1), some (.int x2), some (.int (x3 + 1)), some (.int x4), l5, l6]) am_cc1 rfl rfl dc127_9.2.2.1 ?_
    refine am_s_goto rfl dc127_9.2.2.2 ?_
    exact q1 c1
  · refine am_s_iload_n rfl dc127_4.2.1.1 ?_
    refine am_s_bipush am_cb25 dc127_4.2.1.2 ?_
    refine am_s_imul dc127_4.2.2.1 ?_
    refine am_s_iload rfl dc127_4.2.2.2 ?_
    refine am_s_iadd dc127_5.1.1.1 ?_
    refine am_s_istore (ls' := [some (.ref 145), some (.int x1), some (.int x2), some (.int x3), some (.int x4), some (.int ((x3 * 25) + x4)), l6]) rfl rfl dc127_5.1.1.2 ?_
    refine am_s_aload_n rfl dc127_5.1.2.1 ?_
    refine am_s_getR (r := 135) dc127_5.1.2.2 rfl rfl rfl (hp _ _ _ rfl) ?_
    refine am_s_getR (r := 138) dc127_5.2.1.1 rfl rfl rfl (hp _ _ _ rfl) ?_
    refine am_s_iload rfl dc127_5.2.1.2 ?_
    refine am_x_iaload (x := I 138 (Int32.toNatClampNeg ((x3 * 25) + x4))) dc127_5.2.2.1 rfl (q2 c1) rfl rfl ?_
    refine am_s_aload_n rfl dc127_5.2.2.2 ?_
    refine am_s_getR (r := 147) dc127_6.1.1.1 rfl rfl rfl (hp _ _ _ rfl) ?_
    refine am_s_iload rfl dc127_6.1.1.2 ?_
    refine am_x_iaload (x := I 147 (Int32.toNatClampNeg ((x3 * 25) + x4))) dc127_6.1.2.1 rfl (q3 c1) rfl rfl ?_
    refine am_s_iconst am_ccm1 dc127_6.1.2.2 ?_
    refine am_s_ixor dc127_6.2.1.1 ?_
    refine am_s_iand dc127_6.2.1.2 ?_
    refine am_s_istore (ls' := [some (.ref 145), some (.int x1), some (.int x2), some (.int x3), some (.int x4), some (.int ((x3 * 25) + x4)), some (.int ((I 138 (Int32.toNatClampNeg ((x3 * 25) + x4))) &&& ((I 147 (Int32.toNatClampNeg ((x3 * 25) + x4))) ^^^ (-1))))]) rfl rfl dc127_6.2.2.1 ?_
    refine am_s_aload_n rfl dc127_6.2.2.2 ?_
    refine am_s_getR (r := 148) dc127_7.1.1.1 rfl rfl rfl (hp _ _ _ rfl) ?_
    refine am_s_iload rfl dc127_7.1.1.2 ?_
    refine am_s_iload rfl dc127_7.1.2.1 ?_
    refine am_s_if_ne dc127_7.1.2.2 rfl (fun c2 => ?_) (fun c2 => ?_)
    · refine am_s_iload rfl dc127_7.2.2.1 ?_
      refine am_s_aload_n rfl dc127_7.2.2.2 ?_
      refine am_s_iload_n rfl dc127_8.1.1.1 ?_
      refine am_s_iload rfl dc127_8.1.1.2 ?_
      exact am_s_virtual true dc127_8.1.2.1 rfl (by decide) rfl rfl rfl (q4 c1 c2)
    · refine am_s_iconst am_cc0 dc127_7.2.1.1 ?_
      refine am_s_goto rfl dc127_7.2.1.2 ?_
      refine am_s_iastore dc127_8.2.1.1 rfl (q5 c1 c2) rfl ?_
      refine am_s_aload_n rfl dc127_8.2.1.2 ?_
      refine am_s_getR (r := 148) dc127_8.2.2.1 rfl rfl rfl (hp _ _ _ rfl) ?_
      refine am_s_iload rfl dc127_8.2.2.2 ?_
      refine am_x_iaload (x := 0) dc127_9.1.1.1 rfl (q6 c1 c2) rfl (by simp [am_u]) ?_
      refine am_s_if_eq dc127_9.1.1.2 rfl (fun _ => ?_) (fun z => absurd z (by decide))
      refine am_s_iinc (ls' := [some (.ref 145), some (.int x1), some (.int x2), some (.int x3), some (.int (x4 + 1)), some (.int ((x3 * 25) + x4)), some (.int ((I 138 (Int32.toNatClampNeg ((x3 * 25) + x4))) &&& ((I 147 (Int32.toNatClampNeg ((x3 * 25) + x4))) ^^^ (-1))))]) am_cc1 rfl rfl dc127_9.2.1.1 ?_
      refine am_s_goto rfl dc127_9.2.1.2 ?_
      exact q7 c1 c2
theorem t127_146 {sc : Option (Nat × (Nat → Int32))} {d k n : Nat} {P : am_O → Prop} {I : am_I} {J : am_J} {Pf : am_R} (hp : am_PF Pf) {x1 : Int32} {x2 : Int32} {x3 : Int32} {l4 : Option Value} {l5 : Option Value} {l6 : Option Value} (q1 : (8 ≤ x3) → am_go sc d 127 (25, [some (.ref 145), some (.int x1), some (.int (x2 + 1)), some (.int x3), l4, l5, l6], [], (am_SH, I, J, Pf), k, n) P) (q2 : (¬ (8 ≤ x3)) → am_go sc d 127 (155, [some (.ref 145), some (.int x1), some (.int x2), some (.int x3), some (.int 0), l5, l6], [], (am_SH, I, J, Pf), k, n) P) : am_go sc d 127 (146, [some (.ref 145), some (.int x1), some (.int x2), some (.int x3), l4, l5, l6], [], (am_SH, I, J, Pf), k, n) P := by
  refine am_s_iload_n rfl dc127_10.1.2.1 ?_
  refine am_s_bipush am_cb8 dc127_10.1.2.2 ?_
  refine am_s_ic_ge dc127_10.2.1.1 rfl (fun c1 => ?_) (fun c1 => ?_)
  · refine am_s_iinc (ls' := [some (.ref 145), some (.int x1), some (.int (x2 + 1)), some (.int x3), l4, l5, l6]) am_cc1 rfl rfl dc127_13.1 ?_
    refine am_s_goto rfl dc127_13.2.1 ?_
    exact q1 c1
  · refine am_s_iconst am_cc0 dc127_10.2.1.2 ?_
    refine am_s_istore (ls' := [some (.ref 145), some (.int x1), some (.int x2), some (.int x3), some (.int 0), l5, l6]) rfl rfl dc127_10.2.2.1 ?_
    exact q2 c1
theorem t127_155 {sc : Option (Nat × (Nat → Int32))} {d k n : Nat} {P : am_O → Prop} {I : am_I} {J : am_J} {Pf : am_R} (hp : am_PF Pf) {x1 : Int32} {x2 : Int32} {x3 : Int32} {x4 : Int32} {l5 : Option Value} {l6 : Option Value} (q1 : ((I 135 1) < x4) → am_go sc d 127 (146, [some (.ref 145), some (.int x1), some (.int x2), some (.int (x3 + 1)), some (.int x4), l5, l6], [], (am_SH, I, J, Pf), k, n) P) (q2 : (¬ ((I 135 1) < x4)) → am_mth d 129 [.ref 145, .int ((x3 * 25) + x4), .int x2] (am_SH, I, J, Pf) (am_af sc d 127 176 [some (.ref 145), some (.int x1), some (.int x2), some (.int x3), some (.int x4), l5, l6] [.int x2, .int ((x3 * 25) + x4), .ref 145] [] (am_SH, I, J, Pf) k n true P)) : am_go sc d 127 (155, [some (.ref 145), some (.int x1), some (.int x2), some (.int x3), some (.int x4), l5, l6], [], (am_SH, I, J, Pf), k, n) P := by
  refine am_s_iload rfl dc127_10.2.2.2 ?_
  refine am_s_aload_n rfl dc127_11.1.1.1 ?_
  refine am_s_getR (r := 135) dc127_11.1.1.2 rfl rfl rfl (hp _ _ _ rfl) ?_
  refine am_x_getI (x := I 135 1) dc127_11.1.2.1 rfl rfl (Or.inl rfl) rfl ?_
  refine am_s_ic_gt dc127_11.1.2.2 rfl (fun c1 => ?_) (fun c1 => ?_)
  · refine am_s_iinc (ls' := [some (.ref 145), some (.int x1), some (.int x2), some (.int (x3 + 1)), some (.int x4), l5, l6]) am_cc1 rfl rfl dc127_12.2.2.1 ?_
    refine am_s_goto rfl dc127_12.2.2.2 ?_
    exact q1 c1
  · refine am_s_aload_n rfl dc127_11.2.1.1 ?_
    refine am_s_iload_n rfl dc127_11.2.1.2 ?_
    refine am_s_bipush am_cb25 dc127_11.2.2.1 ?_
    refine am_s_imul dc127_11.2.2.2 ?_
    refine am_s_iload rfl dc127_12.1.1.1 ?_
    refine am_s_iadd dc127_12.1.1.2 ?_
    refine am_s_iload_n rfl dc127_12.1.2.1 ?_
    exact am_s_virtual true dc127_12.1.2.2 rfl (by decide) rfl rfl rfl (q2 c1)
theorem t127_21 {sc : Option (Nat × (Nat → Int32))} {d k n : Nat} {P : am_O → Prop} {I : am_I} {J : am_J} {Pf : am_R} (hp : am_PF Pf) {l1 : Option Value} {l2 : Option Value} {l3 : Option Value} {l4 : Option Value} {l5 : Option Value} {l6 : Option Value} (q1 : am_go sc d 127 (25, [some (.ref 145), some (.int 1), some (.int 1), l3, l4, l5, l6], [], (am_SH, I, J, Pf), k, n) P) : am_go sc d 127 (21, [some (.ref 145), l1, l2, l3, l4, l5, l6], [], (am_SH, I, J, Pf), k, n) P := by
  refine am_s_iconst am_cc1 dc127_1.1.2.2 ?_
  refine am_s_istore_n (ls' := [some (.ref 145), some (.int 1), l2, l3, l4, l5, l6]) rfl rfl dc127_1.2.1.1 ?_
  refine am_s_iconst am_cc1 dc127_1.2.1.2 ?_
  refine am_s_istore_n (ls' := [some (.ref 145), some (.int 1), some (.int 1), l3, l4, l5, l6]) rfl rfl dc127_1.2.2.1 ?_
  exact q1
theorem t127_118 {sc : Option (Nat × (Nat → Int32))} {d k n : Nat} {P : am_O → Prop} {I : am_I} {J : am_J} {Pf : am_R} (hp : am_PF Pf) {x1 : Int32} {x2 : Int32} {x3 : Int32} {x4 : Int32} {x5 : Int32} {l6 : Option Value} {s1 : Int32} {s2 : Int32} {s3 : Int32} (q1 : am_in s1 200 = true) (q2 : am_in x5 200 = true) (q3 : (((am_u I 148 (Int32.toNatClampNeg s1) (s2 &&& s3)) 148 (Int32.toNatClampNeg x5)) = 0) → am_go sc d 127 (51, [some (.ref 145), some (.int x1), some (.int x2), some (.int x3), some (.int (x4 + 1)), some (.int x5), l6], [], (am_SH, am_u I 148 (Int32.toNatClampNeg s1) (s2 &&& s3), J, Pf), k, n) P) (q4 : (¬ (((am_u I 148 (Int32.toNatClampNeg s1) (s2 &&& s3)) 148 (Int32.toNatClampNeg x5)) = 0)) → am_go sc d 127 (51, [some (.ref 145), some (.int 1), some (.int x2), some (.int x3), some (.int (x4 + 1)), some (.int x5), l6], [], (am_SH, am_u I 148 (Int32.toNatClampNeg s1) (s2 &&& s3), J, Pf), k, n) P) : am_go sc d 127 (118, [some (.ref 145), some (.int x1), some (.int x2), some (.int x3), some (.int x4), some (.int x5), l6], [.int s3, .int s2, .int s1, .ref 148], (am_SH, I, J, Pf), k, n) P := by
  refine am_s_iand dc127_8.1.2.2 ?_
  refine am_s_iastore dc127_8.2.1.1 rfl (q1) rfl ?_
  refine am_s_aload_n rfl dc127_8.2.1.2 ?_
  refine am_s_getR (r := 148) dc127_8.2.2.1 rfl rfl rfl (hp _ _ _ rfl) ?_
  refine am_s_iload rfl dc127_8.2.2.2 ?_
  refine am_x_iaload (x := (am_u I 148 (Int32.toNatClampNeg s1) (s2 &&& s3)) 148 (Int32.toNatClampNeg x5)) dc127_9.1.1.1 rfl (q2) rfl rfl ?_
  refine am_s_if_eq dc127_9.1.1.2 rfl (fun c1 => ?_) (fun c1 => ?_)
  · refine am_s_iinc (ls' := [some (.ref 145), some (.int x1), some (.int x2), some (.int x3), some (.int (x4 + 1)), some (.int x5), l6]) am_cc1 rfl rfl dc127_9.2.1.1 ?_
    refine am_s_goto rfl dc127_9.2.1.2 ?_
    exact q3 c1
  · refine am_s_iconst am_cc1 dc127_9.1.2.1 ?_
    refine am_s_istore_n (ls' := [some (.ref 145), some (.int 1), some (.int x2), some (.int x3), some (.int x4), some (.int x5), l6]) rfl rfl dc127_9.1.2.2 ?_
    refine am_s_iinc (ls' := [some (.ref 145), some (.int 1), some (.int x2), some (.int x3), some (.int (x4 + 1)), some (.int x5), l6]) am_cc1 rfl rfl dc127_9.2.1.1 ?_
    refine am_s_goto rfl dc127_9.2.1.2 ?_
    exact q4 c1
theorem t127_179 {sc : Option (Nat × (Nat → Int32))} {d k n : Nat} {P : am_O → Prop} {I : am_I} {J : am_J} {Pf : am_R} (hp : am_PF Pf) {x1 : Int32} {x2 : Int32} {x3 : Int32} {x4 : Int32} {l5 : Option Value} {l6 : Option Value} (q1 : am_go sc d 127 (155, [some (.ref 145), some (.int x1), some (.int x2), some (.int x3), some (.int (x4 + 1)), l5, l6], [], (am_SH, I, J, Pf), k, n) P) : am_go sc d 127 (179, [some (.ref 145), some (.int x1), some (.int x2), some (.int x3), some (.int x4), l5, l6], [], (am_SH, I, J, Pf), k, n) P := by
  refine am_s_iinc (ls' := [some (.ref 145), some (.int x1), some (.int x2), some (.int x3), some (.int (x4 + 1)), l5, l6]) am_cc1 rfl rfl dc127_12.2.1.1 ?_
  refine am_s_goto rfl dc127_12.2.1.2 ?_
  exact q1
-- endsBelow (II)I
theorem dc128_0 : (((decode (am_by 128) 0 = .ok (.aload_n 0, 1)) ∧ (decode (am_by 128) 1 = .ok (.getfield 36, 3))) ∧ ((decode (am_by 128) 4 = .ok (.getfield 58, 3)) ∧ (decode (am_by 128) 7 = .ok (.astore_n 3, 1)))) ∧ (((decode (am_by 128) 8 = .ok (.iconst 0, 1)) ∧ (decode (am_by 128) 9 = .ok (.istore 4, 2))) ∧ ((decode (am_by 128) 11 = .ok (.iconst 0, 1)) ∧ (decode (am_by 128) 12 = .ok (.istore 5, 2)))) := by decide +kernel
theorem dc128_1 : (((decode (am_by 128) 14 = .ok (.iload 5, 2)) ∧ (decode (am_by 128) 16 = .ok (.aload_n 3, 1))) ∧ ((decode (am_by 128) 17 = .ok (.getfield 64, 3)) ∧ (decode (am_by 128) 20 = .ok (.if_icmp .ge 43, 3)))) ∧ (((decode (am_by 128) 23 = .ok (.aload_n 3, 1)) ∧ (decode (am_by 128) 24 = .ok (.getfield 69, 3))) ∧ ((decode (am_by 128) 27 = .ok (.iload 5, 2)) ∧ (decode (am_by 128) 29 = .ok (.iaload, 1)))) := by decide +kernel
theorem dc128_2 : (((decode (am_by 128) 30 = .ok (.iload_n 1, 1)) ∧ (decode (am_by 128) 31 = .ok (.if_icmp .ne 26, 3))) ∧ ((decode (am_by 128) 34 = .ok (.iload 4, 2)) ∧ (decode (am_by 128) 36 = .ok (.aload_n 0, 1)))) ∧ (((decode (am_by 128) 37 = .ok (.getfield 36, 3)) ∧ (decode (am_by 128) 40 = .ok (.aload_n 0, 1))) ∧ ((decode (am_by 128) 41 = .ok (.getfield 40, 3)) ∧ (decode (am_by 128) 44 = .ok (.iload 5, 2)))) := by decide +kernel
theorem dc128_3 : (((decode (am_by 128) 46 = .ok (.iload_n 2, 1)) ∧ (decode (am_by 128) 47 = .ok (.aload_n 0, 1))) ∧ ((decode (am_by 128) 48 = .ok (.getfield 15, 3)) ∧ (decode (am_by 128) 51 = .ok (.invokevirtual 133, 3)))) ∧ (((decode (am_by 128) 54 = .ok (.ior, 1)) ∧ (decode (am_by 128) 55 = .ok (.istore 4, 2))) ∧ ((decode (am_by 128) 57 = .ok (.iinc 5 1, 3)) ∧ (decode (am_by 128) 60 = .ok (.goto (-46), 3)))) := by decide +kernel
theorem dc128_4 : (((decode (am_by 128) 63 = .ok (.iconst 0, 1)) ∧ (decode (am_by 128) 64 = .ok (.istore 5, 2))) ∧ ((decode (am_by 128) 66 = .ok (.iload 5, 2)) ∧ (decode (am_by 128) 68 = .ok (.aload_n 3, 1)))) ∧ (((decode (am_by 128) 69 = .ok (.getfield 76, 3)) ∧ (decode (am_by 128) 72 = .ok (.if_icmp .ge 52, 3))) ∧ ((decode (am_by 128) 75 = .ok (.aload_n 0, 1)) ∧ (decode (am_by 128) 76 = .ok (.getfield 40, 3)))) := by decide +kernel
theorem dc128_5 : (((decode (am_by 128) 79 = .ok (.getfield 82, 3)) ∧ (decode (am_by 128) 82 = .ok (.iload 5, 2))) ∧ ((decode (am_by 128) 84 = .ok (.bipush 25, 2)) ∧ (decode (am_by 128) 86 = .ok (.imul, 1)))) ∧ (((decode (am_by 128) 87 = .ok (.iload_n 2, 1)) ∧ (decode (am_by 128) 88 = .ok (.iadd, 1))) ∧ ((decode (am_by 128) 89 = .ok (.iaload, 1)) ∧ (decode (am_by 128) 90 = .ok (.istore 6, 2)))) := by decide +kernel
theorem dc128_6 : (((decode (am_by 128) 92 = .ok (.aload_n 3, 1)) ∧ (decode (am_by 128) 93 = .ok (.getfield 79, 3))) ∧ ((decode (am_by 128) 96 = .ok (.iload 5, 2)) ∧ (decode (am_by 128) 98 = .ok (.iaload, 1)))) ∧ (((decode (am_by 128) 99 = .ok (.iload_n 1, 1)) ∧ (decode (am_by 128) 100 = .ok (.if_icmp .ne 18, 3))) ∧ ((decode (am_by 128) 103 = .ok (.iload 6, 2)) ∧ (decode (am_by 128) 105 = .ok (.iconst (-1), 1)))) := by decide +kernel
theorem dc128_7 : (((decode (am_by 128) 106 = .ok (.if_icmp .eq 12, 3)) ∧ (decode (am_by 128) 109 = .ok (.iload 4, 2))) ∧ ((decode (am_by 128) 111 = .ok (.iconst 1, 1)) ∧ (decode (am_by 128) 112 = .ok (.iload 6, 2)))) ∧ (((decode (am_by 128) 114 = .ok (.ishl, 1)) ∧ (decode (am_by 128) 115 = .ok (.ior, 1))) ∧ ((decode (am_by 128) 116 = .ok (.istore 4, 2)) ∧ (decode (am_by 128) 118 = .ok (.iinc 5 1, 3)))) := by decide +kernel
theorem dc128_8 : (decode (am_by 128) 121 = .ok (.goto (-55), 3)) ∧ ((decode (am_by 128) 124 = .ok (.iload 4, 2)) ∧ (decode (am_by 128) 126 = .ok (.ireturn, 1))) := by decide +kernel
theorem t128_0 {sc : Option (Nat × (Nat → Int32))} {d k n : Nat} {P : am_O → Prop} {I : am_I} {J : am_J} {Pf : am_R} (hp : am_PF Pf) {x1 : Int32} {x2 : Int32} {l3 : Option Value} {l4 : Option Value} {l5 : Option Value} {l6 : Option Value} {r112_0 : Nat} (q1 : Pf 112 0 = some r112_0) (q2 : am_SH[r112_0]? = some (.inl 4)) (q3 : am_go sc d 128 (14, [some (.ref 145), some (.int x1), some (.int x2), some (.ref r112_0), some (.int 0), some (.int 0), l6], [], (am_SH, I, J, Pf), k, n) P) : am_go sc d 128 (0, [some (.ref 145), some (.int x1), some (.int x2), l3, l4, l5, l6], [], (am_SH, I, J, Pf), k, n) P := by
  refine am_s_aload_n rfl dc128_0.1.1.1 ?_
  refine am_s_getR (r := 112) dc128_0.1.1.2 rfl rfl rfl (hp _ _ _ rfl) ?_
  refine am_s_getR (r := r112_0) dc128_0.1.2.1 rfl rfl rfl (q1) ?_
  refine am_s_astore_n (ls' := [some (.ref 145), some (.int x1), some (.int x2), some (.ref r112_0), l4, l5, l6]) rfl rfl dc128_0.1.2.2 ?_
  refine am_s_iconst am_cc0 dc128_0.2.1.1 ?_
  refine am_s_istore (ls' := [some (.ref 145), some (.int x1), some (.int x2), some (.ref r112_0), some (.int 0), l5, l6]) rfl rfl dc128_0.2.1.2 ?_
  refine am_s_iconst am_cc0 dc128_0.2.2.1 ?_
  refine am_s_istore (ls' := [some (.ref 145), some (.int x1), some (.int x2), some (.ref r112_0), some (.int 0), some (.int 0), l6]) rfl rfl dc128_0.2.2.2 ?_
  exact q3
theorem t128_14 {sc : Option (Nat × (Nat → Int32))} {d k n : Nat} {P : am_O → Prop} {I : am_I} {J : am_J} {Pf : am_R} (hp : am_PF Pf) {x1 : Int32} {x2 : Int32} {x3 : Nat} (hx3 : am_SH[x3]? = some (.inl 4)) {x4 : Int32} {x5 : Int32} {l6 : Option Value} (q1 : ((I x3 2) ≤ x5) → am_go sc d 128 (66, [some (.ref 145), some (.int x1), some (.int x2), some (.ref x3), some (.int x4), some (.int 0), l6], [], (am_SH, I, J, Pf), k, n) P) (q2 : (¬ ((I x3 2) ≤ x5)) → am_in x5 20 = true) (q3 : (¬ ((I x3 2) ≤ x5)) → (¬ (I (x3 + 2) (Int32.toNatClampNeg x5)) = x1) → am_go sc d 128 (14, [some (.ref 145), some (.int x1), some (.int x2), some (.ref x3), some (.int x4), some (.int (x5 + 1)), l6], [], (am_SH, I, J, Pf), k, n) P) (q4 : (¬ ((I x3 2) ≤ x5)) → (¬ (¬ (I (x3 + 2) (Int32.toNatClampNeg x5)) = x1)) → am_mth d 15 [.ref 112, .ref 135, .int x5, .int x2, .ref 147] (am_SH, I, J, Pf) (am_af sc d 128 51 [some (.ref 145), some (.int x1), some (.int x2), some (.ref x3), some (.int x4), some (.int x5), l6] [.ref 147, .int x2, .int x5, .ref 135, .ref 112, .int x4] [.int x4] (am_SH, I, J, Pf) k n false P)) : am_go sc d 128 (14, [some (.ref 145), some (.int x1), some (.int x2), some (.ref x3), some (.int x4), some (.int x5), l6], [], (am_SH, I, J, Pf), k, n) P := by
  refine am_s_iload rfl dc128_1.1.1.1 ?_
  refine am_s_aload_n rfl dc128_1.1.1.2 ?_
  refine am_x_getI (x := I x3 2) dc128_1.1.2.1 rfl hx3 (Or.inl rfl) rfl ?_
  refine am_s_ic_ge dc128_1.1.2.2 rfl (fun c1 => ?_) (fun c1 => ?_)
  · refine am_s_iconst am_cc0 dc128_4.1.1.1 ?_
    refine am_s_istore (ls' := [some (.ref 145), some (.int x1), some (.int x2), some (.ref x3), some (.int x4), some (.int 0), l6]) rfl rfl dc128_4.1.1.2 ?_
    exact q1 c1
  · refine am_s_aload_n rfl dc128_1.2.1.1 ?_
    refine am_s_getR (r := x3 + 2) dc128_1.2.1.2 rfl hx3 rfl (am_r4_3 hp hx3) ?_
    refine am_s_iload rfl dc128_1.2.2.1 ?_
    refine am_x_iaload (x := I (x3 + 2) (Int32.toNatClampNeg x5)) dc128_1.2.2.2 (am_h4_3 hx3) (q2 c1) rfl rfl ?_
    refine am_s_iload_n rfl dc128_2.1.1.1 ?_
    refine am_s_ic_ne dc128_2.1.1.2 rfl (fun c2 => ?_) (fun c2 => ?_)
    · refine am_s_iinc (ls' := [some (.ref 145), some (.int x1), some (.int x2), some (.ref x3), some (.int x4), some (.int (x5 + 1)), l6]) am_cc1 rfl rfl dc128_3.2.2.1 ?_
      refine am_s_goto rfl dc128_3.2.2.2 ?_
      exact q3 c1 c2
    · refine am_s_iload rfl dc128_2.1.2.1 ?_
      refine am_s_aload_n rfl dc128_2.1.2.2 ?_
      refine am_s_getR (r := 112) dc128_2.2.1.1 rfl rfl rfl (hp _ _ _ rfl) ?_
      refine am_s_aload_n rfl dc128_2.2.1.2 ?_
      refine am_s_getR (r := 135) dc128_2.2.2.1 rfl rfl rfl (hp _ _ _ rfl) ?_
      refine am_s_iload rfl dc128_2.2.2.2 ?_
      refine am_s_iload_n rfl dc128_3.1.1.1 ?_
      refine am_s_aload_n rfl dc128_3.1.1.2 ?_
      refine am_s_getR (r := 147) dc128_3.1.2.1 rfl rfl rfl (hp _ _ _ rfl) ?_
      exact am_s_virtual false dc128_3.1.2.2 rfl (by decide) rfl rfl rfl (q4 c1 c2)
theorem t128_66 {sc : Option (Nat × (Nat → Int32))} {d k n : Nat} {P : am_O → Prop} {I : am_I} {J : am_J} {Pf : am_R} (hp : am_PF Pf) {x1 : Int32} {x2 : Int32} {x3 : Nat} (hx3 : am_SH[x3]? = some (.inl 4)) {x4 : Int32} {x5 : Int32} {l6 : Option Value} (q1 : ((I x3 9) ≤ x5) → P (.inl (some (.int x4)), (am_SH, I, J, Pf), k, n)) (q2 : (¬ ((I x3 9) ≤ x5)) → am_in ((x5 * 25) + x2) 100 = true) (q3 : (¬ ((I x3 9) ≤ x5)) → am_in x5 4 = true) (q4 : (¬ ((I x3 9) ≤ x5)) → (¬ (I (x3 + 8) (Int32.toNatClampNeg x5)) = x1) → am_go sc d 128 (66, [some (.ref 145), some (.int x1), some (.int x2), some (.ref x3), some (.int x4), some (.int (x5 + 1)), some (.int (I 139 (Int32.toNatClampNeg ((x5 * 25) + x2))))], [], (am_SH, I, J, Pf), k, n) P) (q5 : (¬ ((I x3 9) ≤ x5)) → (¬ (¬ (I (x3 + 8) (Int32.toNatClampNeg x5)) = x1)) → ((I 139 (Int32.toNatClampNeg ((x5 * 25) + x2))) = (-1)) → am_go sc d 128 (66, [some (.ref 145), some (.int x1), some (.int x2), some (.ref x3), some (.int x4), some (.int (x5 + 1)), some (.int (I 139 (Int32.toNatClampNeg ((x5 * 25) + x2))))], [], (am_SH, I, J, Pf), k, n) P) (q6 : (¬ ((I x3 9) ≤ x5)) → (¬ (¬ (I (x3 + 8) (Int32.toNatClampNeg x5)) = x1)) → (¬ ((I 139 (Int32.toNatClampNeg ((x5 * 25) + x2))) = (-1))) → am_go sc d 128 (66, [some (.ref 145), some (.int x1), some (.int x2), some (.ref x3), some (.int (x4 ||| (1 <<< ((I 139 (Int32.toNatClampNeg ((x5 * 25) + x2))) &&& 31)))), some (.int (x5 + 1)), some (.int (I 139 (Int32.toNatClampNeg ((x5 * 25) + x2))))], [], (am_SH, I, J, Pf), k, n) P) : am_go sc d 128 (66, [some (.ref 145), some (.int x1), some (.int x2), some (.ref x3), some (.int x4), some (.int x5), l6], [], (am_SH, I, J, Pf), k, n) P := by
  refine am_s_iload rfl dc128_4.1.2.1 ?_
  refine am_s_aload_n rfl dc128_4.1.2.2 ?_
  refine am_x_getI (x := I x3 9) dc128_4.2.1.1 rfl hx3 (Or.inl rfl) rfl ?_
  refine am_s_ic_ge dc128_4.2.1.2 rfl (fun c1 => ?_) (fun c1 => ?_)
  · refine am_s_iload rfl dc128_8.2.1 ?_
    exact am_s_ireturn dc128_8.2.2 rfl (q1 c1)
  · refine am_s_aload_n rfl dc128_4.2.2.1 ?_
    refine am_s_getR (r := 135) dc128_4.2.2.2 rfl rfl rfl (hp _ _ _ rfl) ?_
    refine am_s_getR (r := 139) dc128_5.1.1.1 rfl rfl rfl (hp _ _ _ rfl) ?_
    refine am_s_iload rfl dc128_5.1.1.2 ?_
    refine am_s_bipush am_cb25 dc128_5.1.2.1 ?_
    refine am_s_imul dc128_5.1.2.2 ?_
    refine am_s_iload_n rfl dc128_5.2.1.1 ?_
    refine am_s_iadd dc128_5.2.1.2 ?_
    refine am_x_iaload (x := I 139 (Int32.toNatClampNeg ((x5 * 25) + x2))) dc128_5.2.2.1 rfl (q2 c1) rfl rfl ?_
    refine am_s_istore (ls' := [some (.ref 145), some (.int x1), some (.int x2), some (.ref x3), some (.int x4), some (.int x5), some (.int (I 139 (Int32.toNatClampNeg ((x5 * 25) + x2))))]) rfl rfl dc128_5.2.2.2 ?_
    refine am_s_aload_n rfl dc128_6.1.1.1 ?_
    refine am_s_getR (r := x3 + 8) dc128_6.1.1.2 rfl hx3 rfl (am_r4_10 hp hx3) ?_
    refine am_s_iload rfl dc128_6.1.2.1 ?_
    refine am_x_iaload (x := I (x3 + 8) (Int32.toNatClampNeg x5)) dc128_6.1.2.2 (am_h4_10 hx3) (q3 c1) rfl rfl ?_
    refine am_s_iload_n rfl dc128_6.2.1.1 ?_
    refine am_s_ic_ne dc128_6.2.1.2 rfl (fun c2 => ?_) (fun c2 => ?_)
    · refine am_s_iinc (ls' := [some (.ref 145), some (.int x1), some (.int x2), some (.ref x3), some (.int x4), some (.int (x5 + 1)), some (.int (I 139 (Int32.toNatClampNeg ((x5 * 25) + x2))))]) am_cc1 rfl rfl dc128_7.2.2.2 ?_
      refine am_s_goto rfl dc128_8.1 ?_
      exact q4 c1 c2
    · refine am_s_iload rfl dc128_6.2.2.1 ?_
      refine am_s_iconst am_ccm1 dc128_6.2.2.2 ?_
      refine am_s_ic_eq dc128_7.1.1.1 rfl (fun c3 => ?_) (fun c3 => ?_)
      · refine am_s_iinc (ls' := [some (.ref 145), some (.int x1), some (.int x2), some (.ref x3), some (.int x4), some (.int (x5 + 1)), some (.int (I 139 (Int32.toNatClampNeg ((x5 * 25) + x2))))]) am_cc1 rfl rfl dc128_7.2.2.2 ?_
        refine am_s_goto rfl dc128_8.1 ?_
        exact q5 c1 c2 c3
      · refine am_s_iload rfl dc128_7.1.1.2 ?_
        refine am_s_iconst am_cc1 dc128_7.1.2.1 ?_
        refine am_s_iload rfl dc128_7.1.2.2 ?_
        refine am_s_ishl dc128_7.2.1.1 ?_
        refine am_s_ior dc128_7.2.1.2 ?_
        refine am_s_istore (ls' := [some (.ref 145), some (.int x1), some (.int x2), some (.ref x3), some (.int (x4 ||| (1 <<< ((I 139 (Int32.toNatClampNeg ((x5 * 25) + x2))) &&& 31)))), some (.int x5), some (.int (I 139 (Int32.toNatClampNeg ((x5 * 25) + x2))))]) rfl rfl dc128_7.2.2.1 ?_
        refine am_s_iinc (ls' := [some (.ref 145), some (.int x1), some (.int x2), some (.ref x3), some (.int (x4 ||| (1 <<< ((I 139 (Int32.toNatClampNeg ((x5 * 25) + x2))) &&& 31)))), some (.int (x5 + 1)), some (.int (I 139 (Int32.toNatClampNeg ((x5 * 25) + x2))))]) am_cc1 rfl rfl dc128_7.2.2.2 ?_
        refine am_s_goto rfl dc128_8.1 ?_
        exact q6 c1 c2 c3
theorem t128_54 {sc : Option (Nat × (Nat → Int32))} {d k n : Nat} {P : am_O → Prop} {I : am_I} {J : am_J} {Pf : am_R} (hp : am_PF Pf) {x1 : Int32} {x2 : Int32} {x3 : Nat} (hx3 : am_SH[x3]? = some (.inl 4)) {l4 : Option Value} {x5 : Int32} {l6 : Option Value} {s0 : Int32} {s1 : Int32} (q1 : am_go sc d 128 (14, [some (.ref 145), some (.int x1), some (.int x2), some (.ref x3), some (.int (s0 ||| s1)), some (.int (x5 + 1)), l6], [], (am_SH, I, J, Pf), k, n) P) : am_go sc d 128 (54, [some (.ref 145), some (.int x1), some (.int x2), some (.ref x3), l4, some (.int x5), l6], [.int s1, .int s0], (am_SH, I, J, Pf), k, n) P := by
  refine am_s_ior dc128_3.2.1.1 ?_
  refine am_s_istore (ls' := [some (.ref 145), some (.int x1), some (.int x2), some (.ref x3), some (.int (s0 ||| s1)), some (.int x5), l6]) rfl rfl dc128_3.2.1.2 ?_
  refine am_s_iinc (ls' := [some (.ref 145), some (.int x1), some (.int x2), some (.ref x3), some (.int (s0 ||| s1)), some (.int (x5 + 1)), l6]) am_cc1 rfl rfl dc128_3.2.2.1 ?_
  refine am_s_goto rfl dc128_3.2.2.2 ?_
  exact q1
-- setHeights (II)V
theorem dc129_0 : (((decode (am_by 129) 0 = .ok (.aload_n 0, 1)) ∧ (decode (am_by 129) 1 = .ok (.getfield 18, 3))) ∧ ((decode (am_by 129) 4 = .ok (.iload_n 1, 1)) ∧ (decode (am_by 129) 5 = .ok (.iaload, 1)))) ∧ (((decode (am_by 129) 6 = .ok (.ifCond .ne 4, 3)) ∧ (decode (am_by 129) 9 = .ok (.return_, 1))) ∧ ((decode (am_by 129) 10 = .ok (.iconst 0, 1)) ∧ (decode (am_by 129) 11 = .ok (.istore_n 3, 1)))) := by decide +kernel
theorem dc129_1 : (((decode (am_by 129) 12 = .ok (.iload_n 3, 1)) ∧ (decode (am_by 129) 13 = .ok (.aload_n 0, 1))) ∧ ((decode (am_by 129) 14 = .ok (.getfield 40, 3)) ∧ (decode (am_by 129) 17 = .ok (.getfield 123, 3)))) ∧ (((decode (am_by 129) 20 = .ok (.if_icmp .gt 34, 3)) ∧ (decode (am_by 129) 23 = .ok (.aload_n 0, 1))) ∧ ((decode (am_by 129) 24 = .ok (.getfield 18, 3)) ∧ (decode (am_by 129) 27 = .ok (.iload_n 1, 1)))) := by decide +kernel
theorem dc129_2 : (((decode (am_by 129) 28 = .ok (.iaload, 1)) ∧ (decode (am_by 129) 29 = .ok (.iload_n 3, 1))) ∧ ((decode (am_by 129) 30 = .ok (.iushr, 1)) ∧ (decode (am_by 129) 31 = .ok (.iconst 1, 1)))) ∧ (((decode (am_by 129) 32 = .ok (.iand, 1)) ∧ (decode (am_by 129) 33 = .ok (.ifCond .eq 15, 3))) ∧ ((decode (am_by 129) 36 = .ok (.aload_n 0, 1)) ∧ (decode (am_by 129) 37 = .ok (.getfield 9, 3)))) := by decide +kernel
theorem dc129_3 : (((decode (am_by 129) 40 = .ok (.iload_n 1, 1)) ∧ (decode (am_by 129) 41 = .ok (.bipush 25, 2))) ∧ ((decode (am_by 129) 43 = .ok (.imul, 1)) ∧ (decode (am_by 129) 44 = .ok (.iload_n 3, 1)))) ∧ (((decode (am_by 129) 45 = .ok (.iadd, 1)) ∧ (decode (am_by 129) 46 = .ok (.iload_n 2, 1))) ∧ ((decode (am_by 129) 47 = .ok (.iastore, 1)) ∧ (decode (am_by 129) 48 = .ok (.iinc 3 1, 3)))) := by decide +kernel
theorem dc129_4 : (((decode (am_by 129) 51 = .ok (.goto (-39), 3)) ∧ (decode (am_by 129) 54 = .ok (.aload_n 0, 1))) ∧ ((decode (am_by 129) 55 = .ok (.getfield 15, 3)) ∧ (decode (am_by 129) 58 = .ok (.iload_n 1, 1)))) ∧ (((decode (am_by 129) 59 = .ok (.dup2, 1)) ∧ (decode (am_by 129) 60 = .ok (.iaload, 1))) ∧ ((decode (am_by 129) 61 = .ok (.aload_n 0, 1)) ∧ (decode (am_by 129) 62 = .ok (.getfield 18, 3)))) := by decide +kernel
theorem dc129_5 : ((decode (am_by 129) 65 = .ok (.iload_n 1, 1)) ∧ (decode (am_by 129) 66 = .ok (.iaload, 1))) ∧ ((decode (am_by 129) 67 = .ok (.ior, 1)) ∧ ((decode (am_by 129) 68 = .ok (.iastore, 1)) ∧ (decode (am_by 129) 69 = .ok (.return_, 1)))) := by decide +kernel
theorem t129_0 {sc : Option (Nat × (Nat → Int32))} {d k n : Nat} {P : am_O → Prop} {I : am_I} {J : am_J} {Pf : am_R} (hp : am_PF Pf) {x1 : Int32} {x2 : Int32} {l3 : Option Value} (q1 : am_in x1 200 = true) (q2 : (¬ (I 148 (Int32.toNatClampNeg x1)) = 0) → am_go sc d 129 (12, [some (.ref 145), some (.int x1), some (.int x2), some (.int 0)], [], (am_SH, I, J, Pf), k, n) P) (q3 : (¬ (¬ (I 148 (Int32.toNatClampNeg x1)) = 0)) → P (.inl none, (am_SH, I, J, Pf), k, n)) : am_go sc d 129 (0, [some (.ref 145), some (.int x1), some (.int x2), l3], [], (am_SH, I, J, Pf), k, n) P := by
  refine am_s_aload_n rfl dc129_0.1.1.1 ?_
  refine am_s_getR (r := 148) dc129_0.1.1.2 rfl rfl rfl (hp _ _ _ rfl) ?_
  refine am_s_iload_n rfl dc129_0.1.2.1 ?_
  refine am_x_iaload (x := I 148 (Int32.toNatClampNeg x1)) dc129_0.1.2.2 rfl (q1) rfl rfl ?_
  refine am_s_if_ne dc129_0.2.1.1 rfl (fun c1 => ?_) (fun c1 => ?_)
  · refine am_s_iconst am_cc0 dc129_0.2.2.1 ?_
    refine am_s_istore_n (ls' := [some (.ref 145), some (.int x1), some (.int x2), some (.int 0)]) rfl rfl dc129_0.2.2.2 ?_
    exact q2 c1
  · exact am_s_return dc129_0.2.1.2 rfl (q3 c1)
theorem t129_12 {sc : Option (Nat × (Nat → Int32))} {d k n : Nat} {P : am_O → Prop} {I : am_I} {J : am_J} {Pf : am_R} (hp : am_PF Pf) {x1 : Int32} {x2 : Int32} {x3 : Int32} (q1 : ((I 135 1) < x3) → am_in x1 200 = true) (q2 : ((I 135 1) < x3) → am_in x1 200 = true) (q3 : ((I 135 1) < x3) → am_in x1 200 = true) (q4 : ((I 135 1) < x3) → P (.inl none, (am_SH, am_u I 147 (Int32.toNatClampNeg x1) ((I 147 (Int32.toNatClampNeg x1)) ||| (I 148 (Int32.toNatClampNeg x1))), J, Pf), k, n)) (q5 : (¬ ((I 135 1) < x3)) → am_in x1 200 = true) (q6 : (¬ ((I 135 1) < x3)) → (((UInt32.toInt32 (Int32.toUInt32 (I 148 (Int32.toNatClampNeg x1)) >>> (Int32.toUInt32 x3 &&& Int32.toUInt32 31))) &&& 1) = 0) → am_go sc d 129 (12, [some (.ref 145), some (.int x1), some (.int x2), some (.int (x3 + 1))], [], (am_SH, I, J, Pf), k, n) P) (q7 : (¬ ((I 135 1) < x3)) → (¬ (((UInt32.toInt32 (Int32.toUInt32 (I 148 (Int32.toNatClampNeg x1)) >>> (Int32.toUInt32 x3 &&& Int32.toUInt32 31))) &&& 1) = 0)) → am_in ((x1 * 25) + x3) 5000 = true) (q8 : (¬ ((I 135 1) < x3)) → (¬ (((UInt32.toInt32 (Int32.toUInt32 (I 148 (Int32.toNatClampNeg x1)) >>> (Int32.toUInt32 x3 &&& Int32.toUInt32 31))) &&& 1) = 0)) → am_go sc d 129 (12, [some (.ref 145), some (.int x1), some (.int x2), some (.int (x3 + 1))], [], (am_SH, am_u I 146 (Int32.toNatClampNeg ((x1 * 25) + x3)) x2, J, Pf), k, n) P) : am_go sc d 129 (12, [some (.ref 145), some (.int x1), some (.int x2), some (.int x3)], [], (am_SH, I, J, Pf), k, n) P := by
  refine am_s_iload_n rfl dc129_1.1.1.1 ?_
  refine am_s_aload_n rfl dc129_1.1.1.2 ?_
  refine am_s_getR (r := 135) dc129_1.1.2.1 rfl rfl rfl (hp _ _ _ rfl) ?_
  refine am_x_getI (x := I 135 1) dc129_1.1.2.2 rfl rfl (Or.inl rfl) rfl ?_
  refine am_s_ic_gt dc129_1.2.1.1 rfl (fun c1 => ?_) (fun c1 => ?_)
  · refine am_s_aload_n rfl dc129_4.1.1.2 ?_
    refine am_s_getR (r := 147) dc129_4.1.2.1 rfl rfl rfl (hp _ _ _ rfl) ?_
    refine am_s_iload_n rfl dc129_4.1.2.2 ?_
    refine am_s_dup2 rfl rfl dc129_4.2.1.1 ?_
    refine am_x_iaload (x := I 147 (Int32.toNatClampNeg x1)) dc129_4.2.1.2 rfl (q1 c1) rfl rfl ?_
    refine am_s_aload_n rfl dc129_4.2.2.1 ?_
    refine am_s_getR (r := 148) dc129_4.2.2.2 rfl rfl rfl (hp _ _ _ rfl) ?_
    refine am_s_iload_n rfl dc129_5.1.1 ?_
    refine am_x_iaload (x := I 148 (Int32.toNatClampNeg x1)) dc129_5.1.2 rfl (q2 c1) rfl rfl ?_
    refine am_s_ior dc129_5.2.1 ?_
    refine am_s_iastore dc129_5.2.2.1 rfl (q3 c1) rfl ?_
    exact am_s_return dc129_5.2.2.2 rfl (q4 c1)
  · refine am_s_aload_n rfl dc129_1.2.1.2 ?_
    refine am_s_getR (r := 148) dc129_1.2.2.1 rfl rfl rfl (hp _ _ _ rfl) ?_
    refine am_s_iload_n rfl dc129_1.2.2.2 ?_
    refine am_x_iaload (x := I 148 (Int32.toNatClampNeg x1)) dc129_2.1.1.1 rfl (q5 c1) rfl rfl ?_
    refine am_s_iload_n rfl dc129_2.1.1.2 ?_
    refine am_s_iushr dc129_2.1.2.1 ?_
    refine am_s_iconst am_cc1 dc129_2.1.2.2 ?_
    refine am_s_iand dc129_2.2.1.1 ?_
    refine am_s_if_eq dc129_2.2.1.2 rfl (fun c2 => ?_) (fun c2 => ?_)
    · refine am_s_iinc (ls' := [some (.ref 145), some (.int x1), some (.int x2), some (.int (x3 + 1))]) am_cc1 rfl rfl dc129_3.2.2.2 ?_
      refine am_s_goto rfl dc129_4.1.1.1 ?_
      exact q6 c1 c2
    · refine am_s_aload_n rfl dc129_2.2.2.1 ?_
      refine am_s_getR (r := 146) dc129_2.2.2.2 rfl rfl rfl (hp _ _ _ rfl) ?_
      refine am_s_iload_n rfl dc129_3.1.1.1 ?_
      refine am_s_bipush am_cb25 dc129_3.1.1.2 ?_
      refine am_s_imul dc129_3.1.2.1 ?_
      refine am_s_iload_n rfl dc129_3.1.2.2 ?_
      refine am_s_iadd dc129_3.2.1.1 ?_
      refine am_s_iload_n rfl dc129_3.2.1.2 ?_
      refine am_s_iastore dc129_3.2.2.1 rfl (q7 c1 c2) rfl ?_
      refine am_s_iinc (ls' := [some (.ref 145), some (.int x1), some (.int x2), some (.int (x3 + 1))]) am_cc1 rfl rfl dc129_3.2.2.2 ?_
      refine am_s_goto rfl dc129_4.1.1.1 ?_
      exact q8 c1 c2
-- grow (III)I
theorem dc130_0 : (((decode (am_by 130) 0 = .ok (.aload_n 0, 1)) ∧ (decode (am_by 130) 1 = .ok (.getfield 40, 3))) ∧ ((decode (am_by 130) 4 = .ok (.iload_n 1, 1)) ∧ (decode (am_by 130) 5 = .ok (.iload_n 2, 1)))) ∧ (((decode (am_by 130) 6 = .ok (.iload_n 3, 1)) ∧ (decode (am_by 130) 7 = .ok (.invokevirtual 52, 3))) ∧ ((decode (am_by 130) 10 = .ok (.ifCond .ne 5, 3)) ∧ (decode (am_by 130) 13 = .ok (.iconst 0, 1)))) := by decide +kernel
theorem dc130_1 : (((decode (am_by 130) 14 = .ok (.ireturn, 1)) ∧ (decode (am_by 130) 15 = .ok (.iload_n 1, 1))) ∧ ((decode (am_by 130) 16 = .ok (.aload_n 0, 1)) ∧ (decode (am_by 130) 17 = .ok (.getfield 44, 3)))) ∧ (((decode (am_by 130) 20 = .ok (.if_icmp .ne 24, 3)) ∧ (decode (am_by 130) 23 = .ok (.iload_n 2, 1))) ∧ ((decode (am_by 130) 24 = .ok (.aload_n 0, 1)) ∧ (decode (am_by 130) 25 = .ok (.getfield 136, 3)))) := by decide +kernel
theorem dc130_2 : (((decode (am_by 130) 28 = .ok (.if_icmp .ne 16, 3)) ∧ (decode (am_by 130) 31 = .ok (.iload_n 3, 1))) ∧ ((decode (am_by 130) 32 = .ok (.aload_n 0, 1)) ∧ (decode (am_by 130) 33 = .ok (.getfield 139, 3)))) ∧ (((decode (am_by 130) 36 = .ok (.if_icmp .ne 8, 3)) ∧ (decode (am_by 130) 39 = .ok (.aload_n 0, 1))) ∧ ((decode (am_by 130) 40 = .ok (.getfield 142, 3)) ∧ (decode (am_by 130) 43 = .ok (.ireturn, 1)))) := by decide +kernel
theorem dc130_3 : (((decode (am_by 130) 44 = .ok (.aload_n 0, 1)) ∧ (decode (am_by 130) 45 = .ok (.invokevirtual 120, 3))) ∧ ((decode (am_by 130) 48 = .ok (.aload_n 0, 1)) ∧ (decode (am_by 130) 49 = .ok (.iload_n 1, 1)))) ∧ (((decode (am_by 130) 50 = .ok (.putfield 44, 3)) ∧ (decode (am_by 130) 53 = .ok (.aload_n 0, 1))) ∧ ((decode (am_by 130) 54 = .ok (.iload_n 2, 1)) ∧ (decode (am_by 130) 55 = .ok (.putfield 136, 3)))) := by decide +kernel
theorem dc130_4 : (((decode (am_by 130) 58 = .ok (.aload_n 0, 1)) ∧ (decode (am_by 130) 59 = .ok (.iload_n 3, 1))) ∧ ((decode (am_by 130) 60 = .ok (.putfield 139, 3)) ∧ (decode (am_by 130) 63 = .ok (.aload_n 0, 1)))) ∧ (((decode (am_by 130) 64 = .ok (.iconst 0, 1)) ∧ (decode (am_by 130) 65 = .ok (.putfield 145, 3))) ∧ ((decode (am_by 130) 68 = .ok (.aload_n 0, 1)) ∧ (decode (am_by 130) 69 = .ok (.iload_n 1, 1)))) := by decide +kernel
theorem dc130_5 : (((decode (am_by 130) 70 = .ok (.iload_n 2, 1)) ∧ (decode (am_by 130) 71 = .ok (.iload_n 3, 1))) ∧ ((decode (am_by 130) 72 = .ok (.iconst 0, 1)) ∧ (decode (am_by 130) 73 = .ok (.invokevirtual 148, 3)))) ∧ (((decode (am_by 130) 76 = .ok (.aload_n 0, 1)) ∧ (decode (am_by 130) 77 = .ok (.iconst 0, 1))) ∧ ((decode (am_by 130) 78 = .ok (.putfield 142, 3)) ∧ (decode (am_by 130) 81 = .ok (.aload_n 0, 1)))) := by decide +kernel
theorem dc130_6 : (((decode (am_by 130) 82 = .ok (.getfield 142, 3)) ∧ (decode (am_by 130) 85 = .ok (.sipush 200, 3))) ∧ ((decode (am_by 130) 88 = .ok (.if_icmp .ge 27, 3)) ∧ (decode (am_by 130) 91 = .ok (.aload_n 0, 1)))) ∧ (((decode (am_by 130) 92 = .ok (.getfield 145, 3)) ∧ (decode (am_by 130) 95 = .ok (.ifCond .le 20, 3))) ∧ ((decode (am_by 130) 98 = .ok (.aload_n 0, 1)) ∧ (decode (am_by 130) 99 = .ok (.invokevirtual 152, 3)))) := by decide +kernel
theorem dc130_7 : (((decode (am_by 130) 102 = .ok (.aload_n 0, 1)) ∧ (decode (am_by 130) 103 = .ok (.dup, 1))) ∧ ((decode (am_by 130) 104 = .ok (.getfield 142, 3)) ∧ (decode (am_by 130) 107 = .ok (.iconst 1, 1)))) ∧ (((decode (am_by 130) 108 = .ok (.iadd, 1)) ∧ (decode (am_by 130) 109 = .ok (.putfield 142, 3))) ∧ ((decode (am_by 130) 112 = .ok (.goto (-31), 3)) ∧ (decode (am_by 130) 115 = .ok (.aload_n 0, 1)))) := by decide +kernel
theorem dc130_8 : (decode (am_by 130) 116 = .ok (.getfield 142, 3)) ∧ (decode (am_by 130) 119 = .ok (.ireturn, 1)) := by decide +kernel
theorem t130_0 {sc : Option (Nat × (Nat → Int32))} {d k n : Nat} {P : am_O → Prop} {I : am_I} {J : am_J} {Pf : am_R} (hp : am_PF Pf) {x1 : Int32} {x2 : Int32} {x3 : Int32} (q1 : am_mth d 118 [.ref 135, .int x1, .int x2, .int x3] (am_SH, I, J, Pf) (am_af sc d 130 7 [some (.ref 145), some (.int x1), some (.int x2), some (.int x3)] [.int x3, .int x2, .int x1, .ref 135] [] (am_SH, I, J, Pf) k n false P)) : am_go sc d 130 (0, [some (.ref 145), some (.int x1), some (.int x2), some (.int x3)], [], (am_SH, I, J, Pf), k, n) P := by
  refine am_s_aload_n rfl dc130_0.1.1.1 ?_
  refine am_s_getR (r := 135) dc130_0.1.1.2 rfl rfl rfl (hp _ _ _ rfl) ?_
  refine am_s_iload_n rfl dc130_0.1.2.1 ?_
  refine am_s_iload_n rfl dc130_0.1.2.2 ?_
  refine am_s_iload_n rfl dc130_0.2.1.1 ?_
  exact am_s_virtual false dc130_0.2.1.2 rfl (by decide) rfl rfl rfl (q1)
theorem t130_44 {sc : Option (Nat × (Nat → Int32))} {d k n : Nat} {P : am_O → Prop} {I : am_I} {J : am_J} {Pf : am_R} (hp : am_PF Pf) {x1 : Int32} {x2 : Int32} {x3 : Int32} (q1 : am_mth d 127 [.ref 145] (am_SH, I, J, Pf) (am_af sc d 130 45 [some (.ref 145), some (.int x1), some (.int x2), some (.int x3)] [.ref 145] [] (am_SH, I, J, Pf) k n true P)) : am_go sc d 130 (44, [some (.ref 145), some (.int x1), some (.int x2), some (.int x3)], [], (am_SH, I, J, Pf), k, n) P := by
  refine am_s_aload_n rfl dc130_3.1.1.1 ?_
  exact am_s_virtual true dc130_3.1.1.2 rfl (by decide) rfl rfl rfl (q1)
theorem t130_81 {sc : Option (Nat × (Nat → Int32))} {d k n : Nat} {P : am_O → Prop} {I : am_I} {J : am_J} {Pf : am_R} (hp : am_PF Pf) {l1 : Option Value} {l2 : Option Value} {l3 : Option Value} (q1 : (200 ≤ (I 145 9)) → P (.inl (some (.int (I 145 9))), (am_SH, I, J, Pf), k, n)) (q2 : (¬ (200 ≤ (I 145 9))) → ((I 145 12) ≤ 0) → P (.inl (some (.int (I 145 9))), (am_SH, I, J, Pf), k, n)) (q3 : (¬ (200 ≤ (I 145 9))) → (¬ ((I 145 12) ≤ 0)) → am_mth d 132 [.ref 145] (am_SH, I, J, Pf) (am_af sc d 130 99 [some (.ref 145), l1, l2, l3] [.ref 145] [] (am_SH, I, J, Pf) k n true P)) : am_go sc d 130 (81, [some (.ref 145), l1, l2, l3], [], (am_SH, I, J, Pf), k, n) P := by
  refine am_s_aload_n rfl dc130_5.2.2.2 ?_
  refine am_x_getI (x := I 145 9) dc130_6.1.1.1 rfl rfl (Or.inl rfl) rfl ?_
  refine am_s_sipush am_cs200 dc130_6.1.1.2 ?_
  refine am_s_ic_ge dc130_6.1.2.1 rfl (fun c1 => ?_) (fun c1 => ?_)
  · refine am_s_aload_n rfl dc130_7.2.2.2 ?_
    refine am_x_getI (x := I 145 9) dc130_8.1 rfl rfl (Or.inl rfl) rfl ?_
    exact am_s_ireturn dc130_8.2 rfl (q1 c1)
  · refine am_s_aload_n rfl dc130_6.1.2.2 ?_
    refine am_x_getI (x := I 145 12) dc130_6.2.1.1 rfl rfl (Or.inl rfl) rfl ?_
    refine am_s_if_le dc130_6.2.1.2 rfl (fun c2 => ?_) (fun c2 => ?_)
    · refine am_s_aload_n rfl dc130_7.2.2.2 ?_
      refine am_x_getI (x := I 145 9) dc130_8.1 rfl rfl (Or.inl rfl) rfl ?_
      exact am_s_ireturn dc130_8.2 rfl (q2 c1 c2)
    · refine am_s_aload_n rfl dc130_6.2.2.1 ?_
      exact am_s_virtual true dc130_6.2.2.2 rfl (by decide) rfl rfl rfl (q3 c1 c2)
theorem t130_10 {sc : Option (Nat × (Nat → Int32))} {d k n : Nat} {P : am_O → Prop} {I : am_I} {J : am_J} {Pf : am_R} (hp : am_PF Pf) {x1 : Int32} {x2 : Int32} {x3 : Int32} {s0 : Int32} (q1 : (¬ s0 = 0) → (¬ x1 = (I 145 6)) → am_go sc d 130 (44, [some (.ref 145), some (.int x1), some (.int x2), some (.int x3)], [], (am_SH, I, J, Pf), k, n) P) (q2 : (¬ s0 = 0) → (¬ (¬ x1 = (I 145 6))) → (¬ x2 = (I 145 7)) → am_go sc d 130 (44, [some (.ref 145), some (.int x1), some (.int x2), some (.int x3)], [], (am_SH, I, J, Pf), k, n) P) (q3 : (¬ s0 = 0) → (¬ (¬ x1 = (I 145 6))) → (¬ (¬ x2 = (I 145 7))) → (¬ x3 = (I 145 8)) → am_go sc d 130 (44, [some (.ref 145), some (.int x1), some (.int x2), some (.int x3)], [], (am_SH, I, J, Pf), k, n) P) (q4 : (¬ s0 = 0) → (¬ (¬ x1 = (I 145 6))) → (¬ (¬ x2 = (I 145 7))) → (¬ (¬ x3 = (I 145 8))) → P (.inl (some (.int (I 145 9))), (am_SH, I, J, Pf), k, n)) (q5 : (¬ (¬ s0 = 0)) → P (.inl (some (.int 0)), (am_SH, I, J, Pf), k, n)) : am_go sc d 130 (10, [some (.ref 145), some (.int x1), some (.int x2), some (.int x3)], [.int s0], (am_SH, I, J, Pf), k, n) P := by
  refine am_s_if_ne dc130_0.2.2.1 rfl (fun c1 => ?_) (fun c1 => ?_)
  · refine am_s_iload_n rfl dc130_1.1.1.2 ?_
    refine am_s_aload_n rfl dc130_1.1.2.1 ?_
    refine am_x_getI (x := I 145 6) dc130_1.1.2.2 rfl rfl (Or.inl rfl) rfl ?_
    refine am_s_ic_ne dc130_1.2.1.1 rfl (fun c2 => ?_) (fun c2 => ?_)
    · exact q1 c1 c2
    · refine am_s_iload_n rfl dc130_1.2.1.2 ?_
      refine am_s_aload_n rfl dc130_1.2.2.1 ?_
      refine am_x_getI (x := I 145 7) dc130_1.2.2.2 rfl rfl (Or.inl rfl) rfl ?_
      refine am_s_ic_ne dc130_2.1.1.1 rfl (fun c3 => ?_) (fun c3 => ?_)
      · exact q2 c1 c2 c3
      · refine am_s_iload_n rfl dc130_2.1.1.2 ?_
        refine am_s_aload_n rfl dc130_2.1.2.1 ?_
        refine am_x_getI (x := I 145 8) dc130_2.1.2.2 rfl rfl (Or.inl rfl) rfl ?_
        refine am_s_ic_ne dc130_2.2.1.1 rfl (fun c4 => ?_) (fun c4 => ?_)
        · exact q3 c1 c2 c3 c4
        · refine am_s_aload_n rfl dc130_2.2.1.2 ?_
          refine am_x_getI (x := I 145 9) dc130_2.2.2.1 rfl rfl (Or.inl rfl) rfl ?_
          exact am_s_ireturn dc130_2.2.2.2 rfl (q4 c1 c2 c3 c4)
  · refine am_s_iconst am_cc0 dc130_0.2.2.2 ?_
    exact am_s_ireturn dc130_1.1.1.1 rfl (q5 c1)
theorem t130_48 {sc : Option (Nat × (Nat → Int32))} {d k n : Nat} {P : am_O → Prop} {I : am_I} {J : am_J} {Pf : am_R} (hp : am_PF Pf) {x1 : Int32} {x2 : Int32} {x3 : Int32} (q1 : am_mth d 131 [.ref 145, .int x1, .int x2, .int x3, .int 0] (am_SH, am_u (am_u (am_u (am_u I 145 6 x1) 145 7 x2) 145 8 x3) 145 12 0, J, Pf) (am_af sc d 130 73 [some (.ref 145), some (.int x1), some (.int x2), some (.int x3)] [.int 0, .int x3, .int x2, .int x1, .ref 145] [] (am_SH, am_u (am_u (am_u (am_u I 145 6 x1) 145 7 x2) 145 8 x3) 145 12 0, J, Pf) k n true P)) : am_go sc d 130 (48, [some (.ref 145), some (.int x1), some (.int x2), some (.int x3)], [], (am_SH, I, J, Pf), k, n) P := by
  refine am_s_aload_n rfl dc130_3.1.2.1 ?_
  refine am_s_iload_n rfl dc130_3.1.2.2 ?_
  refine am_s_putI dc130_3.2.1.1 rfl rfl rfl rfl ?_
  refine am_s_aload_n rfl dc130_3.2.1.2 ?_
  refine am_s_iload_n rfl dc130_3.2.2.1 ?_
  refine am_s_putI dc130_3.2.2.2 rfl rfl rfl rfl ?_
  refine am_s_aload_n rfl dc130_4.1.1.1 ?_
  refine am_s_iload_n rfl dc130_4.1.1.2 ?_
  refine am_s_putI dc130_4.1.2.1 rfl rfl rfl rfl ?_
  refine am_s_aload_n rfl dc130_4.1.2.2 ?_
  refine am_s_iconst am_cc0 dc130_4.2.1.1 ?_
  refine am_s_putI dc130_4.2.1.2 rfl rfl rfl rfl ?_
  refine am_s_aload_n rfl dc130_4.2.2.1 ?_
  refine am_s_iload_n rfl dc130_4.2.2.2 ?_
  refine am_s_iload_n rfl dc130_5.1.1.1 ?_
  refine am_s_iload_n rfl dc130_5.1.1.2 ?_
  refine am_s_iconst am_cc0 dc130_5.1.2.1 ?_
  exact am_s_virtual true dc130_5.1.2.2 rfl (by decide) rfl rfl rfl (q1)
theorem t130_102 {sc : Option (Nat × (Nat → Int32))} {d k n : Nat} {P : am_O → Prop} {I : am_I} {J : am_J} {Pf : am_R} (hp : am_PF Pf) {l1 : Option Value} {l2 : Option Value} {l3 : Option Value} (q1 : am_go sc d 130 (81, [some (.ref 145), l1, l2, l3], [], (am_SH, am_u I 145 9 ((I 145 9) + 1), J, Pf), k, n) P) : am_go sc d 130 (102, [some (.ref 145), l1, l2, l3], [], (am_SH, I, J, Pf), k, n) P := by
  refine am_s_aload_n rfl dc130_7.1.1.1 ?_
  refine am_s_dup rfl dc130_7.1.1.2 ?_
  refine am_x_getI (x := I 145 9) dc130_7.1.2.1 rfl rfl (Or.inl rfl) rfl ?_
  refine am_s_iconst am_cc1 dc130_7.1.2.2 ?_
  refine am_s_iadd dc130_7.2.1.1 ?_
  refine am_s_putI dc130_7.2.1.2 rfl rfl rfl rfl ?_
  refine am_s_goto rfl dc130_7.2.2.1 ?_
  exact q1
theorem t130_76 {sc : Option (Nat × (Nat → Int32))} {d k n : Nat} {P : am_O → Prop} {I : am_I} {J : am_J} {Pf : am_R} (hp : am_PF Pf) {l1 : Option Value} {l2 : Option Value} {l3 : Option Value} (q1 : am_go sc d 130 (81, [some (.ref 145), l1, l2, l3], [], (am_SH, am_u I 145 9 0, J, Pf), k, n) P) : am_go sc d 130 (76, [some (.ref 145), l1, l2, l3], [], (am_SH, I, J, Pf), k, n) P := by
  refine am_s_aload_n rfl dc130_5.2.1.1 ?_
  refine am_s_iconst am_cc0 dc130_5.2.1.2 ?_
  refine am_s_putI dc130_5.2.2.1 rfl rfl rfl rfl ?_
  exact q1
-- await (IIII)V
theorem dc131_0 : (((decode (am_by 131) 0 = .ok (.aload_n 0, 1)) ∧ (decode (am_by 131) 1 = .ok (.getfield 145, 3))) ∧ ((decode (am_by 131) 4 = .ok (.iconst 4, 1)) ∧ (decode (am_by 131) 5 = .ok (.imul, 1)))) ∧ (((decode (am_by 131) 6 = .ok (.istore 5, 2)) ∧ (decode (am_by 131) 8 = .ok (.iload 5, 2))) ∧ ((decode (am_by 131) 10 = .ok (.iconst 4, 1)) ∧ (decode (am_by 131) 11 = .ok (.iadd, 1)))) := by decide +kernel
theorem dc131_1 : (((decode (am_by 131) 12 = .ok (.aload_n 0, 1)) ∧ (decode (am_by 131) 13 = .ok (.getfield 24, 3))) ∧ ((decode (am_by 131) 16 = .ok (.arraylength, 1)) ∧ (decode (am_by 131) 17 = .ok (.if_icmp .le 4, 3)))) ∧ (((decode (am_by 131) 20 = .ok (.return_, 1)) ∧ (decode (am_by 131) 21 = .ok (.aload_n 0, 1))) ∧ ((decode (am_by 131) 22 = .ok (.getfield 24, 3)) ∧ (decode (am_by 131) 25 = .ok (.iload 5, 2)))) := by decide +kernel
theorem dc131_2 : (((decode (am_by 131) 27 = .ok (.iload_n 1, 1)) ∧ (decode (am_by 131) 28 = .ok (.iastore, 1))) ∧ ((decode (am_by 131) 29 = .ok (.aload_n 0, 1)) ∧ (decode (am_by 131) 30 = .ok (.getfield 24, 3)))) ∧ (((decode (am_by 131) 33 = .ok (.iload 5, 2)) ∧ (decode (am_by 131) 35 = .ok (.iconst 1, 1))) ∧ ((decode (am_by 131) 36 = .ok (.iadd, 1)) ∧ (decode (am_by 131) 37 = .ok (.iload_n 2, 1)))) := by decide +kernel
theorem dc131_3 : (((decode (am_by 131) 38 = .ok (.iastore, 1)) ∧ (decode (am_by 131) 39 = .ok (.aload_n 0, 1))) ∧ ((decode (am_by 131) 40 = .ok (.getfield 24, 3)) ∧ (decode (am_by 131) 43 = .ok (.iload 5, 2)))) ∧ (((decode (am_by 131) 45 = .ok (.iconst 2, 1)) ∧ (decode (am_by 131) 46 = .ok (.iadd, 1))) ∧ ((decode (am_by 131) 47 = .ok (.iload_n 3, 1)) ∧ (decode (am_by 131) 48 = .ok (.iastore, 1)))) := by decide +kernel
theorem dc131_4 : (((decode (am_by 131) 49 = .ok (.aload_n 0, 1)) ∧ (decode (am_by 131) 50 = .ok (.getfield 24, 3))) ∧ ((decode (am_by 131) 53 = .ok (.iload 5, 2)) ∧ (decode (am_by 131) 55 = .ok (.iconst 3, 1)))) ∧ (((decode (am_by 131) 56 = .ok (.iadd, 1)) ∧ (decode (am_by 131) 57 = .ok (.iload 4, 2))) ∧ ((decode (am_by 131) 59 = .ok (.iastore, 1)) ∧ (decode (am_by 131) 60 = .ok (.aload_n 0, 1)))) := by decide +kernel
theorem dc131_5 : ((decode (am_by 131) 61 = .ok (.dup, 1)) ∧ ((decode (am_by 131) 62 = .ok (.getfield 145, 3)) ∧ (decode (am_by 131) 65 = .ok (.iconst 1, 1)))) ∧ ((decode (am_by 131) 66 = .ok (.iadd, 1)) ∧ ((decode (am_by 131) 67 = .ok (.putfield 145, 3)) ∧ (decode (am_by 131) 70 = .ok (.return_, 1)))) := by decide +kernel
theorem t131_0 {sc : Option (Nat × (Nat → Int32))} {d k n : Nat} {P : am_O → Prop} {I : am_I} {J : am_J} {Pf : am_R} (hp : am_PF Pf) {x1 : Int32} {x2 : Int32} {x3 : Int32} {x4 : Int32} {l5 : Option Value} (q1 : ((((I 145 12) * 4) + 4) ≤ 2404) → am_in ((I 145 12) * 4) 2404 = true) (q2 : ((((I 145 12) * 4) + 4) ≤ 2404) → am_in (((I 145 12) * 4) + 1) 2404 = true) (q3 : ((((I 145 12) * 4) + 4) ≤ 2404) → am_in (((I 145 12) * 4) + 2) 2404 = true) (q4 : ((((I 145 12) * 4) + 4) ≤ 2404) → am_in (((I 145 12) * 4) + 3) 2404 = true) (q5 : ((((I 145 12) * 4) + 4) ≤ 2404) → P (.inl none, (am_SH, am_u (am_u (am_u (am_u (am_u I 150 (Int32.toNatClampNeg ((I 145 12) * 4)) x1) 150 (Int32.toNatClampNeg (((I 145 12) * 4) + 1)) x2) 150 (Int32.toNatClampNeg (((I 145 12) * 4) + 2)) x3) 150 (Int32.toNatClampNeg (((I 145 12) * 4) + 3)) x4) 145 12 ((I 145 12) + 1), J, Pf), k, n)) (q6 : (¬ ((((I 145 12) * 4) + 4) ≤ 2404)) → P (.inl none, (am_SH, I, J, Pf), k, n)) : am_go sc d 131 (0, [some (.ref 145), some (.int x1), some (.int x2), some (.int x3), some (.int x4), l5], [], (am_SH, I, J, Pf), k, n) P := by
  refine am_s_aload_n rfl dc131_0.1.1.1 ?_
  refine am_x_getI (x := I 145 12) dc131_0.1.1.2 rfl rfl (Or.inl rfl) rfl ?_
  refine am_s_iconst am_cc4 dc131_0.1.2.1 ?_
  refine am_s_imul dc131_0.1.2.2 ?_
  refine am_s_istore (ls' := [some (.ref 145), some (.int x1), some (.int x2), some (.int x3), some (.int x4), some (.int ((I 145 12) * 4))]) rfl rfl dc131_0.2.1.1 ?_
  refine am_s_iload rfl dc131_0.2.1.2 ?_
  refine am_s_iconst am_cc4 dc131_0.2.2.1 ?_
  refine am_s_iadd dc131_0.2.2.2 ?_
  refine am_s_aload_n rfl dc131_1.1.1.1 ?_
  refine am_s_getR (r := 150) dc131_1.1.1.2 rfl rfl rfl (hp _ _ _ rfl) ?_
  refine am_s_len (x := 2404) dc131_1.1.2.1 rfl rfl (by decide +kernel) ?_
  refine am_s_ic_le dc131_1.1.2.2 rfl (fun c1 => ?_) (fun c1 => ?_)
  · refine am_s_aload_n rfl dc131_1.2.1.2 ?_
    refine am_s_getR (r := 150) dc131_1.2.2.1 rfl rfl rfl (hp _ _ _ rfl) ?_
    refine am_s_iload rfl dc131_1.2.2.2 ?_
    refine am_s_iload_n rfl dc131_2.1.1.1 ?_
    refine am_s_iastore dc131_2.1.1.2 rfl (q1 c1) rfl ?_
    refine am_s_aload_n rfl dc131_2.1.2.1 ?_
    refine am_s_getR (r := 150) dc131_2.1.2.2 rfl rfl rfl (hp _ _ _ rfl) ?_
    refine am_s_iload rfl dc131_2.2.1.1 ?_
    refine am_s_iconst am_cc1 dc131_2.2.1.2 ?_
    refine am_s_iadd dc131_2.2.2.1 ?_
    refine am_s_iload_n rfl dc131_2.2.2.2 ?_
    refine am_s_iastore dc131_3.1.1.1 rfl (q2 c1) rfl ?_
    refine am_s_aload_n rfl dc131_3.1.1.2 ?_
    refine am_s_getR (r := 150) dc131_3.1.2.1 rfl rfl rfl (hp _ _ _ rfl) ?_
    refine am_s_iload rfl dc131_3.1.2.2 ?_
    refine am_s_iconst am_cc2 dc131_3.2.1.1 ?_
    refine am_s_iadd dc131_3.2.1.2 ?_
    refine am_s_iload_n rfl dc131_3.2.2.1 ?_
    refine am_s_iastore dc131_3.2.2.2 rfl (q3 c1) rfl ?_
    refine am_s_aload_n rfl dc131_4.1.1.1 ?_
    refine am_s_getR (r := 150) dc131_4.1.1.2 rfl rfl rfl (hp _ _ _ rfl) ?_
    refine am_s_iload rfl dc131_4.1.2.1 ?_
    refine am_s_iconst am_cc3 dc131_4.1.2.2 ?_
    refine am_s_iadd dc131_4.2.1.1 ?_
    refine am_s_iload rfl dc131_4.2.1.2 ?_
    refine am_s_iastore dc131_4.2.2.1 rfl (q4 c1) rfl ?_
    refine am_s_aload_n rfl dc131_4.2.2.2 ?_
    refine am_s_dup rfl dc131_5.1.1 ?_
    refine am_x_getI (x := I 145 12) dc131_5.1.2.1 rfl rfl (Or.inl rfl) rfl ?_
    refine am_s_iconst am_cc1 dc131_5.1.2.2 ?_
    refine am_s_iadd dc131_5.2.1 ?_
    refine am_s_putI dc131_5.2.2.1 rfl rfl rfl rfl ?_
    exact am_s_return dc131_5.2.2.2 rfl (q5 c1)
  · exact am_s_return dc131_1.2.1.1 rfl (q6 c1)
-- tellNext ()V
theorem dc132_0 : (((decode (am_by 132) 0 = .ok (.aload_n 0, 1)) ∧ (decode (am_by 132) 1 = .ok (.dup, 1))) ∧ ((decode (am_by 132) 2 = .ok (.getfield 145, 3)) ∧ (decode (am_by 132) 5 = .ok (.iconst 1, 1)))) ∧ (((decode (am_by 132) 6 = .ok (.isub, 1)) ∧ (decode (am_by 132) 7 = .ok (.putfield 145, 3))) ∧ ((decode (am_by 132) 10 = .ok (.aload_n 0, 1)) ∧ (decode (am_by 132) 11 = .ok (.getfield 145, 3)))) := by decide +kernel
theorem dc132_1 : (((decode (am_by 132) 14 = .ok (.iconst 4, 1)) ∧ (decode (am_by 132) 15 = .ok (.imul, 1))) ∧ ((decode (am_by 132) 16 = .ok (.istore_n 1, 1)) ∧ (decode (am_by 132) 17 = .ok (.aload_n 0, 1)))) ∧ (((decode (am_by 132) 18 = .ok (.getfield 24, 3)) ∧ (decode (am_by 132) 21 = .ok (.iload_n 1, 1))) ∧ ((decode (am_by 132) 22 = .ok (.iaload, 1)) ∧ (decode (am_by 132) 23 = .ok (.istore_n 2, 1)))) := by decide +kernel
theorem dc132_2 : (((decode (am_by 132) 24 = .ok (.aload_n 0, 1)) ∧ (decode (am_by 132) 25 = .ok (.getfield 24, 3))) ∧ ((decode (am_by 132) 28 = .ok (.iload_n 1, 1)) ∧ (decode (am_by 132) 29 = .ok (.iconst 1, 1)))) ∧ (((decode (am_by 132) 30 = .ok (.iadd, 1)) ∧ (decode (am_by 132) 31 = .ok (.iaload, 1))) ∧ ((decode (am_by 132) 32 = .ok (.istore_n 3, 1)) ∧ (decode (am_by 132) 33 = .ok (.aload_n 0, 1)))) := by decide +kernel
theorem dc132_3 : (((decode (am_by 132) 34 = .ok (.getfield 24, 3)) ∧ (decode (am_by 132) 37 = .ok (.iload_n 1, 1))) ∧ ((decode (am_by 132) 38 = .ok (.iconst 2, 1)) ∧ (decode (am_by 132) 39 = .ok (.iadd, 1)))) ∧ (((decode (am_by 132) 40 = .ok (.iaload, 1)) ∧ (decode (am_by 132) 41 = .ok (.istore 4, 2))) ∧ ((decode (am_by 132) 43 = .ok (.aload_n 0, 1)) ∧ (decode (am_by 132) 44 = .ok (.getfield 24, 3)))) := by decide +kernel
theorem dc132_4 : (((decode (am_by 132) 47 = .ok (.iload_n 1, 1)) ∧ (decode (am_by 132) 48 = .ok (.iconst 3, 1))) ∧ ((decode (am_by 132) 49 = .ok (.iadd, 1)) ∧ (decode (am_by 132) 50 = .ok (.iaload, 1)))) ∧ (((decode (am_by 132) 51 = .ok (.istore 5, 2)) ∧ (decode (am_by 132) 53 = .ok (.aload_n 0, 1))) ∧ ((decode (am_by 132) 54 = .ok (.getfield 9, 3)) ∧ (decode (am_by 132) 57 = .ok (.iload_n 2, 1)))) := by decide +kernel
theorem dc132_5 : (((decode (am_by 132) 58 = .ok (.bipush 25, 2)) ∧ (decode (am_by 132) 60 = .ok (.imul, 1))) ∧ ((decode (am_by 132) 61 = .ok (.iload_n 3, 1)) ∧ (decode (am_by 132) 62 = .ok (.iadd, 1)))) ∧ (((decode (am_by 132) 63 = .ok (.bipush 25, 2)) ∧ (decode (am_by 132) 65 = .ok (.imul, 1))) ∧ ((decode (am_by 132) 66 = .ok (.iload 4, 2)) ∧ (decode (am_by 132) 68 = .ok (.iadd, 1)))) := by decide +kernel
theorem dc132_6 : (((decode (am_by 132) 69 = .ok (.iaload, 1)) ∧ (decode (am_by 132) 70 = .ok (.istore 6, 2))) ∧ ((decode (am_by 132) 72 = .ok (.aload_n 0, 1)) ∧ (decode (am_by 132) 73 = .ok (.getfield 142, 3)))) ∧ (((decode (am_by 132) 76 = .ok (.bipush 6, 2)) ∧ (decode (am_by 132) 78 = .ok (.imul, 1))) ∧ ((decode (am_by 132) 79 = .ok (.istore 7, 2)) ∧ (decode (am_by 132) 81 = .ok (.aload_n 0, 1)))) := by decide +kernel
theorem dc132_7 : (((decode (am_by 132) 82 = .ok (.getfield 21, 3)) ∧ (decode (am_by 132) 85 = .ok (.iload 7, 2))) ∧ ((decode (am_by 132) 87 = .ok (.iload_n 2, 1)) ∧ (decode (am_by 132) 88 = .ok (.iastore, 1)))) ∧ (((decode (am_by 132) 89 = .ok (.aload_n 0, 1)) ∧ (decode (am_by 132) 90 = .ok (.getfield 21, 3))) ∧ ((decode (am_by 132) 93 = .ok (.iload 7, 2)) ∧ (decode (am_by 132) 95 = .ok (.iconst 1, 1)))) := by decide +kernel
theorem dc132_8 : (((decode (am_by 132) 96 = .ok (.iadd, 1)) ∧ (decode (am_by 132) 97 = .ok (.iload_n 3, 1))) ∧ ((decode (am_by 132) 98 = .ok (.iastore, 1)) ∧ (decode (am_by 132) 99 = .ok (.aload_n 0, 1)))) ∧ (((decode (am_by 132) 100 = .ok (.getfield 21, 3)) ∧ (decode (am_by 132) 103 = .ok (.iload 7, 2))) ∧ ((decode (am_by 132) 105 = .ok (.iconst 2, 1)) ∧ (decode (am_by 132) 106 = .ok (.iadd, 1)))) := by decide +kernel
theorem dc132_9 : (((decode (am_by 132) 107 = .ok (.iload 4, 2)) ∧ (decode (am_by 132) 109 = .ok (.iastore, 1))) ∧ ((decode (am_by 132) 110 = .ok (.aload_n 0, 1)) ∧ (decode (am_by 132) 111 = .ok (.getfield 21, 3)))) ∧ (((decode (am_by 132) 114 = .ok (.iload 7, 2)) ∧ (decode (am_by 132) 116 = .ok (.iconst 3, 1))) ∧ ((decode (am_by 132) 117 = .ok (.iadd, 1)) ∧ (decode (am_by 132) 118 = .ok (.iload 6, 2)))) := by decide +kernel
theorem dc132_10 : (((decode (am_by 132) 120 = .ok (.iastore, 1)) ∧ (decode (am_by 132) 121 = .ok (.aload_n 0, 1))) ∧ ((decode (am_by 132) 122 = .ok (.getfield 21, 3)) ∧ (decode (am_by 132) 125 = .ok (.iload 7, 2)))) ∧ (((decode (am_by 132) 127 = .ok (.iconst 4, 1)) ∧ (decode (am_by 132) 128 = .ok (.iadd, 1))) ∧ ((decode (am_by 132) 129 = .ok (.iconst (-1), 1)) ∧ (decode (am_by 132) 130 = .ok (.iastore, 1)))) := by decide +kernel
theorem dc132_11 : (((decode (am_by 132) 131 = .ok (.aload_n 0, 1)) ∧ (decode (am_by 132) 132 = .ok (.getfield 21, 3))) ∧ ((decode (am_by 132) 135 = .ok (.iload 7, 2)) ∧ (decode (am_by 132) 137 = .ok (.iconst 5, 1)))) ∧ (((decode (am_by 132) 138 = .ok (.iadd, 1)) ∧ (decode (am_by 132) 139 = .ok (.iload 5, 2))) ∧ ((decode (am_by 132) 141 = .ok (.iastore, 1)) ∧ (decode (am_by 132) 142 = .ok (.aload_n 0, 1)))) := by decide +kernel
theorem dc132_12 : (((decode (am_by 132) 143 = .ok (.iload_n 2, 1)) ∧ (decode (am_by 132) 144 = .ok (.iload_n 3, 1))) ∧ ((decode (am_by 132) 145 = .ok (.iload 4, 2)) ∧ (decode (am_by 132) 147 = .ok (.iload 6, 2)))) ∧ (((decode (am_by 132) 149 = .ok (.iload 5, 2)) ∧ (decode (am_by 132) 151 = .ok (.iconst 1, 1))) ∧ ((decode (am_by 132) 152 = .ok (.iadd, 1)) ∧ (decode (am_by 132) 153 = .ok (.invokevirtual 155, 3)))) := by decide +kernel
theorem dc132_13 : decode (am_by 132) 156 = .ok (.return_, 1) := by decide +kernel
theorem t132_0 {sc : Option (Nat × (Nat → Int32))} {d k n : Nat} {P : am_O → Prop} {I : am_I} {J : am_J} {Pf : am_R} (hp : am_PF Pf) {l1 : Option Value} {l2 : Option Value} {l3 : Option Value} {l4 : Option Value} {l5 : Option Value} {l6 : Option Value} {l7 : Option Value} (q1 : am_in (((I 145 12) - 1) * 4) 2404 = true) (q2 : am_in ((((I 145 12) - 1) * 4) + 1) 2404 = true) (q3 : am_in ((((I 145 12) - 1) * 4) + 2) 2404 = true) (q4 : am_in ((((I 145 12) - 1) * 4) + 3) 2404 = true) (q5 : am_in (((((I 150 (Int32.toNatClampNeg (((I 145 12) - 1) * 4))) * 25) + (I 150 (Int32.toNatClampNeg ((((I 145 12) - 1) * 4) + 1)))) * 25) + (I 150 (Int32.toNatClampNeg ((((I 145 12) - 1) * 4) + 2)))) 5000 = true) (q6 : am_in ((I 145 9) * 6) 1200 = true) (q7 : am_in (((I 145 9) * 6) + 1) 1200 = true) (q8 : am_in (((I 145 9) * 6) + 2) 1200 = true) (q9 : am_in (((I 145 9) * 6) + 3) 1200 = true) (q10 : am_in (((I 145 9) * 6) + 4) 1200 = true) (q11 : am_in (((I 145 9) * 6) + 5) 1200 = true) (q12 : am_mth d 133 [.ref 145, .int (I 150 (Int32.toNatClampNeg (((I 145 12) - 1) * 4))), .int (I 150 (Int32.toNatClampNeg ((((I 145 12) - 1) * 4) + 1))), .int (I 150 (Int32.toNatClampNeg ((((I 145 12) - 1) * 4) + 2))), .int (I 146 (Int32.toNatClampNeg (((((I 150 (Int32.toNatClampNeg (((I 145 12) - 1) * 4))) * 25) + (I 150 (Int32.toNatClampNeg ((((I 145 12) - 1) * 4) + 1)))) * 25) + (I 150 (Int32.toNatClampNeg ((((I 145 12) - 1) * 4) + 2)))))), .int ((I 150 (Int32.toNatClampNeg ((((I 145 12) - 1) * 4) + 3))) + 1)] (am_SH, am_u (am_u (am_u (am_u (am_u (am_u (am_u I 145 12 ((I 145 12) - 1)) 149 (Int32.toNatClampNeg ((I 145 9) * 6)) (I 150 (Int32.toNatClampNeg (((I 145 12) - 1) * 4)))) 149 (Int32.toNatClampNeg (((I 145 9) * 6) + 1)) (I 150 (Int32.toNatClampNeg ((((I 145 12) - 1) * 4) + 1)))) 149 (Int32.toNatClampNeg (((I 145 9) * 6) + 2)) (I 150 (Int32.toNatClampNeg ((((I 145 12) - 1) * 4) + 2)))) 149 (Int32.toNatClampNeg (((I 145 9) * 6) + 3)) (I 146 (Int32.toNatClampNeg (((((I 150 (Int32.toNatClampNeg (((I 145 12) - 1) * 4))) * 25) + (I 150 (Int32.toNatClampNeg ((((I 145 12) - 1) * 4) + 1)))) * 25) + (I 150 (Int32.toNatClampNeg ((((I 145 12) - 1) * 4) + 2))))))) 149 (Int32.toNatClampNeg (((I 145 9) * 6) + 4)) (-1)) 149 (Int32.toNatClampNeg (((I 145 9) * 6) + 5)) (I 150 (Int32.toNatClampNeg ((((I 145 12) - 1) * 4) + 3))), J, Pf) (am_af sc d 132 153 [some (.ref 145), some (.int (((I 145 12) - 1) * 4)), some (.int (I 150 (Int32.toNatClampNeg (((I 145 12) - 1) * 4)))), some (.int (I 150 (Int32.toNatClampNeg ((((I 145 12) - 1) * 4) + 1)))), some (.int (I 150 (Int32.toNatClampNeg ((((I 145 12) - 1) * 4) + 2)))), some (.int (I 150 (Int32.toNatClampNeg ((((I 145 12) - 1) * 4) + 3)))), some (.int (I 146 (Int32.toNatClampNeg (((((I 150 (Int32.toNatClampNeg (((I 145 12) - 1) * 4))) * 25) + (I 150 (Int32.toNatClampNeg ((((I 145 12) - 1) * 4) + 1)))) * 25) + (I 150 (Int32.toNatClampNeg ((((I 145 12) - 1) * 4) + 2))))))), some (.int ((I 145 9) * 6))] [.int ((I 150 (Int32.toNatClampNeg ((((I 145 12) - 1) * 4) + 3))) + 1), .int (I 146 (Int32.toNatClampNeg (((((I 150 (Int32.toNatClampNeg (((I 145 12) - 1) * 4))) * 25) + (I 150 (Int32.toNatClampNeg ((((I 145 12) - 1) * 4) + 1)))) * 25) + (I 150 (Int32.toNatClampNeg ((((I 145 12) - 1) * 4) + 2)))))), .int (I 150 (Int32.toNatClampNeg ((((I 145 12) - 1) * 4) + 2))), .int (I 150 (Int32.toNatClampNeg ((((I 145 12) - 1) * 4) + 1))), .int (I 150 (Int32.toNatClampNeg (((I 145 12) - 1) * 4))), .ref 145] [] (am_SH, am_u (am_u (am_u (am_u (am_u (am_u (am_u I 145 12 ((I 145 12) - 1)) 149 (Int32.toNatClampNeg ((I 145 9) * 6)) (I 150 (Int32.toNatClampNeg (((I 145 12) - 1) * 4)))) 149 (Int32.toNatClampNeg (((I 145 9) * 6) + 1)) (I 150 (Int32.toNatClampNeg ((((I 145 12) - 1) * 4) + 1)))) 149 (Int32.toNatClampNeg (((I 145 9) * 6) + 2)) (I 150 (Int32.toNatClampNeg ((((I 145 12) - 1) * 4) + 2)))) 149 (Int32.toNatClampNeg (((I 145 9) * 6) + 3)) (I 146 (Int32.toNatClampNeg (((((I 150 (Int32.toNatClampNeg (((I 145 12) - 1) * 4))) * 25) + (I 150 (Int32.toNatClampNeg ((((I 145 12) - 1) * 4) + 1)))) * 25) + (I 150 (Int32.toNatClampNeg ((((I 145 12) - 1) * 4) + 2))))))) 149 (Int32.toNatClampNeg (((I 145 9) * 6) + 4)) (-1)) 149 (Int32.toNatClampNeg (((I 145 9) * 6) + 5)) (I 150 (Int32.toNatClampNeg ((((I 145 12) - 1) * 4) + 3))), J, Pf) k n true P)) : am_go sc d 132 (0, [some (.ref 145), l1, l2, l3, l4, l5, l6, l7], [], (am_SH, I, J, Pf), k, n) P := by
  refine am_s_aload_n rfl dc132_0.1.1.1 ?_
  refine am_s_dup rfl dc132_0.1.1.2 ?_
  refine am_x_getI (x := I 145 12) dc132_0.1.2.1 rfl rfl (Or.inl rfl) rfl ?_
  refine am_s_iconst am_cc1 dc132_0.1.2.2 ?_
  refine am_s_isub dc132_0.2.1.1 ?_
  refine am_s_putI dc132_0.2.1.2 rfl rfl rfl rfl ?_
  refine am_s_aload_n rfl dc132_0.2.2.1 ?_
  refine am_x_getI (x := (I 145 12) - 1) dc132_0.2.2.2 rfl rfl (Or.inl rfl) rfl ?_
  refine am_s_iconst am_cc4 dc132_1.1.1.1 ?_
  refine am_s_imul dc132_1.1.1.2 ?_
  refine am_s_istore_n (ls' := [some (.ref 145), some (.int (((I 145 12) - 1) * 4)), l2, l3, l4, l5, l6, l7]) rfl rfl dc132_1.1.2.1 ?_
  refine am_s_aload_n rfl dc132_1.1.2.2 ?_
  refine am_s_getR (r := 150) dc132_1.2.1.1 rfl rfl rfl (hp _ _ _ rfl) ?_
  refine am_s_iload_n rfl dc132_1.2.1.2 ?_
  refine am_x_iaload (x := I 150 (Int32.toNatClampNeg (((I 145 12) - 1) * 4))) dc132_1.2.2.1 rfl (q1) rfl rfl ?_
  refine am_s_istore_n (ls' := [some (.ref 145), some (.int (((I 145 12) - 1) * 4)), some (.int (I 150 (Int32.toNatClampNeg (((I 145 12) - 1) * 4)))), l3, l4, l5, l6, l7]) rfl rfl dc132_1.2.2.2 ?_
  refine am_s_aload_n rfl dc132_2.1.1.1 ?_
  refine am_s_getR (r := 150) dc132_2.1.1.2 rfl rfl rfl (hp _ _ _ rfl) ?_
  refine am_s_iload_n rfl dc132_2.1.2.1 ?_
  refine am_s_iconst am_cc1 dc132_2.1.2.2 ?_
  refine am_s_iadd dc132_2.2.1.1 ?_
  refine am_x_iaload (x := I 150 (Int32.toNatClampNeg ((((I 145 12) - 1) * 4) + 1))) dc132_2.2.1.2 rfl (q2) rfl rfl ?_
  refine am_s_istore_n (ls' := [some (.ref 145), some (.int (((I 145 12) - 1) * 4)), some (.int (I 150 (Int32.toNatClampNeg (((I 145 12) - 1) * 4)))), some (.int (I 150 (Int32.toNatClampNeg ((((I 145 12) - 1) * 4) + 1)))), l4, l5, l6, l7]) rfl rfl dc132_2.2.2.1 ?_
  refine am_s_aload_n rfl dc132_2.2.2.2 ?_
  refine am_s_getR (r := 150) dc132_3.1.1.1 rfl rfl rfl (hp _ _ _ rfl) ?_
  refine am_s_iload_n rfl dc132_3.1.1.2 ?_
  refine am_s_iconst am_cc2 dc132_3.1.2.1 ?_
  refine am_s_iadd dc132_3.1.2.2 ?_
  refine am_x_iaload (x := I 150 (Int32.toNatClampNeg ((((I 145 12) - 1) * 4) + 2))) dc132_3.2.1.1 rfl (q3) rfl rfl ?_
  refine am_s_istore (ls' := [some (.ref 145), some (.int (((I 145 12) - 1) * 4)), some (.int (I 150 (Int32.toNatClampNeg (((I 145 12) - 1) * 4)))), some (.int (I 150 (Int32.toNatClampNeg ((((I 145 12) - 1) * 4) + 1)))), some (.int (I 150 (Int32.toNatClampNeg ((((I 145 12) - 1) * 4) + 2)))), l5, l6, l7]) rfl rfl dc132_3.2.1.2 ?_
  refine am_s_aload_n rfl dc132_3.2.2.1 ?_
  refine am_s_getR (r := 150) dc132_3.2.2.2 rfl rfl rfl (hp _ _ _ rfl) ?_
  refine am_s_iload_n rfl dc132_4.1.1.1 ?_
  refine am_s_iconst am_cc3 dc132_4.1.1.2 ?_
  refine am_s_iadd dc132_4.1.2.1 ?_
  refine am_x_iaload (x := I 150 (Int32.toNatClampNeg ((((I 145 12) - 1) * 4) + 3))) dc132_4.1.2.2 rfl (q4) rfl rfl ?_
  refine am_s_istore (ls' := [some (.ref 145), some (.int (((I 145 12) - 1) * 4)), some (.int (I 150 (Int32.toNatClampNeg (((I 145 12) - 1) * 4)))), some (.int (I 150 (Int32.toNatClampNeg ((((I 145 12) - 1) * 4) + 1)))), some (.int (I 150 (Int32.toNatClampNeg ((((I 145 12) - 1) * 4) + 2)))), some (.int (I 150 (Int32.toNatClampNeg ((((I 145 12) - 1) * 4) + 3)))), l6, l7]) rfl rfl dc132_4.2.1.1 ?_
  refine am_s_aload_n rfl dc132_4.2.1.2 ?_
  refine am_s_getR (r := 146) dc132_4.2.2.1 rfl rfl rfl (hp _ _ _ rfl) ?_
  refine am_s_iload_n rfl dc132_4.2.2.2 ?_
  refine am_s_bipush am_cb25 dc132_5.1.1.1 ?_
  refine am_s_imul dc132_5.1.1.2 ?_
  refine am_s_iload_n rfl dc132_5.1.2.1 ?_
  refine am_s_iadd dc132_5.1.2.2 ?_
  refine am_s_bipush am_cb25 dc132_5.2.1.1 ?_
  refine am_s_imul dc132_5.2.1.2 ?_
  refine am_s_iload rfl dc132_5.2.2.1 ?_
  refine am_s_iadd dc132_5.2.2.2 ?_
  refine am_x_iaload (x := I 146 (Int32.toNatClampNeg (((((I 150 (Int32.toNatClampNeg (((I 145 12) - 1) * 4))) * 25) + (I 150 (Int32.toNatClampNeg ((((I 145 12) - 1) * 4) + 1)))) * 25) + (I 150 (Int32.toNatClampNeg ((((I 145 12) - 1) * 4) + 2)))))) dc132_6.1.1.1 rfl (q5) rfl rfl ?_
  refine am_s_istore (ls' := [some (.ref 145), some (.int (((I 145 12) - 1) * 4)), some (.int (I 150 (Int32.toNatClampNeg (((I 145 12) - 1) * 4)))), some (.int (I 150 (Int32.toNatClampNeg ((((I 145 12) - 1) * 4) + 1)))), some (.int (I 150 (Int32.toNatClampNeg ((((I 145 12) - 1) * 4) + 2)))), some (.int (I 150 (Int32.toNatClampNeg ((((I 145 12) - 1) * 4) + 3)))), some (.int (I 146 (Int32.toNatClampNeg (((((I 150 (Int32.toNatClampNeg (((I 145 12) - 1) * 4))) * 25) + (I 150 (Int32.toNatClampNeg ((((I 145 12) - 1) * 4) + 1)))) * 25) + (I 150 (Int32.toNatClampNeg ((((I 145 12) - 1) * 4) + 2))))))), l7]) rfl rfl dc132_6.1.1.2 ?_
  refine am_s_aload_n rfl dc132_6.1.2.1 ?_
  refine am_x_getI (x := I 145 9) dc132_6.1.2.2 rfl rfl (Or.inl rfl) rfl ?_
  refine am_s_bipush am_cb6 dc132_6.2.1.1 ?_
  refine am_s_imul dc132_6.2.1.2 ?_
  refine am_s_istore (ls' := [some (.ref 145), some (.int (((I 145 12) - 1) * 4)), some (.int (I 150 (Int32.toNatClampNeg (((I 145 12) - 1) * 4)))), some (.int (I 150 (Int32.toNatClampNeg ((((I 145 12) - 1) * 4) + 1)))), some (.int (I 150 (Int32.toNatClampNeg ((((I 145 12) - 1) * 4) + 2)))), some (.int (I 150 (Int32.toNatClampNeg ((((I 145 12) - 1) * 4) + 3)))), some (.int (I 146 (Int32.toNatClampNeg (((((I 150 (Int32.toNatClampNeg (((I 145 12) - 1) * 4))) * 25) + (I 150 (Int32.toNatClampNeg ((((I 145 12) - 1) * 4) + 1)))) * 25) + (I 150 (Int32.toNatClampNeg ((((I 145 12) - 1) * 4) + 2))))))), some (.int ((I 145 9) * 6))]) rfl rfl dc132_6.2.2.1 ?_
  refine am_s_aload_n rfl dc132_6.2.2.2 ?_
  refine am_s_getR (r := 149) dc132_7.1.1.1 rfl rfl rfl (hp _ _ _ rfl) ?_
  refine am_s_iload rfl dc132_7.1.1.2 ?_
  refine am_s_iload_n rfl dc132_7.1.2.1 ?_
  refine am_s_iastore dc132_7.1.2.2 rfl (q6) rfl ?_
  refine am_s_aload_n rfl dc132_7.2.1.1 ?_
  refine am_s_getR (r := 149) dc132_7.2.1.2 rfl rfl rfl (hp _ _ _ rfl) ?_
  refine am_s_iload rfl dc132_7.2.2.1 ?_
  refine am_s_iconst am_cc1 dc132_7.2.2.2 ?_
  refine am_s_iadd dc132_8.1.1.1 ?_
  refine am_s_iload_n rfl dc132_8.1.1.2 ?_
  refine am_s_iastore dc132_8.1.2.1 rfl (q7) rfl ?_
  refine am_s_aload_n rfl dc132_8.1.2.2 ?_
  refine am_s_getR (r := 149) dc132_8.2.1.1 rfl rfl rfl (hp _ _ _ rfl) ?_
  refine am_s_iload rfl dc132_8.2.1.2 ?_
  refine am_s_iconst am_cc2 dc132_8.2.2.1 ?_
  refine am_s_iadd dc132_8.2.2.2 ?_
  refine am_s_iload rfl dc132_9.1.1.1 ?_
  refine am_s_iastore dc132_9.1.1.2 rfl (q8) rfl ?_
  refine am_s_aload_n rfl dc132_9.1.2.1 ?_
  refine am_s_getR (r := 149) dc132_9.1.2.2 rfl rfl rfl (hp _ _ _ rfl) ?_
  refine am_s_iload rfl dc132_9.2.1.1 ?_
  refine am_s_iconst am_cc3 dc132_9.2.1.2 ?_
  refine am_s_iadd dc132_9.2.2.1 ?_
  refine am_s_iload rfl dc132_9.2.2.2 ?_
  refine am_s_iastore dc132_10.1.1.1 rfl (q9) rfl ?_
  refine am_s_aload_n rfl dc132_10.1.1.2 ?_
  refine am_s_getR (r := 149) dc132_10.1.2.1 rfl rfl rfl (hp _ _ _ rfl) ?_
  refine am_s_iload rfl dc132_10.1.2.2 ?_
  refine am_s_iconst am_cc4 dc132_10.2.1.1 ?_
  refine am_s_iadd dc132_10.2.1.2 ?_
  refine am_s_iconst am_ccm1 dc132_10.2.2.1 ?_
  refine am_s_iastore dc132_10.2.2.2 rfl (q10) rfl ?_
  refine am_s_aload_n rfl dc132_11.1.1.1 ?_
  refine am_s_getR (r := 149) dc132_11.1.1.2 rfl rfl rfl (hp _ _ _ rfl) ?_
  refine am_s_iload rfl dc132_11.1.2.1 ?_
  refine am_s_iconst am_cc5 dc132_11.1.2.2 ?_
  refine am_s_iadd dc132_11.2.1.1 ?_
  refine am_s_iload rfl dc132_11.2.1.2 ?_
  refine am_s_iastore dc132_11.2.2.1 rfl (q11) rfl ?_
  refine am_s_aload_n rfl dc132_11.2.2.2 ?_
  refine am_s_iload_n rfl dc132_12.1.1.1 ?_
  refine am_s_iload_n rfl dc132_12.1.1.2 ?_
  refine am_s_iload rfl dc132_12.1.2.1 ?_
  refine am_s_iload rfl dc132_12.1.2.2 ?_
  refine am_s_iload rfl dc132_12.2.1.1 ?_
  refine am_s_iconst am_cc1 dc132_12.2.1.2 ?_
  refine am_s_iadd dc132_12.2.2.1 ?_
  exact am_s_virtual true dc132_12.2.2.2 rfl (by decide) rfl rfl rfl (q12)
theorem t132_156 {sc : Option (Nat × (Nat → Int32))} {d k n : Nat} {P : am_O → Prop} {I : am_I} {J : am_J} {Pf : am_R} (hp : am_PF Pf) {l0 : Option Value} {l1 : Option Value} {l2 : Option Value} {l3 : Option Value} {l4 : Option Value} {l5 : Option Value} {l6 : Option Value} {l7 : Option Value} (q1 : P (.inl none, (am_SH, I, J, Pf), k, n)) : am_go sc d 132 (156, [l0, l1, l2, l3, l4, l5, l6, l7], [], (am_SH, I, J, Pf), k, n) P := by
  exact am_s_return dc132_13 rfl (q1)
-- branch (IIIII)V
theorem dc133_0 : (((decode (am_by 133) 0 = .ok (.aload_n 0, 1)) ∧ (decode (am_by 133) 1 = .ok (.getfield 36, 3))) ∧ ((decode (am_by 133) 4 = .ok (.getfield 58, 3)) ∧ (decode (am_by 133) 7 = .ok (.astore 6, 2)))) ∧ (((decode (am_by 133) 9 = .ok (.iconst 0, 1)) ∧ (decode (am_by 133) 10 = .ok (.istore 7, 2))) ∧ ((decode (am_by 133) 12 = .ok (.iload 7, 2)) ∧ (decode (am_by 133) 14 = .ok (.aload 6, 2)))) := by decide +kernel
theorem dc133_1 : (((decode (am_by 133) 16 = .ok (.getfield 64, 3)) ∧ (decode (am_by 133) 19 = .ok (.if_icmp .ge 182, 3))) ∧ ((decode (am_by 133) 22 = .ok (.aload 6, 2)) ∧ (decode (am_by 133) 24 = .ok (.getfield 69, 3)))) ∧ (((decode (am_by 133) 27 = .ok (.iload 7, 2)) ∧ (decode (am_by 133) 29 = .ok (.iaload, 1))) ∧ ((decode (am_by 133) 30 = .ok (.iload_n 1, 1)) ∧ (decode (am_by 133) 31 = .ok (.if_icmp .ne 164, 3)))) := by decide +kernel
theorem dc133_2 : (((decode (am_by 133) 34 = .ok (.aload_n 0, 1)) ∧ (decode (am_by 133) 35 = .ok (.iload 7, 2))) ∧ ((decode (am_by 133) 37 = .ok (.iload_n 2, 1)) ∧ (decode (am_by 133) 38 = .ok (.iload_n 3, 1)))) ∧ (((decode (am_by 133) 39 = .ok (.iload 4, 2)) ∧ (decode (am_by 133) 41 = .ok (.invokevirtual 159, 3))) ∧ ((decode (am_by 133) 44 = .ok (.ifCond .ne 6, 3)) ∧ (decode (am_by 133) 47 = .ok (.goto 148, 3)))) := by decide +kernel
theorem dc133_3 : (((decode (am_by 133) 50 = .ok (.aload_n 0, 1)) ∧ (decode (am_by 133) 51 = .ok (.getfield 145, 3))) ∧ ((decode (am_by 133) 54 = .ok (.istore 8, 2)) ∧ (decode (am_by 133) 56 = .ok (.iload_n 2, 1)))) ∧ (((decode (am_by 133) 57 = .ok (.istore 9, 2)) ∧ (decode (am_by 133) 59 = .ok (.iconst 0, 1))) ∧ ((decode (am_by 133) 60 = .ok (.istore 10, 2)) ∧ (decode (am_by 133) 62 = .ok (.iload 10, 2)))) := by decide +kernel
theorem dc133_4 : (((decode (am_by 133) 64 = .ok (.aload 6, 2)) ∧ (decode (am_by 133) 66 = .ok (.getfield 97, 3))) ∧ ((decode (am_by 133) 69 = .ok (.iload 7, 2)) ∧ (decode (am_by 133) 71 = .ok (.iaload, 1)))) ∧ (((decode (am_by 133) 72 = .ok (.if_icmp .ge 110, 3)) ∧ (decode (am_by 133) 75 = .ok (.iload 7, 2))) ∧ ((decode (am_by 133) 77 = .ok (.iconst 4, 1)) ∧ (decode (am_by 133) 78 = .ok (.imul, 1)))) := by decide +kernel
theorem dc133_5 : (((decode (am_by 133) 79 = .ok (.iload 10, 2)) ∧ (decode (am_by 133) 81 = .ok (.iadd, 1))) ∧ ((decode (am_by 133) 82 = .ok (.istore 11, 2)) ∧ (decode (am_by 133) 84 = .ok (.iload 9, 2)))) ∧ (((decode (am_by 133) 86 = .ok (.istore 12, 2)) ∧ (decode (am_by 133) 88 = .ok (.iload 12, 2))) ∧ ((decode (am_by 133) 90 = .ok (.iload_n 3, 1)) ∧ (decode (am_by 133) 91 = .ok (.if_icmp .ge 27, 3)))) := by decide +kernel
theorem dc133_6 : (((decode (am_by 133) 94 = .ok (.aload_n 0, 1)) ∧ (decode (am_by 133) 95 = .ok (.iload 7, 2))) ∧ ((decode (am_by 133) 97 = .ok (.iload 10, 2)) ∧ (decode (am_by 133) 99 = .ok (.iload 9, 2)))) ∧ (((decode (am_by 133) 101 = .ok (.iload 12, 2)) ∧ (decode (am_by 133) 103 = .ok (.iload_n 3, 1))) ∧ ((decode (am_by 133) 104 = .ok (.iload 4, 2)) ∧ (decode (am_by 133) 106 = .ok (.invokevirtual 163, 3)))) := by decide +kernel
theorem dc133_7 : (((decode (am_by 133) 109 = .ok (.ifCond .ne 9, 3)) ∧ (decode (am_by 133) 112 = .ok (.iinc 12 1, 3))) ∧ ((decode (am_by 133) 115 = .ok (.goto (-27), 3)) ∧ (decode (am_by 133) 118 = .ok (.aload 6, 2)))) ∧ (((decode (am_by 133) 120 = .ok (.getfield 167, 3)) ∧ (decode (am_by 133) 123 = .ok (.iload 11, 2))) ∧ ((decode (am_by 133) 125 = .ok (.iaload, 1)) ∧ (decode (am_by 133) 126 = .ok (.iconst 1, 1)))) := by decide +kernel
theorem dc133_8 : (((decode (am_by 133) 127 = .ok (.if_icmp .ne 21, 3)) ∧ (decode (am_by 133) 130 = .ok (.aload_n 0, 1))) ∧ ((decode (am_by 133) 131 = .ok (.aload 6, 2)) ∧ (decode (am_by 133) 133 = .ok (.getfield 170, 3)))) ∧ (((decode (am_by 133) 136 = .ok (.iload 11, 2)) ∧ (decode (am_by 133) 138 = .ok (.iaload, 1))) ∧ ((decode (am_by 133) 139 = .ok (.iload 9, 2)) ∧ (decode (am_by 133) 141 = .ok (.iload 12, 2)))) := by decide +kernel
theorem dc133_9 : (((decode (am_by 133) 143 = .ok (.iload 5, 2)) ∧ (decode (am_by 133) 145 = .ok (.invokevirtual 148, 3))) ∧ ((decode (am_by 133) 148 = .ok (.aload 6, 2)) ∧ (decode (am_by 133) 150 = .ok (.getfield 100, 3)))) ∧ (((decode (am_by 133) 153 = .ok (.iload 7, 2)) ∧ (decode (am_by 133) 155 = .ok (.baload, 1))) ∧ ((decode (am_by 133) 156 = .ok (.ifCond .eq 16, 3)) ∧ (decode (am_by 133) 159 = .ok (.aload_n 0, 1)))) := by decide +kernel
theorem dc133_10 : (((decode (am_by 133) 160 = .ok (.getfield 40, 3)) ∧ (decode (am_by 133) 163 = .ok (.getfield 104, 3))) ∧ ((decode (am_by 133) 166 = .ok (.iload 12, 2)) ∧ (decode (am_by 133) 168 = .ok (.iaload, 1)))) ∧ (((decode (am_by 133) 169 = .ok (.goto 5, 3)) ∧ (decode (am_by 133) 172 = .ok (.iload 12, 2))) ∧ ((decode (am_by 133) 174 = .ok (.istore 9, 2)) ∧ (decode (am_by 133) 176 = .ok (.iinc 10 1, 3)))) := by decide +kernel
theorem dc133_11 : (((decode (am_by 133) 179 = .ok (.goto (-117), 3)) ∧ (decode (am_by 133) 182 = .ok (.aload_n 0, 1))) ∧ ((decode (am_by 133) 183 = .ok (.iload 8, 2)) ∧ (decode (am_by 133) 185 = .ok (.aload_n 0, 1)))) ∧ (((decode (am_by 133) 186 = .ok (.getfield 145, 3)) ∧ (decode (am_by 133) 189 = .ok (.iconst 1, 1))) ∧ ((decode (am_by 133) 190 = .ok (.isub, 1)) ∧ (decode (am_by 133) 191 = .ok (.invokevirtual 173, 3)))) := by decide +kernel
theorem dc133_12 : ((decode (am_by 133) 194 = .ok (.return_, 1)) ∧ (decode (am_by 133) 195 = .ok (.iinc 7 1, 3))) ∧ ((decode (am_by 133) 198 = .ok (.goto (-186), 3)) ∧ (decode (am_by 133) 201 = .ok (.return_, 1))) := by decide +kernel
theorem t133_0 {sc : Option (Nat × (Nat → Int32))} {d k n : Nat} {P : am_O → Prop} {I : am_I} {J : am_J} {Pf : am_R} (hp : am_PF Pf) {x1 : Int32} {x2 : Int32} {x3 : Int32} {x4 : Int32} {x5 : Int32} {l6 : Option Value} {l7 : Option Value} {l8 : Option Value} {l9 : Option Value} {l10 : Option Value} {l11 : Option Value} {l12 : Option Value} {r112_0 : Nat} (q1 : Pf 112 0 = some r112_0) (q2 : am_SH[r112_0]? = some (.inl 4)) (q3 : am_go sc d 133 (12, [some (.ref 145), some (.int x1), some (.int x2), some (.int x3), some (.int x4), some (.int x5), some (.ref r112_0), some (.int 0), l8, l9, l10, l11, l12], [], (am_SH, I, J, Pf), k, n) P) : am_go sc d 133 (0, [some (.ref 145), some (.int x1), some (.int x2), some (.int x3), some (.int x4), some (.int x5), l6, l7, l8, l9, l10, l11, l12], [], (am_SH, I, J, Pf), k, n) P := by
  refine am_s_aload_n rfl dc133_0.1.1.1 ?_
  refine am_s_getR (r := 112) dc133_0.1.1.2 rfl rfl rfl (hp _ _ _ rfl) ?_
  refine am_s_getR (r := r112_0) dc133_0.1.2.1 rfl rfl rfl (q1) ?_
  refine am_s_astore (ls' := [some (.ref 145), some (.int x1), some (.int x2), some (.int x3), some (.int x4), some (.int x5), some (.ref r112_0), l7, l8, l9, l10, l11, l12]) rfl rfl dc133_0.1.2.2 ?_
  refine am_s_iconst am_cc0 dc133_0.2.1.1 ?_
  refine am_s_istore (ls' := [some (.ref 145), some (.int x1), some (.int x2), some (.int x3), some (.int x4), some (.int x5), some (.ref r112_0), some (.int 0), l8, l9, l10, l11, l12]) rfl rfl dc133_0.2.1.2 ?_
  exact q3
theorem t133_12 {sc : Option (Nat × (Nat → Int32))} {d k n : Nat} {P : am_O → Prop} {I : am_I} {J : am_J} {Pf : am_R} (hp : am_PF Pf) {x1 : Int32} {x2 : Int32} {x3 : Int32} {x4 : Int32} {x5 : Int32} {x6 : Nat} (hx6 : am_SH[x6]? = some (.inl 4)) {x7 : Int32} {l8 : Option Value} {l9 : Option Value} {l10 : Option Value} {l11 : Option Value} {l12 : Option Value} (q1 : ((I x6 2) ≤ x7) → P (.inl none, (am_SH, I, J, Pf), k, n)) (q2 : (¬ ((I x6 2) ≤ x7)) → am_in x7 20 = true) (q3 : (¬ ((I x6 2) ≤ x7)) → (¬ (I (x6 + 2) (Int32.toNatClampNeg x7)) = x1) → am_go sc d 133 (12, [some (.ref 145), some (.int x1), some (.int x2), some (.int x3), some (.int x4), some (.int x5), some (.ref x6), some (.int (x7 + 1)), l8, l9, l10, l11, l12], [], (am_SH, I, J, Pf), k, n) P) (q4 : (¬ ((I x6 2) ≤ x7)) → (¬ (¬ (I (x6 + 2) (Int32.toNatClampNeg x7)) = x1)) → am_mth d 134 [.ref 145, .int x7, .int x2, .int x3, .int x4] (am_SH, I, J, Pf) (am_af sc d 133 41 [some (.ref 145), some (.int x1), some (.int x2), some (.int x3), some (.int x4), some (.int x5), some (.ref x6), some (.int x7), l8, l9, l10, l11, l12] [.int x4, .int x3, .int x2, .int x7, .ref 145] [] (am_SH, I, J, Pf) k n true P)) : am_go sc d 133 (12, [some (.ref 145), some (.int x1), some (.int x2), some (.int x3), some (.int x4), some (.int x5), some (.ref x6), some (.int x7), l8, l9, l10, l11, l12], [], (am_SH, I, J, Pf), k, n) P := by
  refine am_s_iload rfl dc133_0.2.2.1 ?_
  refine am_s_aload rfl dc133_0.2.2.2 ?_
  refine am_x_getI (x := I x6 2) dc133_1.1.1.1 rfl hx6 (Or.inl rfl) rfl ?_
  refine am_s_ic_ge dc133_1.1.1.2 rfl (fun c1 => ?_) (fun c1 => ?_)
  · exact am_s_return dc133_12.2.2 rfl (q1 c1)
  · refine am_s_aload rfl dc133_1.1.2.1 ?_
    refine am_s_getR (r := x6 + 2) dc133_1.1.2.2 rfl hx6 rfl (am_r4_3 hp hx6) ?_
    refine am_s_iload rfl dc133_1.2.1.1 ?_
    refine am_x_iaload (x := I (x6 + 2) (Int32.toNatClampNeg x7)) dc133_1.2.1.2 (am_h4_3 hx6) (q2 c1) rfl rfl ?_
    refine am_s_iload_n rfl dc133_1.2.2.1 ?_
    refine am_s_ic_ne dc133_1.2.2.2 rfl (fun c2 => ?_) (fun c2 => ?_)
    · refine am_s_iinc (ls' := [some (.ref 145), some (.int x1), some (.int x2), some (.int x3), some (.int x4), some (.int x5), some (.ref x6), some (.int (x7 + 1)), l8, l9, l10, l11, l12]) am_cc1 rfl rfl dc133_12.1.2 ?_
      refine am_s_goto rfl dc133_12.2.1 ?_
      exact q3 c1 c2
    · refine am_s_aload_n rfl dc133_2.1.1.1 ?_
      refine am_s_iload rfl dc133_2.1.1.2 ?_
      refine am_s_iload_n rfl dc133_2.1.2.1 ?_
      refine am_s_iload_n rfl dc133_2.1.2.2 ?_
      refine am_s_iload rfl dc133_2.2.1.1 ?_
      exact am_s_virtual true dc133_2.2.1.2 rfl (by decide) rfl rfl rfl (q4 c1 c2)
theorem t133_62 {sc : Option (Nat × (Nat → Int32))} {d k n : Nat} {P : am_O → Prop} {I : am_I} {J : am_J} {Pf : am_R} (hp : am_PF Pf) {l1 : Option Value} {l2 : Option Value} {x3 : Int32} {x4 : Int32} {x5 : Int32} {x6 : Nat} (hx6 : am_SH[x6]? = some (.inl 4)) {x7 : Int32} {x8 : Int32} {x9 : Int32} {x10 : Int32} {l11 : Option Value} {l12 : Option Value} (q1 : am_in x7 20 = true) (q2 : ((I (x6 + 4) (Int32.toNatClampNeg x7)) ≤ x10) → am_mth d 136 [.ref 145, .int x8, .int ((I 145 12) - 1)] (am_SH, I, J, Pf) (am_af sc d 133 191 [some (.ref 145), l1, l2, some (.int x3), some (.int x4), some (.int x5), some (.ref x6), some (.int x7), some (.int x8), some (.int x9), some (.int x10), l11, l12] [.int ((I 145 12) - 1), .int x8, .ref 145] [] (am_SH, I, J, Pf) k n true P)) (q3 : (¬ ((I (x6 + 4) (Int32.toNatClampNeg x7)) ≤ x10)) → am_go sc d 133 (88, [some (.ref 145), l1, l2, some (.int x3), some (.int x4), some (.int x5), some (.ref x6), some (.int x7), some (.int x8), some (.int x9), some (.int x10), some (.int ((x7 * 4) + x10)), some (.int x9)], [], (am_SH, I, J, Pf), k, n) P) : am_go sc d 133 (62, [some (.ref 145), l1, l2, some (.int x3), some (.int x4), some (.int x5), some (.ref x6), some (.int x7), some (.int x8), some (.int x9), some (.int x10), l11, l12], [], (am_SH, I, J, Pf), k, n) P := by
  refine am_s_iload rfl dc133_3.2.2.2 ?_
  refine am_s_aload rfl dc133_4.1.1.1 ?_
  refine am_s_getR (r := x6 + 4) dc133_4.1.1.2 rfl hx6 rfl (am_r4_5 hp hx6) ?_
  refine am_s_iload rfl dc133_4.1.2.1 ?_
  refine am_x_iaload (x := I (x6 + 4) (Int32.toNatClampNeg x7)) dc133_4.1.2.2 (am_h4_5 hx6) (q1) rfl rfl ?_
  refine am_s_ic_ge dc133_4.2.1.1 rfl (fun c1 => ?_) (fun c1 => ?_)
  · refine am_s_aload_n rfl dc133_11.1.1.2 ?_
    refine am_s_iload rfl dc133_11.1.2.1 ?_
    refine am_s_aload_n rfl dc133_11.1.2.2 ?_
    refine am_x_getI (x := I 145 12) dc133_11.2.1.1 rfl rfl (Or.inl rfl) rfl ?_
    refine am_s_iconst am_cc1 dc133_11.2.1.2 ?_
    refine am_s_isub dc133_11.2.2.1 ?_
    exact am_s_virtual true dc133_11.2.2.2 rfl (by decide) rfl rfl rfl (q2 c1)
  · refine am_s_iload rfl dc133_4.2.1.2 ?_
    refine am_s_iconst am_cc4 dc133_4.2.2.1 ?_
    refine am_s_imul dc133_4.2.2.2 ?_
    refine am_s_iload rfl dc133_5.1.1.1 ?_
    refine am_s_iadd dc133_5.1.1.2 ?_
    refine am_s_istore (ls' := [some (.ref 145), l1, l2, some (.int x3), some (.int x4), some (.int x5), some (.ref x6), some (.int x7), some (.int x8), some (.int x9), some (.int x10), some (.int ((x7 * 4) + x10)), l12]) rfl rfl dc133_5.1.2.1 ?_
    refine am_s_iload rfl dc133_5.1.2.2 ?_
    refine am_s_istore (ls' := [some (.ref 145), l1, l2, some (.int x3), some (.int x4), some (.int x5), some (.ref x6), some (.int x7), some (.int x8), some (.int x9), some (.int x10), some (.int ((x7 * 4) + x10)), some (.int x9)]) rfl rfl dc133_5.2.1.1 ?_
    exact q3 c1
theorem t133_88 {sc : Option (Nat × (Nat → Int32))} {d k n : Nat} {P : am_O → Prop} {I : am_I} {J : am_J} {Pf : am_R} (hp : am_PF Pf) {l1 : Option Value} {l2 : Option Value} {x3 : Int32} {x4 : Int32} {x5 : Int32} {x6 : Nat} (hx6 : am_SH[x6]? = some (.inl 4)) {x7 : Int32} {x8 : Int32} {x9 : Int32} {x10 : Int32} {x11 : Int32} {x12 : Int32} (q1 : (x3 ≤ x12) → am_go sc d 133 (118, [some (.ref 145), l1, l2, some (.int x3), some (.int x4), some (.int x5), some (.ref x6), some (.int x7), some (.int x8), some (.int x9), some (.int x10), some (.int x11), some (.int x12)], [], (am_SH, I, J, Pf), k, n) P) (q2 : (¬ (x3 ≤ x12)) → am_mth d 135 [.ref 145, .int x7, .int x10, .int x9, .int x12, .int x3, .int x4] (am_SH, I, J, Pf) (am_af sc d 133 106 [some (.ref 145), l1, l2, some (.int x3), some (.int x4), some (.int x5), some (.ref x6), some (.int x7), some (.int x8), some (.int x9), some (.int x10), some (.int x11), some (.int x12)] [.int x4, .int x3, .int x12, .int x9, .int x10, .int x7, .ref 145] [] (am_SH, I, J, Pf) k n true P)) : am_go sc d 133 (88, [some (.ref 145), l1, l2, some (.int x3), some (.int x4), some (.int x5), some (.ref x6), some (.int x7), some (.int x8), some (.int x9), some (.int x10), some (.int x11), some (.int x12)], [], (am_SH, I, J, Pf), k, n) P := by
  refine am_s_iload rfl dc133_5.2.1.2 ?_
  refine am_s_iload_n rfl dc133_5.2.2.1 ?_
  refine am_s_ic_ge dc133_5.2.2.2 rfl (fun c1 => ?_) (fun c1 => ?_)
  · exact q1 c1
  · refine am_s_aload_n rfl dc133_6.1.1.1 ?_
    refine am_s_iload rfl dc133_6.1.1.2 ?_
    refine am_s_iload rfl dc133_6.1.2.1 ?_
    refine am_s_iload rfl dc133_6.1.2.2 ?_
    refine am_s_iload rfl dc133_6.2.1.1 ?_
    refine am_s_iload_n rfl dc133_6.2.1.2 ?_
    refine am_s_iload rfl dc133_6.2.2.1 ?_
    exact am_s_virtual true dc133_6.2.2.2 rfl (by decide) rfl rfl rfl (q2 c1)
theorem t133_118 {sc : Option (Nat × (Nat → Int32))} {d k n : Nat} {P : am_O → Prop} {I : am_I} {J : am_J} {Pf : am_R} (hp : am_PF Pf) {l1 : Option Value} {l2 : Option Value} {x3 : Int32} {x4 : Int32} {x5 : Int32} {x6 : Nat} (hx6 : am_SH[x6]? = some (.inl 4)) {x7 : Int32} {x8 : Int32} {x9 : Int32} {x10 : Int32} {x11 : Int32} {x12 : Int32} (q1 : am_in x11 80 = true) (q2 : (¬ (I (x6 + 5) (Int32.toNatClampNeg x11)) = 1) → am_go sc d 133 (148, [some (.ref 145), l1, l2, some (.int x3), some (.int x4), some (.int x5), some (.ref x6), some (.int x7), some (.int x8), some (.int x9), some (.int x10), some (.int x11), some (.int x12)], [], (am_SH, I, J, Pf), k, n) P) (q3 : (¬ (¬ (I (x6 + 5) (Int32.toNatClampNeg x11)) = 1)) → am_in x11 80 = true) (q4 : (¬ (¬ (I (x6 + 5) (Int32.toNatClampNeg x11)) = 1)) → am_mth d 131 [.ref 145, .int (I (x6 + 6) (Int32.toNatClampNeg x11)), .int x9, .int x12, .int x5] (am_SH, I, J, Pf) (am_af sc d 133 145 [some (.ref 145), l1, l2, some (.int x3), some (.int x4), some (.int x5), some (.ref x6), some (.int x7), some (.int x8), some (.int x9), some (.int x10), some (.int x11), some (.int x12)] [.int x5, .int x12, .int x9, .int (I (x6 + 6) (Int32.toNatClampNeg x11)), .ref 145] [] (am_SH, I, J, Pf) k n true P)) : am_go sc d 133 (118, [some (.ref 145), l1, l2, some (.int x3), some (.int x4), some (.int x5), some (.ref x6), some (.int x7), some (.int x8), some (.int x9), some (.int x10), some (.int x11), some (.int x12)], [], (am_SH, I, J, Pf), k, n) P := by
  refine am_s_aload rfl dc133_7.1.2.2 ?_
  refine am_s_getR (r := x6 + 5) dc133_7.2.1.1 rfl hx6 rfl (am_r4_6 hp hx6) ?_
  refine am_s_iload rfl dc133_7.2.1.2 ?_
  refine am_x_iaload (x := I (x6 + 5) (Int32.toNatClampNeg x11)) dc133_7.2.2.1 (am_h4_6 hx6) (q1) rfl rfl ?_
  refine am_s_iconst am_cc1 dc133_7.2.2.2 ?_
  refine am_s_ic_ne dc133_8.1.1.1 rfl (fun c1 => ?_) (fun c1 => ?_)
  · exact q2 c1
  · refine am_s_aload_n rfl dc133_8.1.1.2 ?_
    refine am_s_aload rfl dc133_8.1.2.1 ?_
    refine am_s_getR (r := x6 + 6) dc133_8.1.2.2 rfl hx6 rfl (am_r4_7 hp hx6) ?_
    refine am_s_iload rfl dc133_8.2.1.1 ?_
    refine am_x_iaload (x := I (x6 + 6) (Int32.toNatClampNeg x11)) dc133_8.2.1.2 (am_h4_7 hx6) (q3 c1) rfl rfl ?_
    refine am_s_iload rfl dc133_8.2.2.1 ?_
    refine am_s_iload rfl dc133_8.2.2.2 ?_
    refine am_s_iload rfl dc133_9.1.1.1 ?_
    exact am_s_virtual true dc133_9.1.1.2 rfl (by decide) rfl rfl rfl (q4 c1)
theorem t133_148 {sc : Option (Nat × (Nat → Int32))} {d k n : Nat} {P : am_O → Prop} {I : am_I} {J : am_J} {Pf : am_R} (hp : am_PF Pf) {l1 : Option Value} {l2 : Option Value} {x3 : Int32} {x4 : Int32} {x5 : Int32} {x6 : Nat} (hx6 : am_SH[x6]? = some (.inl 4)) {x7 : Int32} {x8 : Int32} {l9 : Option Value} {x10 : Int32} {l11 : Option Value} {x12 : Int32} (q1 : am_in x7 20 = true) (q2 : ((I (x6 + 3) (Int32.toNatClampNeg x7)) = 0) → am_go sc d 133 (62, [some (.ref 145), l1, l2, some (.int x3), some (.int x4), some (.int x5), some (.ref x6), some (.int x7), some (.int x8), some (.int x12), some (.int (x10 + 1)), l11, some (.int x12)], [], (am_SH, I, J, Pf), k, n) P) (q3 : (¬ ((I (x6 + 3) (Int32.toNatClampNeg x7)) = 0)) → am_in x12 25 = true) (q4 : (¬ ((I (x6 + 3) (Int32.toNatClampNeg x7)) = 0)) → am_go sc d 133 (62, [some (.ref 145), l1, l2, some (.int x3), some (.int x4), some (.int x5), some (.ref x6), some (.int x7), some (.int x8), some (.int (I 137 (Int32.toNatClampNeg x12))), some (.int (x10 + 1)), l11, some (.int x12)], [], (am_SH, I, J, Pf), k, n) P) : am_go sc d 133 (148, [some (.ref 145), l1, l2, some (.int x3), some (.int x4), some (.int x5), some (.ref x6), some (.int x7), some (.int x8), l9, some (.int x10), l11, some (.int x12)], [], (am_SH, I, J, Pf), k, n) P := by
  refine am_s_aload rfl dc133_9.1.2.1 ?_
  refine am_s_getR (r := x6 + 3) dc133_9.1.2.2 rfl hx6 rfl (am_r4_4 hp hx6) ?_
  refine am_s_iload rfl dc133_9.2.1.1 ?_
  refine am_x_baload (x := I (x6 + 3) (Int32.toNatClampNeg x7)) dc133_9.2.1.2 (am_h4_4 hx6) (q1) rfl rfl ?_
  refine am_s_if_eq dc133_9.2.2.1 rfl (fun c1 => ?_) (fun c1 => ?_)
  · refine am_s_iload rfl dc133_10.2.1.2 ?_
    refine am_s_istore (ls' := [some (.ref 145), l1, l2, some (.int x3), some (.int x4), some (.int x5), some (.ref x6), some (.int x7), some (.int x8), some (.int x12), some (.int x10), l11, some (.int x12)]) rfl rfl dc133_10.2.2.1 ?_
    refine am_s_iinc (ls' := [some (.ref 145), l1, l2, some (.int x3), some (.int x4), some (.int x5), some (.ref x6), some (.int x7), some (.int x8), some (.int x12), some (.int (x10 + 1)), l11, some (.int x12)]) am_cc1 rfl rfl dc133_10.2.2.2 ?_
    refine am_s_goto rfl dc133_11.1.1.1 ?_
    exact q2 c1
  · refine am_s_aload_n rfl dc133_9.2.2.2 ?_
    refine am_s_getR (r := 135) dc133_10.1.1.1 rfl rfl rfl (hp _ _ _ rfl) ?_
    refine am_s_getR (r := 137) dc133_10.1.1.2 rfl rfl rfl (hp _ _ _ rfl) ?_
    refine am_s_iload rfl dc133_10.1.2.1 ?_
    refine am_x_iaload (x := I 137 (Int32.toNatClampNeg x12)) dc133_10.1.2.2 rfl (q3 c1) rfl rfl ?_
    refine am_s_goto rfl dc133_10.2.1.1 ?_
    refine am_s_istore (ls' := [some (.ref 145), l1, l2, some (.int x3), some (.int x4), some (.int x5), some (.ref x6), some (.int x7), some (.int x8), some (.int (I 137 (Int32.toNatClampNeg x12))), some (.int x10), l11, some (.int x12)]) rfl rfl dc133_10.2.2.1 ?_
    refine am_s_iinc (ls' := [some (.ref 145), l1, l2, some (.int x3), some (.int x4), some (.int x5), some (.ref x6), some (.int x7), some (.int x8), some (.int (I 137 (Int32.toNatClampNeg x12))), some (.int (x10 + 1)), l11, some (.int x12)]) am_cc1 rfl rfl dc133_10.2.2.2 ?_
    refine am_s_goto rfl dc133_11.1.1.1 ?_
    exact q4 c1
theorem t133_44 {sc : Option (Nat × (Nat → Int32))} {d k n : Nat} {P : am_O → Prop} {I : am_I} {J : am_J} {Pf : am_R} (hp : am_PF Pf) {x1 : Int32} {x2 : Int32} {x3 : Int32} {x4 : Int32} {x5 : Int32} {x6 : Nat} (hx6 : am_SH[x6]? = some (.inl 4)) {x7 : Int32} {l8 : Option Value} {l9 : Option Value} {l10 : Option Value} {l11 : Option Value} {l12 : Option Value} {s0 : Int32} (q1 : (¬ s0 = 0) → am_go sc d 133 (62, [some (.ref 145), some (.int x1), some (.int x2), some (.int x3), some (.int x4), some (.int x5), some (.ref x6), some (.int x7), some (.int (I 145 12)), some (.int x2), some (.int 0), l11, l12], [], (am_SH, I, J, Pf), k, n) P) (q2 : (¬ (¬ s0 = 0)) → am_go sc d 133 (12, [some (.ref 145), some (.int x1), some (.int x2), some (.int x3), some (.int x4), some (.int x5), some (.ref x6), some (.int (x7 + 1)), l8, l9, l10, l11, l12], [], (am_SH, I, J, Pf), k, n) P) : am_go sc d 133 (44, [some (.ref 145), some (.int x1), some (.int x2), some (.int x3), some (.int x4), some (.int x5), some (.ref x6), some (.int x7), l8, l9, l10, l11, l12], [.int s0], (am_SH, I, J, Pf), k, n) P := by
  refine am_s_if_ne dc133_2.2.2.1 rfl (fun c1 => ?_) (fun c1 => ?_)
  · refine am_s_aload_n rfl dc133_3.1.1.1 ?_
    refine am_x_getI (x := I 145 12) dc133_3.1.1.2 rfl rfl (Or.inl rfl) rfl ?_
    refine am_s_istore (ls' := [some (.ref 145), some (.int x1), some (.int x2), some (.int x3), some (.int x4), some (.int x5), some (.ref x6), some (.int x7), some (.int (I 145 12)), l9, l10, l11, l12]) rfl rfl dc133_3.1.2.1 ?_
    refine am_s_iload_n rfl dc133_3.1.2.2 ?_
    refine am_s_istore (ls' := [some (.ref 145), some (.int x1), some (.int x2), some (.int x3), some (.int x4), some (.int x5), some (.ref x6), some (.int x7), some (.int (I 145 12)), some (.int x2), l10, l11, l12]) rfl rfl dc133_3.2.1.1 ?_
    refine am_s_iconst am_cc0 dc133_3.2.1.2 ?_
    refine am_s_istore (ls' := [some (.ref 145), some (.int x1), some (.int x2), some (.int x3), some (.int x4), some (.int x5), some (.ref x6), some (.int x7), some (.int (I 145 12)), some (.int x2), some (.int 0), l11, l12]) rfl rfl dc133_3.2.2.1 ?_
    exact q1 c1
  · refine am_s_goto rfl dc133_2.2.2.2 ?_
    refine am_s_iinc (ls' := [some (.ref 145), some (.int x1), some (.int x2), some (.int x3), some (.int x4), some (.int x5), some (.ref x6), some (.int (x7 + 1)), l8, l9, l10, l11, l12]) am_cc1 rfl rfl dc133_12.1.2 ?_
    refine am_s_goto rfl dc133_12.2.1 ?_
    exact q2 c1
theorem t133_194 {sc : Option (Nat × (Nat → Int32))} {d k n : Nat} {P : am_O → Prop} {I : am_I} {J : am_J} {Pf : am_R} (hp : am_PF Pf) {l0 : Option Value} {l1 : Option Value} {l2 : Option Value} {l3 : Option Value} {l4 : Option Value} {l5 : Option Value} {l6 : Option Value} {l7 : Option Value} {l8 : Option Value} {l9 : Option Value} {l10 : Option Value} {l11 : Option Value} {l12 : Option Value} (q1 : P (.inl none, (am_SH, I, J, Pf), k, n)) : am_go sc d 133 (194, [l0, l1, l2, l3, l4, l5, l6, l7, l8, l9, l10, l11, l12], [], (am_SH, I, J, Pf), k, n) P := by
  exact am_s_return dc133_12.1.1 rfl (q1)
theorem t133_109 {sc : Option (Nat × (Nat → Int32))} {d k n : Nat} {P : am_O → Prop} {I : am_I} {J : am_J} {Pf : am_R} (hp : am_PF Pf) {l1 : Option Value} {l2 : Option Value} {x3 : Int32} {x4 : Int32} {x5 : Int32} {x6 : Nat} (hx6 : am_SH[x6]? = some (.inl 4)) {x7 : Int32} {x8 : Int32} {x9 : Int32} {x10 : Int32} {x11 : Int32} {x12 : Int32} {s0 : Int32} (q1 : (¬ s0 = 0) → am_go sc d 133 (118, [some (.ref 145), l1, l2, some (.int x3), some (.int x4), some (.int x5), some (.ref x6), some (.int x7), some (.int x8), some (.int x9), some (.int x10), some (.int x11), some (.int x12)], [], (am_SH, I, J, Pf), k, n) P) (q2 : (¬ (¬ s0 = 0)) → am_go sc d 133 (88, [some (.ref 145), l1, l2, some (.int x3), some (.int x4), some (.int x5), some (.ref x6), some (.int x7), some (.int x8), some (.int x9), some (.int x10), some (.int x11), some (.int (x12 + 1))], [], (am_SH, I, J, Pf), k, n) P) : am_go sc d 133 (109, [some (.ref 145), l1, l2, some (.int x3), some (.int x4), some (.int x5), some (.ref x6), some (.int x7), some (.int x8), some (.int x9), some (.int x10), some (.int x11), some (.int x12)], [.int s0], (am_SH, I, J, Pf), k, n) P := by
  refine am_s_if_ne dc133_7.1.1.1 rfl (fun c1 => ?_) (fun c1 => ?_)
  · exact q1 c1
  · refine am_s_iinc (ls' := [some (.ref 145), l1, l2, some (.int x3), some (.int x4), some (.int x5), some (.ref x6), some (.int x7), some (.int x8), some (.int x9), some (.int x10), some (.int x11), some (.int (x12 + 1))]) am_cc1 rfl rfl dc133_7.1.1.2 ?_
    refine am_s_goto rfl dc133_7.1.2.1 ?_
    exact q2 c1
-- findStarts (IIII)Z
theorem dc134_0 : (((decode (am_by 134) 0 = .ok (.aload_n 0, 1)) ∧ (decode (am_by 134) 1 = .ok (.getfield 36, 3))) ∧ ((decode (am_by 134) 4 = .ok (.getfield 58, 3)) ∧ (decode (am_by 134) 7 = .ok (.getfield 97, 3)))) ∧ (((decode (am_by 134) 10 = .ok (.iload_n 1, 1)) ∧ (decode (am_by 134) 11 = .ok (.iaload, 1))) ∧ ((decode (am_by 134) 12 = .ok (.istore 5, 2)) ∧ (decode (am_by 134) 14 = .ok (.iload 5, 2)))) := by decide +kernel
theorem dc134_1 : (((decode (am_by 134) 16 = .ok (.iconst 1, 1)) ∧ (decode (am_by 134) 17 = .ok (.isub, 1))) ∧ ((decode (am_by 134) 18 = .ok (.istore 6, 2)) ∧ (decode (am_by 134) 20 = .ok (.iload 6, 2)))) ∧ (((decode (am_by 134) 22 = .ok (.ifCond .lt 91, 3)) ∧ (decode (am_by 134) 25 = .ok (.aload_n 0, 1))) ∧ ((decode (am_by 134) 26 = .ok (.getfield 27, 3)) ∧ (decode (am_by 134) 29 = .ok (.iload 6, 2)))) := by decide +kernel
theorem dc134_2 : (((decode (am_by 134) 31 = .ok (.iconst 0, 1)) ∧ (decode (am_by 134) 32 = .ok (.iastore, 1))) ∧ ((decode (am_by 134) 33 = .ok (.iload_n 2, 1)) ∧ (decode (am_by 134) 34 = .ok (.istore 7, 2)))) ∧ (((decode (am_by 134) 36 = .ok (.iload 7, 2)) ∧ (decode (am_by 134) 38 = .ok (.iload_n 3, 1))) ∧ ((decode (am_by 134) 39 = .ok (.if_icmp .gt 68, 3)) ∧ (decode (am_by 134) 42 = .ok (.iconst 0, 1)))) := by decide +kernel
theorem dc134_3 : (((decode (am_by 134) 43 = .ok (.istore 8, 2)) ∧ (decode (am_by 134) 45 = .ok (.iload 7, 2))) ∧ ((decode (am_by 134) 47 = .ok (.istore 9, 2)) ∧ (decode (am_by 134) 49 = .ok (.iload 9, 2)))) ∧ (((decode (am_by 134) 51 = .ok (.iload_n 3, 1)) ∧ (decode (am_by 134) 52 = .ok (.if_icmp .gt 30, 3))) ∧ ((decode (am_by 134) 55 = .ok (.iload 8, 2)) ∧ (decode (am_by 134) 57 = .ok (.ifCond .ne 25, 3)))) := by decide +kernel
theorem dc134_4 : (((decode (am_by 134) 60 = .ok (.aload_n 0, 1)) ∧ (decode (am_by 134) 61 = .ok (.iload_n 1, 1))) ∧ ((decode (am_by 134) 62 = .ok (.iload 6, 2)) ∧ (decode (am_by 134) 64 = .ok (.iload 7, 2)))) ∧ (((decode (am_by 134) 66 = .ok (.iload 9, 2)) ∧ (decode (am_by 134) 68 = .ok (.iload_n 3, 1))) ∧ ((decode (am_by 134) 69 = .ok (.iload 4, 2)) ∧ (decode (am_by 134) 71 = .ok (.invokevirtual 163, 3)))) := by decide +kernel
theorem dc134_5 : (((decode (am_by 134) 74 = .ok (.istore 8, 2)) ∧ (decode (am_by 134) 76 = .ok (.iinc 9 1, 3))) ∧ ((decode (am_by 134) 79 = .ok (.goto (-30), 3)) ∧ (decode (am_by 134) 82 = .ok (.iload 8, 2)))) ∧ (((decode (am_by 134) 84 = .ok (.ifCond .eq 17, 3)) ∧ (decode (am_by 134) 87 = .ok (.aload_n 0, 1))) ∧ ((decode (am_by 134) 88 = .ok (.getfield 27, 3)) ∧ (decode (am_by 134) 91 = .ok (.iload 6, 2)))) := by decide +kernel
theorem dc134_6 : (((decode (am_by 134) 93 = .ok (.dup2, 1)) ∧ (decode (am_by 134) 94 = .ok (.iaload, 1))) ∧ ((decode (am_by 134) 95 = .ok (.iconst 1, 1)) ∧ (decode (am_by 134) 96 = .ok (.iload 7, 2)))) ∧ (((decode (am_by 134) 98 = .ok (.ishl, 1)) ∧ (decode (am_by 134) 99 = .ok (.ior, 1))) ∧ ((decode (am_by 134) 100 = .ok (.iastore, 1)) ∧ (decode (am_by 134) 101 = .ok (.iinc 7 1, 3)))) := by decide +kernel
theorem dc134_7 : (((decode (am_by 134) 104 = .ok (.goto (-68), 3)) ∧ (decode (am_by 134) 107 = .ok (.iinc 6 (-1), 3))) ∧ ((decode (am_by 134) 110 = .ok (.goto (-90), 3)) ∧ (decode (am_by 134) 113 = .ok (.iload 5, 2)))) ∧ (((decode (am_by 134) 115 = .ok (.ifCond .ne 16, 3)) ∧ (decode (am_by 134) 118 = .ok (.iload_n 2, 1))) ∧ ((decode (am_by 134) 119 = .ok (.iload_n 3, 1)) ∧ (decode (am_by 134) 120 = .ok (.if_icmp .ne 7, 3)))) := by decide +kernel
theorem dc134_8 : (((decode (am_by 134) 123 = .ok (.iconst 1, 1)) ∧ (decode (am_by 134) 124 = .ok (.goto 25, 3))) ∧ ((decode (am_by 134) 127 = .ok (.iconst 0, 1)) ∧ (decode (am_by 134) 128 = .ok (.goto 21, 3)))) ∧ (((decode (am_by 134) 131 = .ok (.aload_n 0, 1)) ∧ (decode (am_by 134) 132 = .ok (.getfield 27, 3))) ∧ ((decode (am_by 134) 135 = .ok (.iconst 0, 1)) ∧ (decode (am_by 134) 136 = .ok (.iaload, 1)))) := by decide +kernel
theorem dc134_9 : (((decode (am_by 134) 137 = .ok (.iload_n 2, 1)) ∧ (decode (am_by 134) 138 = .ok (.iushr, 1))) ∧ ((decode (am_by 134) 139 = .ok (.iconst 1, 1)) ∧ (decode (am_by 134) 140 = .ok (.iand, 1)))) ∧ (((decode (am_by 134) 141 = .ok (.ifCond .eq 7, 3)) ∧ (decode (am_by 134) 144 = .ok (.iconst 1, 1))) ∧ ((decode (am_by 134) 145 = .ok (.goto 4, 3)) ∧ (decode (am_by 134) 148 = .ok (.iconst 0, 1)))) := by decide +kernel
theorem dc134_10 : decode (am_by 134) 149 = .ok (.ireturn, 1) := by decide +kernel
theorem t134_0 {sc : Option (Nat × (Nat → Int32))} {d k n : Nat} {P : am_O → Prop} {I : am_I} {J : am_J} {Pf : am_R} (hp : am_PF Pf) {x1 : Int32} {x2 : Int32} {x3 : Int32} {x4 : Int32} {l5 : Option Value} {l6 : Option Value} {l7 : Option Value} {l8 : Option Value} {l9 : Option Value} {r112_0 : Nat} (q1 : Pf 112 0 = some r112_0) (q2 : am_SH[r112_0]? = some (.inl 4)) (q3 : am_in x1 20 = true) (q4 : am_go sc d 134 (20, [some (.ref 145), some (.int x1), some (.int x2), some (.int x3), some (.int x4), some (.int (I (r112_0 + 4) (Int32.toNatClampNeg x1))), some (.int ((I (r112_0 + 4) (Int32.toNatClampNeg x1)) - 1)), l7, l8, l9], [], (am_SH, I, J, Pf), k, n) P) : am_go sc d 134 (0, [some (.ref 145), some (.int x1), some (.int x2), some (.int x3), some (.int x4), l5, l6, l7, l8, l9], [], (am_SH, I, J, Pf), k, n) P := by
  refine am_s_aload_n rfl dc134_0.1.1.1 ?_
  refine am_s_getR (r := 112) dc134_0.1.1.2 rfl rfl rfl (hp _ _ _ rfl) ?_
  refine am_s_getR (r := r112_0) dc134_0.1.2.1 rfl rfl rfl (q1) ?_
  refine am_s_getR (r := r112_0 + 4) dc134_0.1.2.2 rfl (q2) rfl (am_r4_5 hp (q2)) ?_
  refine am_s_iload_n rfl dc134_0.2.1.1 ?_
  refine am_x_iaload (x := I (r112_0 + 4) (Int32.toNatClampNeg x1)) dc134_0.2.1.2 (am_h4_5 (q2)) (q3) rfl rfl ?_
  refine am_s_istore (ls' := [some (.ref 145), some (.int x1), some (.int x2), some (.int x3), some (.int x4), some (.int (I (r112_0 + 4) (Int32.toNatClampNeg x1))), l6, l7, l8, l9]) rfl rfl dc134_0.2.2.1 ?_
  refine am_s_iload rfl dc134_0.2.2.2 ?_
  refine am_s_iconst am_cc1 dc134_1.1.1.1 ?_
  refine am_s_isub dc134_1.1.1.2 ?_
  refine am_s_istore (ls' := [some (.ref 145), some (.int x1), some (.int x2), some (.int x3), some (.int x4), some (.int (I (r112_0 + 4) (Int32.toNatClampNeg x1))), some (.int ((I (r112_0 + 4) (Int32.toNatClampNeg x1)) - 1)), l7, l8, l9]) rfl rfl dc134_1.1.2.1 ?_
  exact q4
theorem t134_20 {sc : Option (Nat × (Nat → Int32))} {d k n : Nat} {P : am_O → Prop} {I : am_I} {J : am_J} {Pf : am_R} (hp : am_PF Pf) {x1 : Int32} {x2 : Int32} {x3 : Int32} {x4 : Int32} {x5 : Int32} {x6 : Int32} {l7 : Option Value} {l8 : Option Value} {l9 : Option Value} (q1 : (x6 < 0) → (¬ x5 = 0) → (((UInt32.toInt32 (Int32.toUInt32 (I 151 0) >>> (Int32.toUInt32 x2 &&& Int32.toUInt32 31))) &&& 1) = 0) → P (.inl (some (.int 0)), (am_SH, I, J, Pf), k, n)) (q2 : (x6 < 0) → (¬ x5 = 0) → (¬ (((UInt32.toInt32 (Int32.toUInt32 (I 151 0) >>> (Int32.toUInt32 x2 &&& Int32.toUInt32 31))) &&& 1) = 0)) → P (.inl (some (.int 1)), (am_SH, I, J, Pf), k, n)) (q3 : (x6 < 0) → (¬ (¬ x5 = 0)) → (¬ x2 = x3) → P (.inl (some (.int 0)), (am_SH, I, J, Pf), k, n)) (q4 : (x6 < 0) → (¬ (¬ x5 = 0)) → (¬ (¬ x2 = x3)) → P (.inl (some (.int 1)), (am_SH, I, J, Pf), k, n)) (q5 : (¬ (x6 < 0)) → am_in x6 4 = true) (q6 : (¬ (x6 < 0)) → am_go sc d 134 (36, [some (.ref 145), some (.int x1), some (.int x2), some (.int x3), some (.int x4), some (.int x5), some (.int x6), some (.int x2), l8, l9], [], (am_SH, am_u I 151 (Int32.toNatClampNeg x6) 0, J, Pf), k, n) P) : am_go sc d 134 (20, [some (.ref 145), some (.int x1), some (.int x2), some (.int x3), some (.int x4), some (.int x5), some (.int x6), l7, l8, l9], [], (am_SH, I, J, Pf), k, n) P := by
  refine am_s_iload rfl dc134_1.1.2.2 ?_
  refine am_s_if_lt dc134_1.2.1.1 rfl (fun c1 => ?_) (fun c1 => ?_)
  · refine am_s_iload rfl dc134_7.1.2.2 ?_
    refine am_s_if_ne dc134_7.2.1.1 rfl (fun c2 => ?_) (fun c2 => ?_)
    · refine am_s_aload_n rfl dc134_8.2.1.1 ?_
      refine am_s_getR (r := 151) dc134_8.2.1.2 rfl rfl rfl (hp _ _ _ rfl) ?_
      refine am_s_iconst am_cc0 dc134_8.2.2.1 ?_
      refine am_x_iaload (x := I 151 0) dc134_8.2.2.2 rfl (by decide +kernel) am_cN0 rfl ?_
      refine am_s_iload_n rfl dc134_9.1.1.1 ?_
      refine am_s_iushr dc134_9.1.1.2 ?_
      refine am_s_iconst am_cc1 dc134_9.1.2.1 ?_
      refine am_s_iand dc134_9.1.2.2 ?_
      refine am_s_if_eq dc134_9.2.1.1 rfl (fun c3 => ?_) (fun c3 => ?_)
      · refine am_s_iconst am_cc0 dc134_9.2.2.2 ?_
        exact am_s_zreturn dc134_10 rfl (by decide) (q1 c1 c2 c3)
      · refine am_s_iconst am_cc1 dc134_9.2.1.2 ?_
        refine am_s_goto rfl dc134_9.2.2.1 ?_
        exact am_s_zreturn dc134_10 rfl (by decide) (q2 c1 c2 c3)
    · refine am_s_iload_n rfl dc134_7.2.1.2 ?_
      refine am_s_iload_n rfl dc134_7.2.2.1 ?_
      refine am_s_ic_ne dc134_7.2.2.2 rfl (fun c3 => ?_) (fun c3 => ?_)
      · refine am_s_iconst am_cc0 dc134_8.1.2.1 ?_
        refine am_s_goto rfl dc134_8.1.2.2 ?_
        exact am_s_zreturn dc134_10 rfl (by decide) (q3 c1 c2 c3)
      · refine am_s_iconst am_cc1 dc134_8.1.1.1 ?_
        refine am_s_goto rfl dc134_8.1.1.2 ?_
        exact am_s_zreturn dc134_10 rfl (by decide) (q4 c1 c2 c3)
  · refine am_s_aload_n rfl dc134_1.2.1.2 ?_
    refine am_s_getR (r := 151) dc134_1.2.2.1 rfl rfl rfl (hp _ _ _ rfl) ?_
    refine am_s_iload rfl dc134_1.2.2.2 ?_
    refine am_s_iconst am_cc0 dc134_2.1.1.1 ?_
    refine am_s_iastore dc134_2.1.1.2 rfl (q5 c1) rfl ?_
    refine am_s_iload_n rfl dc134_2.1.2.1 ?_
    refine am_s_istore (ls' := [some (.ref 145), some (.int x1), some (.int x2), some (.int x3), some (.int x4), some (.int x5), some (.int x6), some (.int x2), l8, l9]) rfl rfl dc134_2.1.2.2 ?_
    exact q6 c1
theorem t134_36 {sc : Option (Nat × (Nat → Int32))} {d k n : Nat} {P : am_O → Prop} {I : am_I} {J : am_J} {Pf : am_R} (hp : am_PF Pf) {x1 : Int32} {x2 : Int32} {x3 : Int32} {x4 : Int32} {x5 : Int32} {x6 : Int32} {x7 : Int32} {l8 : Option Value} {l9 : Option Value} (q1 : (x3 < x7) → am_go sc d 134 (20, [some (.ref 145), some (.int x1), some (.int x2), some (.int x3), some (.int x4), some (.int x5), some (.int (x6 + (-1))), some (.int x7), l8, l9], [], (am_SH, I, J, Pf), k, n) P) (q2 : (¬ (x3 < x7)) → am_go sc d 134 (49, [some (.ref 145), some (.int x1), some (.int x2), some (.int x3), some (.int x4), some (.int x5), some (.int x6), some (.int x7), some (.int 0), some (.int x7)], [], (am_SH, I, J, Pf), k, n) P) : am_go sc d 134 (36, [some (.ref 145), some (.int x1), some (.int x2), some (.int x3), some (.int x4), some (.int x5), some (.int x6), some (.int x7), l8, l9], [], (am_SH, I, J, Pf), k, n) P := by
  refine am_s_iload rfl dc134_2.2.1.1 ?_
  refine am_s_iload_n rfl dc134_2.2.1.2 ?_
  refine am_s_ic_gt dc134_2.2.2.1 rfl (fun c1 => ?_) (fun c1 => ?_)
  · refine am_s_iinc (ls' := [some (.ref 145), some (.int x1), some (.int x2), some (.int x3), some (.int x4), some (.int x5), some (.int (x6 + (-1))), some (.int x7), l8, l9]) am_ccm1 rfl rfl dc134_7.1.1.2 ?_
    refine am_s_goto rfl dc134_7.1.2.1 ?_
    exact q1 c1
  · refine am_s_iconst am_cc0 dc134_2.2.2.2 ?_
    refine am_s_istore (ls' := [some (.ref 145), some (.int x1), some (.int x2), some (.int x3), some (.int x4), some (.int x5), some (.int x6), some (.int x7), some (.int 0), l9]) rfl rfl dc134_3.1.1.1 ?_
    refine am_s_iload rfl dc134_3.1.1.2 ?_
    refine am_s_istore (ls' := [some (.ref 145), some (.int x1), some (.int x2), some (.int x3), some (.int x4), some (.int x5), some (.int x6), some (.int x7), some (.int 0), some (.int x7)]) rfl rfl dc134_3.1.2.1 ?_
    exact q2 c1
theorem t134_49 {sc : Option (Nat × (Nat → Int32))} {d k n : Nat} {P : am_O → Prop} {I : am_I} {J : am_J} {Pf : am_R} (hp : am_PF Pf) {x1 : Int32} {x2 : Int32} {x3 : Int32} {x4 : Int32} {x5 : Int32} {x6 : Int32} {x7 : Int32} {x8 : Int32} {x9 : Int32} (q1 : (x3 < x9) → am_go sc d 134 (82, [some (.ref 145), some (.int x1), some (.int x2), some (.int x3), some (.int x4), some (.int x5), some (.int x6), some (.int x7), some (.int x8), some (.int x9)], [], (am_SH, I, J, Pf), k, n) P) (q2 : (¬ (x3 < x9)) → (¬ x8 = 0) → am_go sc d 134 (82, [some (.ref 145), some (.int x1), some (.int x2), some (.int x3), some (.int x4), some (.int x5), some (.int x6), some (.int x7), some (.int x8), some (.int x9)], [], (am_SH, I, J, Pf), k, n) P) (q3 : (¬ (x3 < x9)) → (¬ (¬ x8 = 0)) → am_mth d 135 [.ref 145, .int x1, .int x6, .int x7, .int x9, .int x3, .int x4] (am_SH, I, J, Pf) (am_af sc d 134 71 [some (.ref 145), some (.int x1), some (.int x2), some (.int x3), some (.int x4), some (.int x5), some (.int x6), some (.int x7), some (.int x8), some (.int x9)] [.int x4, .int x3, .int x9, .int x7, .int x6, .int x1, .ref 145] [] (am_SH, I, J, Pf) k n true P)) : am_go sc d 134 (49, [some (.ref 145), some (.int x1), some (.int x2), some (.int x3), some (.int x4), some (.int x5), some (.int x6), some (.int x7), some (.int x8), some (.int x9)], [], (am_SH, I, J, Pf), k, n) P := by
  refine am_s_iload rfl dc134_3.1.2.2 ?_
  refine am_s_iload_n rfl dc134_3.2.1.1 ?_
  refine am_s_ic_gt dc134_3.2.1.2 rfl (fun c1 => ?_) (fun c1 => ?_)
  · exact q1 c1
  · refine am_s_iload rfl dc134_3.2.2.1 ?_
    refine am_s_if_ne dc134_3.2.2.2 rfl (fun c2 => ?_) (fun c2 => ?_)
    · exact q2 c1 c2
    · refine am_s_aload_n rfl dc134_4.1.1.1 ?_
      refine am_s_iload_n rfl dc134_4.1.1.2 ?_
      refine am_s_iload rfl dc134_4.1.2.1 ?_
      refine am_s_iload rfl dc134_4.1.2.2 ?_
      refine am_s_iload rfl dc134_4.2.1.1 ?_
      refine am_s_iload_n rfl dc134_4.2.1.2 ?_
      refine am_s_iload rfl dc134_4.2.2.1 ?_
      exact am_s_virtual true dc134_4.2.2.2 rfl (by decide) rfl rfl rfl (q3 c1 c2)
theorem t134_82 {sc : Option (Nat × (Nat → Int32))} {d k n : Nat} {P : am_O → Prop} {I : am_I} {J : am_J} {Pf : am_R} (hp : am_PF Pf) {x1 : Int32} {x2 : Int32} {x3 : Int32} {x4 : Int32} {x5 : Int32} {x6 : Int32} {x7 : Int32} {x8 : Int32} {l9 : Option Value} (q1 : (x8 = 0) → am_go sc d 134 (36, [some (.ref 145), some (.int x1), some (.int x2), some (.int x3), some (.int x4), some (.int x5), some (.int x6), some (.int (x7 + 1)), some (.int x8), l9], [], (am_SH, I, J, Pf), k, n) P) (q2 : (¬ (x8 = 0)) → am_in x6 4 = true) (q3 : (¬ (x8 = 0)) → am_in x6 4 = true) (q4 : (¬ (x8 = 0)) → am_go sc d 134 (36, [some (.ref 145), some (.int x1), some (.int x2), some (.int x3), some (.int x4), some (.int x5), some (.int x6), some (.int (x7 + 1)), some (.int x8), l9], [], (am_SH, am_u I 151 (Int32.toNatClampNeg x6) ((I 151 (Int32.toNatClampNeg x6)) ||| (1 <<< (x7 &&& 31))), J, Pf), k, n) P) : am_go sc d 134 (82, [some (.ref 145), some (.int x1), some (.int x2), some (.int x3), some (.int x4), some (.int x5), some (.int x6), some (.int x7), some (.int x8), l9], [], (am_SH, I, J, Pf), k, n) P := by
  refine am_s_iload rfl dc134_5.1.2.2 ?_
  refine am_s_if_eq dc134_5.2.1.1 rfl (fun c1 => ?_) (fun c1 => ?_)
  · refine am_s_iinc (ls' := [some (.ref 145), some (.int x1), some (.int x2), some (.int x3), some (.int x4), some (.int x5), some (.int x6), some (.int (x7 + 1)), some (.int x8), l9]) am_cc1 rfl rfl dc134_6.2.2.2 ?_
    refine am_s_goto rfl dc134_7.1.1.1 ?_
    exact q1 c1
  · refine am_s_aload_n rfl dc134_5.2.1.2 ?_
    refine am_s_getR (r := 151) dc134_5.2.2.1 rfl rfl rfl (hp _ _ _ rfl) ?_
    refine am_s_iload rfl dc134_5.2.2.2 ?_
    refine am_s_dup2 rfl rfl dc134_6.1.1.1 ?_
    refine am_x_iaload (x := I 151 (Int32.toNatClampNeg x6)) dc134_6.1.1.2 rfl (q2 c1) rfl rfl ?_
    refine am_s_iconst am_cc1 dc134_6.1.2.1 ?_
    refine am_s_iload rfl dc134_6.1.2.2 ?_
    refine am_s_ishl dc134_6.2.1.1 ?_
    refine am_s_ior dc134_6.2.1.2 ?_
    refine am_s_iastore dc134_6.2.2.1 rfl (q3 c1) rfl ?_
    refine am_s_iinc (ls' := [some (.ref 145), some (.int x1), some (.int x2), some (.int x3), some (.int x4), some (.int x5), some (.int x6), some (.int (x7 + 1)), some (.int x8), l9]) am_cc1 rfl rfl dc134_6.2.2.2 ?_
    refine am_s_goto rfl dc134_7.1.1.1 ?_
    exact q4 c1
theorem t134_74 {sc : Option (Nat × (Nat → Int32))} {d k n : Nat} {P : am_O → Prop} {I : am_I} {J : am_J} {Pf : am_R} (hp : am_PF Pf) {x1 : Int32} {x2 : Int32} {x3 : Int32} {x4 : Int32} {x5 : Int32} {x6 : Int32} {x7 : Int32} {l8 : Option Value} {x9 : Int32} {s0 : Int32} (q1 : am_go sc d 134 (49, [some (.ref 145), some (.int x1), some (.int x2), some (.int x3), some (.int x4), some (.int x5), some (.int x6), some (.int x7), some (.int s0), some (.int (x9 + 1))], [], (am_SH, I, J, Pf), k, n) P) : am_go sc d 134 (74, [some (.ref 145), some (.int x1), some (.int x2), some (.int x3), some (.int x4), some (.int x5), some (.int x6), some (.int x7), l8, some (.int x9)], [.int s0], (am_SH, I, J, Pf), k, n) P := by
  refine am_s_istore (ls' := [some (.ref 145), some (.int x1), some (.int x2), some (.int x3), some (.int x4), some (.int x5), some (.int x6), some (.int x7), some (.int s0), some (.int x9)]) rfl rfl dc134_5.1.1.1 ?_
  refine am_s_iinc (ls' := [some (.ref 145), some (.int x1), some (.int x2), some (.int x3), some (.int x4), some (.int x5), some (.int x6), some (.int x7), some (.int s0), some (.int (x9 + 1))]) am_cc1 rfl rfl dc134_5.1.1.2 ?_
  refine am_s_goto rfl dc134_5.1.2.1 ?_
  exact q1
-- goesOn (IIIIII)Z
theorem dc135_0 : (((decode (am_by 135) 0 = .ok (.aload_n 0, 1)) ∧ (decode (am_by 135) 1 = .ok (.getfield 36, 3))) ∧ ((decode (am_by 135) 4 = .ok (.getfield 58, 3)) ∧ (decode (am_by 135) 7 = .ok (.astore 7, 2)))) ∧ (((decode (am_by 135) 9 = .ok (.iload_n 2, 1)) ∧ (decode (am_by 135) 10 = .ok (.iconst 1, 1))) ∧ ((decode (am_by 135) 11 = .ok (.iadd, 1)) ∧ (decode (am_by 135) 12 = .ok (.aload 7, 2)))) := by decide +kernel
theorem dc135_1 : (((decode (am_by 135) 14 = .ok (.getfield 97, 3)) ∧ (decode (am_by 135) 17 = .ok (.iload_n 1, 1))) ∧ ((decode (am_by 135) 18 = .ok (.iaload, 1)) ∧ (decode (am_by 135) 19 = .ok (.if_icmp .ne 12, 3)))) ∧ (((decode (am_by 135) 22 = .ok (.iload 4, 2)) ∧ (decode (am_by 135) 24 = .ok (.iload 5, 2))) ∧ ((decode (am_by 135) 26 = .ok (.if_icmp .eq 50, 3)) ∧ (decode (am_by 135) 29 = .ok (.iconst 0, 1)))) := by decide +kernel
theorem dc135_2 : (((decode (am_by 135) 30 = .ok (.ireturn, 1)) ∧ (decode (am_by 135) 31 = .ok (.aload 7, 2))) ∧ ((decode (am_by 135) 33 = .ok (.getfield 100, 3)) ∧ (decode (am_by 135) 36 = .ok (.iload_n 1, 1)))) ∧ (((decode (am_by 135) 37 = .ok (.baload, 1)) ∧ (decode (am_by 135) 38 = .ok (.ifCond .eq 16, 3))) ∧ ((decode (am_by 135) 41 = .ok (.aload_n 0, 1)) ∧ (decode (am_by 135) 42 = .ok (.getfield 40, 3)))) := by decide +kernel
theorem dc135_3 : (((decode (am_by 135) 45 = .ok (.getfield 104, 3)) ∧ (decode (am_by 135) 48 = .ok (.iload 4, 2))) ∧ ((decode (am_by 135) 50 = .ok (.iaload, 1)) ∧ (decode (am_by 135) 51 = .ok (.goto 5, 3)))) ∧ (((decode (am_by 135) 54 = .ok (.iload 4, 2)) ∧ (decode (am_by 135) 56 = .ok (.istore 8, 2))) ∧ ((decode (am_by 135) 58 = .ok (.aload_n 0, 1)) ∧ (decode (am_by 135) 59 = .ok (.getfield 27, 3)))) := by decide +kernel
theorem dc135_4 : (((decode (am_by 135) 62 = .ok (.iload_n 2, 1)) ∧ (decode (am_by 135) 63 = .ok (.iconst 1, 1))) ∧ ((decode (am_by 135) 64 = .ok (.iadd, 1)) ∧ (decode (am_by 135) 65 = .ok (.iaload, 1)))) ∧ (((decode (am_by 135) 66 = .ok (.iload 8, 2)) ∧ (decode (am_by 135) 68 = .ok (.iushr, 1))) ∧ ((decode (am_by 135) 69 = .ok (.iconst 1, 1)) ∧ (decode (am_by 135) 70 = .ok (.iand, 1)))) := by decide +kernel
theorem dc135_5 : (((decode (am_by 135) 71 = .ok (.ifCond .ne 5, 3)) ∧ (decode (am_by 135) 74 = .ok (.iconst 0, 1))) ∧ ((decode (am_by 135) 75 = .ok (.ireturn, 1)) ∧ (decode (am_by 135) 76 = .ok (.iload_n 1, 1)))) ∧ (((decode (am_by 135) 77 = .ok (.iconst 4, 1)) ∧ (decode (am_by 135) 78 = .ok (.imul, 1))) ∧ ((decode (am_by 135) 79 = .ok (.iload_n 2, 1)) ∧ (decode (am_by 135) 80 = .ok (.iadd, 1)))) := by decide +kernel
theorem dc135_6 : (((decode (am_by 135) 81 = .ok (.istore 8, 2)) ∧ (decode (am_by 135) 83 = .ok (.aload_n 0, 1))) ∧ ((decode (am_by 135) 84 = .ok (.getfield 36, 3)) ∧ (decode (am_by 135) 87 = .ok (.aload_n 0, 1)))) ∧ (((decode (am_by 135) 88 = .ok (.getfield 40, 3)) ∧ (decode (am_by 135) 91 = .ok (.iload 8, 2))) ∧ ((decode (am_by 135) 93 = .ok (.iload_n 3, 1)) ∧ (decode (am_by 135) 94 = .ok (.aload_n 0, 1)))) := by decide +kernel
theorem dc135_7 : (((decode (am_by 135) 95 = .ok (.getfield 40, 3)) ∧ (decode (am_by 135) 98 = .ok (.getfield 107, 3))) ∧ ((decode (am_by 135) 101 = .ok (.invokevirtual 110, 3)) ∧ (decode (am_by 135) 104 = .ok (.iload 4, 2)))) ∧ (((decode (am_by 135) 106 = .ok (.iushr, 1)) ∧ (decode (am_by 135) 107 = .ok (.iconst 1, 1))) ∧ ((decode (am_by 135) 108 = .ok (.iand, 1)) ∧ (decode (am_by 135) 109 = .ok (.ifCond .ne 5, 3)))) := by decide +kernel
theorem dc135_8 : (((decode (am_by 135) 112 = .ok (.iconst 0, 1)) ∧ (decode (am_by 135) 113 = .ok (.ireturn, 1))) ∧ ((decode (am_by 135) 114 = .ok (.aload 7, 2)) ∧ (decode (am_by 135) 116 = .ok (.getfield 167, 3)))) ∧ (((decode (am_by 135) 119 = .ok (.iload 8, 2)) ∧ (decode (am_by 135) 121 = .ok (.iaload, 1))) ∧ ((decode (am_by 135) 122 = .ok (.iconst 1, 1)) ∧ (decode (am_by 135) 123 = .ok (.if_icmp .eq 5, 3)))) := by decide +kernel
theorem dc135_9 : (((decode (am_by 135) 126 = .ok (.iconst 1, 1)) ∧ (decode (am_by 135) 127 = .ok (.ireturn, 1))) ∧ ((decode (am_by 135) 128 = .ok (.aload_n 0, 1)) ∧ (decode (am_by 135) 129 = .ok (.getfield 9, 3)))) ∧ (((decode (am_by 135) 132 = .ok (.aload 7, 2)) ∧ (decode (am_by 135) 134 = .ok (.getfield 170, 3))) ∧ ((decode (am_by 135) 137 = .ok (.iload 8, 2)) ∧ (decode (am_by 135) 139 = .ok (.iaload, 1)))) := by decide +kernel
theorem dc135_10 : (((decode (am_by 135) 140 = .ok (.bipush 25, 2)) ∧ (decode (am_by 135) 142 = .ok (.imul, 1))) ∧ ((decode (am_by 135) 143 = .ok (.iload_n 3, 1)) ∧ (decode (am_by 135) 144 = .ok (.iadd, 1)))) ∧ (((decode (am_by 135) 145 = .ok (.bipush 25, 2)) ∧ (decode (am_by 135) 147 = .ok (.imul, 1))) ∧ ((decode (am_by 135) 148 = .ok (.iload 4, 2)) ∧ (decode (am_by 135) 150 = .ok (.iadd, 1)))) := by decide +kernel
theorem dc135_11 : ((decode (am_by 135) 151 = .ok (.iaload, 1)) ∧ ((decode (am_by 135) 152 = .ok (.iload 6, 2)) ∧ (decode (am_by 135) 154 = .ok (.if_icmp .ge 7, 3)))) ∧ (((decode (am_by 135) 157 = .ok (.iconst 1, 1)) ∧ (decode (am_by 135) 158 = .ok (.goto 4, 3))) ∧ ((decode (am_by 135) 161 = .ok (.iconst 0, 1)) ∧ (decode (am_by 135) 162 = .ok (.ireturn, 1)))) := by decide +kernel
theorem t135_0 {sc : Option (Nat × (Nat → Int32))} {d k n : Nat} {P : am_O → Prop} {I : am_I} {J : am_J} {Pf : am_R} (hp : am_PF Pf) {x1 : Int32} {x2 : Int32} {x3 : Int32} {x4 : Int32} {x5 : Int32} {x6 : Int32} {l7 : Option Value} {l8 : Option Value} {r112_0 : Nat} (q1 : Pf 112 0 = some r112_0) (q2 : am_SH[r112_0]? = some (.inl 4)) (q3 : am_in x1 20 = true) (q4 : (¬ (x2 + 1) = (I (r112_0 + 4) (Int32.toNatClampNeg x1))) → am_in x1 20 = true) (q5 : (¬ (x2 + 1) = (I (r112_0 + 4) (Int32.toNatClampNeg x1))) → ((I (r112_0 + 3) (Int32.toNatClampNeg x1)) = 0) → am_in (x2 + 1) 4 = true) (q6 : (¬ (x2 + 1) = (I (r112_0 + 4) (Int32.toNatClampNeg x1))) → ((I (r112_0 + 3) (Int32.toNatClampNeg x1)) = 0) → (¬ ((UInt32.toInt32 (Int32.toUInt32 (I 151 (Int32.toNatClampNeg (x2 + 1))) >>> (Int32.toUInt32 x4 &&& Int32.toUInt32 31))) &&& 1) = 0) → am_go sc d 135 (76, [some (.ref 145), some (.int x1), some (.int x2), some (.int x3), some (.int x4), some (.int x5), some (.int x6), some (.ref r112_0), some (.int x4)], [], (am_SH, I, J, Pf), k, n) P) (q7 : (¬ (x2 + 1) = (I (r112_0 + 4) (Int32.toNatClampNeg x1))) → ((I (r112_0 + 3) (Int32.toNatClampNeg x1)) = 0) → (¬ (¬ ((UInt32.toInt32 (Int32.toUInt32 (I 151 (Int32.toNatClampNeg (x2 + 1))) >>> (Int32.toUInt32 x4 &&& Int32.toUInt32 31))) &&& 1) = 0)) → P (.inl (some (.int 0)), (am_SH, I, J, Pf), k, n)) (q8 : (¬ (x2 + 1) = (I (r112_0 + 4) (Int32.toNatClampNeg x1))) → (¬ ((I (r112_0 + 3) (Int32.toNatClampNeg x1)) = 0)) → am_in x4 25 = true) (q9 : (¬ (x2 + 1) = (I (r112_0 + 4) (Int32.toNatClampNeg x1))) → (¬ ((I (r112_0 + 3) (Int32.toNatClampNeg x1)) = 0)) → am_in (x2 + 1) 4 = true) (q10 : (¬ (x2 + 1) = (I (r112_0 + 4) (Int32.toNatClampNeg x1))) → (¬ ((I (r112_0 + 3) (Int32.toNatClampNeg x1)) = 0)) → (¬ ((UInt32.toInt32 (Int32.toUInt32 (I 151 (Int32.toNatClampNeg (x2 + 1))) >>> (Int32.toUInt32 (I 137 (Int32.toNatClampNeg x4)) &&& Int32.toUInt32 31))) &&& 1) = 0) → am_go sc d 135 (76, [some (.ref 145), some (.int x1), some (.int x2), some (.int x3), some (.int x4), some (.int x5), some (.int x6), some (.ref r112_0), some (.int (I 137 (Int32.toNatClampNeg x4)))], [], (am_SH, I, J, Pf), k, n) P) (q11 : (¬ (x2 + 1) = (I (r112_0 + 4) (Int32.toNatClampNeg x1))) → (¬ ((I (r112_0 + 3) (Int32.toNatClampNeg x1)) = 0)) → (¬ (¬ ((UInt32.toInt32 (Int32.toUInt32 (I 151 (Int32.toNatClampNeg (x2 + 1))) >>> (Int32.toUInt32 (I 137 (Int32.toNatClampNeg x4)) &&& Int32.toUInt32 31))) &&& 1) = 0)) → P (.inl (some (.int 0)), (am_SH, I, J, Pf), k, n)) (q12 : (¬ (¬ (x2 + 1) = (I (r112_0 + 4) (Int32.toNatClampNeg x1)))) → (x4 = x5) → am_go sc d 135 (76, [some (.ref 145), some (.int x1), some (.int x2), some (.int x3), some (.int x4), some (.int x5), some (.int x6), some (.ref r112_0), l8], [], (am_SH, I, J, Pf), k, n) P) (q13 : (¬ (¬ (x2 + 1) = (I (r112_0 + 4) (Int32.toNatClampNeg x1)))) → (¬ (x4 = x5)) → P (.inl (some (.int 0)), (am_SH, I, J, Pf), k, n)) : am_go sc d 135 (0, [some (.ref 145), some (.int x1), some (.int x2), some (.int x3), some (.int x4), some (.int x5), some (.int x6), l7, l8], [], (am_SH, I, J, Pf), k, n) P := by
  refine am_s_aload_n rfl dc135_0.1.1.1 ?_
  refine am_s_getR (r := 112) dc135_0.1.1.2 rfl rfl rfl (hp _ _ _ rfl) ?_
  refine am_s_getR (r := r112_0) dc135_0.1.2.1 rfl rfl rfl (q1) ?_
  refine am_s_astore (ls' := [some (.ref 145), some (.int x1), some (.int x2), some (.int x3), some (.int x4), some (.int x5), some (.int x6), some (.ref r112_0), l8]) rfl rfl dc135_0.1.2.2 ?_
  refine am_s_iload_n rfl dc135_0.2.1.1 ?_
  refine am_s_iconst am_cc1 dc135_0.2.1.2 ?_
  refine am_s_iadd dc135_0.2.2.1 ?_
  refine am_s_aload rfl dc135_0.2.2.2 ?_
  refine am_s_getR (r := r112_0 + 4) dc135_1.1.1.1 rfl (q2) rfl (am_r4_5 hp (q2)) ?_
  refine am_s_iload_n rfl dc135_1.1.1.2 ?_
  refine am_x_iaload (x := I (r112_0 + 4) (Int32.toNatClampNeg x1)) dc135_1.1.2.1 (am_h4_5 (q2)) (q3) rfl rfl ?_
  refine am_s_ic_ne dc135_1.1.2.2 rfl (fun c1 => ?_) (fun c1 => ?_)
  · refine am_s_aload rfl dc135_2.1.1.2 ?_
    refine am_s_getR (r := r112_0 + 3) dc135_2.1.2.1 rfl (q2) rfl (am_r4_4 hp (q2)) ?_
    refine am_s_iload_n rfl dc135_2.1.2.2 ?_
    refine am_x_baload (x := I (r112_0 + 3) (Int32.toNatClampNeg x1)) dc135_2.2.1.1 (am_h4_4 (q2)) (q4 c1) rfl rfl ?_
    refine am_s_if_eq dc135_2.2.1.2 rfl (fun c2 => ?_) (fun c2 => ?_)
    · refine am_s_iload rfl dc135_3.2.1.1 ?_
      refine am_s_istore (ls' := [some (.ref 145), some (.int x1), some (.int x2), some (.int x3), some (.int x4), some (.int x5), some (.int x6), some (.ref r112_0), some (.int x4)]) rfl rfl dc135_3.2.1.2 ?_
      refine am_s_aload_n rfl dc135_3.2.2.1 ?_
      refine am_s_getR (r := 151) dc135_3.2.2.2 rfl rfl rfl (hp _ _ _ rfl) ?_
      refine am_s_iload_n rfl dc135_4.1.1.1 ?_
      refine am_s_iconst am_cc1 dc135_4.1.1.2 ?_
      refine am_s_iadd dc135_4.1.2.1 ?_
      refine am_x_iaload (x := I 151 (Int32.toNatClampNeg (x2 + 1))) dc135_4.1.2.2 rfl (q5 c1 c2) rfl rfl ?_
      refine am_s_iload rfl dc135_4.2.1.1 ?_
      refine am_s_iushr dc135_4.2.1.2 ?_
      refine am_s_iconst am_cc1 dc135_4.2.2.1 ?_
      refine am_s_iand dc135_4.2.2.2 ?_
      refine am_s_if_ne dc135_5.1.1.1 rfl (fun c3 => ?_) (fun c3 => ?_)
      · exact q6 c1 c2 c3
      · refine am_s_iconst am_cc0 dc135_5.1.1.2 ?_
        exact am_s_zreturn dc135_5.1.2.1 rfl (by decide) (q7 c1 c2 c3)
    · refine am_s_aload_n rfl dc135_2.2.2.1 ?_
      refine am_s_getR (r := 135) dc135_2.2.2.2 rfl rfl rfl (hp _ _ _ rfl) ?_
      refine am_s_getR (r := 137) dc135_3.1.1.1 rfl rfl rfl (hp _ _ _ rfl) ?_
      refine am_s_iload rfl dc135_3.1.1.2 ?_
      refine am_x_iaload (x := I 137 (Int32.toNatClampNeg x4)) dc135_3.1.2.1 rfl (q8 c1 c2) rfl rfl ?_
      refine am_s_goto rfl dc135_3.1.2.2 ?_
      refine am_s_istore (ls' := [some (.ref 145), some (.int x1), some (.int x2), some (.int x3), some (.int x4), some (.int x5), some (.int x6), some (.ref r112_0), some (.int (I 137 (Int32.toNatClampNeg x4)))]) rfl rfl dc135_3.2.1.2 ?_
      refine am_s_aload_n rfl dc135_3.2.2.1 ?_
      refine am_s_getR (r := 151) dc135_3.2.2.2 rfl rfl rfl (hp _ _ _ rfl) ?_
      refine am_s_iload_n rfl dc135_4.1.1.1 ?_
      refine am_s_iconst am_cc1 dc135_4.1.1.2 ?_
      refine am_s_iadd dc135_4.1.2.1 ?_
      refine am_x_iaload (x := I 151 (Int32.toNatClampNeg (x2 + 1))) dc135_4.1.2.2 rfl (q9 c1 c2) rfl rfl ?_
      refine am_s_iload rfl dc135_4.2.1.1 ?_
      refine am_s_iushr dc135_4.2.1.2 ?_
      refine am_s_iconst am_cc1 dc135_4.2.2.1 ?_
      refine am_s_iand dc135_4.2.2.2 ?_
      refine am_s_if_ne dc135_5.1.1.1 rfl (fun c3 => ?_) (fun c3 => ?_)
      · exact q10 c1 c2 c3
      · refine am_s_iconst am_cc0 dc135_5.1.1.2 ?_
        exact am_s_zreturn dc135_5.1.2.1 rfl (by decide) (q11 c1 c2 c3)
  · refine am_s_iload rfl dc135_1.2.1.1 ?_
    refine am_s_iload rfl dc135_1.2.1.2 ?_
    refine am_s_ic_eq dc135_1.2.2.1 rfl (fun c2 => ?_) (fun c2 => ?_)
    · exact q12 c1 c2
    · refine am_s_iconst am_cc0 dc135_1.2.2.2 ?_
      exact am_s_zreturn dc135_2.1.1.1 rfl (by decide) (q13 c1 c2)
theorem t135_76 {sc : Option (Nat × (Nat → Int32))} {d k n : Nat} {P : am_O → Prop} {I : am_I} {J : am_J} {Pf : am_R} (hp : am_PF Pf) {x1 : Int32} {x2 : Int32} {x3 : Int32} {x4 : Int32} {l5 : Option Value} {x6 : Int32} {x7 : Nat} (hx7 : am_SH[x7]? = some (.inl 4)) {l8 : Option Value} (q1 : am_mth d 16 [.ref 112, .ref 135, .int ((x1 * 4) + x2), .int x3, .ref 138] (am_SH, I, J, Pf) (am_af sc d 135 101 [some (.ref 145), some (.int x1), some (.int x2), some (.int x3), some (.int x4), l5, some (.int x6), some (.ref x7), some (.int ((x1 * 4) + x2))] [.ref 138, .int x3, .int ((x1 * 4) + x2), .ref 135, .ref 112] [] (am_SH, I, J, Pf) k n false P)) : am_go sc d 135 (76, [some (.ref 145), some (.int x1), some (.int x2), some (.int x3), some (.int x4), l5, some (.int x6), some (.ref x7), l8], [], (am_SH, I, J, Pf), k, n) P := by
  refine am_s_iload_n rfl dc135_5.1.2.2 ?_
  refine am_s_iconst am_cc4 dc135_5.2.1.1 ?_
  refine am_s_imul dc135_5.2.1.2 ?_
  refine am_s_iload_n rfl dc135_5.2.2.1 ?_
  refine am_s_iadd dc135_5.2.2.2 ?_
  refine am_s_istore (ls' := [some (.ref 145), some (.int x1), some (.int x2), some (.int x3), some (.int x4), l5, some (.int x6), some (.ref x7), some (.int ((x1 * 4) + x2))]) rfl rfl dc135_6.1.1.1 ?_
  refine am_s_aload_n rfl dc135_6.1.1.2 ?_
  refine am_s_getR (r := 112) dc135_6.1.2.1 rfl rfl rfl (hp _ _ _ rfl) ?_
  refine am_s_aload_n rfl dc135_6.1.2.2 ?_
  refine am_s_getR (r := 135) dc135_6.2.1.1 rfl rfl rfl (hp _ _ _ rfl) ?_
  refine am_s_iload rfl dc135_6.2.1.2 ?_
  refine am_s_iload_n rfl dc135_6.2.2.1 ?_
  refine am_s_aload_n rfl dc135_6.2.2.2 ?_
  refine am_s_getR (r := 135) dc135_7.1.1.1 rfl rfl rfl (hp _ _ _ rfl) ?_
  refine am_s_getR (r := 138) dc135_7.1.1.2 rfl rfl rfl (hp _ _ _ rfl) ?_
  exact am_s_virtual false dc135_7.1.2.1 rfl (by decide) rfl rfl rfl (q1)
theorem t135_104 {sc : Option (Nat × (Nat → Int32))} {d k n : Nat} {P : am_O → Prop} {I : am_I} {J : am_J} {Pf : am_R} (hp : am_PF Pf) {l1 : Option Value} {l2 : Option Value} {x3 : Int32} {x4 : Int32} {l5 : Option Value} {x6 : Int32} {x7 : Nat} (hx7 : am_SH[x7]? = some (.inl 4)) {x8 : Int32} {s0 : Int32} (q1 : (¬ ((UInt32.toInt32 (Int32.toUInt32 s0 >>> (Int32.toUInt32 x4 &&& Int32.toUInt32 31))) &&& 1) = 0) → am_in x8 80 = true) (q2 : (¬ ((UInt32.toInt32 (Int32.toUInt32 s0 >>> (Int32.toUInt32 x4 &&& Int32.toUInt32 31))) &&& 1) = 0) → ((I (x7 + 5) (Int32.toNatClampNeg x8)) = 1) → am_in x8 80 = true) (q3 : (¬ ((UInt32.toInt32 (Int32.toUInt32 s0 >>> (Int32.toUInt32 x4 &&& Int32.toUInt32 31))) &&& 1) = 0) → ((I (x7 + 5) (Int32.toNatClampNeg x8)) = 1) → am_in (((((I (x7 + 6) (Int32.toNatClampNeg x8)) * 25) + x3) * 25) + x4) 5000 = true) (q4 : (¬ ((UInt32.toInt32 (Int32.toUInt32 s0 >>> (Int32.toUInt32 x4 &&& Int32.toUInt32 31))) &&& 1) = 0) → ((I (x7 + 5) (Int32.toNatClampNeg x8)) = 1) → (x6 ≤ (I 146 (Int32.toNatClampNeg (((((I (x7 + 6) (Int32.toNatClampNeg x8)) * 25) + x3) * 25) + x4)))) → P (.inl (some (.int 0)), (am_SH, I, J, Pf), k, n)) (q5 : (¬ ((UInt32.toInt32 (Int32.toUInt32 s0 >>> (Int32.toUInt32 x4 &&& Int32.toUInt32 31))) &&& 1) = 0) → ((I (x7 + 5) (Int32.toNatClampNeg x8)) = 1) → (¬ (x6 ≤ (I 146 (Int32.toNatClampNeg (((((I (x7 + 6) (Int32.toNatClampNeg x8)) * 25) + x3) * 25) + x4))))) → P (.inl (some (.int 1)), (am_SH, I, J, Pf), k, n)) (q6 : (¬ ((UInt32.toInt32 (Int32.toUInt32 s0 >>> (Int32.toUInt32 x4 &&& Int32.toUInt32 31))) &&& 1) = 0) → (¬ ((I (x7 + 5) (Int32.toNatClampNeg x8)) = 1)) → P (.inl (some (.int 1)), (am_SH, I, J, Pf), k, n)) (q7 : (¬ (¬ ((UInt32.toInt32 (Int32.toUInt32 s0 >>> (Int32.toUInt32 x4 &&& Int32.toUInt32 31))) &&& 1) = 0)) → P (.inl (some (.int 0)), (am_SH, I, J, Pf), k, n)) : am_go sc d 135 (104, [some (.ref 145), l1, l2, some (.int x3), some (.int x4), l5, some (.int x6), some (.ref x7), some (.int x8)], [.int s0], (am_SH, I, J, Pf), k, n) P := by
  refine am_s_iload rfl dc135_7.1.2.2 ?_
  refine am_s_iushr dc135_7.2.1.1 ?_
  refine am_s_iconst am_cc1 dc135_7.2.1.2 ?_
  refine am_s_iand dc135_7.2.2.1 ?_
  refine am_s_if_ne dc135_7.2.2.2 rfl (fun c1 => ?_) (fun c1 => ?_)
  · refine am_s_aload rfl dc135_8.1.2.1 ?_
    refine am_s_getR (r := x7 + 5) dc135_8.1.2.2 rfl hx7 rfl (am_r4_6 hp hx7) ?_
    refine am_s_iload rfl dc135_8.2.1.1 ?_
    refine am_x_iaload (x := I (x7 + 5) (Int32.toNatClampNeg x8)) dc135_8.2.1.2 (am_h4_6 hx7) (q1 c1) rfl rfl ?_
    refine am_s_iconst am_cc1 dc135_8.2.2.1 ?_
    refine am_s_ic_eq dc135_8.2.2.2 rfl (fun c2 => ?_) (fun c2 => ?_)
    · refine am_s_aload_n rfl dc135_9.1.2.1 ?_
      refine am_s_getR (r := 146) dc135_9.1.2.2 rfl rfl rfl (hp _ _ _ rfl) ?_
      refine am_s_aload rfl dc135_9.2.1.1 ?_
      refine am_s_getR (r := x7 + 6) dc135_9.2.1.2 rfl hx7 rfl (am_r4_7 hp hx7) ?_
      refine am_s_iload rfl dc135_9.2.2.1 ?_
      refine am_x_iaload (x := I (x7 + 6) (Int32.toNatClampNeg x8)) dc135_9.2.2.2 (am_h4_7 hx7) (q2 c1 c2) rfl rfl ?_
      refine am_s_bipush am_cb25 dc135_10.1.1.1 ?_
      refine am_s_imul dc135_10.1.1.2 ?_
      refine am_s_iload_n rfl dc135_10.1.2.1 ?_
      refine am_s_iadd dc135_10.1.2.2 ?_
      refine am_s_bipush am_cb25 dc135_10.2.1.1 ?_
      refine am_s_imul dc135_10.2.1.2 ?_
      refine am_s_iload rfl dc135_10.2.2.1 ?_
      refine am_s_iadd dc135_10.2.2.2 ?_
      refine am_x_iaload (x := I 146 (Int32.toNatClampNeg (((((I (x7 + 6) (Int32.toNatClampNeg x8)) * 25) + x3) * 25) + x4))) dc135_11.1.1 rfl (q3 c1 c2) rfl rfl ?_
      refine am_s_iload rfl dc135_11.1.2.1 ?_
      refine am_s_ic_ge dc135_11.1.2.2 rfl (fun c3 => ?_) (fun c3 => ?_)
      · refine am_s_iconst am_cc0 dc135_11.2.2.1 ?_
        exact am_s_zreturn dc135_11.2.2.2 rfl (by decide) (q4 c1 c2 c3)
      · refine am_s_iconst am_cc1 dc135_11.2.1.1 ?_
        refine am_s_goto rfl dc135_11.2.1.2 ?_
        exact am_s_zreturn dc135_11.2.2.2 rfl (by decide) (q5 c1 c2 c3)
    · refine am_s_iconst am_cc1 dc135_9.1.1.1 ?_
      exact am_s_zreturn dc135_9.1.1.2 rfl (by decide) (q6 c1 c2)
  · refine am_s_iconst am_cc0 dc135_8.1.1.1 ?_
    exact am_s_zreturn dc135_8.1.1.2 rfl (by decide) (q7 c1)
-- turnRound (II)V
theorem dc136_0 : (((decode (am_by 136) 0 = .ok (.iload_n 1, 1)) ∧ (decode (am_by 136) 1 = .ok (.istore_n 3, 1))) ∧ ((decode (am_by 136) 2 = .ok (.iload_n 2, 1)) ∧ (decode (am_by 136) 3 = .ok (.istore 4, 2)))) ∧ (((decode (am_by 136) 5 = .ok (.iload_n 3, 1)) ∧ (decode (am_by 136) 6 = .ok (.iload 4, 2))) ∧ ((decode (am_by 136) 8 = .ok (.if_icmp .ge 77, 3)) ∧ (decode (am_by 136) 11 = .ok (.iconst 0, 1)))) := by decide +kernel
theorem dc136_1 : (((decode (am_by 136) 12 = .ok (.istore 5, 2)) ∧ (decode (am_by 136) 14 = .ok (.iload 5, 2))) ∧ ((decode (am_by 136) 16 = .ok (.iconst 4, 1)) ∧ (decode (am_by 136) 17 = .ok (.if_icmp .ge 59, 3)))) ∧ (((decode (am_by 136) 20 = .ok (.aload_n 0, 1)) ∧ (decode (am_by 136) 21 = .ok (.getfield 24, 3))) ∧ ((decode (am_by 136) 24 = .ok (.iload_n 3, 1)) ∧ (decode (am_by 136) 25 = .ok (.iconst 4, 1)))) := by decide +kernel
theorem dc136_2 : (((decode (am_by 136) 26 = .ok (.imul, 1)) ∧ (decode (am_by 136) 27 = .ok (.iload 5, 2))) ∧ ((decode (am_by 136) 29 = .ok (.iadd, 1)) ∧ (decode (am_by 136) 30 = .ok (.iaload, 1)))) ∧ (((decode (am_by 136) 31 = .ok (.istore 6, 2)) ∧ (decode (am_by 136) 33 = .ok (.aload_n 0, 1))) ∧ ((decode (am_by 136) 34 = .ok (.getfield 24, 3)) ∧ (decode (am_by 136) 37 = .ok (.iload_n 3, 1)))) := by decide +kernel
theorem dc136_3 : (((decode (am_by 136) 38 = .ok (.iconst 4, 1)) ∧ (decode (am_by 136) 39 = .ok (.imul, 1))) ∧ ((decode (am_by 136) 40 = .ok (.iload 5, 2)) ∧ (decode (am_by 136) 42 = .ok (.iadd, 1)))) ∧ (((decode (am_by 136) 43 = .ok (.aload_n 0, 1)) ∧ (decode (am_by 136) 44 = .ok (.getfield 24, 3))) ∧ ((decode (am_by 136) 47 = .ok (.iload 4, 2)) ∧ (decode (am_by 136) 49 = .ok (.iconst 4, 1)))) := by decide +kernel
theorem dc136_4 : (((decode (am_by 136) 50 = .ok (.imul, 1)) ∧ (decode (am_by 136) 51 = .ok (.iload 5, 2))) ∧ ((decode (am_by 136) 53 = .ok (.iadd, 1)) ∧ (decode (am_by 136) 54 = .ok (.iaload, 1)))) ∧ (((decode (am_by 136) 55 = .ok (.iastore, 1)) ∧ (decode (am_by 136) 56 = .ok (.aload_n 0, 1))) ∧ ((decode (am_by 136) 57 = .ok (.getfield 24, 3)) ∧ (decode (am_by 136) 60 = .ok (.iload 4, 2)))) := by decide +kernel
theorem dc136_5 : (((decode (am_by 136) 62 = .ok (.iconst 4, 1)) ∧ (decode (am_by 136) 63 = .ok (.imul, 1))) ∧ ((decode (am_by 136) 64 = .ok (.iload 5, 2)) ∧ (decode (am_by 136) 66 = .ok (.iadd, 1)))) ∧ (((decode (am_by 136) 67 = .ok (.iload 6, 2)) ∧ (decode (am_by 136) 69 = .ok (.iastore, 1))) ∧ ((decode (am_by 136) 70 = .ok (.iinc 5 1, 3)) ∧ (decode (am_by 136) 73 = .ok (.goto (-59), 3)))) := by decide +kernel
theorem dc136_6 : ((decode (am_by 136) 76 = .ok (.iinc 3 1, 3)) ∧ (decode (am_by 136) 79 = .ok (.iinc 4 (-1), 3))) ∧ ((decode (am_by 136) 82 = .ok (.goto (-77), 3)) ∧ (decode (am_by 136) 85 = .ok (.return_, 1))) := by decide +kernel
theorem t136_0 {sc : Option (Nat × (Nat → Int32))} {d k n : Nat} {P : am_O → Prop} {I : am_I} {J : am_J} {Pf : am_R} (hp : am_PF Pf) {x1 : Int32} {x2 : Int32} {l3 : Option Value} {l4 : Option Value} {l5 : Option Value} {l6 : Option Value} (q1 : am_go sc d 136 (5, [some (.ref 145), some (.int x1), some (.int x2), some (.int x1), some (.int x2), l5, l6], [], (am_SH, I, J, Pf), k, n) P) : am_go sc d 136 (0, [some (.ref 145), some (.int x1), some (.int x2), l3, l4, l5, l6], [], (am_SH, I, J, Pf), k, n) P := by
  refine am_s_iload_n rfl dc136_0.1.1.1 ?_
  refine am_s_istore_n (ls' := [some (.ref 145), some (.int x1), some (.int x2), some (.int x1), l4, l5, l6]) rfl rfl dc136_0.1.1.2 ?_
  refine am_s_iload_n rfl dc136_0.1.2.1 ?_
  refine am_s_istore (ls' := [some (.ref 145), some (.int x1), some (.int x2), some (.int x1), some (.int x2), l5, l6]) rfl rfl dc136_0.1.2.2 ?_
  exact q1
theorem t136_5 {sc : Option (Nat × (Nat → Int32))} {d k n : Nat} {P : am_O → Prop} {I : am_I} {J : am_J} {Pf : am_R} (hp : am_PF Pf) {l1 : Option Value} {l2 : Option Value} {x3 : Int32} {x4 : Int32} {l5 : Option Value} {l6 : Option Value} (q1 : (x4 ≤ x3) → P (.inl none, (am_SH, I, J, Pf), k, n)) (q2 : (¬ (x4 ≤ x3)) → am_go sc d 136 (14, [some (.ref 145), l1, l2, some (.int x3), some (.int x4), some (.int 0), l6], [], (am_SH, I, J, Pf), k, n) P) : am_go sc d 136 (5, [some (.ref 145), l1, l2, some (.int x3), some (.int x4), l5, l6], [], (am_SH, I, J, Pf), k, n) P := by
  refine am_s_iload_n rfl dc136_0.2.1.1 ?_
  refine am_s_iload rfl dc136_0.2.1.2 ?_
  refine am_s_ic_ge dc136_0.2.2.1 rfl (fun c1 => ?_) (fun c1 => ?_)
  · exact am_s_return dc136_6.2.2 rfl (q1 c1)
  · refine am_s_iconst am_cc0 dc136_0.2.2.2 ?_
    refine am_s_istore (ls' := [some (.ref 145), l1, l2, some (.int x3), some (.int x4), some (.int 0), l6]) rfl rfl dc136_1.1.1.1 ?_
    exact q2 c1
theorem t136_14 {sc : Option (Nat × (Nat → Int32))} {d k n : Nat} {P : am_O → Prop} {I : am_I} {J : am_J} {Pf : am_R} (hp : am_PF Pf) {l1 : Option Value} {l2 : Option Value} {x3 : Int32} {x4 : Int32} {x5 : Int32} {l6 : Option Value} (hl2 : am_k1 l2 = true) (q1 : (4 ≤ x5) → am_go sc d 136 (5, [some (.ref 145), l1, l2, some (.int (x3 + 1)), some (.int (x4 + (-1))), some (.int x5), l6], [], (am_SH, I, J, Pf), k, n) P) (q2 : (¬ (4 ≤ x5)) → am_in ((x3 * 4) + x5) 2404 = true) (q3 : (¬ (4 ≤ x5)) → am_in ((x4 * 4) + x5) 2404 = true) (q4 : (¬ (4 ≤ x5)) → am_in ((x3 * 4) + x5) 2404 = true) (q5 : (¬ (4 ≤ x5)) → am_in ((x4 * 4) + x5) 2404 = true) (q6 : (¬ (4 ≤ x5)) → am_go sc d 136 (14, [some (.ref 145), l1, l2, some (.int x3), some (.int x4), some (.int (x5 + 1)), some (.int (I 150 (Int32.toNatClampNeg ((x3 * 4) + x5))))], [], (am_SH, am_u (am_u I 150 (Int32.toNatClampNeg ((x3 * 4) + x5)) (I 150 (Int32.toNatClampNeg ((x4 * 4) + x5)))) 150 (Int32.toNatClampNeg ((x4 * 4) + x5)) (I 150 (Int32.toNatClampNeg ((x3 * 4) + x5))), J, Pf), k, n) P) : am_go sc d 136 (14, [some (.ref 145), l1, l2, some (.int x3), some (.int x4), some (.int x5), l6], [], (am_SH, I, J, Pf), k, n) P := by
  refine am_s_iload rfl dc136_1.1.1.2 ?_
  refine am_s_iconst am_cc4 dc136_1.1.2.1 ?_
  refine am_s_ic_ge dc136_1.1.2.2 rfl (fun c1 => ?_) (fun c1 => ?_)
  · refine am_s_iinc (ls' := [some (.ref 145), l1, l2, some (.int (x3 + 1)), some (.int x4), some (.int x5), l6]) am_cc1 rfl (am_set1_k (am_kill_x (j := 2) rfl hl2) rfl) dc136_6.1.1 ?_
    refine am_s_iinc (ls' := [some (.ref 145), l1, l2, some (.int (x3 + 1)), some (.int (x4 + (-1))), some (.int x5), l6]) am_ccm1 rfl rfl dc136_6.1.2 ?_
    refine am_s_goto rfl dc136_6.2.1 ?_
    exact q1 c1
  · refine am_s_aload_n rfl dc136_1.2.1.1 ?_
    refine am_s_getR (r := 150) dc136_1.2.1.2 rfl rfl rfl (hp _ _ _ rfl) ?_
    refine am_s_iload_n rfl dc136_1.2.2.1 ?_
    refine am_s_iconst am_cc4 dc136_1.2.2.2 ?_
    refine am_s_imul dc136_2.1.1.1 ?_
    refine am_s_iload rfl dc136_2.1.1.2 ?_
    refine am_s_iadd dc136_2.1.2.1 ?_
    refine am_x_iaload (x := I 150 (Int32.toNatClampNeg ((x3 * 4) + x5))) dc136_2.1.2.2 rfl (q2 c1) rfl rfl ?_
    refine am_s_istore (ls' := [some (.ref 145), l1, l2, some (.int x3), some (.int x4), some (.int x5), some (.int (I 150 (Int32.toNatClampNeg ((x3 * 4) + x5))))]) rfl rfl dc136_2.2.1.1 ?_
    refine am_s_aload_n rfl dc136_2.2.1.2 ?_
    refine am_s_getR (r := 150) dc136_2.2.2.1 rfl rfl rfl (hp _ _ _ rfl) ?_
    refine am_s_iload_n rfl dc136_2.2.2.2 ?_
    refine am_s_iconst am_cc4 dc136_3.1.1.1 ?_
    refine am_s_imul dc136_3.1.1.2 ?_
    refine am_s_iload rfl dc136_3.1.2.1 ?_
    refine am_s_iadd dc136_3.1.2.2 ?_
    refine am_s_aload_n rfl dc136_3.2.1.1 ?_
    refine am_s_getR (r := 150) dc136_3.2.1.2 rfl rfl rfl (hp _ _ _ rfl) ?_
    refine am_s_iload rfl dc136_3.2.2.1 ?_
    refine am_s_iconst am_cc4 dc136_3.2.2.2 ?_
    refine am_s_imul dc136_4.1.1.1 ?_
    refine am_s_iload rfl dc136_4.1.1.2 ?_
    refine am_s_iadd dc136_4.1.2.1 ?_
    refine am_x_iaload (x := I 150 (Int32.toNatClampNeg ((x4 * 4) + x5))) dc136_4.1.2.2 rfl (q3 c1) rfl rfl ?_
    refine am_s_iastore dc136_4.2.1.1 rfl (q4 c1) rfl ?_
    refine am_s_aload_n rfl dc136_4.2.1.2 ?_
    refine am_s_getR (r := 150) dc136_4.2.2.1 rfl rfl rfl (hp _ _ _ rfl) ?_
    refine am_s_iload rfl dc136_4.2.2.2 ?_
    refine am_s_iconst am_cc4 dc136_5.1.1.1 ?_
    refine am_s_imul dc136_5.1.1.2 ?_
    refine am_s_iload rfl dc136_5.1.2.1 ?_
    refine am_s_iadd dc136_5.1.2.2 ?_
    refine am_s_iload rfl dc136_5.2.1.1 ?_
    refine am_s_iastore dc136_5.2.1.2 rfl (q5 c1) rfl ?_
    refine am_s_iinc (ls' := [some (.ref 145), l1, l2, some (.int x3), some (.int x4), some (.int (x5 + 1)), some (.int (I 150 (Int32.toNatClampNeg ((x3 * 4) + x5))))]) am_cc1 rfl rfl dc136_5.2.2.1 ?_
    refine am_s_goto rfl dc136_5.2.2.2 ?_
    exact q6 c1
-- fact (II)I
theorem dc137_0 : (((decode (am_by 137) 0 = .ok (.iload_n 1, 1)) ∧ (decode (am_by 137) 1 = .ok (.ifCond .lt 21, 3))) ∧ ((decode (am_by 137) 4 = .ok (.iload_n 1, 1)) ∧ (decode (am_by 137) 5 = .ok (.aload_n 0, 1)))) ∧ (((decode (am_by 137) 6 = .ok (.getfield 142, 3)) ∧ (decode (am_by 137) 9 = .ok (.if_icmp .ge 13, 3))) ∧ ((decode (am_by 137) 12 = .ok (.iload_n 2, 1)) ∧ (decode (am_by 137) 13 = .ok (.ifCond .lt 9, 3)))) := by decide +kernel
theorem dc137_1 : (((decode (am_by 137) 16 = .ok (.iload_n 2, 1)) ∧ (decode (am_by 137) 17 = .ok (.bipush 6, 2))) ∧ ((decode (am_by 137) 19 = .ok (.if_icmp .lt 5, 3)) ∧ (decode (am_by 137) 22 = .ok (.iconst (-1), 1)))) ∧ (((decode (am_by 137) 23 = .ok (.ireturn, 1)) ∧ (decode (am_by 137) 24 = .ok (.iload_n 1, 1))) ∧ ((decode (am_by 137) 25 = .ok (.bipush 6, 2)) ∧ (decode (am_by 137) 27 = .ok (.imul, 1)))) := by decide +kernel
theorem dc137_2 : (((decode (am_by 137) 28 = .ok (.istore_n 3, 1)) ∧ (decode (am_by 137) 29 = .ok (.iload_n 2, 1))) ∧ ((decode (am_by 137) 30 = .ok (.iconst 4, 1)) ∧ (decode (am_by 137) 31 = .ok (.if_icmp .ne 49, 3)))) ∧ (((decode (am_by 137) 34 = .ok (.aload_n 0, 1)) ∧ (decode (am_by 137) 35 = .ok (.getfield 21, 3))) ∧ ((decode (am_by 137) 38 = .ok (.iload_n 3, 1)) ∧ (decode (am_by 137) 39 = .ok (.iconst 4, 1)))) := by decide +kernel
theorem dc137_3 : (((decode (am_by 137) 40 = .ok (.iadd, 1)) ∧ (decode (am_by 137) 41 = .ok (.iaload, 1))) ∧ ((decode (am_by 137) 42 = .ok (.iconst (-1), 1)) ∧ (decode (am_by 137) 43 = .ok (.if_icmp .ne 37, 3)))) ∧ (((decode (am_by 137) 46 = .ok (.aload_n 0, 1)) ∧ (decode (am_by 137) 47 = .ok (.getfield 21, 3))) ∧ ((decode (am_by 137) 50 = .ok (.iload_n 3, 1)) ∧ (decode (am_by 137) 51 = .ok (.iconst 4, 1)))) := by decide +kernel
theorem dc137_4 : (((decode (am_by 137) 52 = .ok (.iadd, 1)) ∧ (decode (am_by 137) 53 = .ok (.aload_n 0, 1))) ∧ ((decode (am_by 137) 54 = .ok (.aload_n 0, 1)) ∧ (decode (am_by 137) 55 = .ok (.getfield 21, 3)))) ∧ (((decode (am_by 137) 58 = .ok (.iload_n 3, 1)) ∧ (decode (am_by 137) 59 = .ok (.iaload, 1))) ∧ ((decode (am_by 137) 60 = .ok (.aload_n 0, 1)) ∧ (decode (am_by 137) 61 = .ok (.getfield 21, 3)))) := by decide +kernel
theorem dc137_5 : (((decode (am_by 137) 64 = .ok (.iload_n 3, 1)) ∧ (decode (am_by 137) 65 = .ok (.iconst 1, 1))) ∧ ((decode (am_by 137) 66 = .ok (.iadd, 1)) ∧ (decode (am_by 137) 67 = .ok (.iaload, 1)))) ∧ (((decode (am_by 137) 68 = .ok (.aload_n 0, 1)) ∧ (decode (am_by 137) 69 = .ok (.getfield 21, 3))) ∧ ((decode (am_by 137) 72 = .ok (.iload_n 3, 1)) ∧ (decode (am_by 137) 73 = .ok (.iconst 2, 1)))) := by decide +kernel
theorem dc137_6 : (((decode (am_by 137) 74 = .ok (.iadd, 1)) ∧ (decode (am_by 137) 75 = .ok (.iaload, 1))) ∧ ((decode (am_by 137) 76 = .ok (.invokevirtual 176, 3)) ∧ (decode (am_by 137) 79 = .ok (.iastore, 1)))) ∧ (((decode (am_by 137) 80 = .ok (.aload_n 0, 1)) ∧ (decode (am_by 137) 81 = .ok (.getfield 21, 3))) ∧ ((decode (am_by 137) 84 = .ok (.iload_n 3, 1)) ∧ (decode (am_by 137) 85 = .ok (.iload_n 2, 1)))) := by decide +kernel
theorem dc137_7 : (decode (am_by 137) 86 = .ok (.iadd, 1)) ∧ ((decode (am_by 137) 87 = .ok (.iaload, 1)) ∧ (decode (am_by 137) 88 = .ok (.ireturn, 1))) := by decide +kernel
theorem t137_0 {sc : Option (Nat × (Nat → Int32))} {d k n : Nat} {P : am_O → Prop} {I : am_I} {J : am_J} {Pf : am_R} (hp : am_PF Pf) {x1 : Int32} {x2 : Int32} {l3 : Option Value} (q1 : (x1 < 0) → P (.inl (some (.int (-1))), (am_SH, I, J, Pf), k, n)) (q2 : (¬ (x1 < 0)) → ((I 145 9) ≤ x1) → P (.inl (some (.int (-1))), (am_SH, I, J, Pf), k, n)) (q3 : (¬ (x1 < 0)) → (¬ ((I 145 9) ≤ x1)) → (x2 < 0) → P (.inl (some (.int (-1))), (am_SH, I, J, Pf), k, n)) (q4 : (¬ (x1 < 0)) → (¬ ((I 145 9) ≤ x1)) → (¬ (x2 < 0)) → (x2 < 6) → (¬ x2 = 4) → am_go sc d 137 (80, [some (.ref 145), some (.int x1), some (.int x2), some (.int (x1 * 6))], [], (am_SH, I, J, Pf), k, n) P) (q5 : (¬ (x1 < 0)) → (¬ ((I 145 9) ≤ x1)) → (¬ (x2 < 0)) → (x2 < 6) → (¬ (¬ x2 = 4)) → am_in ((x1 * 6) + 4) 1200 = true) (q6 : (¬ (x1 < 0)) → (¬ ((I 145 9) ≤ x1)) → (¬ (x2 < 0)) → (x2 < 6) → (¬ (¬ x2 = 4)) → (¬ (I 149 (Int32.toNatClampNeg ((x1 * 6) + 4))) = (-1)) → am_go sc d 137 (80, [some (.ref 145), some (.int x1), some (.int x2), some (.int (x1 * 6))], [], (am_SH, I, J, Pf), k, n) P) (q7 : (¬ (x1 < 0)) → (¬ ((I 145 9) ≤ x1)) → (¬ (x2 < 0)) → (x2 < 6) → (¬ (¬ x2 = 4)) → (¬ (¬ (I 149 (Int32.toNatClampNeg ((x1 * 6) + 4))) = (-1))) → am_in (x1 * 6) 1200 = true) (q8 : (¬ (x1 < 0)) → (¬ ((I 145 9) ≤ x1)) → (¬ (x2 < 0)) → (x2 < 6) → (¬ (¬ x2 = 4)) → (¬ (¬ (I 149 (Int32.toNatClampNeg ((x1 * 6) + 4))) = (-1))) → am_in ((x1 * 6) + 1) 1200 = true) (q9 : (¬ (x1 < 0)) → (¬ ((I 145 9) ≤ x1)) → (¬ (x2 < 0)) → (x2 < 6) → (¬ (¬ x2 = 4)) → (¬ (¬ (I 149 (Int32.toNatClampNeg ((x1 * 6) + 4))) = (-1))) → am_in ((x1 * 6) + 2) 1200 = true) (q10 : (¬ (x1 < 0)) → (¬ ((I 145 9) ≤ x1)) → (¬ (x2 < 0)) → (x2 < 6) → (¬ (¬ x2 = 4)) → (¬ (¬ (I 149 (Int32.toNatClampNeg ((x1 * 6) + 4))) = (-1))) → am_mth d 124 [.ref 145, .int (I 149 (Int32.toNatClampNeg (x1 * 6))), .int (I 149 (Int32.toNatClampNeg ((x1 * 6) + 1))), .int (I 149 (Int32.toNatClampNeg ((x1 * 6) + 2)))] (am_SH, I, J, Pf) (am_af sc d 137 76 [some (.ref 145), some (.int x1), some (.int x2), some (.int (x1 * 6))] [.int (I 149 (Int32.toNatClampNeg ((x1 * 6) + 2))), .int (I 149 (Int32.toNatClampNeg ((x1 * 6) + 1))), .int (I 149 (Int32.toNatClampNeg (x1 * 6))), .ref 145, .int ((x1 * 6) + 4), .ref 149] [.int ((x1 * 6) + 4), .ref 149] (am_SH, I, J, Pf) k n true P)) (q11 : (¬ (x1 < 0)) → (¬ ((I 145 9) ≤ x1)) → (¬ (x2 < 0)) → (¬ (x2 < 6)) → P (.inl (some (.int (-1))), (am_SH, I, J, Pf), k, n)) : am_go sc d 137 (0, [some (.ref 145), some (.int x1), some (.int x2), l3], [], (am_SH, I, J, Pf), k, n) P := by
  refine am_s_iload_n rfl dc137_0.1.1.1 ?_
  refine am_s_if_lt dc137_0.1.1.2 rfl (fun c1 => ?_) (fun c1 => ?_)
  · refine am_s_iconst am_ccm1 dc137_1.1.2.2 ?_
    exact am_s_ireturn dc137_1.2.1.1 rfl (q1 c1)
  · refine am_s_iload_n rfl dc137_0.1.2.1 ?_
    refine am_s_aload_n rfl dc137_0.1.2.2 ?_
    refine am_x_getI (x := I 145 9) dc137_0.2.1.1 rfl rfl (Or.inl rfl) rfl ?_
    refine am_s_ic_ge dc137_0.2.1.2 rfl (fun c2 => ?_) (fun c2 => ?_)
    · refine am_s_iconst am_ccm1 dc137_1.1.2.2 ?_
      exact am_s_ireturn dc137_1.2.1.1 rfl (q2 c1 c2)
    · refine am_s_iload_n rfl dc137_0.2.2.1 ?_
      refine am_s_if_lt dc137_0.2.2.2 rfl (fun c3 => ?_) (fun c3 => ?_)
      · refine am_s_iconst am_ccm1 dc137_1.1.2.2 ?_
        exact am_s_ireturn dc137_1.2.1.1 rfl (q3 c1 c2 c3)
      · refine am_s_iload_n rfl dc137_1.1.1.1 ?_
        refine am_s_bipush am_cb6 dc137_1.1.1.2 ?_
        refine am_s_ic_lt dc137_1.1.2.1 rfl (fun c4 => ?_) (fun c4 => ?_)
        · refine am_s_iload_n rfl dc137_1.2.1.2 ?_
          refine am_s_bipush am_cb6 dc137_1.2.2.1 ?_
          refine am_s_imul dc137_1.2.2.2 ?_
          refine am_s_istore_n (ls' := [some (.ref 145), some (.int x1), some (.int x2), some (.int (x1 * 6))]) rfl rfl dc137_2.1.1.1 ?_
          refine am_s_iload_n rfl dc137_2.1.1.2 ?_
          refine am_s_iconst am_cc4 dc137_2.1.2.1 ?_
          refine am_s_ic_ne dc137_2.1.2.2 rfl (fun c5 => ?_) (fun c5 => ?_)
          · exact q4 c1 c2 c3 c4 c5
          · refine am_s_aload_n rfl dc137_2.2.1.1 ?_
            refine am_s_getR (r := 149) dc137_2.2.1.2 rfl rfl rfl (hp _ _ _ rfl) ?_
            refine am_s_iload_n rfl dc137_2.2.2.1 ?_
            refine am_s_iconst am_cc4 dc137_2.2.2.2 ?_
            refine am_s_iadd dc137_3.1.1.1 ?_
            refine am_x_iaload (x := I 149 (Int32.toNatClampNeg ((x1 * 6) + 4))) dc137_3.1.1.2 rfl (q5 c1 c2 c3 c4 c5) rfl rfl ?_
            refine am_s_iconst am_ccm1 dc137_3.1.2.1 ?_
            refine am_s_ic_ne dc137_3.1.2.2 rfl (fun c6 => ?_) (fun c6 => ?_)
            · exact q6 c1 c2 c3 c4 c5 c6
            · refine am_s_aload_n rfl dc137_3.2.1.1 ?_
              refine am_s_getR (r := 149) dc137_3.2.1.2 rfl rfl rfl (hp _ _ _ rfl) ?_
              refine am_s_iload_n rfl dc137_3.2.2.1 ?_
              refine am_s_iconst am_cc4 dc137_3.2.2.2 ?_
              refine am_s_iadd dc137_4.1.1.1 ?_
              refine am_s_aload_n rfl dc137_4.1.1.2 ?_
              refine am_s_aload_n rfl dc137_4.1.2.1 ?_
              refine am_s_getR (r := 149) dc137_4.1.2.2 rfl rfl rfl (hp _ _ _ rfl) ?_
              refine am_s_iload_n rfl dc137_4.2.1.1 ?_
              refine am_x_iaload (x := I 149 (Int32.toNatClampNeg (x1 * 6))) dc137_4.2.1.2 rfl (q7 c1 c2 c3 c4 c5 c6) rfl rfl ?_
              refine am_s_aload_n rfl dc137_4.2.2.1 ?_
              refine am_s_getR (r := 149) dc137_4.2.2.2 rfl rfl rfl (hp _ _ _ rfl) ?_
              refine am_s_iload_n rfl dc137_5.1.1.1 ?_
              refine am_s_iconst am_cc1 dc137_5.1.1.2 ?_
              refine am_s_iadd dc137_5.1.2.1 ?_
              refine am_x_iaload (x := I 149 (Int32.toNatClampNeg ((x1 * 6) + 1))) dc137_5.1.2.2 rfl (q8 c1 c2 c3 c4 c5 c6) rfl rfl ?_
              refine am_s_aload_n rfl dc137_5.2.1.1 ?_
              refine am_s_getR (r := 149) dc137_5.2.1.2 rfl rfl rfl (hp _ _ _ rfl) ?_
              refine am_s_iload_n rfl dc137_5.2.2.1 ?_
              refine am_s_iconst am_cc2 dc137_5.2.2.2 ?_
              refine am_s_iadd dc137_6.1.1.1 ?_
              refine am_x_iaload (x := I 149 (Int32.toNatClampNeg ((x1 * 6) + 2))) dc137_6.1.1.2 rfl (q9 c1 c2 c3 c4 c5 c6) rfl rfl ?_
              exact am_s_virtual true dc137_6.1.2.1 rfl (by decide) rfl rfl rfl (q10 c1 c2 c3 c4 c5 c6)
        · refine am_s_iconst am_ccm1 dc137_1.1.2.2 ?_
          exact am_s_ireturn dc137_1.2.1.1 rfl (q11 c1 c2 c3 c4)
theorem t137_80 {sc : Option (Nat × (Nat → Int32))} {d k n : Nat} {P : am_O → Prop} {I : am_I} {J : am_J} {Pf : am_R} (hp : am_PF Pf) {l1 : Option Value} {x2 : Int32} {x3 : Int32} (q1 : am_in (x3 + x2) 1200 = true) (q2 : P (.inl (some (.int (I 149 (Int32.toNatClampNeg (x3 + x2))))), (am_SH, I, J, Pf), k, n)) : am_go sc d 137 (80, [some (.ref 145), l1, some (.int x2), some (.int x3)], [], (am_SH, I, J, Pf), k, n) P := by
  refine am_s_aload_n rfl dc137_6.2.1.1 ?_
  refine am_s_getR (r := 149) dc137_6.2.1.2 rfl rfl rfl (hp _ _ _ rfl) ?_
  refine am_s_iload_n rfl dc137_6.2.2.1 ?_
  refine am_s_iload_n rfl dc137_6.2.2.2 ?_
  refine am_s_iadd dc137_7.1 ?_
  refine am_x_iaload (x := I 149 (Int32.toNatClampNeg (x3 + x2))) dc137_7.2.1 rfl (q1) rfl rfl ?_
  exact am_s_ireturn dc137_7.2.2 rfl (q2)
theorem t137_79 {sc : Option (Nat × (Nat → Int32))} {d k n : Nat} {P : am_O → Prop} {I : am_I} {J : am_J} {Pf : am_R} (hp : am_PF Pf) {l1 : Option Value} {x2 : Int32} {x3 : Int32} {s1 : Int32} {s2 : Int32} (q1 : am_in s1 1200 = true) (q2 : am_go sc d 137 (80, [some (.ref 145), l1, some (.int x2), some (.int x3)], [], (am_SH, am_u I 149 (Int32.toNatClampNeg s1) s2, J, Pf), k, n) P) : am_go sc d 137 (79, [some (.ref 145), l1, some (.int x2), some (.int x3)], [.int s2, .int s1, .ref 149], (am_SH, I, J, Pf), k, n) P := by
  refine am_s_iastore dc137_6.1.2.2 rfl (q1) rfl ?_
  exact q2
-- sumOf (LPrunedParses$Law;I)I
theorem dc138_0 : (((decode (am_by 138) 0 = .ok (.iconst 0, 1)) ∧ (decode (am_by 138) 1 = .ok (.istore_n 3, 1))) ∧ ((decode (am_by 138) 2 = .ok (.iconst 0, 1)) ∧ (decode (am_by 138) 3 = .ok (.istore 4, 2)))) ∧ (((decode (am_by 138) 5 = .ok (.iload 4, 2)) ∧ (decode (am_by 138) 7 = .ok (.iload_n 2, 1))) ∧ ((decode (am_by 138) 8 = .ok (.if_icmp .ge 19, 3)) ∧ (decode (am_by 138) 11 = .ok (.iload_n 3, 1)))) := by decide +kernel
theorem dc138_1 : (((decode (am_by 138) 12 = .ok (.aload_n 1, 1)) ∧ (decode (am_by 138) 13 = .ok (.aload_n 0, 1))) ∧ ((decode (am_by 138) 14 = .ok (.iload 4, 2)) ∧ (decode (am_by 138) 16 = .ok (.invokevirtual 179, 3)))) ∧ (((decode (am_by 138) 19 = .ok (.iadd, 1)) ∧ (decode (am_by 138) 20 = .ok (.istore_n 3, 1))) ∧ ((decode (am_by 138) 21 = .ok (.iinc 4 1, 3)) ∧ (decode (am_by 138) 24 = .ok (.goto (-19), 3)))) := by decide +kernel
theorem dc138_2 : (decode (am_by 138) 27 = .ok (.iload_n 3, 1)) ∧ (decode (am_by 138) 28 = .ok (.ireturn, 1)) := by decide +kernel
theorem t138_0 {sc : Option (Nat × (Nat → Int32))} {d k n : Nat} {P : am_O → Prop} {I : am_I} {J : am_J} {Pf : am_R} (hp : am_PF Pf) {x1 : Nat} (hx1 : am_SH[x1]? = some (.inl 2)) {x2 : Int32} {l3 : Option Value} {l4 : Option Value} (q1 : am_go sc d 138 (5, [some (.ref 145), some (.ref x1), some (.int x2), some (.int 0), some (.int 0)], [], (am_SH, I, J, Pf), k, n) P) : am_go sc d 138 (0, [some (.ref 145), some (.ref x1), some (.int x2), l3, l4], [], (am_SH, I, J, Pf), k, n) P := by
  refine am_s_iconst am_cc0 dc138_0.1.1.1 ?_
  refine am_s_istore_n (ls' := [some (.ref 145), some (.ref x1), some (.int x2), some (.int 0), l4]) rfl rfl dc138_0.1.1.2 ?_
  refine am_s_iconst am_cc0 dc138_0.1.2.1 ?_
  refine am_s_istore (ls' := [some (.ref 145), some (.ref x1), some (.int x2), some (.int 0), some (.int 0)]) rfl rfl dc138_0.1.2.2 ?_
  exact q1
theorem t138_5 {sc : Option (Nat × (Nat → Int32))} {d k n : Nat} {P : am_O → Prop} {I : am_I} {J : am_J} {Pf : am_R} (hp : am_PF Pf) {x1 : Nat} (hx1 : am_SH[x1]? = some (.inl 2)) {x2 : Int32} {x3 : Int32} {x4 : Int32} (q1 : (x2 ≤ x4) → P (.inl (some (.int x3)), (am_SH, I, J, Pf), k, n)) (q2 : (¬ (x2 ≤ x4)) → am_mth d 48 [.ref x1, .ref 145, .int x4] (am_SH, I, J, Pf) (am_af sc d 138 16 [some (.ref 145), some (.ref x1), some (.int x2), some (.int x3), some (.int x4)] [.int x4, .ref 145, .ref x1, .int x3] [.int x3] (am_SH, I, J, Pf) k n false P)) : am_go sc d 138 (5, [some (.ref 145), some (.ref x1), some (.int x2), some (.int x3), some (.int x4)], [], (am_SH, I, J, Pf), k, n) P := by
  refine am_s_iload rfl dc138_0.2.1.1 ?_
  refine am_s_iload_n rfl dc138_0.2.1.2 ?_
  refine am_s_ic_ge dc138_0.2.2.1 rfl (fun c1 => ?_) (fun c1 => ?_)
  · refine am_s_iload_n rfl dc138_2.1 ?_
    exact am_s_ireturn dc138_2.2 rfl (q1 c1)
  · refine am_s_iload_n rfl dc138_0.2.2.2 ?_
    refine am_s_aload_n rfl dc138_1.1.1.1 ?_
    refine am_s_aload_n rfl dc138_1.1.1.2 ?_
    refine am_s_iload rfl dc138_1.1.2.1 ?_
    exact am_s_virtual false dc138_1.1.2.2 rfl (by decide) rfl hx1 rfl (q2 c1)
theorem t138_19 {sc : Option (Nat × (Nat → Int32))} {d k n : Nat} {P : am_O → Prop} {I : am_I} {J : am_J} {Pf : am_R} (hp : am_PF Pf) {x1 : Nat} (hx1 : am_SH[x1]? = some (.inl 2)) {x2 : Int32} {l3 : Option Value} {x4 : Int32} {s0 : Int32} {s1 : Int32} (q1 : am_go sc d 138 (5, [some (.ref 145), some (.ref x1), some (.int x2), some (.int (s0 + s1)), some (.int (x4 + 1))], [], (am_SH, I, J, Pf), k, n) P) : am_go sc d 138 (19, [some (.ref 145), some (.ref x1), some (.int x2), l3, some (.int x4)], [.int s1, .int s0], (am_SH, I, J, Pf), k, n) P := by
  refine am_s_iadd dc138_1.2.1.1 ?_
  refine am_s_istore_n (ls' := [some (.ref 145), some (.ref x1), some (.int x2), some (.int (s0 + s1)), some (.int x4)]) rfl rfl dc138_1.2.1.2 ?_
  refine am_s_iinc (ls' := [some (.ref 145), some (.ref x1), some (.int x2), some (.int (s0 + s1)), some (.int (x4 + 1))]) am_cc1 rfl rfl dc138_1.2.2.1 ?_
  refine am_s_goto rfl dc138_1.2.2.2 ?_
  exact q1
