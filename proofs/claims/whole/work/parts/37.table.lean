/-! Walks: table -/
-- copyText (LPrunedParses$Table;)V
theorem dc109_0 : (((decode (am_by 109) 0 = .ok (.aload_n 0, 1)) ∧ (decode (am_by 109) 1 = .ok (.aload_n 1, 1))) ∧ ((decode (am_by 109) 2 = .ok (.getfield 24, 3)) ∧ (decode (am_by 109) 5 = .ok (.putfield 24, 3)))) ∧ (((decode (am_by 109) 8 = .ok (.aload_n 1, 1)) ∧ (decode (am_by 109) 9 = .ok (.getfield 9, 3))) ∧ ((decode (am_by 109) 12 = .ok (.iconst 0, 1)) ∧ (decode (am_by 109) 13 = .ok (.aload_n 0, 1)))) := by decide +kernel
theorem dc109_1 : ((decode (am_by 109) 14 = .ok (.getfield 9, 3)) ∧ ((decode (am_by 109) 17 = .ok (.iconst 0, 1)) ∧ (decode (am_by 109) 18 = .ok (.aload_n 0, 1)))) ∧ ((decode (am_by 109) 19 = .ok (.getfield 24, 3)) ∧ ((decode (am_by 109) 22 = .ok (.invokestatic 28, 3)) ∧ (decode (am_by 109) 25 = .ok (.return_, 1)))) := by decide +kernel
theorem t109_0 {sc : Option (Nat × (Nat → Int32))} {d k n : Nat} {P : am_O → Prop} {I : am_I} {J : am_J} {Pf : am_R} (hp : am_PF Pf) {x0 : Nat} (hx0 : am_SH[x0]? = some (.inl 9)) {x1 : Nat} (hx1 : am_SH[x1]? = some (.inl 9)) (q1 : am_go sc d 109 (22, [some (.ref x0), some (.ref x1)], [.int (I x1 1), .int 0, .ref (x0 + 1), .int 0, .ref (x1 + 1)], (am_SH, am_u I x0 1 (I x1 1), J, Pf), k, n) P) : am_go sc d 109 (0, [some (.ref x0), some (.ref x1)], [], (am_SH, I, J, Pf), k, n) P := by
  refine am_s_aload_n rfl dc109_0.1.1.1 ?_
  refine am_s_aload_n rfl dc109_0.1.1.2 ?_
  refine am_x_getI (x := I x1 1) dc109_0.1.2.1 rfl hx1 (Or.inl rfl) rfl ?_
  refine am_s_putI dc109_0.1.2.2 rfl hx0 rfl rfl ?_
  refine am_s_aload_n rfl dc109_0.2.1.1 ?_
  refine am_s_getR (r := x1 + 1) dc109_0.2.1.2 rfl hx1 rfl (am_r9_0 hp hx1) ?_
  refine am_s_iconst am_cc0 dc109_0.2.2.1 ?_
  refine am_s_aload_n rfl dc109_0.2.2.2 ?_
  refine am_s_getR (r := x0 + 1) dc109_1.1.1 rfl hx0 rfl (am_r9_0 hp hx0) ?_
  refine am_s_iconst am_cc0 dc109_1.1.2.1 ?_
  refine am_s_aload_n rfl dc109_1.1.2.2 ?_
  refine am_x_getI (x := I x1 1) dc109_1.2.1 rfl hx0 (Or.inl rfl) (by simp [am_u]) ?_
  exact q1
-- makeRoom (II)V
theorem dc110_0 : (((decode (am_by 110) 0 = .ok (.aload_n 0, 1)) ∧ (decode (am_by 110) 1 = .ok (.getfield 24, 3))) ∧ ((decode (am_by 110) 4 = .ok (.iconst 1, 1)) ∧ (decode (am_by 110) 5 = .ok (.isub, 1)))) ∧ (((decode (am_by 110) 6 = .ok (.istore_n 3, 1)) ∧ (decode (am_by 110) 7 = .ok (.iload_n 3, 1))) ∧ ((decode (am_by 110) 8 = .ok (.iload_n 1, 1)) ∧ (decode (am_by 110) 9 = .ok (.if_icmp .lt 23, 3)))) := by decide +kernel
theorem dc110_1 : (((decode (am_by 110) 12 = .ok (.aload_n 0, 1)) ∧ (decode (am_by 110) 13 = .ok (.getfield 9, 3))) ∧ ((decode (am_by 110) 16 = .ok (.iload_n 3, 1)) ∧ (decode (am_by 110) 17 = .ok (.iload_n 2, 1)))) ∧ (((decode (am_by 110) 18 = .ok (.iadd, 1)) ∧ (decode (am_by 110) 19 = .ok (.aload_n 0, 1))) ∧ ((decode (am_by 110) 20 = .ok (.getfield 9, 3)) ∧ (decode (am_by 110) 23 = .ok (.iload_n 3, 1)))) := by decide +kernel
theorem dc110_2 : (((decode (am_by 110) 24 = .ok (.iaload, 1)) ∧ (decode (am_by 110) 25 = .ok (.iastore, 1))) ∧ ((decode (am_by 110) 26 = .ok (.iinc 3 (-1), 3)) ∧ (decode (am_by 110) 29 = .ok (.goto (-22), 3)))) ∧ (((decode (am_by 110) 32 = .ok (.aload_n 0, 1)) ∧ (decode (am_by 110) 33 = .ok (.dup, 1))) ∧ ((decode (am_by 110) 34 = .ok (.getfield 24, 3)) ∧ (decode (am_by 110) 37 = .ok (.iload_n 2, 1)))) := by decide +kernel
theorem dc110_3 : (decode (am_by 110) 38 = .ok (.iadd, 1)) ∧ ((decode (am_by 110) 39 = .ok (.putfield 24, 3)) ∧ (decode (am_by 110) 42 = .ok (.return_, 1))) := by decide +kernel
theorem t110_0 {sc : Option (Nat × (Nat → Int32))} {d k n : Nat} {P : am_O → Prop} {I : am_I} {J : am_J} {Pf : am_R} (hp : am_PF Pf) {x0 : Nat} (hx0 : am_SH[x0]? = some (.inl 9)) {x1 : Int32} {x2 : Int32} {l3 : Option Value} (q1 : am_go sc d 110 (7, [some (.ref x0), some (.int x1), some (.int x2), some (.int ((I x0 1) - 1))], [], (am_SH, I, J, Pf), k, n) P) : am_go sc d 110 (0, [some (.ref x0), some (.int x1), some (.int x2), l3], [], (am_SH, I, J, Pf), k, n) P := by
  refine am_s_aload_n rfl dc110_0.1.1.1 ?_
  refine am_x_getI (x := I x0 1) dc110_0.1.1.2 rfl hx0 (Or.inl rfl) rfl ?_
  refine am_s_iconst am_cc1 dc110_0.1.2.1 ?_
  refine am_s_isub dc110_0.1.2.2 ?_
  refine am_s_istore_n (ls' := [some (.ref x0), some (.int x1), some (.int x2), some (.int ((I x0 1) - 1))]) rfl rfl dc110_0.2.1.1 ?_
  exact q1
theorem t110_7 {sc : Option (Nat × (Nat → Int32))} {d k n : Nat} {P : am_O → Prop} {I : am_I} {J : am_J} {Pf : am_R} (hp : am_PF Pf) {x0 : Nat} (hx0 : am_SH[x0]? = some (.inl 9)) {x1 : Int32} {x2 : Int32} {x3 : Int32} (q1 : (x3 < x1) → P (.inl none, (am_SH, am_u I x0 1 ((I x0 1) + x2), J, Pf), k, n)) (q2 : (¬ (x3 < x1)) → am_in x3 24 = true) (q3 : (¬ (x3 < x1)) → am_in (x3 + x2) 24 = true) (q4 : (¬ (x3 < x1)) → am_go sc d 110 (7, [some (.ref x0), some (.int x1), some (.int x2), some (.int (x3 + (-1)))], [], (am_SH, am_u I (x0 + 1) (Int32.toNatClampNeg (x3 + x2)) (I (x0 + 1) (Int32.toNatClampNeg x3)), J, Pf), k, n) P) : am_go sc d 110 (7, [some (.ref x0), some (.int x1), some (.int x2), some (.int x3)], [], (am_SH, I, J, Pf), k, n) P := by
  refine am_s_iload_n rfl dc110_0.2.1.2 ?_
  refine am_s_iload_n rfl dc110_0.2.2.1 ?_
  refine am_s_ic_lt dc110_0.2.2.2 rfl (fun c1 => ?_) (fun c1 => ?_)
  · refine am_s_aload_n rfl dc110_2.2.1.1 ?_
    refine am_s_dup rfl dc110_2.2.1.2 ?_
    refine am_x_getI (x := I x0 1) dc110_2.2.2.1 rfl hx0 (Or.inl rfl) rfl ?_
    refine am_s_iload_n rfl dc110_2.2.2.2 ?_
    refine am_s_iadd dc110_3.1 ?_
    refine am_s_putI dc110_3.2.1 rfl hx0 rfl rfl ?_
    exact am_s_return dc110_3.2.2 rfl (q1 c1)
  · refine am_s_aload_n rfl dc110_1.1.1.1 ?_
    refine am_s_getR (r := x0 + 1) dc110_1.1.1.2 rfl hx0 rfl (am_r9_0 hp hx0) ?_
    refine am_s_iload_n rfl dc110_1.1.2.1 ?_
    refine am_s_iload_n rfl dc110_1.1.2.2 ?_
    refine am_s_iadd dc110_1.2.1.1 ?_
    refine am_s_aload_n rfl dc110_1.2.1.2 ?_
    refine am_s_getR (r := x0 + 1) dc110_1.2.2.1 rfl hx0 rfl (am_r9_0 hp hx0) ?_
    refine am_s_iload_n rfl dc110_1.2.2.2 ?_
    refine am_x_iaload (x := I (x0 + 1) (Int32.toNatClampNeg x3)) dc110_2.1.1.1 (am_h9_0 hx0) (q2 c1) rfl rfl ?_
    refine am_s_iastore dc110_2.1.1.2 (am_h9_0 hx0) (q3 c1) rfl ?_
    refine am_s_iinc (ls' := [some (.ref x0), some (.int x1), some (.int x2), some (.int (x3 + (-1)))]) am_ccm1 rfl rfl dc110_2.1.2.1 ?_
    refine am_s_goto rfl dc110_2.1.2.2 ?_
    exact q4 c1
-- typeSigns (I[III)Z
theorem dc111_0 : (((decode (am_by 111) 0 = .ok (.iload_n 1, 1)) ∧ (decode (am_by 111) 1 = .ok (.ifCond .lt 29, 3))) ∧ ((decode (am_by 111) 4 = .ok (.iload_n 1, 1)) ∧ (decode (am_by 111) 5 = .ok (.aload_n 0, 1)))) ∧ (((decode (am_by 111) 6 = .ok (.getfield 24, 3)) ∧ (decode (am_by 111) 9 = .ok (.if_icmp .gt 21, 3))) ∧ ((decode (am_by 111) 12 = .ok (.iload 4, 2)) ∧ (decode (am_by 111) 14 = .ok (.iconst 1, 1)))) := by decide +kernel
theorem dc111_1 : (((decode (am_by 111) 15 = .ok (.if_icmp .lt 15, 3)) ∧ (decode (am_by 111) 18 = .ok (.aload_n 0, 1))) ∧ ((decode (am_by 111) 19 = .ok (.getfield 24, 3)) ∧ (decode (am_by 111) 22 = .ok (.iload 4, 2)))) ∧ (((decode (am_by 111) 24 = .ok (.iadd, 1)) ∧ (decode (am_by 111) 25 = .ok (.bipush 24, 2))) ∧ ((decode (am_by 111) 27 = .ok (.if_icmp .le 5, 3)) ∧ (decode (am_by 111) 30 = .ok (.iconst 0, 1)))) := by decide +kernel
theorem dc111_2 : (((decode (am_by 111) 31 = .ok (.ireturn, 1)) ∧ (decode (am_by 111) 32 = .ok (.aload_n 0, 1))) ∧ ((decode (am_by 111) 33 = .ok (.iload_n 1, 1)) ∧ (decode (am_by 111) 34 = .ok (.iload 4, 2)))) ∧ (((decode (am_by 111) 36 = .ok (.invokevirtual 34, 3)) ∧ (decode (am_by 111) 39 = .ok (.iconst 0, 1))) ∧ ((decode (am_by 111) 40 = .ok (.istore 5, 2)) ∧ (decode (am_by 111) 42 = .ok (.iload 5, 2)))) := by decide +kernel
theorem dc111_3 : (((decode (am_by 111) 44 = .ok (.iload 4, 2)) ∧ (decode (am_by 111) 46 = .ok (.if_icmp .ge 24, 3))) ∧ ((decode (am_by 111) 49 = .ok (.aload_n 0, 1)) ∧ (decode (am_by 111) 50 = .ok (.getfield 9, 3)))) ∧ (((decode (am_by 111) 53 = .ok (.iload_n 1, 1)) ∧ (decode (am_by 111) 54 = .ok (.iload 5, 2))) ∧ ((decode (am_by 111) 56 = .ok (.iadd, 1)) ∧ (decode (am_by 111) 57 = .ok (.aload_n 2, 1)))) := by decide +kernel
theorem dc111_4 : (((decode (am_by 111) 58 = .ok (.iload_n 3, 1)) ∧ (decode (am_by 111) 59 = .ok (.iload 5, 2))) ∧ ((decode (am_by 111) 61 = .ok (.iadd, 1)) ∧ (decode (am_by 111) 62 = .ok (.iaload, 1)))) ∧ (((decode (am_by 111) 63 = .ok (.iastore, 1)) ∧ (decode (am_by 111) 64 = .ok (.iinc 5 1, 3))) ∧ ((decode (am_by 111) 67 = .ok (.goto (-25), 3)) ∧ (decode (am_by 111) 70 = .ok (.iconst 1, 1)))) := by decide +kernel
theorem dc111_5 : decode (am_by 111) 71 = .ok (.ireturn, 1) := by decide +kernel
theorem t111_0 {sc : Option (Nat × (Nat → Int32))} {d k n : Nat} {P : am_O → Prop} {I : am_I} {J : am_J} {Pf : am_R} (hp : am_PF Pf) {x0 : Nat} (hx0 : am_SH[x0]? = some (.inl 9)) {x1 : Int32} {x2 : Nat} {Lx2 : Nat} (hx2 : am_SH[x2]? = some (.inr (0, Lx2))) {x3 : Int32} {x4 : Int32} {l5 : Option Value} (q1 : (x1 < 0) → P (.inl (some (.int 0)), (am_SH, I, J, Pf), k, n)) (q2 : (¬ (x1 < 0)) → ((I x0 1) < x1) → P (.inl (some (.int 0)), (am_SH, I, J, Pf), k, n)) (q3 : (¬ (x1 < 0)) → (¬ ((I x0 1) < x1)) → (x4 < 1) → P (.inl (some (.int 0)), (am_SH, I, J, Pf), k, n)) (q4 : (¬ (x1 < 0)) → (¬ ((I x0 1) < x1)) → (¬ (x4 < 1)) → (((I x0 1) + x4) ≤ 24) → am_mth d 110 [.ref x0, .int x1, .int x4] (am_SH, I, J, Pf) (am_af sc d 111 36 [some (.ref x0), some (.int x1), some (.ref x2), some (.int x3), some (.int x4), l5] [.int x4, .int x1, .ref x0] [] (am_SH, I, J, Pf) k n true P)) (q5 : (¬ (x1 < 0)) → (¬ ((I x0 1) < x1)) → (¬ (x4 < 1)) → (¬ (((I x0 1) + x4) ≤ 24)) → P (.inl (some (.int 0)), (am_SH, I, J, Pf), k, n)) : am_go sc d 111 (0, [some (.ref x0), some (.int x1), some (.ref x2), some (.int x3), some (.int x4), l5], [], (am_SH, I, J, Pf), k, n) P := by
  refine am_s_iload_n rfl dc111_0.1.1.1 ?_
  refine am_s_if_lt dc111_0.1.1.2 rfl (fun c1 => ?_) (fun c1 => ?_)
  · refine am_s_iconst am_cc0 dc111_1.2.2.2 ?_
    exact am_s_zreturn dc111_2.1.1.1 rfl (by decide) (q1 c1)
  · refine am_s_iload_n rfl dc111_0.1.2.1 ?_
    refine am_s_aload_n rfl dc111_0.1.2.2 ?_
    refine am_x_getI (x := I x0 1) dc111_0.2.1.1 rfl hx0 (Or.inl rfl) rfl ?_
    refine am_s_ic_gt dc111_0.2.1.2 rfl (fun c2 => ?_) (fun c2 => ?_)
    · refine am_s_iconst am_cc0 dc111_1.2.2.2 ?_
      exact am_s_zreturn dc111_2.1.1.1 rfl (by decide) (q2 c1 c2)
    · refine am_s_iload rfl dc111_0.2.2.1 ?_
      refine am_s_iconst am_cc1 dc111_0.2.2.2 ?_
      refine am_s_ic_lt dc111_1.1.1.1 rfl (fun c3 => ?_) (fun c3 => ?_)
      · refine am_s_iconst am_cc0 dc111_1.2.2.2 ?_
        exact am_s_zreturn dc111_2.1.1.1 rfl (by decide) (q3 c1 c2 c3)
      · refine am_s_aload_n rfl dc111_1.1.1.2 ?_
        refine am_x_getI (x := I x0 1) dc111_1.1.2.1 rfl hx0 (Or.inl rfl) rfl ?_
        refine am_s_iload rfl dc111_1.1.2.2 ?_
        refine am_s_iadd dc111_1.2.1.1 ?_
        refine am_s_bipush am_cb24 dc111_1.2.1.2 ?_
        refine am_s_ic_le dc111_1.2.2.1 rfl (fun c4 => ?_) (fun c4 => ?_)
        · refine am_s_aload_n rfl dc111_2.1.1.2 ?_
          refine am_s_iload_n rfl dc111_2.1.2.1 ?_
          refine am_s_iload rfl dc111_2.1.2.2 ?_
          exact am_s_virtual true dc111_2.2.1.1 rfl (by decide) rfl hx0 rfl (q4 c1 c2 c3 c4)
        · refine am_s_iconst am_cc0 dc111_1.2.2.2 ?_
          exact am_s_zreturn dc111_2.1.1.1 rfl (by decide) (q5 c1 c2 c3 c4)
theorem t111_42 {sc : Option (Nat × (Nat → Int32))} {d k n : Nat} {P : am_O → Prop} {I : am_I} {J : am_J} {Pf : am_R} (hp : am_PF Pf) {x0 : Nat} (hx0 : am_SH[x0]? = some (.inl 9)) {x1 : Int32} {x2 : Nat} {Lx2 : Nat} (hx2 : am_SH[x2]? = some (.inr (0, Lx2))) {x3 : Int32} {x4 : Int32} {x5 : Int32} (q1 : (x4 ≤ x5) → P (.inl (some (.int 1)), (am_SH, I, J, Pf), k, n)) (q2 : (¬ (x4 ≤ x5)) → am_in (x3 + x5) Lx2 = true) (q3 : (¬ (x4 ≤ x5)) → am_in (x1 + x5) 24 = true) (q4 : (¬ (x4 ≤ x5)) → am_go sc d 111 (42, [some (.ref x0), some (.int x1), some (.ref x2), some (.int x3), some (.int x4), some (.int (x5 + 1))], [], (am_SH, am_u I (x0 + 1) (Int32.toNatClampNeg (x1 + x5)) (I x2 (Int32.toNatClampNeg (x3 + x5))), J, Pf), k, n) P) : am_go sc d 111 (42, [some (.ref x0), some (.int x1), some (.ref x2), some (.int x3), some (.int x4), some (.int x5)], [], (am_SH, I, J, Pf), k, n) P := by
  refine am_s_iload rfl dc111_2.2.2.2 ?_
  refine am_s_iload rfl dc111_3.1.1.1 ?_
  refine am_s_ic_ge dc111_3.1.1.2 rfl (fun c1 => ?_) (fun c1 => ?_)
  · refine am_s_iconst am_cc1 dc111_4.2.2.2 ?_
    exact am_s_zreturn dc111_5 rfl (by decide) (q1 c1)
  · refine am_s_aload_n rfl dc111_3.1.2.1 ?_
    refine am_s_getR (r := x0 + 1) dc111_3.1.2.2 rfl hx0 rfl (am_r9_0 hp hx0) ?_
    refine am_s_iload_n rfl dc111_3.2.1.1 ?_
    refine am_s_iload rfl dc111_3.2.1.2 ?_
    refine am_s_iadd dc111_3.2.2.1 ?_
    refine am_s_aload_n rfl dc111_3.2.2.2 ?_
    refine am_s_iload_n rfl dc111_4.1.1.1 ?_
    refine am_s_iload rfl dc111_4.1.1.2 ?_
    refine am_s_iadd dc111_4.1.2.1 ?_
    refine am_x_iaload (x := I x2 (Int32.toNatClampNeg (x3 + x5))) dc111_4.1.2.2 hx2 (q2 c1) rfl rfl ?_
    refine am_s_iastore dc111_4.2.1.1 (am_h9_0 hx0) (q3 c1) rfl ?_
    refine am_s_iinc (ls' := [some (.ref x0), some (.int x1), some (.ref x2), some (.int x3), some (.int x4), some (.int (x5 + 1))]) am_cc1 rfl rfl dc111_4.2.1.2 ?_
    refine am_s_goto rfl dc111_4.2.2.1 ?_
    exact q4 c1
theorem t111_39 {sc : Option (Nat × (Nat → Int32))} {d k n : Nat} {P : am_O → Prop} {I : am_I} {J : am_J} {Pf : am_R} (hp : am_PF Pf) {x0 : Nat} (hx0 : am_SH[x0]? = some (.inl 9)) {x1 : Int32} {x2 : Nat} {Lx2 : Nat} (hx2 : am_SH[x2]? = some (.inr (0, Lx2))) {x3 : Int32} {x4 : Int32} {l5 : Option Value} (q1 : am_go sc d 111 (42, [some (.ref x0), some (.int x1), some (.ref x2), some (.int x3), some (.int x4), some (.int 0)], [], (am_SH, I, J, Pf), k, n) P) : am_go sc d 111 (39, [some (.ref x0), some (.int x1), some (.ref x2), some (.int x3), some (.int x4), l5], [], (am_SH, I, J, Pf), k, n) P := by
  refine am_s_iconst am_cc0 dc111_2.2.1.2 ?_
  refine am_s_istore (ls' := [some (.ref x0), some (.int x1), some (.ref x2), some (.int x3), some (.int x4), some (.int 0)]) rfl rfl dc111_2.2.2.1 ?_
  exact q1
-- typeSign (II)Z
theorem dc112_0 : (((decode (am_by 112) 0 = .ok (.iload_n 1, 1)) ∧ (decode (am_by 112) 1 = .ok (.ifCond .lt 22, 3))) ∧ ((decode (am_by 112) 4 = .ok (.iload_n 1, 1)) ∧ (decode (am_by 112) 5 = .ok (.aload_n 0, 1)))) ∧ (((decode (am_by 112) 6 = .ok (.getfield 24, 3)) ∧ (decode (am_by 112) 9 = .ok (.if_icmp .gt 14, 3))) ∧ ((decode (am_by 112) 12 = .ok (.aload_n 0, 1)) ∧ (decode (am_by 112) 13 = .ok (.getfield 24, 3)))) := by decide +kernel
theorem dc112_1 : (((decode (am_by 112) 16 = .ok (.iconst 1, 1)) ∧ (decode (am_by 112) 17 = .ok (.iadd, 1))) ∧ ((decode (am_by 112) 18 = .ok (.bipush 24, 2)) ∧ (decode (am_by 112) 20 = .ok (.if_icmp .le 5, 3)))) ∧ (((decode (am_by 112) 23 = .ok (.iconst 0, 1)) ∧ (decode (am_by 112) 24 = .ok (.ireturn, 1))) ∧ ((decode (am_by 112) 25 = .ok (.aload_n 0, 1)) ∧ (decode (am_by 112) 26 = .ok (.iload_n 1, 1)))) := by decide +kernel
theorem dc112_2 : (((decode (am_by 112) 27 = .ok (.iconst 1, 1)) ∧ (decode (am_by 112) 28 = .ok (.invokevirtual 34, 3))) ∧ ((decode (am_by 112) 31 = .ok (.aload_n 0, 1)) ∧ (decode (am_by 112) 32 = .ok (.getfield 9, 3)))) ∧ (((decode (am_by 112) 35 = .ok (.iload_n 1, 1)) ∧ (decode (am_by 112) 36 = .ok (.iload_n 2, 1))) ∧ ((decode (am_by 112) 37 = .ok (.iastore, 1)) ∧ (decode (am_by 112) 38 = .ok (.iconst 1, 1)))) := by decide +kernel
theorem dc112_3 : decode (am_by 112) 39 = .ok (.ireturn, 1) := by decide +kernel
theorem t112_0 {sc : Option (Nat × (Nat → Int32))} {d k n : Nat} {P : am_O → Prop} {I : am_I} {J : am_J} {Pf : am_R} (hp : am_PF Pf) {x0 : Nat} (hx0 : am_SH[x0]? = some (.inl 9)) {x1 : Int32} {x2 : Int32} (q1 : (x1 < 0) → P (.inl (some (.int 0)), (am_SH, I, J, Pf), k, n)) (q2 : (¬ (x1 < 0)) → ((I x0 1) < x1) → P (.inl (some (.int 0)), (am_SH, I, J, Pf), k, n)) (q3 : (¬ (x1 < 0)) → (¬ ((I x0 1) < x1)) → (((I x0 1) + 1) ≤ 24) → am_mth d 110 [.ref x0, .int x1, .int 1] (am_SH, I, J, Pf) (am_af sc d 112 28 [some (.ref x0), some (.int x1), some (.int x2)] [.int 1, .int x1, .ref x0] [] (am_SH, I, J, Pf) k n true P)) (q4 : (¬ (x1 < 0)) → (¬ ((I x0 1) < x1)) → (¬ (((I x0 1) + 1) ≤ 24)) → P (.inl (some (.int 0)), (am_SH, I, J, Pf), k, n)) : am_go sc d 112 (0, [some (.ref x0), some (.int x1), some (.int x2)], [], (am_SH, I, J, Pf), k, n) P := by
  refine am_s_iload_n rfl dc112_0.1.1.1 ?_
  refine am_s_if_lt dc112_0.1.1.2 rfl (fun c1 => ?_) (fun c1 => ?_)
  · refine am_s_iconst am_cc0 dc112_1.2.1.1 ?_
    exact am_s_zreturn dc112_1.2.1.2 rfl (by decide) (q1 c1)
  · refine am_s_iload_n rfl dc112_0.1.2.1 ?_
    refine am_s_aload_n rfl dc112_0.1.2.2 ?_
    refine am_x_getI (x := I x0 1) dc112_0.2.1.1 rfl hx0 (Or.inl rfl) rfl ?_
    refine am_s_ic_gt dc112_0.2.1.2 rfl (fun c2 => ?_) (fun c2 => ?_)
    · refine am_s_iconst am_cc0 dc112_1.2.1.1 ?_
      exact am_s_zreturn dc112_1.2.1.2 rfl (by decide) (q2 c1 c2)
    · refine am_s_aload_n rfl dc112_0.2.2.1 ?_
      refine am_x_getI (x := I x0 1) dc112_0.2.2.2 rfl hx0 (Or.inl rfl) rfl ?_
      refine am_s_iconst am_cc1 dc112_1.1.1.1 ?_
      refine am_s_iadd dc112_1.1.1.2 ?_
      refine am_s_bipush am_cb24 dc112_1.1.2.1 ?_
      refine am_s_ic_le dc112_1.1.2.2 rfl (fun c3 => ?_) (fun c3 => ?_)
      · refine am_s_aload_n rfl dc112_1.2.2.1 ?_
        refine am_s_iload_n rfl dc112_1.2.2.2 ?_
        refine am_s_iconst am_cc1 dc112_2.1.1.1 ?_
        exact am_s_virtual true dc112_2.1.1.2 rfl (by decide) rfl hx0 rfl (q3 c1 c2 c3)
      · refine am_s_iconst am_cc0 dc112_1.2.1.1 ?_
        exact am_s_zreturn dc112_1.2.1.2 rfl (by decide) (q4 c1 c2 c3)
theorem t112_31 {sc : Option (Nat × (Nat → Int32))} {d k n : Nat} {P : am_O → Prop} {I : am_I} {J : am_J} {Pf : am_R} (hp : am_PF Pf) {x0 : Nat} (hx0 : am_SH[x0]? = some (.inl 9)) {x1 : Int32} {x2 : Int32} (q1 : am_in x1 24 = true) (q2 : P (.inl (some (.int 1)), (am_SH, am_u I (x0 + 1) (Int32.toNatClampNeg x1) x2, J, Pf), k, n)) : am_go sc d 112 (31, [some (.ref x0), some (.int x1), some (.int x2)], [], (am_SH, I, J, Pf), k, n) P := by
  refine am_s_aload_n rfl dc112_2.1.2.1 ?_
  refine am_s_getR (r := x0 + 1) dc112_2.1.2.2 rfl hx0 rfl (am_r9_0 hp hx0) ?_
  refine am_s_iload_n rfl dc112_2.2.1.1 ?_
  refine am_s_iload_n rfl dc112_2.2.1.2 ?_
  refine am_s_iastore dc112_2.2.2.1 (am_h9_0 hx0) (q1) rfl ?_
  refine am_s_iconst am_cc1 dc112_2.2.2.2 ?_
  exact am_s_zreturn dc112_3 rfl (by decide) (q2)
-- cutSigns (II)Z
theorem dc113_0 : (((decode (am_by 113) 0 = .ok (.iload_n 1, 1)) ∧ (decode (am_by 113) 1 = .ok (.ifCond .lt 18, 3))) ∧ ((decode (am_by 113) 4 = .ok (.iload_n 2, 1)) ∧ (decode (am_by 113) 5 = .ok (.iconst 1, 1)))) ∧ (((decode (am_by 113) 6 = .ok (.if_icmp .lt 13, 3)) ∧ (decode (am_by 113) 9 = .ok (.iload_n 1, 1))) ∧ ((decode (am_by 113) 10 = .ok (.iload_n 2, 1)) ∧ (decode (am_by 113) 11 = .ok (.iadd, 1)))) := by decide +kernel
theorem dc113_1 : (((decode (am_by 113) 12 = .ok (.aload_n 0, 1)) ∧ (decode (am_by 113) 13 = .ok (.getfield 24, 3))) ∧ ((decode (am_by 113) 16 = .ok (.if_icmp .le 5, 3)) ∧ (decode (am_by 113) 19 = .ok (.iconst 0, 1)))) ∧ (((decode (am_by 113) 20 = .ok (.ireturn, 1)) ∧ (decode (am_by 113) 21 = .ok (.iload_n 1, 1))) ∧ ((decode (am_by 113) 22 = .ok (.iload_n 2, 1)) ∧ (decode (am_by 113) 23 = .ok (.iadd, 1)))) := by decide +kernel
theorem dc113_2 : (((decode (am_by 113) 24 = .ok (.istore_n 3, 1)) ∧ (decode (am_by 113) 25 = .ok (.iload_n 3, 1))) ∧ ((decode (am_by 113) 26 = .ok (.aload_n 0, 1)) ∧ (decode (am_by 113) 27 = .ok (.getfield 24, 3)))) ∧ (((decode (am_by 113) 30 = .ok (.if_icmp .ge 23, 3)) ∧ (decode (am_by 113) 33 = .ok (.aload_n 0, 1))) ∧ ((decode (am_by 113) 34 = .ok (.getfield 9, 3)) ∧ (decode (am_by 113) 37 = .ok (.iload_n 3, 1)))) := by decide +kernel
theorem dc113_3 : (((decode (am_by 113) 38 = .ok (.iload_n 2, 1)) ∧ (decode (am_by 113) 39 = .ok (.isub, 1))) ∧ ((decode (am_by 113) 40 = .ok (.aload_n 0, 1)) ∧ (decode (am_by 113) 41 = .ok (.getfield 9, 3)))) ∧ (((decode (am_by 113) 44 = .ok (.iload_n 3, 1)) ∧ (decode (am_by 113) 45 = .ok (.iaload, 1))) ∧ ((decode (am_by 113) 46 = .ok (.iastore, 1)) ∧ (decode (am_by 113) 47 = .ok (.iinc 3 1, 3)))) := by decide +kernel
theorem dc113_4 : (((decode (am_by 113) 50 = .ok (.goto (-25), 3)) ∧ (decode (am_by 113) 53 = .ok (.aload_n 0, 1))) ∧ ((decode (am_by 113) 54 = .ok (.dup, 1)) ∧ (decode (am_by 113) 55 = .ok (.getfield 24, 3)))) ∧ (((decode (am_by 113) 58 = .ok (.iload_n 2, 1)) ∧ (decode (am_by 113) 59 = .ok (.isub, 1))) ∧ ((decode (am_by 113) 60 = .ok (.putfield 24, 3)) ∧ (decode (am_by 113) 63 = .ok (.iconst 1, 1)))) := by decide +kernel
theorem dc113_5 : decode (am_by 113) 64 = .ok (.ireturn, 1) := by decide +kernel
theorem t113_0 {sc : Option (Nat × (Nat → Int32))} {d k n : Nat} {P : am_O → Prop} {I : am_I} {J : am_J} {Pf : am_R} (hp : am_PF Pf) {x0 : Nat} (hx0 : am_SH[x0]? = some (.inl 9)) {x1 : Int32} {x2 : Int32} {l3 : Option Value} (q1 : (x1 < 0) → P (.inl (some (.int 0)), (am_SH, I, J, Pf), k, n)) (q2 : (¬ (x1 < 0)) → (x2 < 1) → P (.inl (some (.int 0)), (am_SH, I, J, Pf), k, n)) (q3 : (¬ (x1 < 0)) → (¬ (x2 < 1)) → ((x1 + x2) ≤ (I x0 1)) → am_go sc d 113 (25, [some (.ref x0), some (.int x1), some (.int x2), some (.int (x1 + x2))], [], (am_SH, I, J, Pf), k, n) P) (q4 : (¬ (x1 < 0)) → (¬ (x2 < 1)) → (¬ ((x1 + x2) ≤ (I x0 1))) → P (.inl (some (.int 0)), (am_SH, I, J, Pf), k, n)) : am_go sc d 113 (0, [some (.ref x0), some (.int x1), some (.int x2), l3], [], (am_SH, I, J, Pf), k, n) P := by
  refine am_s_iload_n rfl dc113_0.1.1.1 ?_
  refine am_s_if_lt dc113_0.1.1.2 rfl (fun c1 => ?_) (fun c1 => ?_)
  · refine am_s_iconst am_cc0 dc113_1.1.2.2 ?_
    exact am_s_zreturn dc113_1.2.1.1 rfl (by decide) (q1 c1)
  · refine am_s_iload_n rfl dc113_0.1.2.1 ?_
    refine am_s_iconst am_cc1 dc113_0.1.2.2 ?_
    refine am_s_ic_lt dc113_0.2.1.1 rfl (fun c2 => ?_) (fun c2 => ?_)
    · refine am_s_iconst am_cc0 dc113_1.1.2.2 ?_
      exact am_s_zreturn dc113_1.2.1.1 rfl (by decide) (q2 c1 c2)
    · refine am_s_iload_n rfl dc113_0.2.1.2 ?_
      refine am_s_iload_n rfl dc113_0.2.2.1 ?_
      refine am_s_iadd dc113_0.2.2.2 ?_
      refine am_s_aload_n rfl dc113_1.1.1.1 ?_
      refine am_x_getI (x := I x0 1) dc113_1.1.1.2 rfl hx0 (Or.inl rfl) rfl ?_
      refine am_s_ic_le dc113_1.1.2.1 rfl (fun c3 => ?_) (fun c3 => ?_)
      · refine am_s_iload_n rfl dc113_1.2.1.2 ?_
        refine am_s_iload_n rfl dc113_1.2.2.1 ?_
        refine am_s_iadd dc113_1.2.2.2 ?_
        refine am_s_istore_n (ls' := [some (.ref x0), some (.int x1), some (.int x2), some (.int (x1 + x2))]) rfl rfl dc113_2.1.1.1 ?_
        exact q3 c1 c2 c3
      · refine am_s_iconst am_cc0 dc113_1.1.2.2 ?_
        exact am_s_zreturn dc113_1.2.1.1 rfl (by decide) (q4 c1 c2 c3)
theorem t113_25 {sc : Option (Nat × (Nat → Int32))} {d k n : Nat} {P : am_O → Prop} {I : am_I} {J : am_J} {Pf : am_R} (hp : am_PF Pf) {x0 : Nat} (hx0 : am_SH[x0]? = some (.inl 9)) {l1 : Option Value} {x2 : Int32} {x3 : Int32} (q1 : ((I x0 1) ≤ x3) → P (.inl (some (.int 1)), (am_SH, am_u I x0 1 ((I x0 1) - x2), J, Pf), k, n)) (q2 : (¬ ((I x0 1) ≤ x3)) → am_in x3 24 = true) (q3 : (¬ ((I x0 1) ≤ x3)) → am_in (x3 - x2) 24 = true) (q4 : (¬ ((I x0 1) ≤ x3)) → am_go sc d 113 (25, [some (.ref x0), l1, some (.int x2), some (.int (x3 + 1))], [], (am_SH, am_u I (x0 + 1) (Int32.toNatClampNeg (x3 - x2)) (I (x0 + 1) (Int32.toNatClampNeg x3)), J, Pf), k, n) P) : am_go sc d 113 (25, [some (.ref x0), l1, some (.int x2), some (.int x3)], [], (am_SH, I, J, Pf), k, n) P := by
  refine am_s_iload_n rfl dc113_2.1.1.2 ?_
  refine am_s_aload_n rfl dc113_2.1.2.1 ?_
  refine am_x_getI (x := I x0 1) dc113_2.1.2.2 rfl hx0 (Or.inl rfl) rfl ?_
  refine am_s_ic_ge dc113_2.2.1.1 rfl (fun c1 => ?_) (fun c1 => ?_)
  · refine am_s_aload_n rfl dc113_4.1.1.2 ?_
    refine am_s_dup rfl dc113_4.1.2.1 ?_
    refine am_x_getI (x := I x0 1) dc113_4.1.2.2 rfl hx0 (Or.inl rfl) rfl ?_
    refine am_s_iload_n rfl dc113_4.2.1.1 ?_
    refine am_s_isub dc113_4.2.1.2 ?_
    refine am_s_putI dc113_4.2.2.1 rfl hx0 rfl rfl ?_
    refine am_s_iconst am_cc1 dc113_4.2.2.2 ?_
    exact am_s_zreturn dc113_5 rfl (by decide) (q1 c1)
  · refine am_s_aload_n rfl dc113_2.2.1.2 ?_
    refine am_s_getR (r := x0 + 1) dc113_2.2.2.1 rfl hx0 rfl (am_r9_0 hp hx0) ?_
    refine am_s_iload_n rfl dc113_2.2.2.2 ?_
    refine am_s_iload_n rfl dc113_3.1.1.1 ?_
    refine am_s_isub dc113_3.1.1.2 ?_
    refine am_s_aload_n rfl dc113_3.1.2.1 ?_
    refine am_s_getR (r := x0 + 1) dc113_3.1.2.2 rfl hx0 rfl (am_r9_0 hp hx0) ?_
    refine am_s_iload_n rfl dc113_3.2.1.1 ?_
    refine am_x_iaload (x := I (x0 + 1) (Int32.toNatClampNeg x3)) dc113_3.2.1.2 (am_h9_0 hx0) (q2 c1) rfl rfl ?_
    refine am_s_iastore dc113_3.2.2.1 (am_h9_0 hx0) (q3 c1) rfl ?_
    refine am_s_iinc (ls' := [some (.ref x0), l1, some (.int x2), some (.int (x3 + 1))]) am_cc1 rfl rfl dc113_3.2.2.2 ?_
    refine am_s_goto rfl dc113_4.1.1.1 ?_
    exact q4 c1
-- swapSigns (II)Z
theorem dc114_0 : (((decode (am_by 114) 0 = .ok (.iload_n 1, 1)) ∧ (decode (am_by 114) 1 = .ok (.ifCond .lt 23, 3))) ∧ ((decode (am_by 114) 4 = .ok (.iload_n 1, 1)) ∧ (decode (am_by 114) 5 = .ok (.aload_n 0, 1)))) ∧ (((decode (am_by 114) 6 = .ok (.getfield 24, 3)) ∧ (decode (am_by 114) 9 = .ok (.if_icmp .ge 15, 3))) ∧ ((decode (am_by 114) 12 = .ok (.iload_n 2, 1)) ∧ (decode (am_by 114) 13 = .ok (.ifCond .lt 11, 3)))) := by decide +kernel
theorem dc114_1 : (((decode (am_by 114) 16 = .ok (.iload_n 2, 1)) ∧ (decode (am_by 114) 17 = .ok (.aload_n 0, 1))) ∧ ((decode (am_by 114) 18 = .ok (.getfield 24, 3)) ∧ (decode (am_by 114) 21 = .ok (.if_icmp .lt 5, 3)))) ∧ (((decode (am_by 114) 24 = .ok (.iconst 0, 1)) ∧ (decode (am_by 114) 25 = .ok (.ireturn, 1))) ∧ ((decode (am_by 114) 26 = .ok (.aload_n 0, 1)) ∧ (decode (am_by 114) 27 = .ok (.getfield 9, 3)))) := by decide +kernel
theorem dc114_2 : (((decode (am_by 114) 30 = .ok (.iload_n 1, 1)) ∧ (decode (am_by 114) 31 = .ok (.iaload, 1))) ∧ ((decode (am_by 114) 32 = .ok (.aload_n 0, 1)) ∧ (decode (am_by 114) 33 = .ok (.getfield 9, 3)))) ∧ (((decode (am_by 114) 36 = .ok (.iload_n 2, 1)) ∧ (decode (am_by 114) 37 = .ok (.iaload, 1))) ∧ ((decode (am_by 114) 38 = .ok (.if_icmp .ne 5, 3)) ∧ (decode (am_by 114) 41 = .ok (.iconst 0, 1)))) := by decide +kernel
theorem dc114_3 : (((decode (am_by 114) 42 = .ok (.ireturn, 1)) ∧ (decode (am_by 114) 43 = .ok (.aload_n 0, 1))) ∧ ((decode (am_by 114) 44 = .ok (.getfield 9, 3)) ∧ (decode (am_by 114) 47 = .ok (.iload_n 1, 1)))) ∧ (((decode (am_by 114) 48 = .ok (.iaload, 1)) ∧ (decode (am_by 114) 49 = .ok (.istore_n 3, 1))) ∧ ((decode (am_by 114) 50 = .ok (.aload_n 0, 1)) ∧ (decode (am_by 114) 51 = .ok (.getfield 9, 3)))) := by decide +kernel
theorem dc114_4 : (((decode (am_by 114) 54 = .ok (.iload_n 1, 1)) ∧ (decode (am_by 114) 55 = .ok (.aload_n 0, 1))) ∧ ((decode (am_by 114) 56 = .ok (.getfield 9, 3)) ∧ (decode (am_by 114) 59 = .ok (.iload_n 2, 1)))) ∧ (((decode (am_by 114) 60 = .ok (.iaload, 1)) ∧ (decode (am_by 114) 61 = .ok (.iastore, 1))) ∧ ((decode (am_by 114) 62 = .ok (.aload_n 0, 1)) ∧ (decode (am_by 114) 63 = .ok (.getfield 9, 3)))) := by decide +kernel
theorem dc114_5 : ((decode (am_by 114) 66 = .ok (.iload_n 2, 1)) ∧ (decode (am_by 114) 67 = .ok (.iload_n 3, 1))) ∧ ((decode (am_by 114) 68 = .ok (.iastore, 1)) ∧ ((decode (am_by 114) 69 = .ok (.iconst 1, 1)) ∧ (decode (am_by 114) 70 = .ok (.ireturn, 1)))) := by decide +kernel
theorem t114_0 {sc : Option (Nat × (Nat → Int32))} {d k n : Nat} {P : am_O → Prop} {I : am_I} {J : am_J} {Pf : am_R} (hp : am_PF Pf) {x0 : Nat} (hx0 : am_SH[x0]? = some (.inl 9)) {x1 : Int32} {x2 : Int32} {l3 : Option Value} (q1 : (x1 < 0) → P (.inl (some (.int 0)), (am_SH, I, J, Pf), k, n)) (q2 : (¬ (x1 < 0)) → ((I x0 1) ≤ x1) → P (.inl (some (.int 0)), (am_SH, I, J, Pf), k, n)) (q3 : (¬ (x1 < 0)) → (¬ ((I x0 1) ≤ x1)) → (x2 < 0) → P (.inl (some (.int 0)), (am_SH, I, J, Pf), k, n)) (q4 : (¬ (x1 < 0)) → (¬ ((I x0 1) ≤ x1)) → (¬ (x2 < 0)) → (x2 < (I x0 1)) → am_in x1 24 = true) (q5 : (¬ (x1 < 0)) → (¬ ((I x0 1) ≤ x1)) → (¬ (x2 < 0)) → (x2 < (I x0 1)) → am_in x2 24 = true) (q6 : (¬ (x1 < 0)) → (¬ ((I x0 1) ≤ x1)) → (¬ (x2 < 0)) → (x2 < (I x0 1)) → (¬ (I (x0 + 1) (Int32.toNatClampNeg x1)) = (I (x0 + 1) (Int32.toNatClampNeg x2))) → am_in x1 24 = true) (q7 : (¬ (x1 < 0)) → (¬ ((I x0 1) ≤ x1)) → (¬ (x2 < 0)) → (x2 < (I x0 1)) → (¬ (I (x0 + 1) (Int32.toNatClampNeg x1)) = (I (x0 + 1) (Int32.toNatClampNeg x2))) → am_in x2 24 = true) (q8 : (¬ (x1 < 0)) → (¬ ((I x0 1) ≤ x1)) → (¬ (x2 < 0)) → (x2 < (I x0 1)) → (¬ (I (x0 + 1) (Int32.toNatClampNeg x1)) = (I (x0 + 1) (Int32.toNatClampNeg x2))) → am_in x1 24 = true) (q9 : (¬ (x1 < 0)) → (¬ ((I x0 1) ≤ x1)) → (¬ (x2 < 0)) → (x2 < (I x0 1)) → (¬ (I (x0 + 1) (Int32.toNatClampNeg x1)) = (I (x0 + 1) (Int32.toNatClampNeg x2))) → am_in x2 24 = true) (q10 : (¬ (x1 < 0)) → (¬ ((I x0 1) ≤ x1)) → (¬ (x2 < 0)) → (x2 < (I x0 1)) → (¬ (I (x0 + 1) (Int32.toNatClampNeg x1)) = (I (x0 + 1) (Int32.toNatClampNeg x2))) → P (.inl (some (.int 1)), (am_SH, am_u (am_u I (x0 + 1) (Int32.toNatClampNeg x1) (I (x0 + 1) (Int32.toNatClampNeg x2))) (x0 + 1) (Int32.toNatClampNeg x2) (I (x0 + 1) (Int32.toNatClampNeg x1)), J, Pf), k, n)) (q11 : (¬ (x1 < 0)) → (¬ ((I x0 1) ≤ x1)) → (¬ (x2 < 0)) → (x2 < (I x0 1)) → (¬ (¬ (I (x0 + 1) (Int32.toNatClampNeg x1)) = (I (x0 + 1) (Int32.toNatClampNeg x2)))) → P (.inl (some (.int 0)), (am_SH, I, J, Pf), k, n)) (q12 : (¬ (x1 < 0)) → (¬ ((I x0 1) ≤ x1)) → (¬ (x2 < 0)) → (¬ (x2 < (I x0 1))) → P (.inl (some (.int 0)), (am_SH, I, J, Pf), k, n)) : am_go sc d 114 (0, [some (.ref x0), some (.int x1), some (.int x2), l3], [], (am_SH, I, J, Pf), k, n) P := by
  refine am_s_iload_n rfl dc114_0.1.1.1 ?_
  refine am_s_if_lt dc114_0.1.1.2 rfl (fun c1 => ?_) (fun c1 => ?_)
  · refine am_s_iconst am_cc0 dc114_1.2.1.1 ?_
    exact am_s_zreturn dc114_1.2.1.2 rfl (by decide) (q1 c1)
  · refine am_s_iload_n rfl dc114_0.1.2.1 ?_
    refine am_s_aload_n rfl dc114_0.1.2.2 ?_
    refine am_x_getI (x := I x0 1) dc114_0.2.1.1 rfl hx0 (Or.inl rfl) rfl ?_
    refine am_s_ic_ge dc114_0.2.1.2 rfl (fun c2 => ?_) (fun c2 => ?_)
    · refine am_s_iconst am_cc0 dc114_1.2.1.1 ?_
      exact am_s_zreturn dc114_1.2.1.2 rfl (by decide) (q2 c1 c2)
    · refine am_s_iload_n rfl dc114_0.2.2.1 ?_
      refine am_s_if_lt dc114_0.2.2.2 rfl (fun c3 => ?_) (fun c3 => ?_)
      · refine am_s_iconst am_cc0 dc114_1.2.1.1 ?_
        exact am_s_zreturn dc114_1.2.1.2 rfl (by decide) (q3 c1 c2 c3)
      · refine am_s_iload_n rfl dc114_1.1.1.1 ?_
        refine am_s_aload_n rfl dc114_1.1.1.2 ?_
        refine am_x_getI (x := I x0 1) dc114_1.1.2.1 rfl hx0 (Or.inl rfl) rfl ?_
        refine am_s_ic_lt dc114_1.1.2.2 rfl (fun c4 => ?_) (fun c4 => ?_)
        · refine am_s_aload_n rfl dc114_1.2.2.1 ?_
          refine am_s_getR (r := x0 + 1) dc114_1.2.2.2 rfl hx0 rfl (am_r9_0 hp hx0) ?_
          refine am_s_iload_n rfl dc114_2.1.1.1 ?_
          refine am_x_iaload (x := I (x0 + 1) (Int32.toNatClampNeg x1)) dc114_2.1.1.2 (am_h9_0 hx0) (q4 c1 c2 c3 c4) rfl rfl ?_
          refine am_s_aload_n rfl dc114_2.1.2.1 ?_
          refine am_s_getR (r := x0 + 1) dc114_2.1.2.2 rfl hx0 rfl (am_r9_0 hp hx0) ?_
          refine am_s_iload_n rfl dc114_2.2.1.1 ?_
          refine am_x_iaload (x := I (x0 + 1) (Int32.toNatClampNeg x2)) dc114_2.2.1.2 (am_h9_0 hx0) (q5 c1 c2 c3 c4) rfl rfl ?_
          refine am_s_ic_ne dc114_2.2.2.1 rfl (fun c5 => ?_) (fun c5 => ?_)
          · refine am_s_aload_n rfl dc114_3.1.1.2 ?_
            refine am_s_getR (r := x0 + 1) dc114_3.1.2.1 rfl hx0 rfl (am_r9_0 hp hx0) ?_
            refine am_s_iload_n rfl dc114_3.1.2.2 ?_
            refine am_x_iaload (x := I (x0 + 1) (Int32.toNatClampNeg x1)) dc114_3.2.1.1 (am_h9_0 hx0) (q6 c1 c2 c3 c4 c5) rfl rfl ?_
            refine am_s_istore_n (ls' := [some (.ref x0), some (.int x1), some (.int x2), some (.int (I (x0 + 1) (Int32.toNatClampNeg x1)))]) rfl rfl dc114_3.2.1.2 ?_
            refine am_s_aload_n rfl dc114_3.2.2.1 ?_
            refine am_s_getR (r := x0 + 1) dc114_3.2.2.2 rfl hx0 rfl (am_r9_0 hp hx0) ?_
            refine am_s_iload_n rfl dc114_4.1.1.1 ?_
            refine am_s_aload_n rfl dc114_4.1.1.2 ?_
            refine am_s_getR (r := x0 + 1) dc114_4.1.2.1 rfl hx0 rfl (am_r9_0 hp hx0) ?_
            refine am_s_iload_n rfl dc114_4.1.2.2 ?_
            refine am_x_iaload (x := I (x0 + 1) (Int32.toNatClampNeg x2)) dc114_4.2.1.1 (am_h9_0 hx0) (q7 c1 c2 c3 c4 c5) rfl rfl ?_
            refine am_s_iastore dc114_4.2.1.2 (am_h9_0 hx0) (q8 c1 c2 c3 c4 c5) rfl ?_
            refine am_s_aload_n rfl dc114_4.2.2.1 ?_
            refine am_s_getR (r := x0 + 1) dc114_4.2.2.2 rfl hx0 rfl (am_r9_0 hp hx0) ?_
            refine am_s_iload_n rfl dc114_5.1.1 ?_
            refine am_s_iload_n rfl dc114_5.1.2 ?_
            refine am_s_iastore dc114_5.2.1 (am_h9_0 hx0) (q9 c1 c2 c3 c4 c5) rfl ?_
            refine am_s_iconst am_cc1 dc114_5.2.2.1 ?_
            exact am_s_zreturn dc114_5.2.2.2 rfl (by decide) (q10 c1 c2 c3 c4 c5)
          · refine am_s_iconst am_cc0 dc114_2.2.2.2 ?_
            exact am_s_zreturn dc114_3.1.1.1 rfl (by decide) (q11 c1 c2 c3 c4 c5)
        · refine am_s_iconst am_cc0 dc114_1.2.1.1 ?_
          exact am_s_zreturn dc114_1.2.1.2 rfl (by decide) (q12 c1 c2 c3 c4)
-- copyBody (LPrunedParses$Rules;IILPrunedParses$Table;)I
theorem dc115_0 : (((decode (am_by 115) 0 = .ok (.iload_n 3, 1)) ∧ (decode (am_by 115) 1 = .ok (.ifCond .lt 28, 3))) ∧ ((decode (am_by 115) 4 = .ok (.iload_n 3, 1)) ∧ (decode (am_by 115) 5 = .ok (.aload_n 0, 1)))) ∧ (((decode (am_by 115) 6 = .ok (.getfield 24, 3)) ∧ (decode (am_by 115) 9 = .ok (.if_icmp .ge 20, 3))) ∧ ((decode (am_by 115) 12 = .ok (.aload_n 0, 1)) ∧ (decode (am_by 115) 13 = .ok (.getfield 9, 3)))) := by decide +kernel
theorem dc115_1 : (((decode (am_by 115) 16 = .ok (.iload_n 3, 1)) ∧ (decode (am_by 115) 17 = .ok (.iaload, 1))) ∧ ((decode (am_by 115) 18 = .ok (.aload_n 1, 1)) ∧ (decode (am_by 115) 19 = .ok (.getfield 38, 3)))) ∧ (((decode (am_by 115) 22 = .ok (.iload_n 2, 1)) ∧ (decode (am_by 115) 23 = .ok (.iconst 3, 1))) ∧ ((decode (am_by 115) 24 = .ok (.imul, 1)) ∧ (decode (am_by 115) 25 = .ok (.iaload, 1)))) := by decide +kernel
theorem dc115_2 : (((decode (am_by 115) 26 = .ok (.if_icmp .eq 5, 3)) ∧ (decode (am_by 115) 29 = .ok (.iconst (-1), 1))) ∧ ((decode (am_by 115) 30 = .ok (.ireturn, 1)) ∧ (decode (am_by 115) 31 = .ok (.aload_n 1, 1)))) ∧ (((decode (am_by 115) 32 = .ok (.getfield 38, 3)) ∧ (decode (am_by 115) 35 = .ok (.iload_n 2, 1))) ∧ ((decode (am_by 115) 36 = .ok (.iconst 3, 1)) ∧ (decode (am_by 115) 37 = .ok (.imul, 1)))) := by decide +kernel
theorem dc115_3 : (((decode (am_by 115) 38 = .ok (.iconst 1, 1)) ∧ (decode (am_by 115) 39 = .ok (.iadd, 1))) ∧ ((decode (am_by 115) 40 = .ok (.iaload, 1)) ∧ (decode (am_by 115) 41 = .ok (.istore 5, 2)))) ∧ (((decode (am_by 115) 43 = .ok (.aload_n 1, 1)) ∧ (decode (am_by 115) 44 = .ok (.getfield 38, 3))) ∧ ((decode (am_by 115) 47 = .ok (.iload_n 2, 1)) ∧ (decode (am_by 115) 48 = .ok (.iconst 3, 1)))) := by decide +kernel
theorem dc115_4 : (((decode (am_by 115) 49 = .ok (.imul, 1)) ∧ (decode (am_by 115) 50 = .ok (.iconst 2, 1))) ∧ ((decode (am_by 115) 51 = .ok (.iadd, 1)) ∧ (decode (am_by 115) 52 = .ok (.iaload, 1)))) ∧ (((decode (am_by 115) 53 = .ok (.istore 6, 2)) ∧ (decode (am_by 115) 55 = .ok (.iconst 0, 1))) ∧ ((decode (am_by 115) 56 = .ok (.istore 7, 2)) ∧ (decode (am_by 115) 58 = .ok (.iload_n 3, 1)))) := by decide +kernel
theorem dc115_5 : (((decode (am_by 115) 59 = .ok (.iconst 1, 1)) ∧ (decode (am_by 115) 60 = .ok (.iadd, 1))) ∧ ((decode (am_by 115) 61 = .ok (.istore 8, 2)) ∧ (decode (am_by 115) 63 = .ok (.iload 8, 2)))) ∧ (((decode (am_by 115) 65 = .ok (.aload_n 0, 1)) ∧ (decode (am_by 115) 66 = .ok (.getfield 24, 3))) ∧ ((decode (am_by 115) 69 = .ok (.if_icmp .ge 80, 3)) ∧ (decode (am_by 115) 72 = .ok (.aload_n 0, 1)))) := by decide +kernel
theorem dc115_6 : (((decode (am_by 115) 73 = .ok (.getfield 9, 3)) ∧ (decode (am_by 115) 76 = .ok (.iload 8, 2))) ∧ ((decode (am_by 115) 78 = .ok (.iaload, 1)) ∧ (decode (am_by 115) 79 = .ok (.istore 9, 2)))) ∧ (((decode (am_by 115) 81 = .ok (.iload 9, 2)) ∧ (decode (am_by 115) 83 = .ok (.iload 5, 2))) ∧ ((decode (am_by 115) 85 = .ok (.if_icmp .ne 15, 3)) ∧ (decode (am_by 115) 88 = .ok (.aload 4, 2)))) := by decide +kernel
theorem dc115_7 : (((decode (am_by 115) 90 = .ok (.iload 7, 2)) ∧ (decode (am_by 115) 92 = .ok (.putfield 24, 3))) ∧ ((decode (am_by 115) 95 = .ok (.iload 8, 2)) ∧ (decode (am_by 115) 97 = .ok (.iconst 1, 1)))) ∧ (((decode (am_by 115) 98 = .ok (.iadd, 1)) ∧ (decode (am_by 115) 99 = .ok (.ireturn, 1))) ∧ ((decode (am_by 115) 100 = .ok (.iload 9, 2)) ∧ (decode (am_by 115) 102 = .ok (.iload 6, 2)))) := by decide +kernel
theorem dc115_8 : (((decode (am_by 115) 104 = .ok (.if_icmp .ne 26, 3)) ∧ (decode (am_by 115) 107 = .ok (.iinc 8 1, 3))) ∧ ((decode (am_by 115) 110 = .ok (.iload 8, 2)) ∧ (decode (am_by 115) 112 = .ok (.aload_n 0, 1)))) ∧ (((decode (am_by 115) 113 = .ok (.getfield 24, 3)) ∧ (decode (am_by 115) 116 = .ok (.if_icmp .lt 5, 3))) ∧ ((decode (am_by 115) 119 = .ok (.iconst (-1), 1)) ∧ (decode (am_by 115) 120 = .ok (.ireturn, 1)))) := by decide +kernel
theorem dc115_9 : (((decode (am_by 115) 121 = .ok (.aload_n 0, 1)) ∧ (decode (am_by 115) 122 = .ok (.getfield 9, 3))) ∧ ((decode (am_by 115) 125 = .ok (.iload 8, 2)) ∧ (decode (am_by 115) 127 = .ok (.iaload, 1)))) ∧ (((decode (am_by 115) 128 = .ok (.istore 9, 2)) ∧ (decode (am_by 115) 130 = .ok (.aload 4, 2))) ∧ ((decode (am_by 115) 132 = .ok (.getfield 9, 3)) ∧ (decode (am_by 115) 135 = .ok (.iload 7, 2)))) := by decide +kernel
theorem dc115_10 : ((decode (am_by 115) 137 = .ok (.iload 9, 2)) ∧ ((decode (am_by 115) 139 = .ok (.iastore, 1)) ∧ (decode (am_by 115) 140 = .ok (.iinc 7 1, 3)))) ∧ (((decode (am_by 115) 143 = .ok (.iinc 8 1, 3)) ∧ (decode (am_by 115) 146 = .ok (.goto (-83), 3))) ∧ ((decode (am_by 115) 149 = .ok (.iconst (-1), 1)) ∧ (decode (am_by 115) 150 = .ok (.ireturn, 1)))) := by decide +kernel
theorem t115_0 {sc : Option (Nat × (Nat → Int32))} {d k n : Nat} {P : am_O → Prop} {I : am_I} {J : am_J} {Pf : am_R} (hp : am_PF Pf) {x0 : Nat} (hx0 : am_SH[x0]? = some (.inl 9)) {x1 : Nat} (hx1 : am_SH[x1]? = some (.inl 4)) {x2 : Int32} {x3 : Int32} {x4 : Nat} (hx4 : am_SH[x4]? = some (.inl 9)) {l5 : Option Value} {l6 : Option Value} {l7 : Option Value} {l8 : Option Value} {l9 : Option Value} (q1 : (x3 < 0) → P (.inl (some (.int (-1))), (am_SH, I, J, Pf), k, n)) (q2 : (¬ (x3 < 0)) → ((I x0 1) ≤ x3) → P (.inl (some (.int (-1))), (am_SH, I, J, Pf), k, n)) (q3 : (¬ (x3 < 0)) → (¬ ((I x0 1) ≤ x3)) → am_in x3 24 = true) (q4 : (¬ (x3 < 0)) → (¬ ((I x0 1) ≤ x3)) → am_in (x2 * 3) 12 = true) (q5 : (¬ (x3 < 0)) → (¬ ((I x0 1) ≤ x3)) → ((I (x0 + 1) (Int32.toNatClampNeg x3)) = (I (x1 + 10) (Int32.toNatClampNeg (x2 * 3)))) → am_in ((x2 * 3) + 1) 12 = true) (q6 : (¬ (x3 < 0)) → (¬ ((I x0 1) ≤ x3)) → ((I (x0 + 1) (Int32.toNatClampNeg x3)) = (I (x1 + 10) (Int32.toNatClampNeg (x2 * 3)))) → am_in ((x2 * 3) + 2) 12 = true) (q7 : (¬ (x3 < 0)) → (¬ ((I x0 1) ≤ x3)) → ((I (x0 + 1) (Int32.toNatClampNeg x3)) = (I (x1 + 10) (Int32.toNatClampNeg (x2 * 3)))) → am_go sc d 115 (63, [some (.ref x0), some (.ref x1), some (.int x2), some (.int x3), some (.ref x4), some (.int (I (x1 + 10) (Int32.toNatClampNeg ((x2 * 3) + 1)))), some (.int (I (x1 + 10) (Int32.toNatClampNeg ((x2 * 3) + 2)))), some (.int 0), some (.int (x3 + 1)), l9], [], (am_SH, I, J, Pf), k, n) P) (q8 : (¬ (x3 < 0)) → (¬ ((I x0 1) ≤ x3)) → (¬ ((I (x0 + 1) (Int32.toNatClampNeg x3)) = (I (x1 + 10) (Int32.toNatClampNeg (x2 * 3))))) → P (.inl (some (.int (-1))), (am_SH, I, J, Pf), k, n)) : am_go sc d 115 (0, [some (.ref x0), some (.ref x1), some (.int x2), some (.int x3), some (.ref x4), l5, l6, l7, l8, l9], [], (am_SH, I, J, Pf), k, n) P := by
  refine am_s_iload_n rfl dc115_0.1.1.1 ?_
  refine am_s_if_lt dc115_0.1.1.2 rfl (fun c1 => ?_) (fun c1 => ?_)
  · refine am_s_iconst am_ccm1 dc115_2.1.1.2 ?_
    exact am_s_ireturn dc115_2.1.2.1 rfl (q1 c1)
  · refine am_s_iload_n rfl dc115_0.1.2.1 ?_
    refine am_s_aload_n rfl dc115_0.1.2.2 ?_
    refine am_x_getI (x := I x0 1) dc115_0.2.1.1 rfl hx0 (Or.inl rfl) rfl ?_
    refine am_s_ic_ge dc115_0.2.1.2 rfl (fun c2 => ?_) (fun c2 => ?_)
    · refine am_s_iconst am_ccm1 dc115_2.1.1.2 ?_
      exact am_s_ireturn dc115_2.1.2.1 rfl (q2 c1 c2)
    · refine am_s_aload_n rfl dc115_0.2.2.1 ?_
      refine am_s_getR (r := x0 + 1) dc115_0.2.2.2 rfl hx0 rfl (am_r9_0 hp hx0) ?_
      refine am_s_iload_n rfl dc115_1.1.1.1 ?_
      refine am_x_iaload (x := I (x0 + 1) (Int32.toNatClampNeg x3)) dc115_1.1.1.2 (am_h9_0 hx0) (q3 c1 c2) rfl rfl ?_
      refine am_s_aload_n rfl dc115_1.1.2.1 ?_
      refine am_s_getR (r := x1 + 10) dc115_1.1.2.2 rfl hx1 rfl (am_r4_12 hp hx1) ?_
      refine am_s_iload_n rfl dc115_1.2.1.1 ?_
      refine am_s_iconst am_cc3 dc115_1.2.1.2 ?_
      refine am_s_imul dc115_1.2.2.1 ?_
      refine am_x_iaload (x := I (x1 + 10) (Int32.toNatClampNeg (x2 * 3))) dc115_1.2.2.2 (am_h4_12 hx1) (q4 c1 c2) rfl rfl ?_
      refine am_s_ic_eq dc115_2.1.1.1 rfl (fun c3 => ?_) (fun c3 => ?_)
      · refine am_s_aload_n rfl dc115_2.1.2.2 ?_
        refine am_s_getR (r := x1 + 10) dc115_2.2.1.1 rfl hx1 rfl (am_r4_12 hp hx1) ?_
        refine am_s_iload_n rfl dc115_2.2.1.2 ?_
        refine am_s_iconst am_cc3 dc115_2.2.2.1 ?_
        refine am_s_imul dc115_2.2.2.2 ?_
        refine am_s_iconst am_cc1 dc115_3.1.1.1 ?_
        refine am_s_iadd dc115_3.1.1.2 ?_
        refine am_x_iaload (x := I (x1 + 10) (Int32.toNatClampNeg ((x2 * 3) + 1))) dc115_3.1.2.1 (am_h4_12 hx1) (q5 c1 c2 c3) rfl rfl ?_
        refine am_s_istore (ls' := [some (.ref x0), some (.ref x1), some (.int x2), some (.int x3), some (.ref x4), some (.int (I (x1 + 10) (Int32.toNatClampNeg ((x2 * 3) + 1)))), l6, l7, l8, l9]) rfl rfl dc115_3.1.2.2 ?_
        refine am_s_aload_n rfl dc115_3.2.1.1 ?_
        refine am_s_getR (r := x1 + 10) dc115_3.2.1.2 rfl hx1 rfl (am_r4_12 hp hx1) ?_
        refine am_s_iload_n rfl dc115_3.2.2.1 ?_
        refine am_s_iconst am_cc3 dc115_3.2.2.2 ?_
        refine am_s_imul dc115_4.1.1.1 ?_
        refine am_s_iconst am_cc2 dc115_4.1.1.2 ?_
        refine am_s_iadd dc115_4.1.2.1 ?_
        refine am_x_iaload (x := I (x1 + 10) (Int32.toNatClampNeg ((x2 * 3) + 2))) dc115_4.1.2.2 (am_h4_12 hx1) (q6 c1 c2 c3) rfl rfl ?_
        refine am_s_istore (ls' := [some (.ref x0), some (.ref x1), some (.int x2), some (.int x3), some (.ref x4), some (.int (I (x1 + 10) (Int32.toNatClampNeg ((x2 * 3) + 1)))), some (.int (I (x1 + 10) (Int32.toNatClampNeg ((x2 * 3) + 2)))), l7, l8, l9]) rfl rfl dc115_4.2.1.1 ?_
        refine am_s_iconst am_cc0 dc115_4.2.1.2 ?_
        refine am_s_istore (ls' := [some (.ref x0), some (.ref x1), some (.int x2), some (.int x3), some (.ref x4), some (.int (I (x1 + 10) (Int32.toNatClampNeg ((x2 * 3) + 1)))), some (.int (I (x1 + 10) (Int32.toNatClampNeg ((x2 * 3) + 2)))), some (.int 0), l8, l9]) rfl rfl dc115_4.2.2.1 ?_
        refine am_s_iload_n rfl dc115_4.2.2.2 ?_
        refine am_s_iconst am_cc1 dc115_5.1.1.1 ?_
        refine am_s_iadd dc115_5.1.1.2 ?_
        refine am_s_istore (ls' := [some (.ref x0), some (.ref x1), some (.int x2), some (.int x3), some (.ref x4), some (.int (I (x1 + 10) (Int32.toNatClampNeg ((x2 * 3) + 1)))), some (.int (I (x1 + 10) (Int32.toNatClampNeg ((x2 * 3) + 2)))), some (.int 0), some (.int (x3 + 1)), l9]) rfl rfl dc115_5.1.2.1 ?_
        exact q7 c1 c2 c3
      · refine am_s_iconst am_ccm1 dc115_2.1.1.2 ?_
        exact am_s_ireturn dc115_2.1.2.1 rfl (q8 c1 c2 c3)
theorem t115_63 {sc : Option (Nat × (Nat → Int32))} {d k n : Nat} {P : am_O → Prop} {I : am_I} {J : am_J} {Pf : am_R} (hp : am_PF Pf) {x0 : Nat} (hx0 : am_SH[x0]? = some (.inl 9)) {l1 : Option Value} {l2 : Option Value} {l3 : Option Value} {x4 : Nat} (hx4 : am_SH[x4]? = some (.inl 9)) {x5 : Int32} {x6 : Int32} {x7 : Int32} {x8 : Int32} {l9 : Option Value} (q1 : ((I x0 1) ≤ x8) → P (.inl (some (.int (-1))), (am_SH, I, J, Pf), k, n)) (q2 : (¬ ((I x0 1) ≤ x8)) → am_in x8 24 = true) (q3 : (¬ ((I x0 1) ≤ x8)) → (¬ (I (x0 + 1) (Int32.toNatClampNeg x8)) = x5) → (¬ (I (x0 + 1) (Int32.toNatClampNeg x8)) = x6) → am_go sc d 115 (130, [some (.ref x0), l1, l2, l3, some (.ref x4), some (.int x5), some (.int x6), some (.int x7), some (.int x8), some (.int (I (x0 + 1) (Int32.toNatClampNeg x8)))], [], (am_SH, I, J, Pf), k, n) P) (q4 : (¬ ((I x0 1) ≤ x8)) → (¬ (I (x0 + 1) (Int32.toNatClampNeg x8)) = x5) → (¬ (¬ (I (x0 + 1) (Int32.toNatClampNeg x8)) = x6)) → ((x8 + 1) < (I x0 1)) → am_in (x8 + 1) 24 = true) (q5 : (¬ ((I x0 1) ≤ x8)) → (¬ (I (x0 + 1) (Int32.toNatClampNeg x8)) = x5) → (¬ (¬ (I (x0 + 1) (Int32.toNatClampNeg x8)) = x6)) → ((x8 + 1) < (I x0 1)) → am_go sc d 115 (130, [some (.ref x0), l1, l2, l3, some (.ref x4), some (.int x5), some (.int x6), some (.int x7), some (.int (x8 + 1)), some (.int (I (x0 + 1) (Int32.toNatClampNeg (x8 + 1))))], [], (am_SH, I, J, Pf), k, n) P) (q6 : (¬ ((I x0 1) ≤ x8)) → (¬ (I (x0 + 1) (Int32.toNatClampNeg x8)) = x5) → (¬ (¬ (I (x0 + 1) (Int32.toNatClampNeg x8)) = x6)) → (¬ ((x8 + 1) < (I x0 1))) → P (.inl (some (.int (-1))), (am_SH, I, J, Pf), k, n)) (q7 : (¬ ((I x0 1) ≤ x8)) → (¬ (¬ (I (x0 + 1) (Int32.toNatClampNeg x8)) = x5)) → P (.inl (some (.int (x8 + 1))), (am_SH, am_u I x4 1 x7, J, Pf), k, n)) : am_go sc d 115 (63, [some (.ref x0), l1, l2, l3, some (.ref x4), some (.int x5), some (.int x6), some (.int x7), some (.int x8), l9], [], (am_SH, I, J, Pf), k, n) P := by
  refine am_s_iload rfl dc115_5.1.2.2 ?_
  refine am_s_aload_n rfl dc115_5.2.1.1 ?_
  refine am_x_getI (x := I x0 1) dc115_5.2.1.2 rfl hx0 (Or.inl rfl) rfl ?_
  refine am_s_ic_ge dc115_5.2.2.1 rfl (fun c1 => ?_) (fun c1 => ?_)
  · refine am_s_iconst am_ccm1 dc115_10.2.2.1 ?_
    exact am_s_ireturn dc115_10.2.2.2 rfl (q1 c1)
  · refine am_s_aload_n rfl dc115_5.2.2.2 ?_
    refine am_s_getR (r := x0 + 1) dc115_6.1.1.1 rfl hx0 rfl (am_r9_0 hp hx0) ?_
    refine am_s_iload rfl dc115_6.1.1.2 ?_
    refine am_x_iaload (x := I (x0 + 1) (Int32.toNatClampNeg x8)) dc115_6.1.2.1 (am_h9_0 hx0) (q2 c1) rfl rfl ?_
    refine am_s_istore (ls' := [some (.ref x0), l1, l2, l3, some (.ref x4), some (.int x5), some (.int x6), some (.int x7), some (.int x8), some (.int (I (x0 + 1) (Int32.toNatClampNeg x8)))]) rfl rfl dc115_6.1.2.2 ?_
    refine am_s_iload rfl dc115_6.2.1.1 ?_
    refine am_s_iload rfl dc115_6.2.1.2 ?_
    refine am_s_ic_ne dc115_6.2.2.1 rfl (fun c2 => ?_) (fun c2 => ?_)
    · refine am_s_iload rfl dc115_7.2.2.1 ?_
      refine am_s_iload rfl dc115_7.2.2.2 ?_
      refine am_s_ic_ne dc115_8.1.1.1 rfl (fun c3 => ?_) (fun c3 => ?_)
      · exact q3 c1 c2 c3
      · refine am_s_iinc (ls' := [some (.ref x0), l1, l2, l3, some (.ref x4), some (.int x5), some (.int x6), some (.int x7), some (.int (x8 + 1)), some (.int (I (x0 + 1) (Int32.toNatClampNeg x8)))]) am_cc1 rfl rfl dc115_8.1.1.2 ?_
        refine am_s_iload rfl dc115_8.1.2.1 ?_
        refine am_s_aload_n rfl dc115_8.1.2.2 ?_
        refine am_x_getI (x := I x0 1) dc115_8.2.1.1 rfl hx0 (Or.inl rfl) rfl ?_
        refine am_s_ic_lt dc115_8.2.1.2 rfl (fun c4 => ?_) (fun c4 => ?_)
        · refine am_s_aload_n rfl dc115_9.1.1.1 ?_
          refine am_s_getR (r := x0 + 1) dc115_9.1.1.2 rfl hx0 rfl (am_r9_0 hp hx0) ?_
          refine am_s_iload rfl dc115_9.1.2.1 ?_
          refine am_x_iaload (x := I (x0 + 1) (Int32.toNatClampNeg (x8 + 1))) dc115_9.1.2.2 (am_h9_0 hx0) (q4 c1 c2 c3 c4) rfl rfl ?_
          refine am_s_istore (ls' := [some (.ref x0), l1, l2, l3, some (.ref x4), some (.int x5), some (.int x6), some (.int x7), some (.int (x8 + 1)), some (.int (I (x0 + 1) (Int32.toNatClampNeg (x8 + 1))))]) rfl rfl dc115_9.2.1.1 ?_
          exact q5 c1 c2 c3 c4
        · refine am_s_iconst am_ccm1 dc115_8.2.2.1 ?_
          exact am_s_ireturn dc115_8.2.2.2 rfl (q6 c1 c2 c3 c4)
    · refine am_s_aload rfl dc115_6.2.2.2 ?_
      refine am_s_iload rfl dc115_7.1.1.1 ?_
      refine am_s_putI dc115_7.1.1.2 rfl hx4 rfl rfl ?_
      refine am_s_iload rfl dc115_7.1.2.1 ?_
      refine am_s_iconst am_cc1 dc115_7.1.2.2 ?_
      refine am_s_iadd dc115_7.2.1.1 ?_
      exact am_s_ireturn dc115_7.2.1.2 rfl (q7 c1 c2)
theorem t115_130 {sc : Option (Nat × (Nat → Int32))} {d k n : Nat} {P : am_O → Prop} {I : am_I} {J : am_J} {Pf : am_R} (hp : am_PF Pf) {x0 : Nat} (hx0 : am_SH[x0]? = some (.inl 9)) {l1 : Option Value} {l2 : Option Value} {l3 : Option Value} {x4 : Nat} (hx4 : am_SH[x4]? = some (.inl 9)) {x5 : Int32} {x6 : Int32} {x7 : Int32} {x8 : Int32} {x9 : Int32} (q1 : am_in x7 24 = true) (q2 : am_go sc d 115 (63, [some (.ref x0), l1, l2, l3, some (.ref x4), some (.int x5), some (.int x6), some (.int (x7 + 1)), some (.int (x8 + 1)), some (.int x9)], [], (am_SH, am_u I (x4 + 1) (Int32.toNatClampNeg x7) x9, J, Pf), k, n) P) : am_go sc d 115 (130, [some (.ref x0), l1, l2, l3, some (.ref x4), some (.int x5), some (.int x6), some (.int x7), some (.int x8), some (.int x9)], [], (am_SH, I, J, Pf), k, n) P := by
  refine am_s_aload rfl dc115_9.2.1.2 ?_
  refine am_s_getR (r := x4 + 1) dc115_9.2.2.1 rfl hx4 rfl (am_r9_0 hp hx4) ?_
  refine am_s_iload rfl dc115_9.2.2.2 ?_
  refine am_s_iload rfl dc115_10.1.1 ?_
  refine am_s_iastore dc115_10.1.2.1 (am_h9_0 hx4) (q1) rfl ?_
  refine am_s_iinc (ls' := [some (.ref x0), l1, l2, l3, some (.ref x4), some (.int x5), some (.int x6), some (.int (x7 + 1)), some (.int x8), some (.int x9)]) am_cc1 rfl rfl dc115_10.1.2.2 ?_
  refine am_s_iinc (ls' := [some (.ref x0), l1, l2, l3, some (.ref x4), some (.int x5), some (.int x6), some (.int (x7 + 1)), some (.int (x8 + 1)), some (.int x9)]) am_cc1 rfl rfl dc115_10.2.1.1 ?_
  refine am_s_goto rfl dc115_10.2.1.2 ?_
  exact q2
-- findRuns (LPrunedParses$Rules;)V
theorem dc116_0 : (((decode (am_by 116) 0 = .ok (.aload_n 0, 1)) ∧ (decode (am_by 116) 1 = .ok (.getfield 15, 3))) ∧ ((decode (am_by 116) 4 = .ok (.aload_n 0, 1)) ∧ (decode (am_by 116) 5 = .ok (.getfield 24, 3)))) ∧ (((decode (am_by 116) 8 = .ok (.aload_n 0, 1)) ∧ (decode (am_by 116) 9 = .ok (.getfield 24, 3))) ∧ ((decode (am_by 116) 12 = .ok (.iastore, 1)) ∧ (decode (am_by 116) 13 = .ok (.aload_n 0, 1)))) := by decide +kernel
theorem dc116_1 : (((decode (am_by 116) 14 = .ok (.getfield 24, 3)) ∧ (decode (am_by 116) 17 = .ok (.iconst 1, 1))) ∧ ((decode (am_by 116) 18 = .ok (.isub, 1)) ∧ (decode (am_by 116) 19 = .ok (.istore_n 2, 1)))) ∧ (((decode (am_by 116) 20 = .ok (.iload_n 2, 1)) ∧ (decode (am_by 116) 21 = .ok (.ifCond .lt 66, 3))) ∧ ((decode (am_by 116) 24 = .ok (.aload_n 1, 1)) ∧ (decode (am_by 116) 25 = .ok (.getfield 43, 3)))) := by decide +kernel
theorem dc116_2 : (((decode (am_by 116) 28 = .ok (.iconst (-1), 1)) ∧ (decode (am_by 116) 29 = .ok (.if_icmp .eq 28, 3))) ∧ ((decode (am_by 116) 32 = .ok (.aload_n 1, 1)) ∧ (decode (am_by 116) 33 = .ok (.getfield 46, 3)))) ∧ (((decode (am_by 116) 36 = .ok (.aload_n 1, 1)) ∧ (decode (am_by 116) 37 = .ok (.getfield 43, 3))) ∧ ((decode (am_by 116) 40 = .ok (.aaload, 1)) ∧ (decode (am_by 116) 41 = .ok (.aload_n 0, 1)))) := by decide +kernel
theorem dc116_3 : (((decode (am_by 116) 42 = .ok (.getfield 9, 3)) ∧ (decode (am_by 116) 45 = .ok (.iload_n 2, 1))) ∧ ((decode (am_by 116) 46 = .ok (.iaload, 1)) ∧ (decode (am_by 116) 47 = .ok (.invokevirtual 50, 3)))) ∧ (((decode (am_by 116) 50 = .ok (.ifCond .eq 7, 3)) ∧ (decode (am_by 116) 53 = .ok (.iconst 1, 1))) ∧ ((decode (am_by 116) 54 = .ok (.goto 4, 3)) ∧ (decode (am_by 116) 57 = .ok (.iconst 0, 1)))) := by decide +kernel
theorem dc116_4 : (((decode (am_by 116) 58 = .ok (.istore_n 3, 1)) ∧ (decode (am_by 116) 59 = .ok (.aload_n 0, 1))) ∧ ((decode (am_by 116) 60 = .ok (.getfield 15, 3)) ∧ (decode (am_by 116) 63 = .ok (.iload_n 2, 1)))) ∧ (((decode (am_by 116) 64 = .ok (.iload_n 3, 1)) ∧ (decode (am_by 116) 65 = .ok (.ifCond .eq 14, 3))) ∧ ((decode (am_by 116) 68 = .ok (.aload_n 0, 1)) ∧ (decode (am_by 116) 69 = .ok (.getfield 15, 3)))) := by decide +kernel
theorem dc116_5 : (((decode (am_by 116) 72 = .ok (.iload_n 2, 1)) ∧ (decode (am_by 116) 73 = .ok (.iconst 1, 1))) ∧ ((decode (am_by 116) 74 = .ok (.iadd, 1)) ∧ (decode (am_by 116) 75 = .ok (.iaload, 1)))) ∧ (((decode (am_by 116) 76 = .ok (.goto 4, 3)) ∧ (decode (am_by 116) 79 = .ok (.iload_n 2, 1))) ∧ ((decode (am_by 116) 80 = .ok (.iastore, 1)) ∧ (decode (am_by 116) 81 = .ok (.iinc 2 (-1), 3)))) := by decide +kernel
theorem dc116_6 : (decode (am_by 116) 84 = .ok (.goto (-64), 3)) ∧ (decode (am_by 116) 87 = .ok (.return_, 1)) := by decide +kernel
theorem t116_0 {sc : Option (Nat × (Nat → Int32))} {d k n : Nat} {P : am_O → Prop} {I : am_I} {J : am_J} {Pf : am_R} (hp : am_PF Pf) {x0 : Nat} (hx0 : am_SH[x0]? = some (.inl 9)) {x1 : Nat} (hx1 : am_SH[x1]? = some (.inl 4)) {l2 : Option Value} {l3 : Option Value} (q1 : am_in (I x0 1) 25 = true) (q2 : am_go sc d 116 (20, [some (.ref x0), some (.ref x1), some (.int (((am_u I (x0 + 2) (Int32.toNatClampNeg (I x0 1)) (I x0 1)) x0 1) - 1)), l3], [], (am_SH, am_u I (x0 + 2) (Int32.toNatClampNeg (I x0 1)) (I x0 1), J, Pf), k, n) P) : am_go sc d 116 (0, [some (.ref x0), some (.ref x1), l2, l3], [], (am_SH, I, J, Pf), k, n) P := by
  refine am_s_aload_n rfl dc116_0.1.1.1 ?_
  refine am_s_getR (r := x0 + 2) dc116_0.1.1.2 rfl hx0 rfl (am_r9_2 hp hx0) ?_
  refine am_s_aload_n rfl dc116_0.1.2.1 ?_
  refine am_x_getI (x := I x0 1) dc116_0.1.2.2 rfl hx0 (Or.inl rfl) rfl ?_
  refine am_s_aload_n rfl dc116_0.2.1.1 ?_
  refine am_x_getI (x := I x0 1) dc116_0.2.1.2 rfl hx0 (Or.inl rfl) rfl ?_
  refine am_s_iastore dc116_0.2.2.1 (am_h9_2 hx0) (q1) rfl ?_
  refine am_s_aload_n rfl dc116_0.2.2.2 ?_
  refine am_x_getI (x := (am_u I (x0 + 2) (Int32.toNatClampNeg (I x0 1)) (I x0 1)) x0 1) dc116_1.1.1.1 rfl hx0 (Or.inl rfl) rfl ?_
  refine am_s_iconst am_cc1 dc116_1.1.1.2 ?_
  refine am_s_isub dc116_1.1.2.1 ?_
  refine am_s_istore_n (ls' := [some (.ref x0), some (.ref x1), some (.int (((am_u I (x0 + 2) (Int32.toNatClampNeg (I x0 1)) (I x0 1)) x0 1) - 1)), l3]) rfl rfl dc116_1.1.2.2 ?_
  exact q2
theorem t116_20 {sc : Option (Nat × (Nat → Int32))} {d k n : Nat} {P : am_O → Prop} {I : am_I} {J : am_J} {Pf : am_R} (hp : am_PF Pf) {x0 : Nat} (hx0 : am_SH[x0]? = some (.inl 9)) {x1 : Nat} (hx1 : am_SH[x1]? = some (.inl 4)) {x2 : Int32} {l3 : Option Value} {r40 : Nat} (q1 : (x2 < 0) → P (.inl none, (am_SH, I, J, Pf), k, n)) (q2 : (¬ (x2 < 0)) → ((I x1 19) = (-1)) → am_go sc d 116 (57, [some (.ref x0), some (.ref x1), some (.int x2), l3], [], (am_SH, I, J, Pf), k, n) P) (q3 : (¬ (x2 < 0)) → (¬ ((I x1 19) = (-1))) → am_in (I x1 19) 8 = true) (q4 : (¬ (x2 < 0)) → (¬ ((I x1 19) = (-1))) → Pf (x1 + 1) (Int32.toNatClampNeg (I x1 19)) = some r40) (q5 : (¬ (x2 < 0)) → (¬ ((I x1 19) = (-1))) → am_SH[r40]? = some (.inl 6)) (q6 : (¬ (x2 < 0)) → (¬ ((I x1 19) = (-1))) → am_in x2 24 = true) (q7 : (¬ (x2 < 0)) → (¬ ((I x1 19) = (-1))) → am_mth d 78 [.ref r40, .int (I (x0 + 1) (Int32.toNatClampNeg x2))] (am_SH, I, J, Pf) (am_af sc d 116 47 [some (.ref x0), some (.ref x1), some (.int x2), l3] [.int (I (x0 + 1) (Int32.toNatClampNeg x2)), .ref r40] [] (am_SH, I, J, Pf) k n false P)) : am_go sc d 116 (20, [some (.ref x0), some (.ref x1), some (.int x2), l3], [], (am_SH, I, J, Pf), k, n) P := by
  refine am_s_iload_n rfl dc116_1.2.1.1 ?_
  refine am_s_if_lt dc116_1.2.1.2 rfl (fun c1 => ?_) (fun c1 => ?_)
  · exact am_s_return dc116_6.2 rfl (q1 c1)
  · refine am_s_aload_n rfl dc116_1.2.2.1 ?_
    refine am_x_getI (x := I x1 19) dc116_1.2.2.2 rfl hx1 (Or.inl rfl) rfl ?_
    refine am_s_iconst am_ccm1 dc116_2.1.1.1 ?_
    refine am_s_ic_eq dc116_2.1.1.2 rfl (fun c2 => ?_) (fun c2 => ?_)
    · exact q2 c1 c2
    · refine am_s_aload_n rfl dc116_2.1.2.1 ?_
      refine am_s_getR (r := x1 + 1) dc116_2.1.2.2 rfl hx1 rfl (am_r4_0 hp hx1) ?_
      refine am_s_aload_n rfl dc116_2.2.1.1 ?_
      refine am_x_getI (x := I x1 19) dc116_2.2.1.2 rfl hx1 (Or.inl rfl) rfl ?_
      refine am_s_aaload (r := r40) dc116_2.2.2.1 (am_h4_0 hx1) rfl (q3 c1 c2) (q4 c1 c2) ?_
      refine am_s_aload_n rfl dc116_2.2.2.2 ?_
      refine am_s_getR (r := x0 + 1) dc116_3.1.1.1 rfl hx0 rfl (am_r9_0 hp hx0) ?_
      refine am_s_iload_n rfl dc116_3.1.1.2 ?_
      refine am_x_iaload (x := I (x0 + 1) (Int32.toNatClampNeg x2)) dc116_3.1.2.1 (am_h9_0 hx0) (q6 c1 c2) rfl rfl ?_
      exact am_s_virtual false dc116_3.1.2.2 rfl (by decide) rfl (q5 c1 c2) rfl (q7 c1 c2)
theorem t116_57 {sc : Option (Nat × (Nat → Int32))} {d k n : Nat} {P : am_O → Prop} {I : am_I} {J : am_J} {Pf : am_R} (hp : am_PF Pf) {x0 : Nat} (hx0 : am_SH[x0]? = some (.inl 9)) {x1 : Nat} (hx1 : am_SH[x1]? = some (.inl 4)) {x2 : Int32} {l3 : Option Value} (q1 : am_in x2 25 = true) (q2 : am_go sc d 116 (20, [some (.ref x0), some (.ref x1), some (.int (x2 + (-1))), some (.int 0)], [], (am_SH, am_u I (x0 + 2) (Int32.toNatClampNeg x2) x2, J, Pf), k, n) P) : am_go sc d 116 (57, [some (.ref x0), some (.ref x1), some (.int x2), l3], [], (am_SH, I, J, Pf), k, n) P := by
  refine am_s_iconst am_cc0 dc116_3.2.2.2 ?_
  refine am_s_istore_n (ls' := [some (.ref x0), some (.ref x1), some (.int x2), some (.int 0)]) rfl rfl dc116_4.1.1.1 ?_
  refine am_s_aload_n rfl dc116_4.1.1.2 ?_
  refine am_s_getR (r := x0 + 2) dc116_4.1.2.1 rfl hx0 rfl (am_r9_2 hp hx0) ?_
  refine am_s_iload_n rfl dc116_4.1.2.2 ?_
  refine am_s_iload_n rfl dc116_4.2.1.1 ?_
  refine am_s_if_eq dc116_4.2.1.2 rfl (fun _ => ?_) (fun z => absurd z (by decide))
  refine am_s_iload_n rfl dc116_5.2.1.2 ?_
  refine am_s_iastore dc116_5.2.2.1 (am_h9_2 hx0) (q1) rfl ?_
  refine am_s_iinc (ls' := [some (.ref x0), some (.ref x1), some (.int (x2 + (-1))), some (.int 0)]) am_ccm1 rfl rfl dc116_5.2.2.2 ?_
  refine am_s_goto rfl dc116_6.1 ?_
  exact q2
theorem t116_50 {sc : Option (Nat × (Nat → Int32))} {d k n : Nat} {P : am_O → Prop} {I : am_I} {J : am_J} {Pf : am_R} (hp : am_PF Pf) {x0 : Nat} (hx0 : am_SH[x0]? = some (.inl 9)) {x1 : Nat} (hx1 : am_SH[x1]? = some (.inl 4)) {x2 : Int32} {l3 : Option Value} {s0 : Int32} (q1 : (s0 = 0) → am_go sc d 116 (57, [some (.ref x0), some (.ref x1), some (.int x2), l3], [], (am_SH, I, J, Pf), k, n) P) (q2 : (¬ (s0 = 0)) → am_in (x2 + 1) 25 = true) (q3 : (¬ (s0 = 0)) → am_in x2 25 = true) (q4 : (¬ (s0 = 0)) → am_go sc d 116 (20, [some (.ref x0), some (.ref x1), some (.int (x2 + (-1))), some (.int 1)], [], (am_SH, am_u I (x0 + 2) (Int32.toNatClampNeg x2) (I (x0 + 2) (Int32.toNatClampNeg (x2 + 1))), J, Pf), k, n) P) : am_go sc d 116 (50, [some (.ref x0), some (.ref x1), some (.int x2), l3], [.int s0], (am_SH, I, J, Pf), k, n) P := by
  refine am_s_if_eq dc116_3.2.1.1 rfl (fun c1 => ?_) (fun c1 => ?_)
  · exact q1 c1
  · refine am_s_iconst am_cc1 dc116_3.2.1.2 ?_
    refine am_s_goto rfl dc116_3.2.2.1 ?_
    refine am_s_istore_n (ls' := [some (.ref x0), some (.ref x1), some (.int x2), some (.int 1)]) rfl rfl dc116_4.1.1.1 ?_
    refine am_s_aload_n rfl dc116_4.1.1.2 ?_
    refine am_s_getR (r := x0 + 2) dc116_4.1.2.1 rfl hx0 rfl (am_r9_2 hp hx0) ?_
    refine am_s_iload_n rfl dc116_4.1.2.2 ?_
    refine am_s_iload_n rfl dc116_4.2.1.1 ?_
    refine am_s_if_eq dc116_4.2.1.2 rfl (fun z => absurd z (by decide)) (fun _ => ?_)
    refine am_s_aload_n rfl dc116_4.2.2.1 ?_
    refine am_s_getR (r := x0 + 2) dc116_4.2.2.2 rfl hx0 rfl (am_r9_2 hp hx0) ?_
    refine am_s_iload_n rfl dc116_5.1.1.1 ?_
    refine am_s_iconst am_cc1 dc116_5.1.1.2 ?_
    refine am_s_iadd dc116_5.1.2.1 ?_
    refine am_x_iaload (x := I (x0 + 2) (Int32.toNatClampNeg (x2 + 1))) dc116_5.1.2.2 (am_h9_2 hx0) (q2 c1) rfl rfl ?_
    refine am_s_goto rfl dc116_5.2.1.1 ?_
    refine am_s_iastore dc116_5.2.2.1 (am_h9_2 hx0) (q3 c1) rfl ?_
    refine am_s_iinc (ls' := [some (.ref x0), some (.ref x1), some (.int (x2 + (-1))), some (.int 1)]) am_ccm1 rfl rfl dc116_5.2.2.2 ?_
    refine am_s_goto rfl dc116_6.1 ?_
    exact q4 c1
-- behindLayout (I)I
theorem dc117_0 : (((decode (am_by 117) 0 = .ok (.iconst 0, 1)) ∧ (decode (am_by 117) 1 = .ok (.istore_n 2, 1))) ∧ ((decode (am_by 117) 2 = .ok (.iconst 0, 1)) ∧ (decode (am_by 117) 3 = .ok (.istore_n 3, 1)))) ∧ (((decode (am_by 117) 4 = .ok (.iload_n 3, 1)) ∧ (decode (am_by 117) 5 = .ok (.aload_n 0, 1))) ∧ ((decode (am_by 117) 6 = .ok (.getfield 24, 3)) ∧ (decode (am_by 117) 9 = .ok (.if_icmp .gt 28, 3)))) := by decide +kernel
theorem dc117_1 : (((decode (am_by 117) 12 = .ok (.iload_n 1, 1)) ∧ (decode (am_by 117) 13 = .ok (.iload_n 3, 1))) ∧ ((decode (am_by 117) 14 = .ok (.iushr, 1)) ∧ (decode (am_by 117) 15 = .ok (.iconst 1, 1)))) ∧ (((decode (am_by 117) 16 = .ok (.iand, 1)) ∧ (decode (am_by 117) 17 = .ok (.ifCond .eq 14, 3))) ∧ ((decode (am_by 117) 20 = .ok (.iload_n 2, 1)) ∧ (decode (am_by 117) 21 = .ok (.iconst 1, 1)))) := by decide +kernel
theorem dc117_2 : (((decode (am_by 117) 22 = .ok (.aload_n 0, 1)) ∧ (decode (am_by 117) 23 = .ok (.getfield 15, 3))) ∧ ((decode (am_by 117) 26 = .ok (.iload_n 3, 1)) ∧ (decode (am_by 117) 27 = .ok (.iaload, 1)))) ∧ (((decode (am_by 117) 28 = .ok (.ishl, 1)) ∧ (decode (am_by 117) 29 = .ok (.ior, 1))) ∧ ((decode (am_by 117) 30 = .ok (.istore_n 2, 1)) ∧ (decode (am_by 117) 31 = .ok (.iinc 3 1, 3)))) := by decide +kernel
theorem dc117_3 : (decode (am_by 117) 34 = .ok (.goto (-30), 3)) ∧ ((decode (am_by 117) 37 = .ok (.iload_n 2, 1)) ∧ (decode (am_by 117) 38 = .ok (.ireturn, 1))) := by decide +kernel
theorem t117_0 {sc : Option (Nat × (Nat → Int32))} {d k n : Nat} {P : am_O → Prop} {I : am_I} {J : am_J} {Pf : am_R} (hp : am_PF Pf) {x0 : Nat} (hx0 : am_SH[x0]? = some (.inl 9)) {x1 : Int32} {l2 : Option Value} {l3 : Option Value} (q1 : am_go sc d 117 (4, [some (.ref x0), some (.int x1), some (.int 0), some (.int 0)], [], (am_SH, I, J, Pf), k, n) P) : am_go sc d 117 (0, [some (.ref x0), some (.int x1), l2, l3], [], (am_SH, I, J, Pf), k, n) P := by
  refine am_s_iconst am_cc0 dc117_0.1.1.1 ?_
  refine am_s_istore_n (ls' := [some (.ref x0), some (.int x1), some (.int 0), l3]) rfl rfl dc117_0.1.1.2 ?_
  refine am_s_iconst am_cc0 dc117_0.1.2.1 ?_
  refine am_s_istore_n (ls' := [some (.ref x0), some (.int x1), some (.int 0), some (.int 0)]) rfl rfl dc117_0.1.2.2 ?_
  exact q1
theorem t117_4 {sc : Option (Nat × (Nat → Int32))} {d k n : Nat} {P : am_O → Prop} {I : am_I} {J : am_J} {Pf : am_R} (hp : am_PF Pf) {x0 : Nat} (hx0 : am_SH[x0]? = some (.inl 9)) {x1 : Int32} {x2 : Int32} {x3 : Int32} (q1 : ((I x0 1) < x3) → P (.inl (some (.int x2)), (am_SH, I, J, Pf), k, n)) (q2 : (¬ ((I x0 1) < x3)) → (((UInt32.toInt32 (Int32.toUInt32 x1 >>> (Int32.toUInt32 x3 &&& Int32.toUInt32 31))) &&& 1) = 0) → am_go sc d 117 (4, [some (.ref x0), some (.int x1), some (.int x2), some (.int (x3 + 1))], [], (am_SH, I, J, Pf), k, n) P) (q3 : (¬ ((I x0 1) < x3)) → (¬ (((UInt32.toInt32 (Int32.toUInt32 x1 >>> (Int32.toUInt32 x3 &&& Int32.toUInt32 31))) &&& 1) = 0)) → am_in x3 25 = true) (q4 : (¬ ((I x0 1) < x3)) → (¬ (((UInt32.toInt32 (Int32.toUInt32 x1 >>> (Int32.toUInt32 x3 &&& Int32.toUInt32 31))) &&& 1) = 0)) → am_go sc d 117 (4, [some (.ref x0), some (.int x1), some (.int (x2 ||| (1 <<< ((I (x0 + 2) (Int32.toNatClampNeg x3)) &&& 31)))), some (.int (x3 + 1))], [], (am_SH, I, J, Pf), k, n) P) : am_go sc d 117 (4, [some (.ref x0), some (.int x1), some (.int x2), some (.int x3)], [], (am_SH, I, J, Pf), k, n) P := by
  refine am_s_iload_n rfl dc117_0.2.1.1 ?_
  refine am_s_aload_n rfl dc117_0.2.1.2 ?_
  refine am_x_getI (x := I x0 1) dc117_0.2.2.1 rfl hx0 (Or.inl rfl) rfl ?_
  refine am_s_ic_gt dc117_0.2.2.2 rfl (fun c1 => ?_) (fun c1 => ?_)
  · refine am_s_iload_n rfl dc117_3.2.1 ?_
    exact am_s_ireturn dc117_3.2.2 rfl (q1 c1)
  · refine am_s_iload_n rfl dc117_1.1.1.1 ?_
    refine am_s_iload_n rfl dc117_1.1.1.2 ?_
    refine am_s_iushr dc117_1.1.2.1 ?_
    refine am_s_iconst am_cc1 dc117_1.1.2.2 ?_
    refine am_s_iand dc117_1.2.1.1 ?_
    refine am_s_if_eq dc117_1.2.1.2 rfl (fun c2 => ?_) (fun c2 => ?_)
    · refine am_s_iinc (ls' := [some (.ref x0), some (.int x1), some (.int x2), some (.int (x3 + 1))]) am_cc1 rfl rfl dc117_2.2.2.2 ?_
      refine am_s_goto rfl dc117_3.1 ?_
      exact q2 c1 c2
    · refine am_s_iload_n rfl dc117_1.2.2.1 ?_
      refine am_s_iconst am_cc1 dc117_1.2.2.2 ?_
      refine am_s_aload_n rfl dc117_2.1.1.1 ?_
      refine am_s_getR (r := x0 + 2) dc117_2.1.1.2 rfl hx0 rfl (am_r9_2 hp hx0) ?_
      refine am_s_iload_n rfl dc117_2.1.2.1 ?_
      refine am_x_iaload (x := I (x0 + 2) (Int32.toNatClampNeg x3)) dc117_2.1.2.2 (am_h9_2 hx0) (q3 c1 c2) rfl rfl ?_
      refine am_s_ishl dc117_2.2.1.1 ?_
      refine am_s_ior dc117_2.2.1.2 ?_
      refine am_s_istore_n (ls' := [some (.ref x0), some (.int x1), some (.int (x2 ||| (1 <<< ((I (x0 + 2) (Int32.toNatClampNeg x3)) &&& 31)))), some (.int x3)]) rfl rfl dc117_2.2.2.1 ?_
      refine am_s_iinc (ls' := [some (.ref x0), some (.int x1), some (.int (x2 ||| (1 <<< ((I (x0 + 2) (Int32.toNatClampNeg x3)) &&& 31)))), some (.int (x3 + 1))]) am_cc1 rfl rfl dc117_2.2.2.2 ?_
      refine am_s_goto rfl dc117_3.1 ?_
      exact q4 c1 c2
-- isOf (III)Z
theorem dc118_0 : (((decode (am_by 118) 0 = .ok (.aload_n 0, 1)) ∧ (decode (am_by 118) 1 = .ok (.getfield 18, 3))) ∧ ((decode (am_by 118) 4 = .ok (.iload_n 1, 1)) ∧ (decode (am_by 118) 5 = .ok (.bipush 25, 2)))) ∧ (((decode (am_by 118) 7 = .ok (.imul, 1)) ∧ (decode (am_by 118) 8 = .ok (.iload_n 2, 1))) ∧ ((decode (am_by 118) 9 = .ok (.iadd, 1)) ∧ (decode (am_by 118) 10 = .ok (.iaload, 1)))) := by decide +kernel
theorem dc118_1 : (((decode (am_by 118) 11 = .ok (.iload_n 3, 1)) ∧ (decode (am_by 118) 12 = .ok (.iushr, 1))) ∧ ((decode (am_by 118) 13 = .ok (.iconst 1, 1)) ∧ (decode (am_by 118) 14 = .ok (.iand, 1)))) ∧ (((decode (am_by 118) 15 = .ok (.ifCond .eq 7, 3)) ∧ (decode (am_by 118) 18 = .ok (.iconst 1, 1))) ∧ ((decode (am_by 118) 19 = .ok (.goto 4, 3)) ∧ (decode (am_by 118) 22 = .ok (.iconst 0, 1)))) := by decide +kernel
theorem dc118_2 : decode (am_by 118) 23 = .ok (.ireturn, 1) := by decide +kernel
theorem t118_0 {sc : Option (Nat × (Nat → Int32))} {d k n : Nat} {P : am_O → Prop} {I : am_I} {J : am_J} {Pf : am_R} (hp : am_PF Pf) {x0 : Nat} (hx0 : am_SH[x0]? = some (.inl 9)) {x1 : Int32} {x2 : Int32} {x3 : Int32} (q1 : am_in ((x1 * 25) + x2) 200 = true) (q2 : (((UInt32.toInt32 (Int32.toUInt32 (I (x0 + 3) (Int32.toNatClampNeg ((x1 * 25) + x2))) >>> (Int32.toUInt32 x3 &&& Int32.toUInt32 31))) &&& 1) = 0) → P (.inl (some (.int 0)), (am_SH, I, J, Pf), k, n)) (q3 : (¬ (((UInt32.toInt32 (Int32.toUInt32 (I (x0 + 3) (Int32.toNatClampNeg ((x1 * 25) + x2))) >>> (Int32.toUInt32 x3 &&& Int32.toUInt32 31))) &&& 1) = 0)) → P (.inl (some (.int 1)), (am_SH, I, J, Pf), k, n)) : am_go sc d 118 (0, [some (.ref x0), some (.int x1), some (.int x2), some (.int x3)], [], (am_SH, I, J, Pf), k, n) P := by
  refine am_s_aload_n rfl dc118_0.1.1.1 ?_
  refine am_s_getR (r := x0 + 3) dc118_0.1.1.2 rfl hx0 rfl (am_r9_3 hp hx0) ?_
  refine am_s_iload_n rfl dc118_0.1.2.1 ?_
  refine am_s_bipush am_cb25 dc118_0.1.2.2 ?_
  refine am_s_imul dc118_0.2.1.1 ?_
  refine am_s_iload_n rfl dc118_0.2.1.2 ?_
  refine am_s_iadd dc118_0.2.2.1 ?_
  refine am_x_iaload (x := I (x0 + 3) (Int32.toNatClampNeg ((x1 * 25) + x2))) dc118_0.2.2.2 (am_h9_3 hx0) (q1) rfl rfl ?_
  refine am_s_iload_n rfl dc118_1.1.1.1 ?_
  refine am_s_iushr dc118_1.1.1.2 ?_
  refine am_s_iconst am_cc1 dc118_1.1.2.1 ?_
  refine am_s_iand dc118_1.1.2.2 ?_
  refine am_s_if_eq dc118_1.2.1.1 rfl (fun c1 => ?_) (fun c1 => ?_)
  · refine am_s_iconst am_cc0 dc118_1.2.2.2 ?_
    exact am_s_zreturn dc118_2 rfl (by decide) (q2 c1)
  · refine am_s_iconst am_cc1 dc118_1.2.1.2 ?_
    refine am_s_goto rfl dc118_1.2.2.1 ?_
    exact am_s_zreturn dc118_2 rfl (by decide) (q3 c1)
-- whole ()I
theorem dc119_0 : (((decode (am_by 119) 0 = .ok (.iconst 0, 1)) ∧ (decode (am_by 119) 1 = .ok (.istore_n 1, 1))) ∧ ((decode (am_by 119) 2 = .ok (.iconst 0, 1)) ∧ (decode (am_by 119) 3 = .ok (.istore_n 2, 1)))) ∧ (((decode (am_by 119) 4 = .ok (.iload_n 2, 1)) ∧ (decode (am_by 119) 5 = .ok (.bipush 8, 2))) ∧ ((decode (am_by 119) 7 = .ok (.if_icmp .ge 28, 3)) ∧ (decode (am_by 119) 10 = .ok (.aload_n 0, 1)))) := by decide +kernel
theorem dc119_1 : (((decode (am_by 119) 11 = .ok (.iload_n 2, 1)) ∧ (decode (am_by 119) 12 = .ok (.iconst 0, 1))) ∧ ((decode (am_by 119) 13 = .ok (.aload_n 0, 1)) ∧ (decode (am_by 119) 14 = .ok (.getfield 24, 3)))) ∧ (((decode (am_by 119) 17 = .ok (.invokevirtual 56, 3)) ∧ (decode (am_by 119) 20 = .ok (.ifCond .eq 9, 3))) ∧ ((decode (am_by 119) 23 = .ok (.iload_n 1, 1)) ∧ (decode (am_by 119) 24 = .ok (.iconst 1, 1)))) := by decide +kernel
theorem dc119_2 : (((decode (am_by 119) 25 = .ok (.iload_n 2, 1)) ∧ (decode (am_by 119) 26 = .ok (.ishl, 1))) ∧ ((decode (am_by 119) 27 = .ok (.ior, 1)) ∧ (decode (am_by 119) 28 = .ok (.istore_n 1, 1)))) ∧ (((decode (am_by 119) 29 = .ok (.iinc 2 1, 3)) ∧ (decode (am_by 119) 32 = .ok (.goto (-28), 3))) ∧ ((decode (am_by 119) 35 = .ok (.iload_n 1, 1)) ∧ (decode (am_by 119) 36 = .ok (.ireturn, 1)))) := by decide +kernel
theorem t119_0 {sc : Option (Nat × (Nat → Int32))} {d k n : Nat} {P : am_O → Prop} {I : am_I} {J : am_J} {Pf : am_R} (hp : am_PF Pf) {x0 : Nat} (hx0 : am_SH[x0]? = some (.inl 9)) {l1 : Option Value} {l2 : Option Value} (q1 : am_go sc d 119 (4, [some (.ref x0), some (.int 0), some (.int 0)], [], (am_SH, I, J, Pf), k, n) P) : am_go sc d 119 (0, [some (.ref x0), l1, l2], [], (am_SH, I, J, Pf), k, n) P := by
  refine am_s_iconst am_cc0 dc119_0.1.1.1 ?_
  refine am_s_istore_n (ls' := [some (.ref x0), some (.int 0), l2]) rfl rfl dc119_0.1.1.2 ?_
  refine am_s_iconst am_cc0 dc119_0.1.2.1 ?_
  refine am_s_istore_n (ls' := [some (.ref x0), some (.int 0), some (.int 0)]) rfl rfl dc119_0.1.2.2 ?_
  exact q1
theorem t119_4 {sc : Option (Nat × (Nat → Int32))} {d k n : Nat} {P : am_O → Prop} {I : am_I} {J : am_J} {Pf : am_R} (hp : am_PF Pf) {x0 : Nat} (hx0 : am_SH[x0]? = some (.inl 9)) {x1 : Int32} {x2 : Int32} (q1 : (8 ≤ x2) → P (.inl (some (.int x1)), (am_SH, I, J, Pf), k, n)) (q2 : (¬ (8 ≤ x2)) → am_mth d 118 [.ref x0, .int x2, .int 0, .int (I x0 1)] (am_SH, I, J, Pf) (am_af sc d 119 17 [some (.ref x0), some (.int x1), some (.int x2)] [.int (I x0 1), .int 0, .int x2, .ref x0] [] (am_SH, I, J, Pf) k n true P)) : am_go sc d 119 (4, [some (.ref x0), some (.int x1), some (.int x2)], [], (am_SH, I, J, Pf), k, n) P := by
  refine am_s_iload_n rfl dc119_0.2.1.1 ?_
  refine am_s_bipush am_cb8 dc119_0.2.1.2 ?_
  refine am_s_ic_ge dc119_0.2.2.1 rfl (fun c1 => ?_) (fun c1 => ?_)
  · refine am_s_iload_n rfl dc119_2.2.2.1 ?_
    exact am_s_ireturn dc119_2.2.2.2 rfl (q1 c1)
  · refine am_s_aload_n rfl dc119_0.2.2.2 ?_
    refine am_s_iload_n rfl dc119_1.1.1.1 ?_
    refine am_s_iconst am_cc0 dc119_1.1.1.2 ?_
    refine am_s_aload_n rfl dc119_1.1.2.1 ?_
    refine am_x_getI (x := I x0 1) dc119_1.1.2.2 rfl hx0 (Or.inl rfl) rfl ?_
    exact am_s_virtual true dc119_1.2.1.1 rfl (by decide) rfl hx0 rfl (q2 c1)
theorem t119_20 {sc : Option (Nat × (Nat → Int32))} {d k n : Nat} {P : am_O → Prop} {I : am_I} {J : am_J} {Pf : am_R} (hp : am_PF Pf) {x0 : Nat} (hx0 : am_SH[x0]? = some (.inl 9)) {x1 : Int32} {x2 : Int32} {s0 : Int32} (q1 : (s0 = 0) → am_go sc d 119 (4, [some (.ref x0), some (.int x1), some (.int (x2 + 1))], [], (am_SH, I, J, Pf), k, n) P) (q2 : (¬ (s0 = 0)) → am_go sc d 119 (4, [some (.ref x0), some (.int (x1 ||| (1 <<< (x2 &&& 31)))), some (.int (x2 + 1))], [], (am_SH, I, J, Pf), k, n) P) : am_go sc d 119 (20, [some (.ref x0), some (.int x1), some (.int x2)], [.int s0], (am_SH, I, J, Pf), k, n) P := by
  refine am_s_if_eq dc119_1.2.1.2 rfl (fun c1 => ?_) (fun c1 => ?_)
  · refine am_s_iinc (ls' := [some (.ref x0), some (.int x1), some (.int (x2 + 1))]) am_cc1 rfl rfl dc119_2.2.1.1 ?_
    refine am_s_goto rfl dc119_2.2.1.2 ?_
    exact q1 c1
  · refine am_s_iload_n rfl dc119_1.2.2.1 ?_
    refine am_s_iconst am_cc1 dc119_1.2.2.2 ?_
    refine am_s_iload_n rfl dc119_2.1.1.1 ?_
    refine am_s_ishl dc119_2.1.1.2 ?_
    refine am_s_ior dc119_2.1.2.1 ?_
    refine am_s_istore_n (ls' := [some (.ref x0), some (.int (x1 ||| (1 <<< (x2 &&& 31)))), some (.int x2)]) rfl rfl dc119_2.1.2.2 ?_
    refine am_s_iinc (ls' := [some (.ref x0), some (.int (x1 ||| (1 <<< (x2 &&& 31)))), some (.int (x2 + 1))]) am_cc1 rfl rfl dc119_2.2.1.1 ?_
    refine am_s_goto rfl dc119_2.2.1.2 ?_
    exact q2 c1
-- piecesOf (I)I
theorem dc120_0 : (((decode (am_by 120) 0 = .ok (.iconst 0, 1)) ∧ (decode (am_by 120) 1 = .ok (.istore_n 2, 1))) ∧ ((decode (am_by 120) 2 = .ok (.iconst 0, 1)) ∧ (decode (am_by 120) 3 = .ok (.istore_n 3, 1)))) ∧ (((decode (am_by 120) 4 = .ok (.iload_n 3, 1)) ∧ (decode (am_by 120) 5 = .ok (.aload_n 0, 1))) ∧ ((decode (am_by 120) 6 = .ok (.getfield 24, 3)) ∧ (decode (am_by 120) 9 = .ok (.if_icmp .gt 26, 3)))) := by decide +kernel
theorem dc120_1 : (((decode (am_by 120) 12 = .ok (.iload_n 2, 1)) ∧ (decode (am_by 120) 13 = .ok (.aload_n 0, 1))) ∧ ((decode (am_by 120) 14 = .ok (.getfield 18, 3)) ∧ (decode (am_by 120) 17 = .ok (.iload_n 1, 1)))) ∧ (((decode (am_by 120) 18 = .ok (.bipush 25, 2)) ∧ (decode (am_by 120) 20 = .ok (.imul, 1))) ∧ ((decode (am_by 120) 21 = .ok (.iload_n 3, 1)) ∧ (decode (am_by 120) 22 = .ok (.iadd, 1)))) := by decide +kernel
theorem dc120_2 : (((decode (am_by 120) 23 = .ok (.iaload, 1)) ∧ (decode (am_by 120) 24 = .ok (.invokestatic 60, 3))) ∧ ((decode (am_by 120) 27 = .ok (.iadd, 1)) ∧ (decode (am_by 120) 28 = .ok (.istore_n 2, 1)))) ∧ (((decode (am_by 120) 29 = .ok (.iinc 3 1, 3)) ∧ (decode (am_by 120) 32 = .ok (.goto (-28), 3))) ∧ ((decode (am_by 120) 35 = .ok (.iload_n 2, 1)) ∧ (decode (am_by 120) 36 = .ok (.ireturn, 1)))) := by decide +kernel
theorem t120_0 {sc : Option (Nat × (Nat → Int32))} {d k n : Nat} {P : am_O → Prop} {I : am_I} {J : am_J} {Pf : am_R} (hp : am_PF Pf) {x0 : Nat} (hx0 : am_SH[x0]? = some (.inl 9)) {x1 : Int32} {l2 : Option Value} {l3 : Option Value} (q1 : am_go sc d 120 (4, [some (.ref x0), some (.int x1), some (.int 0), some (.int 0)], [], (am_SH, I, J, Pf), k, n) P) : am_go sc d 120 (0, [some (.ref x0), some (.int x1), l2, l3], [], (am_SH, I, J, Pf), k, n) P := by
  refine am_s_iconst am_cc0 dc120_0.1.1.1 ?_
  refine am_s_istore_n (ls' := [some (.ref x0), some (.int x1), some (.int 0), l3]) rfl rfl dc120_0.1.1.2 ?_
  refine am_s_iconst am_cc0 dc120_0.1.2.1 ?_
  refine am_s_istore_n (ls' := [some (.ref x0), some (.int x1), some (.int 0), some (.int 0)]) rfl rfl dc120_0.1.2.2 ?_
  exact q1
theorem t120_4 {sc : Option (Nat × (Nat → Int32))} {d k n : Nat} {P : am_O → Prop} {I : am_I} {J : am_J} {Pf : am_R} (hp : am_PF Pf) {x0 : Nat} (hx0 : am_SH[x0]? = some (.inl 9)) {x1 : Int32} {x2 : Int32} {x3 : Int32} (q1 : ((I x0 1) < x3) → P (.inl (some (.int x2)), (am_SH, I, J, Pf), k, n)) (q2 : (¬ ((I x0 1) < x3)) → am_in ((x1 * 25) + x3) 200 = true) (q3 : (¬ ((I x0 1) < x3)) → am_mth d 327 [.int (I (x0 + 3) (Int32.toNatClampNeg ((x1 * 25) + x3)))] (am_SH, I, J, Pf) (am_af sc d 120 24 [some (.ref x0), some (.int x1), some (.int x2), some (.int x3)] [.int (I (x0 + 3) (Int32.toNatClampNeg ((x1 * 25) + x3))), .int x2] [.int x2] (am_SH, I, J, Pf) k n false P)) : am_go sc d 120 (4, [some (.ref x0), some (.int x1), some (.int x2), some (.int x3)], [], (am_SH, I, J, Pf), k, n) P := by
  refine am_s_iload_n rfl dc120_0.2.1.1 ?_
  refine am_s_aload_n rfl dc120_0.2.1.2 ?_
  refine am_x_getI (x := I x0 1) dc120_0.2.2.1 rfl hx0 (Or.inl rfl) rfl ?_
  refine am_s_ic_gt dc120_0.2.2.2 rfl (fun c1 => ?_) (fun c1 => ?_)
  · refine am_s_iload_n rfl dc120_2.2.2.1 ?_
    exact am_s_ireturn dc120_2.2.2.2 rfl (q1 c1)
  · refine am_s_iload_n rfl dc120_1.1.1.1 ?_
    refine am_s_aload_n rfl dc120_1.1.1.2 ?_
    refine am_s_getR (r := x0 + 3) dc120_1.1.2.1 rfl hx0 rfl (am_r9_3 hp hx0) ?_
    refine am_s_iload_n rfl dc120_1.1.2.2 ?_
    refine am_s_bipush am_cb25 dc120_1.2.1.1 ?_
    refine am_s_imul dc120_1.2.1.2 ?_
    refine am_s_iload_n rfl dc120_1.2.2.1 ?_
    refine am_s_iadd dc120_1.2.2.2 ?_
    refine am_x_iaload (x := I (x0 + 3) (Int32.toNatClampNeg ((x1 * 25) + x3))) dc120_2.1.1.1 (am_h9_3 hx0) (q2 c1) rfl rfl ?_
    exact am_s_static dc120_2.1.1.2 rfl rfl rfl (q3 c1)
theorem t120_27 {sc : Option (Nat × (Nat → Int32))} {d k n : Nat} {P : am_O → Prop} {I : am_I} {J : am_J} {Pf : am_R} (hp : am_PF Pf) {x0 : Nat} (hx0 : am_SH[x0]? = some (.inl 9)) {x1 : Int32} {l2 : Option Value} {x3 : Int32} {s0 : Int32} {s1 : Int32} (q1 : am_go sc d 120 (4, [some (.ref x0), some (.int x1), some (.int (s0 + s1)), some (.int (x3 + 1))], [], (am_SH, I, J, Pf), k, n) P) : am_go sc d 120 (27, [some (.ref x0), some (.int x1), l2, some (.int x3)], [.int s1, .int s0], (am_SH, I, J, Pf), k, n) P := by
  refine am_s_iadd dc120_2.1.2.1 ?_
  refine am_s_istore_n (ls' := [some (.ref x0), some (.int x1), some (.int (s0 + s1)), some (.int x3)]) rfl rfl dc120_2.1.2.2 ?_
  refine am_s_iinc (ls' := [some (.ref x0), some (.int x1), some (.int (s0 + s1)), some (.int (x3 + 1))]) am_cc1 rfl rfl dc120_2.2.1.1 ?_
  refine am_s_goto rfl dc120_2.2.1.2 ?_
  exact q1
-- greatestEnd (I)I
theorem dc121_0 : (((decode (am_by 121) 0 = .ok (.aload_n 0, 1)) ∧ (decode (am_by 121) 1 = .ok (.getfield 24, 3))) ∧ ((decode (am_by 121) 4 = .ok (.istore_n 2, 1)) ∧ (decode (am_by 121) 5 = .ok (.iload_n 2, 1)))) ∧ (((decode (am_by 121) 6 = .ok (.ifCond .le 21, 3)) ∧ (decode (am_by 121) 9 = .ok (.aload_n 0, 1))) ∧ ((decode (am_by 121) 10 = .ok (.iload_n 1, 1)) ∧ (decode (am_by 121) 11 = .ok (.iconst 0, 1)))) := by decide +kernel
theorem dc121_1 : (((decode (am_by 121) 12 = .ok (.iload_n 2, 1)) ∧ (decode (am_by 121) 13 = .ok (.invokevirtual 56, 3))) ∧ ((decode (am_by 121) 16 = .ok (.ifCond .eq 5, 3)) ∧ (decode (am_by 121) 19 = .ok (.iload_n 2, 1)))) ∧ (((decode (am_by 121) 20 = .ok (.ireturn, 1)) ∧ (decode (am_by 121) 21 = .ok (.iinc 2 (-1), 3))) ∧ ((decode (am_by 121) 24 = .ok (.goto (-19), 3)) ∧ (decode (am_by 121) 27 = .ok (.iconst 0, 1)))) := by decide +kernel
theorem dc121_2 : decode (am_by 121) 28 = .ok (.ireturn, 1) := by decide +kernel
theorem t121_0 {sc : Option (Nat × (Nat → Int32))} {d k n : Nat} {P : am_O → Prop} {I : am_I} {J : am_J} {Pf : am_R} (hp : am_PF Pf) {x0 : Nat} (hx0 : am_SH[x0]? = some (.inl 9)) {x1 : Int32} {l2 : Option Value} (q1 : am_go sc d 121 (5, [some (.ref x0), some (.int x1), some (.int (I x0 1))], [], (am_SH, I, J, Pf), k, n) P) : am_go sc d 121 (0, [some (.ref x0), some (.int x1), l2], [], (am_SH, I, J, Pf), k, n) P := by
  refine am_s_aload_n rfl dc121_0.1.1.1 ?_
  refine am_x_getI (x := I x0 1) dc121_0.1.1.2 rfl hx0 (Or.inl rfl) rfl ?_
  refine am_s_istore_n (ls' := [some (.ref x0), some (.int x1), some (.int (I x0 1))]) rfl rfl dc121_0.1.2.1 ?_
  exact q1
theorem t121_5 {sc : Option (Nat × (Nat → Int32))} {d k n : Nat} {P : am_O → Prop} {I : am_I} {J : am_J} {Pf : am_R} (hp : am_PF Pf) {x0 : Nat} (hx0 : am_SH[x0]? = some (.inl 9)) {x1 : Int32} {x2 : Int32} (q1 : (x2 ≤ 0) → P (.inl (some (.int 0)), (am_SH, I, J, Pf), k, n)) (q2 : (¬ (x2 ≤ 0)) → am_mth d 118 [.ref x0, .int x1, .int 0, .int x2] (am_SH, I, J, Pf) (am_af sc d 121 13 [some (.ref x0), some (.int x1), some (.int x2)] [.int x2, .int 0, .int x1, .ref x0] [] (am_SH, I, J, Pf) k n true P)) : am_go sc d 121 (5, [some (.ref x0), some (.int x1), some (.int x2)], [], (am_SH, I, J, Pf), k, n) P := by
  refine am_s_iload_n rfl dc121_0.1.2.2 ?_
  refine am_s_if_le dc121_0.2.1.1 rfl (fun c1 => ?_) (fun c1 => ?_)
  · refine am_s_iconst am_cc0 dc121_1.2.2.2 ?_
    exact am_s_ireturn dc121_2 rfl (q1 c1)
  · refine am_s_aload_n rfl dc121_0.2.1.2 ?_
    refine am_s_iload_n rfl dc121_0.2.2.1 ?_
    refine am_s_iconst am_cc0 dc121_0.2.2.2 ?_
    refine am_s_iload_n rfl dc121_1.1.1.1 ?_
    exact am_s_virtual true dc121_1.1.1.2 rfl (by decide) rfl hx0 rfl (q2 c1)
theorem t121_16 {sc : Option (Nat × (Nat → Int32))} {d k n : Nat} {P : am_O → Prop} {I : am_I} {J : am_J} {Pf : am_R} (hp : am_PF Pf) {x0 : Nat} (hx0 : am_SH[x0]? = some (.inl 9)) {x1 : Int32} {x2 : Int32} {s0 : Int32} (q1 : (s0 = 0) → am_go sc d 121 (5, [some (.ref x0), some (.int x1), some (.int (x2 + (-1)))], [], (am_SH, I, J, Pf), k, n) P) (q2 : (¬ (s0 = 0)) → P (.inl (some (.int x2)), (am_SH, I, J, Pf), k, n)) : am_go sc d 121 (16, [some (.ref x0), some (.int x1), some (.int x2)], [.int s0], (am_SH, I, J, Pf), k, n) P := by
  refine am_s_if_eq dc121_1.1.2.1 rfl (fun c1 => ?_) (fun c1 => ?_)
  · refine am_s_iinc (ls' := [some (.ref x0), some (.int x1), some (.int (x2 + (-1)))]) am_ccm1 rfl rfl dc121_1.2.1.2 ?_
    refine am_s_goto rfl dc121_1.2.2.1 ?_
    exact q1 c1
  · refine am_s_iload_n rfl dc121_1.1.2.2 ?_
    exact am_s_ireturn dc121_1.2.1.1 rfl (q2 c1)
