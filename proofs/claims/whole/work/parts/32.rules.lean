/-! Walks: rules -/
-- clear ()V
theorem dc67_0 : (((decode (am_by 67) 0 = .ok (.aload_n 0, 1)) ∧ (decode (am_by 67) 1 = .ok (.iconst 0, 1))) ∧ ((decode (am_by 67) 2 = .ok (.putfield 70, 3)) ∧ (decode (am_by 67) 5 = .ok (.aload_n 0, 1)))) ∧ (((decode (am_by 67) 6 = .ok (.iconst 0, 1)) ∧ (decode (am_by 67) 7 = .ok (.putfield 73, 3))) ∧ ((decode (am_by 67) 10 = .ok (.aload_n 0, 1)) ∧ (decode (am_by 67) 11 = .ok (.iconst 0, 1)))) := by decide +kernel
theorem dc67_1 : (((decode (am_by 67) 12 = .ok (.putfield 76, 3)) ∧ (decode (am_by 67) 15 = .ok (.aload_n 0, 1))) ∧ ((decode (am_by 67) 16 = .ok (.iconst 0, 1)) ∧ (decode (am_by 67) 17 = .ok (.putfield 79, 3)))) ∧ (((decode (am_by 67) 20 = .ok (.aload_n 0, 1)) ∧ (decode (am_by 67) 21 = .ok (.iconst 0, 1))) ∧ ((decode (am_by 67) 22 = .ok (.putfield 82, 3)) ∧ (decode (am_by 67) 25 = .ok (.aload_n 0, 1)))) := by decide +kernel
theorem dc67_2 : (decode (am_by 67) 26 = .ok (.iconst (-1), 1)) ∧ ((decode (am_by 67) 27 = .ok (.putfield 58, 3)) ∧ (decode (am_by 67) 30 = .ok (.return_, 1))) := by decide +kernel
theorem t67_0 {sc : Option (Nat × (Nat → Int32))} {d k n : Nat} {P : am_O → Prop} {I : am_I} {J : am_J} {Pf : am_R} (hp : am_PF Pf) {x0 : Nat} (hx0 : am_SH[x0]? = some (.inl 4)) (q1 : P (.inl none, (am_SH, am_u (am_u (am_u (am_u (am_u (am_u I x0 1 0) x0 2 0) x0 9 0) x0 13 0) x0 16 0) x0 19 (-1), J, Pf), k, n)) : am_go sc d 67 (0, [some (.ref x0)], [], (am_SH, I, J, Pf), k, n) P := by
  refine am_s_aload_n rfl dc67_0.1.1.1 ?_
  refine am_s_iconst am_cc0 dc67_0.1.1.2 ?_
  refine am_s_putI dc67_0.1.2.1 rfl hx0 rfl rfl ?_
  refine am_s_aload_n rfl dc67_0.1.2.2 ?_
  refine am_s_iconst am_cc0 dc67_0.2.1.1 ?_
  refine am_s_putI dc67_0.2.1.2 rfl hx0 rfl rfl ?_
  refine am_s_aload_n rfl dc67_0.2.2.1 ?_
  refine am_s_iconst am_cc0 dc67_0.2.2.2 ?_
  refine am_s_putI dc67_1.1.1.1 rfl hx0 rfl rfl ?_
  refine am_s_aload_n rfl dc67_1.1.1.2 ?_
  refine am_s_iconst am_cc0 dc67_1.1.2.1 ?_
  refine am_s_putI dc67_1.1.2.2 rfl hx0 rfl rfl ?_
  refine am_s_aload_n rfl dc67_1.2.1.1 ?_
  refine am_s_iconst am_cc0 dc67_1.2.1.2 ?_
  refine am_s_putI dc67_1.2.2.1 rfl hx0 rfl rfl ?_
  refine am_s_aload_n rfl dc67_1.2.2.2 ?_
  refine am_s_iconst am_ccm1 dc67_2.1 ?_
  refine am_s_putI dc67_2.2.1 rfl hx0 rfl rfl ?_
  exact am_s_return dc67_2.2.2 rfl (q1)
-- firstClassLike (LPrunedParses$Signs;)I
theorem dc68_0 : (((decode (am_by 68) 0 = .ok (.iconst 0, 1)) ∧ (decode (am_by 68) 1 = .ok (.istore_n 2, 1))) ∧ ((decode (am_by 68) 2 = .ok (.iload_n 2, 1)) ∧ (decode (am_by 68) 3 = .ok (.aload_n 0, 1)))) ∧ (((decode (am_by 68) 4 = .ok (.getfield 70, 3)) ∧ (decode (am_by 68) 7 = .ok (.if_icmp .ge 30, 3))) ∧ ((decode (am_by 68) 10 = .ok (.iload_n 2, 1)) ∧ (decode (am_by 68) 11 = .ok (.bipush 8, 2)))) := by decide +kernel
theorem dc68_1 : (((decode (am_by 68) 13 = .ok (.if_icmp .ge 24, 3)) ∧ (decode (am_by 68) 16 = .ok (.aload_n 0, 1))) ∧ ((decode (am_by 68) 17 = .ok (.getfield 11, 3)) ∧ (decode (am_by 68) 20 = .ok (.iload_n 2, 1)))) ∧ (((decode (am_by 68) 21 = .ok (.aaload, 1)) ∧ (decode (am_by 68) 22 = .ok (.aload_n 1, 1))) ∧ ((decode (am_by 68) 23 = .ok (.invokevirtual 85, 3)) ∧ (decode (am_by 68) 26 = .ok (.ifCond .eq 5, 3)))) := by decide +kernel
theorem dc68_2 : ((decode (am_by 68) 29 = .ok (.iload_n 2, 1)) ∧ ((decode (am_by 68) 30 = .ok (.ireturn, 1)) ∧ (decode (am_by 68) 31 = .ok (.iinc 2 1, 3)))) ∧ ((decode (am_by 68) 34 = .ok (.goto (-32), 3)) ∧ ((decode (am_by 68) 37 = .ok (.iconst (-1), 1)) ∧ (decode (am_by 68) 38 = .ok (.ireturn, 1)))) := by decide +kernel
theorem t68_0 {sc : Option (Nat × (Nat → Int32))} {d k n : Nat} {P : am_O → Prop} {I : am_I} {J : am_J} {Pf : am_R} (hp : am_PF Pf) {x0 : Nat} (hx0 : am_SH[x0]? = some (.inl 4)) {x1 : Nat} (hx1 : am_SH[x1]? = some (.inl 6)) {l2 : Option Value} (q1 : am_go sc d 68 (2, [some (.ref x0), some (.ref x1), some (.int 0)], [], (am_SH, I, J, Pf), k, n) P) : am_go sc d 68 (0, [some (.ref x0), some (.ref x1), l2], [], (am_SH, I, J, Pf), k, n) P := by
  refine am_s_iconst am_cc0 dc68_0.1.1.1 ?_
  refine am_s_istore_n (ls' := [some (.ref x0), some (.ref x1), some (.int 0)]) rfl rfl dc68_0.1.1.2 ?_
  exact q1
theorem t68_2 {sc : Option (Nat × (Nat → Int32))} {d k n : Nat} {P : am_O → Prop} {I : am_I} {J : am_J} {Pf : am_R} (hp : am_PF Pf) {x0 : Nat} (hx0 : am_SH[x0]? = some (.inl 4)) {x1 : Nat} (hx1 : am_SH[x1]? = some (.inl 6)) {x2 : Int32} {r21 : Nat} (q1 : ((I x0 1) ≤ x2) → P (.inl (some (.int (-1))), (am_SH, I, J, Pf), k, n)) (q2 : (¬ ((I x0 1) ≤ x2)) → (8 ≤ x2) → P (.inl (some (.int (-1))), (am_SH, I, J, Pf), k, n)) (q3 : (¬ ((I x0 1) ≤ x2)) → (¬ (8 ≤ x2)) → am_in x2 8 = true) (q4 : (¬ ((I x0 1) ≤ x2)) → (¬ (8 ≤ x2)) → Pf (x0 + 1) (Int32.toNatClampNeg x2) = some r21) (q5 : (¬ ((I x0 1) ≤ x2)) → (¬ (8 ≤ x2)) → am_SH[r21]? = some (.inl 6)) (q6 : (¬ ((I x0 1) ≤ x2)) → (¬ (8 ≤ x2)) → am_mth d 84 [.ref r21, .ref x1] (am_SH, I, J, Pf) (am_af sc d 68 23 [some (.ref x0), some (.ref x1), some (.int x2)] [.ref x1, .ref r21] [] (am_SH, I, J, Pf) k n false P)) : am_go sc d 68 (2, [some (.ref x0), some (.ref x1), some (.int x2)], [], (am_SH, I, J, Pf), k, n) P := by
  refine am_s_iload_n rfl dc68_0.1.2.1 ?_
  refine am_s_aload_n rfl dc68_0.1.2.2 ?_
  refine am_x_getI (x := I x0 1) dc68_0.2.1.1 rfl hx0 (Or.inl rfl) rfl ?_
  refine am_s_ic_ge dc68_0.2.1.2 rfl (fun c1 => ?_) (fun c1 => ?_)
  · refine am_s_iconst am_ccm1 dc68_2.2.2.1 ?_
    exact am_s_ireturn dc68_2.2.2.2 rfl (q1 c1)
  · refine am_s_iload_n rfl dc68_0.2.2.1 ?_
    refine am_s_bipush am_cb8 dc68_0.2.2.2 ?_
    refine am_s_ic_ge dc68_1.1.1.1 rfl (fun c2 => ?_) (fun c2 => ?_)
    · refine am_s_iconst am_ccm1 dc68_2.2.2.1 ?_
      exact am_s_ireturn dc68_2.2.2.2 rfl (q2 c1 c2)
    · refine am_s_aload_n rfl dc68_1.1.1.2 ?_
      refine am_s_getR (r := x0 + 1) dc68_1.1.2.1 rfl hx0 rfl (am_r4_0 hp hx0) ?_
      refine am_s_iload_n rfl dc68_1.1.2.2 ?_
      refine am_s_aaload (r := r21) dc68_1.2.1.1 (am_h4_0 hx0) rfl (q3 c1 c2) (q4 c1 c2) ?_
      refine am_s_aload_n rfl dc68_1.2.1.2 ?_
      exact am_s_virtual false dc68_1.2.2.1 rfl (by decide) rfl (q5 c1 c2) rfl (q6 c1 c2)
theorem t68_26 {sc : Option (Nat × (Nat → Int32))} {d k n : Nat} {P : am_O → Prop} {I : am_I} {J : am_J} {Pf : am_R} (hp : am_PF Pf) {x0 : Nat} (hx0 : am_SH[x0]? = some (.inl 4)) {x1 : Nat} (hx1 : am_SH[x1]? = some (.inl 6)) {x2 : Int32} {s0 : Int32} (q1 : (s0 = 0) → am_go sc d 68 (2, [some (.ref x0), some (.ref x1), some (.int (x2 + 1))], [], (am_SH, I, J, Pf), k, n) P) (q2 : (¬ (s0 = 0)) → P (.inl (some (.int x2)), (am_SH, I, J, Pf), k, n)) : am_go sc d 68 (26, [some (.ref x0), some (.ref x1), some (.int x2)], [.int s0], (am_SH, I, J, Pf), k, n) P := by
  refine am_s_if_eq dc68_1.2.2.2 rfl (fun c1 => ?_) (fun c1 => ?_)
  · refine am_s_iinc (ls' := [some (.ref x0), some (.ref x1), some (.int (x2 + 1))]) am_cc1 rfl rfl dc68_2.1.2.2 ?_
    refine am_s_goto rfl dc68_2.2.1 ?_
    exact q1 c1
  · refine am_s_iload_n rfl dc68_2.1.1 ?_
    exact am_s_ireturn dc68_2.1.2.1 rfl (q2 c1)
-- classesOf (I)I
theorem dc69_0 : (((decode (am_by 69) 0 = .ok (.iconst 0, 1)) ∧ (decode (am_by 69) 1 = .ok (.istore_n 2, 1))) ∧ ((decode (am_by 69) 2 = .ok (.iconst 0, 1)) ∧ (decode (am_by 69) 3 = .ok (.istore_n 3, 1)))) ∧ (((decode (am_by 69) 4 = .ok (.iload_n 3, 1)) ∧ (decode (am_by 69) 5 = .ok (.aload_n 0, 1))) ∧ ((decode (am_by 69) 6 = .ok (.getfield 70, 3)) ∧ (decode (am_by 69) 9 = .ok (.if_icmp .ge 34, 3)))) := by decide +kernel
theorem dc69_1 : (((decode (am_by 69) 12 = .ok (.iload_n 3, 1)) ∧ (decode (am_by 69) 13 = .ok (.bipush 8, 2))) ∧ ((decode (am_by 69) 15 = .ok (.if_icmp .ge 28, 3)) ∧ (decode (am_by 69) 18 = .ok (.aload_n 0, 1)))) ∧ (((decode (am_by 69) 19 = .ok (.getfield 11, 3)) ∧ (decode (am_by 69) 22 = .ok (.iload_n 3, 1))) ∧ ((decode (am_by 69) 23 = .ok (.aaload, 1)) ∧ (decode (am_by 69) 24 = .ok (.iload_n 1, 1)))) := by decide +kernel
theorem dc69_2 : (((decode (am_by 69) 25 = .ok (.invokevirtual 89, 3)) ∧ (decode (am_by 69) 28 = .ok (.ifCond .eq 9, 3))) ∧ ((decode (am_by 69) 31 = .ok (.iload_n 2, 1)) ∧ (decode (am_by 69) 32 = .ok (.iconst 1, 1)))) ∧ (((decode (am_by 69) 33 = .ok (.iload_n 3, 1)) ∧ (decode (am_by 69) 34 = .ok (.ishl, 1))) ∧ ((decode (am_by 69) 35 = .ok (.ior, 1)) ∧ (decode (am_by 69) 36 = .ok (.istore_n 2, 1)))) := by decide +kernel
theorem dc69_3 : ((decode (am_by 69) 37 = .ok (.iinc 3 1, 3)) ∧ (decode (am_by 69) 40 = .ok (.goto (-36), 3))) ∧ ((decode (am_by 69) 43 = .ok (.iload_n 2, 1)) ∧ (decode (am_by 69) 44 = .ok (.ireturn, 1))) := by decide +kernel
theorem t69_0 {sc : Option (Nat × (Nat → Int32))} {d k n : Nat} {P : am_O → Prop} {I : am_I} {J : am_J} {Pf : am_R} (hp : am_PF Pf) {x0 : Nat} (hx0 : am_SH[x0]? = some (.inl 4)) {x1 : Int32} {l2 : Option Value} {l3 : Option Value} (q1 : am_go sc d 69 (4, [some (.ref x0), some (.int x1), some (.int 0), some (.int 0)], [], (am_SH, I, J, Pf), k, n) P) : am_go sc d 69 (0, [some (.ref x0), some (.int x1), l2, l3], [], (am_SH, I, J, Pf), k, n) P := by
  refine am_s_iconst am_cc0 dc69_0.1.1.1 ?_
  refine am_s_istore_n (ls' := [some (.ref x0), some (.int x1), some (.int 0), l3]) rfl rfl dc69_0.1.1.2 ?_
  refine am_s_iconst am_cc0 dc69_0.1.2.1 ?_
  refine am_s_istore_n (ls' := [some (.ref x0), some (.int x1), some (.int 0), some (.int 0)]) rfl rfl dc69_0.1.2.2 ?_
  exact q1
theorem t69_4 {sc : Option (Nat × (Nat → Int32))} {d k n : Nat} {P : am_O → Prop} {I : am_I} {J : am_J} {Pf : am_R} (hp : am_PF Pf) {x0 : Nat} (hx0 : am_SH[x0]? = some (.inl 4)) {x1 : Int32} {x2 : Int32} {x3 : Int32} {r23 : Nat} (q1 : ((I x0 1) ≤ x3) → P (.inl (some (.int x2)), (am_SH, I, J, Pf), k, n)) (q2 : (¬ ((I x0 1) ≤ x3)) → (8 ≤ x3) → P (.inl (some (.int x2)), (am_SH, I, J, Pf), k, n)) (q3 : (¬ ((I x0 1) ≤ x3)) → (¬ (8 ≤ x3)) → am_in x3 8 = true) (q4 : (¬ ((I x0 1) ≤ x3)) → (¬ (8 ≤ x3)) → Pf (x0 + 1) (Int32.toNatClampNeg x3) = some r23) (q5 : (¬ ((I x0 1) ≤ x3)) → (¬ (8 ≤ x3)) → am_SH[r23]? = some (.inl 6)) (q6 : (¬ ((I x0 1) ≤ x3)) → (¬ (8 ≤ x3)) → am_mth d 78 [.ref r23, .int x1] (am_SH, I, J, Pf) (am_af sc d 69 25 [some (.ref x0), some (.int x1), some (.int x2), some (.int x3)] [.int x1, .ref r23] [] (am_SH, I, J, Pf) k n false P)) : am_go sc d 69 (4, [some (.ref x0), some (.int x1), some (.int x2), some (.int x3)], [], (am_SH, I, J, Pf), k, n) P := by
  refine am_s_iload_n rfl dc69_0.2.1.1 ?_
  refine am_s_aload_n rfl dc69_0.2.1.2 ?_
  refine am_x_getI (x := I x0 1) dc69_0.2.2.1 rfl hx0 (Or.inl rfl) rfl ?_
  refine am_s_ic_ge dc69_0.2.2.2 rfl (fun c1 => ?_) (fun c1 => ?_)
  · refine am_s_iload_n rfl dc69_3.2.1 ?_
    exact am_s_ireturn dc69_3.2.2 rfl (q1 c1)
  · refine am_s_iload_n rfl dc69_1.1.1.1 ?_
    refine am_s_bipush am_cb8 dc69_1.1.1.2 ?_
    refine am_s_ic_ge dc69_1.1.2.1 rfl (fun c2 => ?_) (fun c2 => ?_)
    · refine am_s_iload_n rfl dc69_3.2.1 ?_
      exact am_s_ireturn dc69_3.2.2 rfl (q2 c1 c2)
    · refine am_s_aload_n rfl dc69_1.1.2.2 ?_
      refine am_s_getR (r := x0 + 1) dc69_1.2.1.1 rfl hx0 rfl (am_r4_0 hp hx0) ?_
      refine am_s_iload_n rfl dc69_1.2.1.2 ?_
      refine am_s_aaload (r := r23) dc69_1.2.2.1 (am_h4_0 hx0) rfl (q3 c1 c2) (q4 c1 c2) ?_
      refine am_s_iload_n rfl dc69_1.2.2.2 ?_
      exact am_s_virtual false dc69_2.1.1.1 rfl (by decide) rfl (q5 c1 c2) rfl (q6 c1 c2)
theorem t69_28 {sc : Option (Nat × (Nat → Int32))} {d k n : Nat} {P : am_O → Prop} {I : am_I} {J : am_J} {Pf : am_R} (hp : am_PF Pf) {x0 : Nat} (hx0 : am_SH[x0]? = some (.inl 4)) {x1 : Int32} {x2 : Int32} {x3 : Int32} {s0 : Int32} (q1 : (s0 = 0) → am_go sc d 69 (4, [some (.ref x0), some (.int x1), some (.int x2), some (.int (x3 + 1))], [], (am_SH, I, J, Pf), k, n) P) (q2 : (¬ (s0 = 0)) → am_go sc d 69 (4, [some (.ref x0), some (.int x1), some (.int (x2 ||| (1 <<< (x3 &&& 31)))), some (.int (x3 + 1))], [], (am_SH, I, J, Pf), k, n) P) : am_go sc d 69 (28, [some (.ref x0), some (.int x1), some (.int x2), some (.int x3)], [.int s0], (am_SH, I, J, Pf), k, n) P := by
  refine am_s_if_eq dc69_2.1.1.2 rfl (fun c1 => ?_) (fun c1 => ?_)
  · refine am_s_iinc (ls' := [some (.ref x0), some (.int x1), some (.int x2), some (.int (x3 + 1))]) am_cc1 rfl rfl dc69_3.1.1 ?_
    refine am_s_goto rfl dc69_3.1.2 ?_
    exact q1 c1
  · refine am_s_iload_n rfl dc69_2.1.2.1 ?_
    refine am_s_iconst am_cc1 dc69_2.1.2.2 ?_
    refine am_s_iload_n rfl dc69_2.2.1.1 ?_
    refine am_s_ishl dc69_2.2.1.2 ?_
    refine am_s_ior dc69_2.2.2.1 ?_
    refine am_s_istore_n (ls' := [some (.ref x0), some (.int x1), some (.int (x2 ||| (1 <<< (x3 &&& 31)))), some (.int x3)]) rfl rfl dc69_2.2.2.2 ?_
    refine am_s_iinc (ls' := [some (.ref x0), some (.int x1), some (.int (x2 ||| (1 <<< (x3 &&& 31)))), some (.int (x3 + 1))]) am_cc1 rfl rfl dc69_3.1.1 ?_
    refine am_s_goto rfl dc69_3.1.2 ?_
    exact q2 c1
