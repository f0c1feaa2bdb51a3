/-! Walks: main -/
-- feed (IIIII)I
theorem dc140_0 : (((decode (am_by 140) 0 = .ok (.aload_n 0, 1)) ∧ (decode (am_by 140) 1 = .ok (.getfield 10, 3))) ∧ ((decode (am_by 140) 4 = .ok (.getfield 95, 3)) ∧ (decode (am_by 140) 7 = .ok (.bipush 20, 2)))) ∧ (((decode (am_by 140) 9 = .ok (.iadd, 1)) ∧ (decode (am_by 140) 10 = .ok (.sipush 600, 3))) ∧ ((decode (am_by 140) 13 = .ok (.if_icmp .le 5, 3)) ∧ (decode (am_by 140) 16 = .ok (.iconst (-1), 1)))) := by decide +kernel
theorem dc140_1 : (((decode (am_by 140) 17 = .ok (.ireturn, 1)) ∧ (decode (am_by 140) 18 = .ok (.aload_n 0, 1))) ∧ ((decode (am_by 140) 19 = .ok (.getfield 10, 3)) ∧ (decode (am_by 140) 22 = .ok (.iload_n 1, 1)))) ∧ (((decode (am_by 140) 23 = .ok (.invokevirtual 98, 3)) ∧ (decode (am_by 140) 26 = .ok (.aload_n 0, 1))) ∧ ((decode (am_by 140) 27 = .ok (.getfield 10, 3)) ∧ (decode (am_by 140) 30 = .ok (.iload_n 2, 1)))) := by decide +kernel
theorem dc140_2 : (((decode (am_by 140) 31 = .ok (.invokevirtual 98, 3)) ∧ (decode (am_by 140) 34 = .ok (.aload_n 0, 1))) ∧ ((decode (am_by 140) 35 = .ok (.getfield 10, 3)) ∧ (decode (am_by 140) 38 = .ok (.iload_n 3, 1)))) ∧ (((decode (am_by 140) 39 = .ok (.invokevirtual 98, 3)) ∧ (decode (am_by 140) 42 = .ok (.aload_n 0, 1))) ∧ ((decode (am_by 140) 43 = .ok (.getfield 10, 3)) ∧ (decode (am_by 140) 46 = .ok (.iload 4, 2)))) := by decide +kernel
theorem dc140_3 : (((decode (am_by 140) 48 = .ok (.invokevirtual 98, 3)) ∧ (decode (am_by 140) 51 = .ok (.aload_n 0, 1))) ∧ ((decode (am_by 140) 52 = .ok (.getfield 10, 3)) ∧ (decode (am_by 140) 55 = .ok (.iload 5, 2)))) ∧ (((decode (am_by 140) 57 = .ok (.invokevirtual 98, 3)) ∧ (decode (am_by 140) 60 = .ok (.aload_n 0, 1))) ∧ ((decode (am_by 140) 61 = .ok (.getfield 10, 3)) ∧ (decode (am_by 140) 64 = .ok (.getfield 95, 3)))) := by decide +kernel
theorem dc140_4 : decode (am_by 140) 67 = .ok (.ireturn, 1) := by decide +kernel
theorem t140_0 {sc : Option (Nat × (Nat → Int32))} {d k n : Nat} {P : am_O → Prop} {I : am_I} {J : am_J} {Pf : am_R} (hp : am_PF Pf) {x1 : Int32} {x2 : Int32} {x3 : Int32} {x4 : Int32} {x5 : Int32} (q1 : (((I 1 1) + 20) ≤ 600) → am_mth d 51 [.ref 1, .int x1] (am_SH, I, J, Pf) (am_af sc d 140 23 [some (.ref 0), some (.int x1), some (.int x2), some (.int x3), some (.int x4), some (.int x5)] [.int x1, .ref 1] [] (am_SH, I, J, Pf) k n false P)) (q2 : (¬ (((I 1 1) + 20) ≤ 600)) → P (.inl (some (.int (-1))), (am_SH, I, J, Pf), k, n)) : am_go sc d 140 (0, [some (.ref 0), some (.int x1), some (.int x2), some (.int x3), some (.int x4), some (.int x5)], [], (am_SH, I, J, Pf), k, n) P := by
  refine am_s_aload_n rfl dc140_0.1.1.1 ?_
  refine am_s_getR (r := 1) dc140_0.1.1.2 rfl rfl rfl (hp _ _ _ rfl) ?_
  refine am_x_getI (x := I 1 1) dc140_0.1.2.1 rfl rfl (Or.inl rfl) rfl ?_
  refine am_s_bipush am_cb20 dc140_0.1.2.2 ?_
  refine am_s_iadd dc140_0.2.1.1 ?_
  refine am_s_sipush am_cs600 dc140_0.2.1.2 ?_
  refine am_s_ic_le dc140_0.2.2.1 rfl (fun c1 => ?_) (fun c1 => ?_)
  · refine am_s_aload_n rfl dc140_1.1.1.2 ?_
    refine am_s_getR (r := 1) dc140_1.1.2.1 rfl rfl rfl (hp _ _ _ rfl) ?_
    refine am_s_iload_n rfl dc140_1.1.2.2 ?_
    exact am_s_virtual false dc140_1.2.1.1 rfl (by decide) rfl rfl rfl (q1 c1)
  · refine am_s_iconst am_ccm1 dc140_0.2.2.2 ?_
    exact am_s_ireturn dc140_1.1.1.1 rfl (q2 c1)
theorem t140_26 {sc : Option (Nat × (Nat → Int32))} {d k n : Nat} {P : am_O → Prop} {I : am_I} {J : am_J} {Pf : am_R} (hp : am_PF Pf) {l1 : Option Value} {x2 : Int32} {x3 : Int32} {x4 : Int32} {x5 : Int32} (q1 : am_mth d 51 [.ref 1, .int x2] (am_SH, I, J, Pf) (am_af sc d 140 31 [some (.ref 0), l1, some (.int x2), some (.int x3), some (.int x4), some (.int x5)] [.int x2, .ref 1] [] (am_SH, I, J, Pf) k n false P)) : am_go sc d 140 (26, [some (.ref 0), l1, some (.int x2), some (.int x3), some (.int x4), some (.int x5)], [], (am_SH, I, J, Pf), k, n) P := by
  refine am_s_aload_n rfl dc140_1.2.1.2 ?_
  refine am_s_getR (r := 1) dc140_1.2.2.1 rfl rfl rfl (hp _ _ _ rfl) ?_
  refine am_s_iload_n rfl dc140_1.2.2.2 ?_
  exact am_s_virtual false dc140_2.1.1.1 rfl (by decide) rfl rfl rfl (q1)
theorem t140_34 {sc : Option (Nat × (Nat → Int32))} {d k n : Nat} {P : am_O → Prop} {I : am_I} {J : am_J} {Pf : am_R} (hp : am_PF Pf) {l1 : Option Value} {l2 : Option Value} {x3 : Int32} {x4 : Int32} {x5 : Int32} (q1 : am_mth d 51 [.ref 1, .int x3] (am_SH, I, J, Pf) (am_af sc d 140 39 [some (.ref 0), l1, l2, some (.int x3), some (.int x4), some (.int x5)] [.int x3, .ref 1] [] (am_SH, I, J, Pf) k n false P)) : am_go sc d 140 (34, [some (.ref 0), l1, l2, some (.int x3), some (.int x4), some (.int x5)], [], (am_SH, I, J, Pf), k, n) P := by
  refine am_s_aload_n rfl dc140_2.1.1.2 ?_
  refine am_s_getR (r := 1) dc140_2.1.2.1 rfl rfl rfl (hp _ _ _ rfl) ?_
  refine am_s_iload_n rfl dc140_2.1.2.2 ?_
  exact am_s_virtual false dc140_2.2.1.1 rfl (by decide) rfl rfl rfl (q1)
theorem t140_42 {sc : Option (Nat × (Nat → Int32))} {d k n : Nat} {P : am_O → Prop} {I : am_I} {J : am_J} {Pf : am_R} (hp : am_PF Pf) {l1 : Option Value} {l2 : Option Value} {l3 : Option Value} {x4 : Int32} {x5 : Int32} (q1 : am_mth d 51 [.ref 1, .int x4] (am_SH, I, J, Pf) (am_af sc d 140 48 [some (.ref 0), l1, l2, l3, some (.int x4), some (.int x5)] [.int x4, .ref 1] [] (am_SH, I, J, Pf) k n false P)) : am_go sc d 140 (42, [some (.ref 0), l1, l2, l3, some (.int x4), some (.int x5)], [], (am_SH, I, J, Pf), k, n) P := by
  refine am_s_aload_n rfl dc140_2.2.1.2 ?_
  refine am_s_getR (r := 1) dc140_2.2.2.1 rfl rfl rfl (hp _ _ _ rfl) ?_
  refine am_s_iload rfl dc140_2.2.2.2 ?_
  exact am_s_virtual false dc140_3.1.1.1 rfl (by decide) rfl rfl rfl (q1)
theorem t140_51 {sc : Option (Nat × (Nat → Int32))} {d k n : Nat} {P : am_O → Prop} {I : am_I} {J : am_J} {Pf : am_R} (hp : am_PF Pf) {l1 : Option Value} {l2 : Option Value} {l3 : Option Value} {l4 : Option Value} {x5 : Int32} (q1 : am_mth d 51 [.ref 1, .int x5] (am_SH, I, J, Pf) (am_af sc d 140 57 [some (.ref 0), l1, l2, l3, l4, some (.int x5)] [.int x5, .ref 1] [] (am_SH, I, J, Pf) k n false P)) : am_go sc d 140 (51, [some (.ref 0), l1, l2, l3, l4, some (.int x5)], [], (am_SH, I, J, Pf), k, n) P := by
  refine am_s_aload_n rfl dc140_3.1.1.2 ?_
  refine am_s_getR (r := 1) dc140_3.1.2.1 rfl rfl rfl (hp _ _ _ rfl) ?_
  refine am_s_iload rfl dc140_3.1.2.2 ?_
  exact am_s_virtual false dc140_3.2.1.1 rfl (by decide) rfl rfl rfl (q1)
theorem t140_60 {sc : Option (Nat × (Nat → Int32))} {d k n : Nat} {P : am_O → Prop} {I : am_I} {J : am_J} {Pf : am_R} (hp : am_PF Pf) {l1 : Option Value} {l2 : Option Value} {l3 : Option Value} {l4 : Option Value} {l5 : Option Value} (q1 : P (.inl (some (.int (I 1 1))), (am_SH, I, J, Pf), k, n)) : am_go sc d 140 (60, [some (.ref 0), l1, l2, l3, l4, l5], [], (am_SH, I, J, Pf), k, n) P := by
  refine am_s_aload_n rfl dc140_3.2.1.2 ?_
  refine am_s_getR (r := 1) dc140_3.2.2.1 rfl rfl rfl (hp _ _ _ rfl) ?_
  refine am_x_getI (x := I 1 1) dc140_3.2.2.2 rfl rfl (Or.inl rfl) rfl ?_
  exact am_s_ireturn dc140_4 rfl (q1)
-- grammar (I)I
theorem dc141_0 : (((decode (am_by 141) 0 = .ok (.aload_n 0, 1)) ∧ (decode (am_by 141) 1 = .ok (.iload_n 1, 1))) ∧ ((decode (am_by 141) 2 = .ok (.iconst 0, 1)) ∧ (decode (am_by 141) 3 = .ok (.aload_n 0, 1)))) ∧ (((decode (am_by 141) 4 = .ok (.getfield 10, 3)) ∧ (decode (am_by 141) 7 = .ok (.getfield 95, 3))) ∧ ((decode (am_by 141) 10 = .ok (.invokevirtual 102, 3)) ∧ (decode (am_by 141) 13 = .ok (.aload_n 0, 1)))) := by decide +kernel
theorem dc141_1 : (((decode (am_by 141) 14 = .ok (.getfield 10, 3)) ∧ (decode (am_by 141) 17 = .ok (.iload_n 1, 1))) ∧ ((decode (am_by 141) 18 = .ok (.invokevirtual 106, 3)) ∧ (decode (am_by 141) 21 = .ok (.aload_n 0, 1)))) ∧ (((decode (am_by 141) 22 = .ok (.getfield 19, 3)) ∧ (decode (am_by 141) 25 = .ok (.aload_n 0, 1))) ∧ ((decode (am_by 141) 26 = .ok (.getfield 10, 3)) ∧ (decode (am_by 141) 29 = .ok (.aload_n 0, 1)))) := by decide +kernel
theorem dc141_2 : (((decode (am_by 141) 30 = .ok (.getfield 30, 3)) ∧ (decode (am_by 141) 33 = .ok (.invokevirtual 109, 3))) ∧ ((decode (am_by 141) 36 = .ok (.istore_n 2, 1)) ∧ (decode (am_by 141) 37 = .ok (.aload_n 0, 1)))) ∧ (((decode (am_by 141) 38 = .ok (.iload_n 2, 1)) ∧ (decode (am_by 141) 39 = .ok (.ifCond .eq 7, 3))) ∧ ((decode (am_by 141) 42 = .ok (.iconst (-1), 1)) ∧ (decode (am_by 141) 43 = .ok (.goto 10, 3)))) := by decide +kernel
theorem dc141_3 : (((decode (am_by 141) 46 = .ok (.aload_n 0, 1)) ∧ (decode (am_by 141) 47 = .ok (.getfield 19, 3))) ∧ ((decode (am_by 141) 50 = .ok (.getfield 113, 3)) ∧ (decode (am_by 141) 53 = .ok (.putfield 87, 3)))) ∧ (((decode (am_by 141) 56 = .ok (.iload_n 2, 1)) ∧ (decode (am_by 141) 57 = .ok (.ifCond .ne 14, 3))) ∧ ((decode (am_by 141) 60 = .ok (.aload_n 0, 1)) ∧ (decode (am_by 141) 61 = .ok (.getfield 10, 3)))) := by decide +kernel
theorem dc141_4 : (((decode (am_by 141) 64 = .ok (.getfield 116, 3)) ∧ (decode (am_by 141) 67 = .ok (.bipush 10, 2))) ∧ ((decode (am_by 141) 69 = .ok (.isub, 1)) ∧ (decode (am_by 141) 70 = .ok (.ireturn, 1)))) ∧ (((decode (am_by 141) 71 = .ok (.aload_n 0, 1)) ∧ (decode (am_by 141) 72 = .ok (.getfield 26, 3))) ∧ ((decode (am_by 141) 75 = .ok (.astore_n 3, 1)) ∧ (decode (am_by 141) 76 = .ok (.aload_n 0, 1)))) := by decide +kernel
theorem dc141_5 : (((decode (am_by 141) 77 = .ok (.aload_n 0, 1)) ∧ (decode (am_by 141) 78 = .ok (.getfield 30, 3))) ∧ ((decode (am_by 141) 81 = .ok (.putfield 26, 3)) ∧ (decode (am_by 141) 84 = .ok (.aload_n 0, 1)))) ∧ (((decode (am_by 141) 85 = .ok (.aload_n 3, 1)) ∧ (decode (am_by 141) 86 = .ok (.putfield 30, 3))) ∧ ((decode (am_by 141) 89 = .ok (.aload_n 0, 1)) ∧ (decode (am_by 141) 90 = .ok (.getfield 64, 3)))) := by decide +kernel
theorem dc141_6 : (((decode (am_by 141) 93 = .ok (.aload_n 0, 1)) ∧ (decode (am_by 141) 94 = .ok (.getfield 26, 3))) ∧ ((decode (am_by 141) 97 = .ok (.invokevirtual 91, 3)) ∧ (decode (am_by 141) 100 = .ok (.aload_n 0, 1)))) ∧ (((decode (am_by 141) 101 = .ok (.getfield 36, 3)) ∧ (decode (am_by 141) 104 = .ok (.invokevirtual 119, 3))) ∧ ((decode (am_by 141) 107 = .ok (.aload_n 0, 1)) ∧ (decode (am_by 141) 108 = .ok (.iconst 0, 1)))) := by decide +kernel
theorem dc141_7 : (((decode (am_by 141) 109 = .ok (.putfield 122, 3)) ∧ (decode (am_by 141) 112 = .ok (.aload_n 0, 1))) ∧ ((decode (am_by 141) 113 = .ok (.getfield 53, 3)) ∧ (decode (am_by 141) 116 = .ok (.iconst 0, 1)))) ∧ (((decode (am_by 141) 117 = .ok (.putfield 125, 3)) ∧ (decode (am_by 141) 120 = .ok (.aload_n 0, 1))) ∧ ((decode (am_by 141) 121 = .ok (.getfield 71, 3)) ∧ (decode (am_by 141) 124 = .ok (.iconst 0, 1)))) := by decide +kernel
theorem dc141_8 : (((decode (am_by 141) 125 = .ok (.putfield 128, 3)) ∧ (decode (am_by 141) 128 = .ok (.aload_n 0, 1))) ∧ ((decode (am_by 141) 129 = .ok (.iconst 0, 1)) ∧ (decode (am_by 141) 130 = .ok (.invokevirtual 131, 3)))) ∧ (((decode (am_by 141) 133 = .ok (.aload_n 0, 1)) ∧ (decode (am_by 141) 134 = .ok (.getfield 26, 3))) ∧ ((decode (am_by 141) 137 = .ok (.getfield 134, 3)) ∧ (decode (am_by 141) 140 = .ok (.ireturn, 1)))) := by decide +kernel
theorem t141_0 {sc : Option (Nat × (Nat → Int32))} {d k n : Nat} {P : am_O → Prop} {I : am_I} {J : am_J} {Pf : am_R} (hp : am_PF Pf) {x1 : Int32} {l2 : Option Value} {l3 : Option Value} (q1 : am_mth d 176 [.ref 0, .int x1, .int 0, .int (I 1 1)] (am_SH, I, J, Pf) (am_af sc d 141 10 [some (.ref 0), some (.int x1), l2, l3] [.int (I 1 1), .int 0, .int x1, .ref 0] [] (am_SH, I, J, Pf) k n true P)) : am_go sc d 141 (0, [some (.ref 0), some (.int x1), l2, l3], [], (am_SH, I, J, Pf), k, n) P := by
  refine am_s_aload_n rfl dc141_0.1.1.1 ?_
  refine am_s_iload_n rfl dc141_0.1.1.2 ?_
  refine am_s_iconst am_cc0 dc141_0.1.2.1 ?_
  refine am_s_aload_n rfl dc141_0.1.2.2 ?_
  refine am_s_getR (r := 1) dc141_0.2.1.1 rfl rfl rfl (hp _ _ _ rfl) ?_
  refine am_x_getI (x := I 1 1) dc141_0.2.1.2 rfl rfl (Or.inl rfl) rfl ?_
  exact am_s_virtual true dc141_0.2.2.1 rfl (by decide) rfl rfl rfl (q1)
theorem t141_13 {sc : Option (Nat × (Nat → Int32))} {d k n : Nat} {P : am_O → Prop} {I : am_I} {J : am_J} {Pf : am_R} (hp : am_PF Pf) {x1 : Int32} {l2 : Option Value} {l3 : Option Value} (q1 : am_mth d 52 [.ref 1, .int x1] (am_SH, I, J, Pf) (am_af sc d 141 18 [some (.ref 0), some (.int x1), l2, l3] [.int x1, .ref 1] [] (am_SH, I, J, Pf) k n false P)) : am_go sc d 141 (13, [some (.ref 0), some (.int x1), l2, l3], [], (am_SH, I, J, Pf), k, n) P := by
  refine am_s_aload_n rfl dc141_0.2.2.2 ?_
  refine am_s_getR (r := 1) dc141_1.1.1.1 rfl rfl rfl (hp _ _ _ rfl) ?_
  refine am_s_iload_n rfl dc141_1.1.1.2 ?_
  exact am_s_virtual false dc141_1.1.2.1 rfl (by decide) rfl rfl rfl (q1)
theorem t141_21 {sc : Option (Nat × (Nat → Int32))} {d k n : Nat} {P : am_O → Prop} {I : am_I} {J : am_J} {Pf : am_R} (hp : am_PF Pf) {l1 : Option Value} {l2 : Option Value} {l3 : Option Value} {r0_3 : Nat} (q1 : Pf 0 3 = some r0_3) (q2 : am_SH[r0_3]? = some (.inl 4)) (q3 : am_mth d 21 [.ref 3, .ref 1, .ref r0_3] (am_SH, I, J, Pf) (am_af sc d 141 33 [some (.ref 0), l1, l2, l3] [.ref r0_3, .ref 1, .ref 3] [] (am_SH, I, J, Pf) k n false P)) : am_go sc d 141 (21, [some (.ref 0), l1, l2, l3], [], (am_SH, I, J, Pf), k, n) P := by
  refine am_s_aload_n rfl dc141_1.1.2.2 ?_
  refine am_s_getR (r := 3) dc141_1.2.1.1 rfl rfl rfl (hp _ _ _ rfl) ?_
  refine am_s_aload_n rfl dc141_1.2.1.2 ?_
  refine am_s_getR (r := 1) dc141_1.2.2.1 rfl rfl rfl (hp _ _ _ rfl) ?_
  refine am_s_aload_n rfl dc141_1.2.2.2 ?_
  refine am_s_getR (r := r0_3) dc141_2.1.1.1 rfl rfl rfl (q1) ?_
  exact am_s_virtual false dc141_2.1.1.2 rfl (by decide) rfl rfl rfl (q3)
theorem t141_36 {sc : Option (Nat × (Nat → Int32))} {d k n : Nat} {P : am_O → Prop} {I : am_I} {J : am_J} {Pf : am_R} (hp : am_PF Pf) {l1 : Option Value} {l2 : Option Value} {l3 : Option Value} {s0 : Int32} (hl1 : am_k1 l1 = true) {r0_2 : Nat} {r0_3 : Nat} (q1 : (s0 = 0) → (¬ s0 = 0) → Pf 0 2 = some r0_2) (q2 : (s0 = 0) → (¬ s0 = 0) → am_SH[r0_2]? = some (.inl 4)) (q3 : (s0 = 0) → (¬ s0 = 0) → Pf 0 3 = some r0_3) (q4 : (s0 = 0) → (¬ s0 = 0) → am_SH[r0_3]? = some (.inl 4)) (q5 : (s0 = 0) → (¬ s0 = 0) → (am_u (am_u Pf 0 2 (some r0_3)) 0 3 (some r0_2)) 0 10 = some 112) (q6 : (s0 = 0) → (¬ s0 = 0) → (am_u (am_u Pf 0 2 (some r0_3)) 0 3 (some r0_2)) 0 2 = some r0_2) (q7 : (s0 = 0) → (¬ s0 = 0) → am_SH[r0_2]? = some (.inl 4)) (q8 : (s0 = 0) → (¬ s0 = 0) → am_mth d 1 [.ref 112, .ref r0_2] (am_SH, am_u I 0 15 (I 3 2), J, am_u (am_u Pf 0 2 (some r0_3)) 0 3 (some r0_2)) (am_af sc d 141 97 [some (.ref 0), l1, some (.int s0), some (.ref r0_2)] [.ref r0_2, .ref 112] [] (am_SH, am_u I 0 15 (I 3 2), J, am_u (am_u Pf 0 2 (some r0_3)) 0 3 (some r0_2)) k n false P)) (q9 : (s0 = 0) → (¬ (¬ s0 = 0)) → P (.inl (some (.int ((I 1 5) - 10))), (am_SH, am_u I 0 15 (I 3 2), J, Pf), k, n)) (q10 : (¬ (s0 = 0)) → (¬ s0 = 0) → Pf 0 2 = some r0_2) (q11 : (¬ (s0 = 0)) → (¬ s0 = 0) → am_SH[r0_2]? = some (.inl 4)) (q12 : (¬ (s0 = 0)) → (¬ s0 = 0) → Pf 0 3 = some r0_3) (q13 : (¬ (s0 = 0)) → (¬ s0 = 0) → am_SH[r0_3]? = some (.inl 4)) (q14 : (¬ (s0 = 0)) → (¬ s0 = 0) → (am_u (am_u Pf 0 2 (some r0_3)) 0 3 (some r0_2)) 0 10 = some 112) (q15 : (¬ (s0 = 0)) → (¬ s0 = 0) → (am_u (am_u Pf 0 2 (some r0_3)) 0 3 (some r0_2)) 0 2 = some r0_2) (q16 : (¬ (s0 = 0)) → (¬ s0 = 0) → am_SH[r0_2]? = some (.inl 4)) (q17 : (¬ (s0 = 0)) → (¬ s0 = 0) → am_mth d 1 [.ref 112, .ref r0_2] (am_SH, am_u I 0 15 (-1), J, am_u (am_u Pf 0 2 (some r0_3)) 0 3 (some r0_2)) (am_af sc d 141 97 [some (.ref 0), l1, some (.int s0), some (.ref r0_2)] [.ref r0_2, .ref 112] [] (am_SH, am_u I 0 15 (-1), J, am_u (am_u Pf 0 2 (some r0_3)) 0 3 (some r0_2)) k n false P)) (q18 : (¬ (s0 = 0)) → (¬ (¬ s0 = 0)) → P (.inl (some (.int ((I 1 5) - 10))), (am_SH, am_u I 0 15 (-1), J, Pf), k, n)) : am_go sc d 141 (36, [some (.ref 0), l1, l2, l3], [.int s0], (am_SH, I, J, Pf), k, n) P := by
  refine am_s_istore_n (ls' := [some (.ref 0), l1, some (.int s0), l3]) rfl (am_set1_k (am_kill_x (j := 1) rfl hl1) rfl) dc141_2.1.2.1 ?_
  refine am_s_aload_n rfl dc141_2.1.2.2 ?_
  refine am_s_iload_n rfl dc141_2.2.1.1 ?_
  refine am_s_if_eq dc141_2.2.1.2 rfl (fun c1 => ?_) (fun c1 => ?_)
  · refine am_s_aload_n rfl dc141_3.1.1.1 ?_
    refine am_s_getR (r := 3) dc141_3.1.1.2 rfl rfl rfl (hp _ _ _ rfl) ?_
    refine am_x_getI (x := I 3 2) dc141_3.1.2.1 rfl rfl (Or.inl rfl) rfl ?_
    refine am_s_putI dc141_3.1.2.2 rfl rfl rfl rfl ?_
    refine am_s_iload_n rfl dc141_3.2.1.1 ?_
    refine am_s_if_ne dc141_3.2.1.2 rfl (fun c2 => ?_) (fun c2 => ?_)
    · refine am_s_aload_n rfl dc141_4.2.1.1 ?_
      refine am_s_getR (r := r0_2) dc141_4.2.1.2 rfl rfl rfl (q1 c1 c2) ?_
      refine am_s_astore_n (ls' := [some (.ref 0), l1, some (.int s0), some (.ref r0_2)]) rfl rfl dc141_4.2.2.1 ?_
      refine am_s_aload_n rfl dc141_4.2.2.2 ?_
      refine am_s_aload_n rfl dc141_5.1.1.1 ?_
      refine am_s_getR (r := r0_3) dc141_5.1.1.2 rfl rfl rfl (q3 c1 c2) ?_
      refine am_s_putR dc141_5.1.2.1 rfl rfl rfl rfl (am_blt (q4 c1 c2)) ?_
      refine am_s_aload_n rfl dc141_5.1.2.2 ?_
      refine am_s_aload_n rfl dc141_5.2.1.1 ?_
      refine am_s_putR dc141_5.2.1.2 rfl rfl rfl rfl (am_blt (q2 c1 c2)) ?_
      refine am_s_aload_n rfl dc141_5.2.2.1 ?_
      refine am_s_getR (r := 112) dc141_5.2.2.2 rfl rfl rfl (q5 c1 c2) ?_
      refine am_s_aload_n rfl dc141_6.1.1.1 ?_
      refine am_s_getR (r := r0_2) dc141_6.1.1.2 rfl rfl rfl (q6 c1 c2) ?_
      exact am_s_virtual false dc141_6.1.2.1 rfl (by decide) rfl rfl rfl (q8 c1 c2)
    · refine am_s_aload_n rfl dc141_3.2.2.1 ?_
      refine am_s_getR (r := 1) dc141_3.2.2.2 rfl rfl rfl (hp _ _ _ rfl) ?_
      refine am_x_getI (x := I 1 5) dc141_4.1.1.1 rfl rfl (Or.inl rfl) rfl ?_
      refine am_s_bipush am_cb10 dc141_4.1.1.2 ?_
      refine am_s_isub dc141_4.1.2.1 ?_
      exact am_s_ireturn dc141_4.1.2.2 rfl (q9 c1 c2)
  · refine am_s_iconst am_ccm1 dc141_2.2.2.1 ?_
    refine am_s_goto rfl dc141_2.2.2.2 ?_
    refine am_s_putI dc141_3.1.2.2 rfl rfl rfl rfl ?_
    refine am_s_iload_n rfl dc141_3.2.1.1 ?_
    refine am_s_if_ne dc141_3.2.1.2 rfl (fun c2 => ?_) (fun c2 => ?_)
    · refine am_s_aload_n rfl dc141_4.2.1.1 ?_
      refine am_s_getR (r := r0_2) dc141_4.2.1.2 rfl rfl rfl (q10 c1 c2) ?_
      refine am_s_astore_n (ls' := [some (.ref 0), l1, some (.int s0), some (.ref r0_2)]) rfl rfl dc141_4.2.2.1 ?_
      refine am_s_aload_n rfl dc141_4.2.2.2 ?_
      refine am_s_aload_n rfl dc141_5.1.1.1 ?_
      refine am_s_getR (r := r0_3) dc141_5.1.1.2 rfl rfl rfl (q12 c1 c2) ?_
      refine am_s_putR dc141_5.1.2.1 rfl rfl rfl rfl (am_blt (q13 c1 c2)) ?_
      refine am_s_aload_n rfl dc141_5.1.2.2 ?_
      refine am_s_aload_n rfl dc141_5.2.1.1 ?_
      refine am_s_putR dc141_5.2.1.2 rfl rfl rfl rfl (am_blt (q11 c1 c2)) ?_
      refine am_s_aload_n rfl dc141_5.2.2.1 ?_
      refine am_s_getR (r := 112) dc141_5.2.2.2 rfl rfl rfl (q14 c1 c2) ?_
      refine am_s_aload_n rfl dc141_6.1.1.1 ?_
      refine am_s_getR (r := r0_2) dc141_6.1.1.2 rfl rfl rfl (q15 c1 c2) ?_
      exact am_s_virtual false dc141_6.1.2.1 rfl (by decide) rfl rfl rfl (q17 c1 c2)
    · refine am_s_aload_n rfl dc141_3.2.2.1 ?_
      refine am_s_getR (r := 1) dc141_3.2.2.2 rfl rfl rfl (hp _ _ _ rfl) ?_
      refine am_x_getI (x := I 1 5) dc141_4.1.1.1 rfl rfl (Or.inl rfl) rfl ?_
      refine am_s_bipush am_cb10 dc141_4.1.1.2 ?_
      refine am_s_isub dc141_4.1.2.1 ?_
      exact am_s_ireturn dc141_4.1.2.2 rfl (q18 c1 c2)
theorem t141_100 {sc : Option (Nat × (Nat → Int32))} {d k n : Nat} {P : am_O → Prop} {I : am_I} {J : am_J} {Pf : am_R} (hp : am_PF Pf) {l1 : Option Value} {l2 : Option Value} {l3 : Option Value} {r0_4 : Nat} (q1 : Pf 0 4 = some r0_4) (q2 : am_SH[r0_4]? = some (.inl 2)) (q3 : am_mth d 40 [.ref r0_4] (am_SH, I, J, Pf) (am_af sc d 141 104 [some (.ref 0), l1, l2, l3] [.ref r0_4] [] (am_SH, I, J, Pf) k n false P)) : am_go sc d 141 (100, [some (.ref 0), l1, l2, l3], [], (am_SH, I, J, Pf), k, n) P := by
  refine am_s_aload_n rfl dc141_6.1.2.2 ?_
  refine am_s_getR (r := r0_4) dc141_6.2.1.1 rfl rfl rfl (q1) ?_
  exact am_s_virtual false dc141_6.2.1.2 rfl (by decide) rfl (q2) rfl (q3)
theorem t141_107 {sc : Option (Nat × (Nat → Int32))} {d k n : Nat} {P : am_O → Prop} {I : am_I} {J : am_J} {Pf : am_R} (hp : am_PF Pf) {l1 : Option Value} {l2 : Option Value} {l3 : Option Value} (q1 : am_mth d 179 [.ref 0, .int 0] (am_SH, am_u (am_u (am_u I 0 9 0) 108 2 0) 135 1 0, J, Pf) (am_af sc d 141 130 [some (.ref 0), l1, l2, l3] [.int 0, .ref 0] [] (am_SH, am_u (am_u (am_u I 0 9 0) 108 2 0) 135 1 0, J, Pf) k n true P)) : am_go sc d 141 (107, [some (.ref 0), l1, l2, l3], [], (am_SH, I, J, Pf), k, n) P := by
  refine am_s_aload_n rfl dc141_6.2.2.1 ?_
  refine am_s_iconst am_cc0 dc141_6.2.2.2 ?_
  refine am_s_putI dc141_7.1.1.1 rfl rfl rfl rfl ?_
  refine am_s_aload_n rfl dc141_7.1.1.2 ?_
  refine am_s_getR (r := 108) dc141_7.1.2.1 rfl rfl rfl (hp _ _ _ rfl) ?_
  refine am_s_iconst am_cc0 dc141_7.1.2.2 ?_
  refine am_s_putI dc141_7.2.1.1 rfl rfl rfl rfl ?_
  refine am_s_aload_n rfl dc141_7.2.1.2 ?_
  refine am_s_getR (r := 135) dc141_7.2.2.1 rfl rfl rfl (hp _ _ _ rfl) ?_
  refine am_s_iconst am_cc0 dc141_7.2.2.2 ?_
  refine am_s_putI dc141_8.1.1.1 rfl rfl rfl rfl ?_
  refine am_s_aload_n rfl dc141_8.1.1.2 ?_
  refine am_s_iconst am_cc0 dc141_8.1.2.1 ?_
  exact am_s_virtual true dc141_8.1.2.2 rfl (by decide) rfl rfl rfl (q1)
theorem t141_133 {sc : Option (Nat × (Nat → Int32))} {d k n : Nat} {P : am_O → Prop} {I : am_I} {J : am_J} {Pf : am_R} (hp : am_PF Pf) {l1 : Option Value} {l2 : Option Value} {l3 : Option Value} {r0_2 : Nat} (q1 : Pf 0 2 = some r0_2) (q2 : am_SH[r0_2]? = some (.inl 4)) (q3 : P (.inl (some (.int (I r0_2 2))), (am_SH, I, J, Pf), k, n)) : am_go sc d 141 (133, [some (.ref 0), l1, l2, l3], [], (am_SH, I, J, Pf), k, n) P := by
  refine am_s_aload_n rfl dc141_8.2.1.1 ?_
  refine am_s_getR (r := r0_2) dc141_8.2.1.2 rfl rfl rfl (q1) ?_
  refine am_x_getI (x := I r0_2 2) dc141_8.2.2.1 rfl (q2) (Or.inl rfl) rfl ?_
  exact am_s_ireturn dc141_8.2.2.2 rfl (q3)
-- law (I)I
theorem dc142_0 : (((decode (am_by 142) 0 = .ok (.aload_n 0, 1)) ∧ (decode (am_by 142) 1 = .ok (.iload_n 1, 1))) ∧ ((decode (am_by 142) 2 = .ok (.iconst 0, 1)) ∧ (decode (am_by 142) 3 = .ok (.aload_n 0, 1)))) ∧ (((decode (am_by 142) 4 = .ok (.getfield 10, 3)) ∧ (decode (am_by 142) 7 = .ok (.getfield 95, 3))) ∧ ((decode (am_by 142) 10 = .ok (.sipush 150, 3)) ∧ (decode (am_by 142) 13 = .ok (.invokestatic 137, 3)))) := by decide +kernel
theorem dc142_1 : (((decode (am_by 142) 16 = .ok (.invokevirtual 102, 3)) ∧ (decode (am_by 142) 19 = .ok (.aload_n 0, 1))) ∧ ((decode (am_by 142) 20 = .ok (.getfield 10, 3)) ∧ (decode (am_by 142) 23 = .ok (.iload_n 1, 1)))) ∧ (((decode (am_by 142) 24 = .ok (.invokevirtual 106, 3)) ∧ (decode (am_by 142) 27 = .ok (.aload_n 0, 1))) ∧ ((decode (am_by 142) 28 = .ok (.iconst (-1), 1)) ∧ (decode (am_by 142) 29 = .ok (.putfield 87, 3)))) := by decide +kernel
theorem dc142_2 : (((decode (am_by 142) 32 = .ok (.aload_n 0, 1)) ∧ (decode (am_by 142) 33 = .ok (.getfield 40, 3))) ∧ ((decode (am_by 142) 36 = .ok (.aload_n 0, 1)) ∧ (decode (am_by 142) 37 = .ok (.getfield 10, 3)))) ∧ (((decode (am_by 142) 40 = .ok (.invokevirtual 143, 3)) ∧ (decode (am_by 142) 43 = .ok (.ifCond .ne 14, 3))) ∧ ((decode (am_by 142) 46 = .ok (.aload_n 0, 1)) ∧ (decode (am_by 142) 47 = .ok (.getfield 10, 3)))) := by decide +kernel
theorem dc142_3 : (((decode (am_by 142) 50 = .ok (.getfield 116, 3)) ∧ (decode (am_by 142) 53 = .ok (.bipush 10, 2))) ∧ ((decode (am_by 142) 55 = .ok (.isub, 1)) ∧ (decode (am_by 142) 56 = .ok (.ireturn, 1)))) ∧ (((decode (am_by 142) 57 = .ok (.aload_n 0, 1)) ∧ (decode (am_by 142) 58 = .ok (.getfield 36, 3))) ∧ ((decode (am_by 142) 61 = .ok (.astore_n 2, 1)) ∧ (decode (am_by 142) 62 = .ok (.aload_n 0, 1)))) := by decide +kernel
theorem dc142_4 : (((decode (am_by 142) 63 = .ok (.aload_n 0, 1)) ∧ (decode (am_by 142) 64 = .ok (.getfield 40, 3))) ∧ ((decode (am_by 142) 67 = .ok (.putfield 36, 3)) ∧ (decode (am_by 142) 70 = .ok (.aload_n 0, 1)))) ∧ (((decode (am_by 142) 71 = .ok (.aload_n 2, 1)) ∧ (decode (am_by 142) 72 = .ok (.putfield 40, 3))) ∧ ((decode (am_by 142) 75 = .ok (.iconst 1, 1)) ∧ (decode (am_by 142) 76 = .ok (.ireturn, 1)))) := by decide +kernel
theorem t142_0 {sc : Option (Nat × (Nat → Int32))} {d k n : Nat} {P : am_O → Prop} {I : am_I} {J : am_J} {Pf : am_R} (hp : am_PF Pf) {x1 : Int32} {l2 : Option Value} (q1 : am_mth d 330 [.int (I 1 1), .int 150] (am_SH, I, J, Pf) (am_af sc d 142 13 [some (.ref 0), some (.int x1), l2] [.int 150, .int (I 1 1), .int 0, .int x1, .ref 0] [.int 0, .int x1, .ref 0] (am_SH, I, J, Pf) k n false P)) : am_go sc d 142 (0, [some (.ref 0), some (.int x1), l2], [], (am_SH, I, J, Pf), k, n) P := by
  refine am_s_aload_n rfl dc142_0.1.1.1 ?_
  refine am_s_iload_n rfl dc142_0.1.1.2 ?_
  refine am_s_iconst am_cc0 dc142_0.1.2.1 ?_
  refine am_s_aload_n rfl dc142_0.1.2.2 ?_
  refine am_s_getR (r := 1) dc142_0.2.1.1 rfl rfl rfl (hp _ _ _ rfl) ?_
  refine am_x_getI (x := I 1 1) dc142_0.2.1.2 rfl rfl (Or.inl rfl) rfl ?_
  refine am_s_sipush am_cs150 dc142_0.2.2.1 ?_
  exact am_s_static dc142_0.2.2.2 rfl rfl rfl (q1)
theorem t142_16 {sc : Option (Nat × (Nat → Int32))} {d k n : Nat} {P : am_O → Prop} {I : am_I} {J : am_J} {Pf : am_R} (hp : am_PF Pf) {x1 : Int32} {l2 : Option Value} {s1 : Int32} {s2 : Int32} {s3 : Int32} (q1 : am_mth d 176 [.ref 0, .int s1, .int s2, .int s3] (am_SH, I, J, Pf) (am_af sc d 142 16 [some (.ref 0), some (.int x1), l2] [.int s3, .int s2, .int s1, .ref 0] [] (am_SH, I, J, Pf) k n true P)) : am_go sc d 142 (16, [some (.ref 0), some (.int x1), l2], [.int s3, .int s2, .int s1, .ref 0], (am_SH, I, J, Pf), k, n) P := by
  exact am_s_virtual true dc142_1.1.1.1 rfl (by decide) rfl rfl rfl (q1)
theorem t142_19 {sc : Option (Nat × (Nat → Int32))} {d k n : Nat} {P : am_O → Prop} {I : am_I} {J : am_J} {Pf : am_R} (hp : am_PF Pf) {x1 : Int32} {l2 : Option Value} (q1 : am_mth d 52 [.ref 1, .int x1] (am_SH, I, J, Pf) (am_af sc d 142 24 [some (.ref 0), some (.int x1), l2] [.int x1, .ref 1] [] (am_SH, I, J, Pf) k n false P)) : am_go sc d 142 (19, [some (.ref 0), some (.int x1), l2], [], (am_SH, I, J, Pf), k, n) P := by
  refine am_s_aload_n rfl dc142_1.1.1.2 ?_
  refine am_s_getR (r := 1) dc142_1.1.2.1 rfl rfl rfl (hp _ _ _ rfl) ?_
  refine am_s_iload_n rfl dc142_1.1.2.2 ?_
  exact am_s_virtual false dc142_1.2.1.1 rfl (by decide) rfl rfl rfl (q1)
theorem t142_27 {sc : Option (Nat × (Nat → Int32))} {d k n : Nat} {P : am_O → Prop} {I : am_I} {J : am_J} {Pf : am_R} (hp : am_PF Pf) {l1 : Option Value} {l2 : Option Value} {r0_5 : Nat} (q1 : Pf 0 5 = some r0_5) (q2 : am_SH[r0_5]? = some (.inl 2)) (q3 : am_mth d 42 [.ref r0_5, .ref 1] (am_SH, am_u I 0 15 (-1), J, Pf) (am_af sc d 142 40 [some (.ref 0), l1, l2] [.ref 1, .ref r0_5] [] (am_SH, am_u I 0 15 (-1), J, Pf) k n false P)) : am_go sc d 142 (27, [some (.ref 0), l1, l2], [], (am_SH, I, J, Pf), k, n) P := by
  refine am_s_aload_n rfl dc142_1.2.1.2 ?_
  refine am_s_iconst am_ccm1 dc142_1.2.2.1 ?_
  refine am_s_putI dc142_1.2.2.2 rfl rfl rfl rfl ?_
  refine am_s_aload_n rfl dc142_2.1.1.1 ?_
  refine am_s_getR (r := r0_5) dc142_2.1.1.2 rfl rfl rfl (q1) ?_
  refine am_s_aload_n rfl dc142_2.1.2.1 ?_
  refine am_s_getR (r := 1) dc142_2.1.2.2 rfl rfl rfl (hp _ _ _ rfl) ?_
  exact am_s_virtual false dc142_2.2.1.1 rfl (by decide) rfl (q2) rfl (q3)
theorem t142_43 {sc : Option (Nat × (Nat → Int32))} {d k n : Nat} {P : am_O → Prop} {I : am_I} {J : am_J} {Pf : am_R} (hp : am_PF Pf) {l1 : Option Value} {l2 : Option Value} {s0 : Int32} {r0_4 : Nat} (hl1 : am_k1 l1 = true) {r0_5 : Nat} (q1 : (¬ s0 = 0) → Pf 0 4 = some r0_4) (q2 : (¬ s0 = 0) → am_SH[r0_4]? = some (.inl 2)) (q3 : (¬ s0 = 0) → Pf 0 5 = some r0_5) (q4 : (¬ s0 = 0) → am_SH[r0_5]? = some (.inl 2)) (q5 : (¬ s0 = 0) → P (.inl (some (.int 1)), (am_SH, I, J, am_u (am_u Pf 0 4 (some r0_5)) 0 5 (some r0_4)), k, n)) (q6 : (¬ (¬ s0 = 0)) → P (.inl (some (.int ((I 1 5) - 10))), (am_SH, I, J, Pf), k, n)) : am_go sc d 142 (43, [some (.ref 0), l1, l2], [.int s0], (am_SH, I, J, Pf), k, n) P := by
  refine am_s_if_ne dc142_2.2.1.2 rfl (fun c1 => ?_) (fun c1 => ?_)
  · refine am_s_aload_n rfl dc142_3.2.1.1 ?_
    refine am_s_getR (r := r0_4) dc142_3.2.1.2 rfl rfl rfl (q1 c1) ?_
    refine am_s_astore_n (ls' := [some (.ref 0), l1, some (.ref r0_4)]) rfl (am_set1_k (am_kill_x (j := 1) rfl hl1) rfl) dc142_3.2.2.1 ?_
    refine am_s_aload_n rfl dc142_3.2.2.2 ?_
    refine am_s_aload_n rfl dc142_4.1.1.1 ?_
    refine am_s_getR (r := r0_5) dc142_4.1.1.2 rfl rfl rfl (q3 c1) ?_
    refine am_s_putR dc142_4.1.2.1 rfl rfl rfl rfl (am_blt (q4 c1)) ?_
    refine am_s_aload_n rfl dc142_4.1.2.2 ?_
    refine am_s_aload_n rfl dc142_4.2.1.1 ?_
    refine am_s_putR dc142_4.2.1.2 rfl rfl rfl rfl (am_blt (q2 c1)) ?_
    refine am_s_iconst am_cc1 dc142_4.2.2.1 ?_
    exact am_s_ireturn dc142_4.2.2.2 rfl (q5 c1)
  · refine am_s_aload_n rfl dc142_2.2.2.1 ?_
    refine am_s_getR (r := 1) dc142_2.2.2.2 rfl rfl rfl (hp _ _ _ rfl) ?_
    refine am_x_getI (x := I 1 5) dc142_3.1.1.1 rfl rfl (Or.inl rfl) rfl ?_
    refine am_s_bipush am_cb10 dc142_3.1.1.2 ?_
    refine am_s_isub dc142_3.1.2.1 ?_
    exact am_s_ireturn dc142_3.1.2.2 rfl (q6 c1)
-- work (I)I
theorem dc143_0 : (((decode (am_by 143) 0 = .ok (.aload_n 0, 1)) ∧ (decode (am_by 143) 1 = .ok (.iload_n 1, 1))) ∧ ((decode (am_by 143) 2 = .ok (.iconst 0, 1)) ∧ (decode (am_by 143) 3 = .ok (.aload_n 0, 1)))) ∧ (((decode (am_by 143) 4 = .ok (.getfield 10, 3)) ∧ (decode (am_by 143) 7 = .ok (.getfield 95, 3))) ∧ ((decode (am_by 143) 10 = .ok (.sipush 150, 3)) ∧ (decode (am_by 143) 13 = .ok (.invokestatic 137, 3)))) := by decide +kernel
theorem dc143_1 : (((decode (am_by 143) 16 = .ok (.invokevirtual 102, 3)) ∧ (decode (am_by 143) 19 = .ok (.aload_n 0, 1))) ∧ ((decode (am_by 143) 20 = .ok (.getfield 53, 3)) ∧ (decode (am_by 143) 23 = .ok (.getfield 125, 3)))) ∧ (((decode (am_by 143) 26 = .ok (.bipush 16, 2)) ∧ (decode (am_by 143) 28 = .ok (.if_icmp .lt 7, 3))) ∧ ((decode (am_by 143) 31 = .ok (.iconst 1, 1)) ∧ (decode (am_by 143) 32 = .ok (.goto 4, 3)))) := by decide +kernel
theorem dc143_2 : (((decode (am_by 143) 35 = .ok (.iconst 0, 1)) ∧ (decode (am_by 143) 36 = .ok (.istore_n 2, 1))) ∧ ((decode (am_by 143) 37 = .ok (.aload_n 0, 1)) ∧ (decode (am_by 143) 38 = .ok (.getfield 10, 3)))) ∧ (((decode (am_by 143) 41 = .ok (.iload_n 2, 1)) ∧ (decode (am_by 143) 42 = .ok (.ifCond .eq 7, 3))) ∧ ((decode (am_by 143) 45 = .ok (.iconst 0, 1)) ∧ (decode (am_by 143) 46 = .ok (.goto 4, 3)))) := by decide +kernel
theorem dc143_3 : (((decode (am_by 143) 49 = .ok (.iload_n 1, 1)) ∧ (decode (am_by 143) 50 = .ok (.invokevirtual 106, 3))) ∧ ((decode (am_by 143) 53 = .ok (.aload_n 0, 1)) ∧ (decode (am_by 143) 54 = .ok (.iconst (-1), 1)))) ∧ (((decode (am_by 143) 55 = .ok (.putfield 87, 3)) ∧ (decode (am_by 143) 58 = .ok (.iload_n 2, 1))) ∧ ((decode (am_by 143) 59 = .ok (.ifCond .eq 6, 3)) ∧ (decode (am_by 143) 62 = .ok (.bipush (-20), 2)))) := by decide +kernel
theorem dc143_4 : (((decode (am_by 143) 64 = .ok (.ireturn, 1)) ∧ (decode (am_by 143) 65 = .ok (.aload_n 0, 1))) ∧ ((decode (am_by 143) 66 = .ok (.getfield 46, 3)) ∧ (decode (am_by 143) 69 = .ok (.aload_n 0, 1)))) ∧ (((decode (am_by 143) 70 = .ok (.getfield 10, 3)) ∧ (decode (am_by 143) 73 = .ok (.invokevirtual 146, 3))) ∧ ((decode (am_by 143) 76 = .ok (.ifCond .ne 25, 3)) ∧ (decode (am_by 143) 79 = .ok (.aload_n 0, 1)))) := by decide +kernel
theorem dc143_5 : (((decode (am_by 143) 80 = .ok (.aload_n 0, 1)) ∧ (decode (am_by 143) 81 = .ok (.getfield 46, 3))) ∧ ((decode (am_by 143) 84 = .ok (.getfield 147, 3)) ∧ (decode (am_by 143) 87 = .ok (.putfield 87, 3)))) ∧ (((decode (am_by 143) 90 = .ok (.aload_n 0, 1)) ∧ (decode (am_by 143) 91 = .ok (.getfield 10, 3))) ∧ ((decode (am_by 143) 94 = .ok (.getfield 116, 3)) ∧ (decode (am_by 143) 97 = .ok (.bipush 10, 2)))) := by decide +kernel
theorem dc143_6 : (((decode (am_by 143) 99 = .ok (.isub, 1)) ∧ (decode (am_by 143) 100 = .ok (.ireturn, 1))) ∧ ((decode (am_by 143) 101 = .ok (.aload_n 0, 1)) ∧ (decode (am_by 143) 102 = .ok (.getfield 53, 3)))) ∧ (((decode (am_by 143) 105 = .ok (.aload_n 0, 1)) ∧ (decode (am_by 143) 106 = .ok (.getfield 71, 3))) ∧ ((decode (am_by 143) 109 = .ok (.invokevirtual 150, 3)) ∧ (decode (am_by 143) 112 = .ok (.aload_n 0, 1)))) := by decide +kernel
theorem dc143_7 : (((decode (am_by 143) 113 = .ok (.getfield 46, 3)) ∧ (decode (am_by 143) 116 = .ok (.aload_n 0, 1))) ∧ ((decode (am_by 143) 117 = .ok (.getfield 71, 3)) ∧ (decode (am_by 143) 120 = .ok (.invokevirtual 154, 3)))) ∧ (((decode (am_by 143) 123 = .ok (.aload_n 0, 1)) ∧ (decode (am_by 143) 124 = .ok (.aload_n 0, 1))) ∧ ((decode (am_by 143) 125 = .ok (.getfield 46, 3)) ∧ (decode (am_by 143) 128 = .ok (.getfield 157, 3)))) := by decide +kernel
theorem dc143_8 : ((decode (am_by 143) 131 = .ok (.invokevirtual 131, 3)) ∧ (decode (am_by 143) 134 = .ok (.aload_n 0, 1))) ∧ ((decode (am_by 143) 135 = .ok (.getfield 46, 3)) ∧ ((decode (am_by 143) 138 = .ok (.getfield 160, 3)) ∧ (decode (am_by 143) 141 = .ok (.ireturn, 1)))) := by decide +kernel
theorem t143_0 {sc : Option (Nat × (Nat → Int32))} {d k n : Nat} {P : am_O → Prop} {I : am_I} {J : am_J} {Pf : am_R} (hp : am_PF Pf) {x1 : Int32} {l2 : Option Value} (q1 : am_mth d 330 [.int (I 1 1), .int 150] (am_SH, I, J, Pf) (am_af sc d 143 13 [some (.ref 0), some (.int x1), l2] [.int 150, .int (I 1 1), .int 0, .int x1, .ref 0] [.int 0, .int x1, .ref 0] (am_SH, I, J, Pf) k n false P)) : am_go sc d 143 (0, [some (.ref 0), some (.int x1), l2], [], (am_SH, I, J, Pf), k, n) P := by
  refine am_s_aload_n rfl dc143_0.1.1.1 ?_
  refine am_s_iload_n rfl dc143_0.1.1.2 ?_
  refine am_s_iconst am_cc0 dc143_0.1.2.1 ?_
  refine am_s_aload_n rfl dc143_0.1.2.2 ?_
  refine am_s_getR (r := 1) dc143_0.2.1.1 rfl rfl rfl (hp _ _ _ rfl) ?_
  refine am_x_getI (x := I 1 1) dc143_0.2.1.2 rfl rfl (Or.inl rfl) rfl ?_
  refine am_s_sipush am_cs150 dc143_0.2.2.1 ?_
  exact am_s_static dc143_0.2.2.2 rfl rfl rfl (q1)
theorem t143_16 {sc : Option (Nat × (Nat → Int32))} {d k n : Nat} {P : am_O → Prop} {I : am_I} {J : am_J} {Pf : am_R} (hp : am_PF Pf) {x1 : Int32} {l2 : Option Value} {s1 : Int32} {s2 : Int32} {s3 : Int32} (q1 : am_mth d 176 [.ref 0, .int s1, .int s2, .int s3] (am_SH, I, J, Pf) (am_af sc d 143 16 [some (.ref 0), some (.int x1), l2] [.int s3, .int s2, .int s1, .ref 0] [] (am_SH, I, J, Pf) k n true P)) : am_go sc d 143 (16, [some (.ref 0), some (.int x1), l2], [.int s3, .int s2, .int s1, .ref 0], (am_SH, I, J, Pf), k, n) P := by
  exact am_s_virtual true dc143_1.1.1.1 rfl (by decide) rfl rfl rfl (q1)
theorem t143_19 {sc : Option (Nat × (Nat → Int32))} {d k n : Nat} {P : am_O → Prop} {I : am_I} {J : am_J} {Pf : am_R} (hp : am_PF Pf) {x1 : Int32} {l2 : Option Value} (q1 : ((I 108 2) < 16) → am_mth d 52 [.ref 1, .int x1] (am_SH, I, J, Pf) (am_af sc d 143 50 [some (.ref 0), some (.int x1), some (.int 0)] [.int x1, .ref 1] [] (am_SH, I, J, Pf) k n false P)) (q2 : (¬ ((I 108 2) < 16)) → am_mth d 52 [.ref 1, .int 0] (am_SH, I, J, Pf) (am_af sc d 143 50 [some (.ref 0), some (.int x1), some (.int 1)] [.int 0, .ref 1] [] (am_SH, I, J, Pf) k n false P)) : am_go sc d 143 (19, [some (.ref 0), some (.int x1), l2], [], (am_SH, I, J, Pf), k, n) P := by
  refine am_s_aload_n rfl dc143_1.1.1.2 ?_
  refine am_s_getR (r := 108) dc143_1.1.2.1 rfl rfl rfl (hp _ _ _ rfl) ?_
  refine am_x_getI (x := I 108 2) dc143_1.1.2.2 rfl rfl (Or.inl rfl) rfl ?_
  refine am_s_bipush am_cb16 dc143_1.2.1.1 ?_
  refine am_s_ic_lt dc143_1.2.1.2 rfl (fun c1 => ?_) (fun c1 => ?_)
  · refine am_s_iconst am_cc0 dc143_2.1.1.1 ?_
    refine am_s_istore_n (ls' := [some (.ref 0), some (.int x1), some (.int 0)]) rfl rfl dc143_2.1.1.2 ?_
    refine am_s_aload_n rfl dc143_2.1.2.1 ?_
    refine am_s_getR (r := 1) dc143_2.1.2.2 rfl rfl rfl (hp _ _ _ rfl) ?_
    refine am_s_iload_n rfl dc143_2.2.1.1 ?_
    refine am_s_if_eq dc143_2.2.1.2 rfl (fun _ => ?_) (fun z => absurd z (by decide))
    refine am_s_iload_n rfl dc143_3.1.1.1 ?_
    exact am_s_virtual false dc143_3.1.1.2 rfl (by decide) rfl rfl rfl (q1 c1)
  · refine am_s_iconst am_cc1 dc143_1.2.2.1 ?_
    refine am_s_goto rfl dc143_1.2.2.2 ?_
    refine am_s_istore_n (ls' := [some (.ref 0), some (.int x1), some (.int 1)]) rfl rfl dc143_2.1.1.2 ?_
    refine am_s_aload_n rfl dc143_2.1.2.1 ?_
    refine am_s_getR (r := 1) dc143_2.1.2.2 rfl rfl rfl (hp _ _ _ rfl) ?_
    refine am_s_iload_n rfl dc143_2.2.1.1 ?_
    refine am_s_if_eq dc143_2.2.1.2 rfl (fun z => absurd z (by decide)) (fun _ => ?_)
    refine am_s_iconst am_cc0 dc143_2.2.2.1 ?_
    refine am_s_goto rfl dc143_2.2.2.2 ?_
    exact am_s_virtual false dc143_3.1.1.2 rfl (by decide) rfl rfl rfl (q2 c1)
theorem t143_53 {sc : Option (Nat × (Nat → Int32))} {d k n : Nat} {P : am_O → Prop} {I : am_I} {J : am_J} {Pf : am_R} (hp : am_PF Pf) {l1 : Option Value} {x2 : Int32} (q1 : (x2 = 0) → am_mth d 100 [.ref 102, .ref 1] (am_SH, am_u I 0 15 (-1), J, Pf) (am_af sc d 143 73 [some (.ref 0), l1, some (.int x2)] [.ref 1, .ref 102] [] (am_SH, am_u I 0 15 (-1), J, Pf) k n false P)) (q2 : (¬ (x2 = 0)) → P (.inl (some (.int (-20))), (am_SH, am_u I 0 15 (-1), J, Pf), k, n)) : am_go sc d 143 (53, [some (.ref 0), l1, some (.int x2)], [], (am_SH, I, J, Pf), k, n) P := by
  refine am_s_aload_n rfl dc143_3.1.2.1 ?_
  refine am_s_iconst am_ccm1 dc143_3.1.2.2 ?_
  refine am_s_putI dc143_3.2.1.1 rfl rfl rfl rfl ?_
  refine am_s_iload_n rfl dc143_3.2.1.2 ?_
  refine am_s_if_eq dc143_3.2.2.1 rfl (fun c1 => ?_) (fun c1 => ?_)
  · refine am_s_aload_n rfl dc143_4.1.1.2 ?_
    refine am_s_getR (r := 102) dc143_4.1.2.1 rfl rfl rfl (hp _ _ _ rfl) ?_
    refine am_s_aload_n rfl dc143_4.1.2.2 ?_
    refine am_s_getR (r := 1) dc143_4.2.1.1 rfl rfl rfl (hp _ _ _ rfl) ?_
    exact am_s_virtual false dc143_4.2.1.2 rfl (by decide) rfl rfl rfl (q1 c1)
  · refine am_s_bipush am_cbm20 dc143_3.2.2.2 ?_
    exact am_s_ireturn dc143_4.1.1.1 rfl (q2 c1)
theorem t143_76 {sc : Option (Nat × (Nat → Int32))} {d k n : Nat} {P : am_O → Prop} {I : am_I} {J : am_J} {Pf : am_R} (hp : am_PF Pf) {l1 : Option Value} {l2 : Option Value} {s0 : Int32} (q1 : (¬ s0 = 0) → am_mth d 71 [.ref 108, .ref 135] (am_SH, I, J, Pf) (am_af sc d 143 109 [some (.ref 0), l1, l2] [.ref 135, .ref 108] [] (am_SH, I, J, Pf) k n false P)) (q2 : (¬ (¬ s0 = 0)) → P (.inl (some (.int ((I 1 5) - 10))), (am_SH, am_u I 0 15 (I 102 7), J, Pf), k, n)) : am_go sc d 143 (76, [some (.ref 0), l1, l2], [.int s0], (am_SH, I, J, Pf), k, n) P := by
  refine am_s_if_ne dc143_4.2.2.1 rfl (fun c1 => ?_) (fun c1 => ?_)
  · refine am_s_aload_n rfl dc143_6.1.2.1 ?_
    refine am_s_getR (r := 108) dc143_6.1.2.2 rfl rfl rfl (hp _ _ _ rfl) ?_
    refine am_s_aload_n rfl dc143_6.2.1.1 ?_
    refine am_s_getR (r := 135) dc143_6.2.1.2 rfl rfl rfl (hp _ _ _ rfl) ?_
    exact am_s_virtual false dc143_6.2.2.1 rfl (by decide) rfl rfl rfl (q1 c1)
  · refine am_s_aload_n rfl dc143_4.2.2.2 ?_
    refine am_s_aload_n rfl dc143_5.1.1.1 ?_
    refine am_s_getR (r := 102) dc143_5.1.1.2 rfl rfl rfl (hp _ _ _ rfl) ?_
    refine am_x_getI (x := I 102 7) dc143_5.1.2.1 rfl rfl (Or.inl rfl) rfl ?_
    refine am_s_putI dc143_5.1.2.2 rfl rfl rfl rfl ?_
    refine am_s_aload_n rfl dc143_5.2.1.1 ?_
    refine am_s_getR (r := 1) dc143_5.2.1.2 rfl rfl rfl (hp _ _ _ rfl) ?_
    refine am_x_getI (x := I 1 5) dc143_5.2.2.1 rfl rfl (Or.inl rfl) rfl ?_
    refine am_s_bipush am_cb10 dc143_5.2.2.2 ?_
    refine am_s_isub dc143_6.1.1.1 ?_
    exact am_s_ireturn dc143_6.1.1.2 rfl (q2 c1)
theorem t143_112 {sc : Option (Nat × (Nat → Int32))} {d k n : Nat} {P : am_O → Prop} {I : am_I} {J : am_J} {Pf : am_R} (hp : am_PF Pf) {l1 : Option Value} {l2 : Option Value} (q1 : am_mth d 106 [.ref 102, .ref 135] (am_SH, I, J, Pf) (am_af sc d 143 120 [some (.ref 0), l1, l2] [.ref 135, .ref 102] [] (am_SH, I, J, Pf) k n false P)) : am_go sc d 143 (112, [some (.ref 0), l1, l2], [], (am_SH, I, J, Pf), k, n) P := by
  refine am_s_aload_n rfl dc143_6.2.2.2 ?_
  refine am_s_getR (r := 102) dc143_7.1.1.1 rfl rfl rfl (hp _ _ _ rfl) ?_
  refine am_s_aload_n rfl dc143_7.1.1.2 ?_
  refine am_s_getR (r := 135) dc143_7.1.2.1 rfl rfl rfl (hp _ _ _ rfl) ?_
  exact am_s_virtual false dc143_7.1.2.2 rfl (by decide) rfl rfl rfl (q1)
theorem t143_123 {sc : Option (Nat × (Nat → Int32))} {d k n : Nat} {P : am_O → Prop} {I : am_I} {J : am_J} {Pf : am_R} (hp : am_PF Pf) {l1 : Option Value} {l2 : Option Value} (q1 : am_mth d 179 [.ref 0, .int (I 102 9)] (am_SH, I, J, Pf) (am_af sc d 143 131 [some (.ref 0), l1, l2] [.int (I 102 9), .ref 0] [] (am_SH, I, J, Pf) k n true P)) : am_go sc d 143 (123, [some (.ref 0), l1, l2], [], (am_SH, I, J, Pf), k, n) P := by
  refine am_s_aload_n rfl dc143_7.2.1.1 ?_
  refine am_s_aload_n rfl dc143_7.2.1.2 ?_
  refine am_s_getR (r := 102) dc143_7.2.2.1 rfl rfl rfl (hp _ _ _ rfl) ?_
  refine am_x_getI (x := I 102 9) dc143_7.2.2.2 rfl rfl (Or.inl rfl) rfl ?_
  exact am_s_virtual true dc143_8.1.1 rfl (by decide) rfl rfl rfl (q1)
theorem t143_134 {sc : Option (Nat × (Nat → Int32))} {d k n : Nat} {P : am_O → Prop} {I : am_I} {J : am_J} {Pf : am_R} (hp : am_PF Pf) {l1 : Option Value} {l2 : Option Value} (q1 : P (.inl (some (.int (I 102 8))), (am_SH, I, J, Pf), k, n)) : am_go sc d 143 (134, [some (.ref 0), l1, l2], [], (am_SH, I, J, Pf), k, n) P := by
  refine am_s_aload_n rfl dc143_8.1.2 ?_
  refine am_s_getR (r := 102) dc143_8.2.1 rfl rfl rfl (hp _ _ _ rfl) ?_
  refine am_x_getI (x := I 102 8) dc143_8.2.2.1 rfl rfl (Or.inl rfl) rfl ?_
  exact am_s_ireturn dc143_8.2.2.2 rfl (q1)
-- fault ()I
theorem dc144_0 : ((decode (am_by 144) 0 = .ok (.aload_n 0, 1)) ∧ (decode (am_by 144) 1 = .ok (.getfield 10, 3))) ∧ ((decode (am_by 144) 4 = .ok (.getfield 163, 3)) ∧ (decode (am_by 144) 7 = .ok (.ireturn, 1))) := by decide +kernel
theorem t144_0 {sc : Option (Nat × (Nat → Int32))} {d k n : Nat} {P : am_O → Prop} {I : am_I} {J : am_J} {Pf : am_R} (hp : am_PF Pf)  (q1 : P (.inl (some (.int (I 1 6))), (am_SH, I, J, Pf), k, n)) : am_go sc d 144 (0, [some (.ref 0)], [], (am_SH, I, J, Pf), k, n) P := by
  refine am_s_aload_n rfl dc144_0.1.1 ?_
  refine am_s_getR (r := 1) dc144_0.1.2 rfl rfl rfl (hp _ _ _ rfl) ?_
  refine am_x_getI (x := I 1 6) dc144_0.2.1 rfl rfl (Or.inl rfl) rfl ?_
  exact am_s_ireturn dc144_0.2.2 rfl (q1)
-- faulted ()I
theorem dc145_0 : (decode (am_by 145) 0 = .ok (.aload_n 0, 1)) ∧ ((decode (am_by 145) 1 = .ok (.getfield 87, 3)) ∧ (decode (am_by 145) 4 = .ok (.ireturn, 1))) := by decide +kernel
theorem t145_0 {sc : Option (Nat × (Nat → Int32))} {d k n : Nat} {P : am_O → Prop} {I : am_I} {J : am_J} {Pf : am_R} (hp : am_PF Pf)  (q1 : P (.inl (some (.int (I 0 15))), (am_SH, I, J, Pf), k, n)) : am_go sc d 145 (0, [some (.ref 0)], [], (am_SH, I, J, Pf), k, n) P := by
  refine am_s_aload_n rfl dc145_0.1 ?_
  refine am_x_getI (x := I 0 15) dc145_0.2.1 rfl rfl (Or.inl rfl) rfl ?_
  exact am_s_ireturn dc145_0.2.2 rfl (q1)
-- undo ()I
theorem dc146_0 : (((decode (am_by 146) 0 = .ok (.aload_n 0, 1)) ∧ (decode (am_by 146) 1 = .ok (.getfield 53, 3))) ∧ ((decode (am_by 146) 4 = .ok (.getfield 125, 3)) ∧ (decode (am_by 146) 7 = .ok (.ifCond .ne 5, 3)))) ∧ (((decode (am_by 146) 10 = .ok (.iconst (-1), 1)) ∧ (decode (am_by 146) 11 = .ok (.ireturn, 1))) ∧ ((decode (am_by 146) 12 = .ok (.aload_n 0, 1)) ∧ (decode (am_by 146) 13 = .ok (.getfield 53, 3)))) := by decide +kernel
theorem dc146_1 : (((decode (am_by 146) 16 = .ok (.aload_n 0, 1)) ∧ (decode (am_by 146) 17 = .ok (.getfield 71, 3))) ∧ ((decode (am_by 146) 20 = .ok (.invokevirtual 166, 3)) ∧ (decode (am_by 146) 23 = .ok (.aload_n 0, 1)))) ∧ (((decode (am_by 146) 24 = .ok (.iconst 0, 1)) ∧ (decode (am_by 146) 25 = .ok (.invokevirtual 131, 3))) ∧ ((decode (am_by 146) 28 = .ok (.aload_n 0, 1)) ∧ (decode (am_by 146) 29 = .ok (.getfield 53, 3)))) := by decide +kernel
theorem dc146_2 : (decode (am_by 146) 32 = .ok (.getfield 125, 3)) ∧ (decode (am_by 146) 35 = .ok (.ireturn, 1)) := by decide +kernel
theorem t146_0 {sc : Option (Nat × (Nat → Int32))} {d k n : Nat} {P : am_O → Prop} {I : am_I} {J : am_J} {Pf : am_R} (hp : am_PF Pf)  (q1 : (¬ (I 108 2) = 0) → am_mth d 72 [.ref 108, .ref 135] (am_SH, I, J, Pf) (am_af sc d 146 20 [some (.ref 0)] [.ref 135, .ref 108] [] (am_SH, I, J, Pf) k n false P)) (q2 : (¬ (¬ (I 108 2) = 0)) → P (.inl (some (.int (-1))), (am_SH, I, J, Pf), k, n)) : am_go sc d 146 (0, [some (.ref 0)], [], (am_SH, I, J, Pf), k, n) P := by
  refine am_s_aload_n rfl dc146_0.1.1.1 ?_
  refine am_s_getR (r := 108) dc146_0.1.1.2 rfl rfl rfl (hp _ _ _ rfl) ?_
  refine am_x_getI (x := I 108 2) dc146_0.1.2.1 rfl rfl (Or.inl rfl) rfl ?_
  refine am_s_if_ne dc146_0.1.2.2 rfl (fun c1 => ?_) (fun c1 => ?_)
  · refine am_s_aload_n rfl dc146_0.2.2.1 ?_
    refine am_s_getR (r := 108) dc146_0.2.2.2 rfl rfl rfl (hp _ _ _ rfl) ?_
    refine am_s_aload_n rfl dc146_1.1.1.1 ?_
    refine am_s_getR (r := 135) dc146_1.1.1.2 rfl rfl rfl (hp _ _ _ rfl) ?_
    exact am_s_virtual false dc146_1.1.2.1 rfl (by decide) rfl rfl rfl (q1 c1)
  · refine am_s_iconst am_ccm1 dc146_0.2.1.1 ?_
    exact am_s_ireturn dc146_0.2.1.2 rfl (q2 c1)
theorem t146_23 {sc : Option (Nat × (Nat → Int32))} {d k n : Nat} {P : am_O → Prop} {I : am_I} {J : am_J} {Pf : am_R} (hp : am_PF Pf)  (q1 : am_mth d 179 [.ref 0, .int 0] (am_SH, I, J, Pf) (am_af sc d 146 25 [some (.ref 0)] [.int 0, .ref 0] [] (am_SH, I, J, Pf) k n true P)) : am_go sc d 146 (23, [some (.ref 0)], [], (am_SH, I, J, Pf), k, n) P := by
  refine am_s_aload_n rfl dc146_1.1.2.2 ?_
  refine am_s_iconst am_cc0 dc146_1.2.1.1 ?_
  exact am_s_virtual true dc146_1.2.1.2 rfl (by decide) rfl rfl rfl (q1)
theorem t146_28 {sc : Option (Nat × (Nat → Int32))} {d k n : Nat} {P : am_O → Prop} {I : am_I} {J : am_J} {Pf : am_R} (hp : am_PF Pf)  (q1 : P (.inl (some (.int (I 108 2))), (am_SH, I, J, Pf), k, n)) : am_go sc d 146 (28, [some (.ref 0)], [], (am_SH, I, J, Pf), k, n) P := by
  refine am_s_aload_n rfl dc146_1.2.2.1 ?_
  refine am_s_getR (r := 108) dc146_1.2.2.2 rfl rfl rfl (hp _ _ _ rfl) ?_
  refine am_x_getI (x := I 108 2) dc146_2.1 rfl rfl (Or.inl rfl) rfl ?_
  exact am_s_ireturn dc146_2.2 rfl (q1)
-- told (I)I
theorem dc147_0 : (((decode (am_by 147) 0 = .ok (.aload_n 0, 1)) ∧ (decode (am_by 147) 1 = .ok (.iload_n 1, 1))) ∧ ((decode (am_by 147) 2 = .ok (.iconst 0, 1)) ∧ (decode (am_by 147) 3 = .ok (.bipush 9, 2)))) ∧ (((decode (am_by 147) 5 = .ok (.invokevirtual 102, 3)) ∧ (decode (am_by 147) 8 = .ok (.iload_n 1, 1))) ∧ ((decode (am_by 147) 9 = .ok (.tableswitch 130 0 8 #[51, 59, 67, 75, 83, 91, 99, 110, 122], 51)) ∧ (decode (am_by 147) 60 = .ok (.aload_n 0, 1)))) := by decide +kernel
theorem dc147_1 : (((decode (am_by 147) 61 = .ok (.getfield 26, 3)) ∧ (decode (am_by 147) 64 = .ok (.getfield 169, 3))) ∧ ((decode (am_by 147) 67 = .ok (.ireturn, 1)) ∧ (decode (am_by 147) 68 = .ok (.aload_n 0, 1)))) ∧ (((decode (am_by 147) 69 = .ok (.getfield 26, 3)) ∧ (decode (am_by 147) 72 = .ok (.getfield 134, 3))) ∧ ((decode (am_by 147) 75 = .ok (.ireturn, 1)) ∧ (decode (am_by 147) 76 = .ok (.aload_n 0, 1)))) := by decide +kernel
theorem dc147_2 : (((decode (am_by 147) 77 = .ok (.getfield 26, 3)) ∧ (decode (am_by 147) 80 = .ok (.getfield 172, 3))) ∧ ((decode (am_by 147) 83 = .ok (.ireturn, 1)) ∧ (decode (am_by 147) 84 = .ok (.aload_n 0, 1)))) ∧ (((decode (am_by 147) 85 = .ok (.getfield 26, 3)) ∧ (decode (am_by 147) 88 = .ok (.getfield 175, 3))) ∧ ((decode (am_by 147) 91 = .ok (.ireturn, 1)) ∧ (decode (am_by 147) 92 = .ok (.aload_n 0, 1)))) := by decide +kernel
theorem dc147_3 : (((decode (am_by 147) 93 = .ok (.getfield 26, 3)) ∧ (decode (am_by 147) 96 = .ok (.getfield 178, 3))) ∧ ((decode (am_by 147) 99 = .ok (.ireturn, 1)) ∧ (decode (am_by 147) 100 = .ok (.aload_n 0, 1)))) ∧ (((decode (am_by 147) 101 = .ok (.getfield 26, 3)) ∧ (decode (am_by 147) 104 = .ok (.getfield 181, 3))) ∧ ((decode (am_by 147) 107 = .ok (.ireturn, 1)) ∧ (decode (am_by 147) 108 = .ok (.aload_n 0, 1)))) := by decide +kernel
theorem dc147_4 : (((decode (am_by 147) 109 = .ok (.getfield 26, 3)) ∧ (decode (am_by 147) 112 = .ok (.getfield 184, 3))) ∧ ((decode (am_by 147) 115 = .ok (.getfield 188, 3)) ∧ (decode (am_by 147) 118 = .ok (.ireturn, 1)))) ∧ (((decode (am_by 147) 119 = .ok (.aload_n 0, 1)) ∧ (decode (am_by 147) 120 = .ok (.invokevirtual 193, 3))) ∧ ((decode (am_by 147) 123 = .ok (.aload_n 0, 1)) ∧ (decode (am_by 147) 124 = .ok (.getfield 71, 3)))) := by decide +kernel
theorem dc147_5 : (((decode (am_by 147) 127 = .ok (.invokevirtual 196, 3)) ∧ (decode (am_by 147) 130 = .ok (.ireturn, 1))) ∧ ((decode (am_by 147) 131 = .ok (.aload_n 0, 1)) ∧ (decode (am_by 147) 132 = .ok (.getfield 71, 3)))) ∧ (((decode (am_by 147) 135 = .ok (.getfield 128, 3)) ∧ (decode (am_by 147) 138 = .ok (.ireturn, 1))) ∧ ((decode (am_by 147) 139 = .ok (.aload_n 0, 1)) ∧ (decode (am_by 147) 140 = .ok (.getfield 200, 3)))) := by decide +kernel
theorem dc147_6 : decode (am_by 147) 143 = .ok (.ireturn, 1) := by decide +kernel
theorem t147_0 {sc : Option (Nat × (Nat → Int32))} {d k n : Nat} {P : am_O → Prop} {I : am_I} {J : am_J} {Pf : am_R} (hp : am_PF Pf) {x1 : Int32} (q1 : am_mth d 176 [.ref 0, .int x1, .int 0, .int 9] (am_SH, I, J, Pf) (am_af sc d 147 5 [some (.ref 0), some (.int x1)] [.int 9, .int 0, .int x1, .ref 0] [] (am_SH, I, J, Pf) k n true P)) : am_go sc d 147 (0, [some (.ref 0), some (.int x1)], [], (am_SH, I, J, Pf), k, n) P := by
  refine am_s_aload_n rfl dc147_0.1.1.1 ?_
  refine am_s_iload_n rfl dc147_0.1.1.2 ?_
  refine am_s_iconst am_cc0 dc147_0.1.2.1 ?_
  refine am_s_bipush am_cb9 dc147_0.1.2.2 ?_
  exact am_s_virtual true dc147_0.2.1.1 rfl (by decide) rfl rfl rfl (q1)
theorem t147_8 {sc : Option (Nat × (Nat → Int32))} {d k n : Nat} {P : am_O → Prop} {I : am_I} {J : am_J} {Pf : am_R} (hp : am_PF Pf) {x1 : Int32} (q1 : am_go sc d 147 (9, [some (.ref 0), some (.int x1)], [.int x1], (am_SH, I, J, Pf), k, n) P) : am_go sc d 147 (8, [some (.ref 0), some (.int x1)], [], (am_SH, I, J, Pf), k, n) P := by
  refine am_s_iload_n rfl dc147_0.2.1.2 ?_
  exact q1
-- group (II)I
theorem dc148_0 : (((decode (am_by 148) 0 = .ok (.aload_n 0, 1)) ∧ (decode (am_by 148) 1 = .ok (.iload_n 1, 1))) ∧ ((decode (am_by 148) 2 = .ok (.aload_n 0, 1)) ∧ (decode (am_by 148) 3 = .ok (.getfield 26, 3)))) ∧ (((decode (am_by 148) 6 = .ok (.getfield 169, 3)) ∧ (decode (am_by 148) 9 = .ok (.invokevirtual 203, 3))) ∧ ((decode (am_by 148) 12 = .ok (.aload_n 0, 1)) ∧ (decode (am_by 148) 13 = .ok (.iload_n 2, 1)))) := by decide +kernel
theorem dc148_1 : (((decode (am_by 148) 14 = .ok (.iconst 0, 1)) ∧ (decode (am_by 148) 15 = .ok (.iconst 3, 1))) ∧ ((decode (am_by 148) 16 = .ok (.invokevirtual 102, 3)) ∧ (decode (am_by 148) 19 = .ok (.aload_n 0, 1)))) ∧ (((decode (am_by 148) 20 = .ok (.getfield 26, 3)) ∧ (decode (am_by 148) 23 = .ok (.getfield 207, 3))) ∧ ((decode (am_by 148) 26 = .ok (.iload_n 1, 1)) ∧ (decode (am_by 148) 27 = .ok (.aaload, 1)))) := by decide +kernel
theorem dc148_2 : (((decode (am_by 148) 28 = .ok (.astore_n 3, 1)) ∧ (decode (am_by 148) 29 = .ok (.iload_n 2, 1))) ∧ ((decode (am_by 148) 30 = .ok (.tableswitch 41 0 2 #[26, 31, 36], 26)) ∧ (decode (am_by 148) 56 = .ok (.aload_n 3, 1)))) ∧ (((decode (am_by 148) 57 = .ok (.invokevirtual 211, 3)) ∧ (decode (am_by 148) 60 = .ok (.ireturn, 1))) ∧ ((decode (am_by 148) 61 = .ok (.aload_n 3, 1)) ∧ (decode (am_by 148) 62 = .ok (.invokevirtual 216, 3)))) := by decide +kernel
theorem dc148_3 : ((decode (am_by 148) 65 = .ok (.ireturn, 1)) ∧ ((decode (am_by 148) 66 = .ok (.aload_n 3, 1)) ∧ (decode (am_by 148) 67 = .ok (.invokevirtual 219, 3)))) ∧ (((decode (am_by 148) 70 = .ok (.ireturn, 1)) ∧ (decode (am_by 148) 71 = .ok (.aload_n 3, 1))) ∧ ((decode (am_by 148) 72 = .ok (.invokevirtual 222, 3)) ∧ (decode (am_by 148) 75 = .ok (.ireturn, 1)))) := by decide +kernel
theorem t148_0 {sc : Option (Nat × (Nat → Int32))} {d k n : Nat} {P : am_O → Prop} {I : am_I} {J : am_J} {Pf : am_R} (hp : am_PF Pf) {x1 : Int32} {x2 : Int32} {l3 : Option Value} {r0_2 : Nat} (q1 : Pf 0 2 = some r0_2) (q2 : am_SH[r0_2]? = some (.inl 4)) (q3 : am_mth d 175 [.ref 0, .int x1, .int (I r0_2 1)] (am_SH, I, J, Pf) (am_af sc d 148 9 [some (.ref 0), some (.int x1), some (.int x2), l3] [.int (I r0_2 1), .int x1, .ref 0] [] (am_SH, I, J, Pf) k n true P)) : am_go sc d 148 (0, [some (.ref 0), some (.int x1), some (.int x2), l3], [], (am_SH, I, J, Pf), k, n) P := by
  refine am_s_aload_n rfl dc148_0.1.1.1 ?_
  refine am_s_iload_n rfl dc148_0.1.1.2 ?_
  refine am_s_aload_n rfl dc148_0.1.2.1 ?_
  refine am_s_getR (r := r0_2) dc148_0.1.2.2 rfl rfl rfl (q1) ?_
  refine am_x_getI (x := I r0_2 1) dc148_0.2.1.1 rfl (q2) (Or.inl rfl) rfl ?_
  exact am_s_virtual true dc148_0.2.1.2 rfl (by decide) rfl rfl rfl (q3)
theorem t148_12 {sc : Option (Nat × (Nat → Int32))} {d k n : Nat} {P : am_O → Prop} {I : am_I} {J : am_J} {Pf : am_R} (hp : am_PF Pf) {x1 : Int32} {x2 : Int32} {l3 : Option Value} (q1 : am_mth d 176 [.ref 0, .int x2, .int 0, .int 3] (am_SH, I, J, Pf) (am_af sc d 148 16 [some (.ref 0), some (.int x1), some (.int x2), l3] [.int 3, .int 0, .int x2, .ref 0] [] (am_SH, I, J, Pf) k n true P)) : am_go sc d 148 (12, [some (.ref 0), some (.int x1), some (.int x2), l3], [], (am_SH, I, J, Pf), k, n) P := by
  refine am_s_aload_n rfl dc148_0.2.2.1 ?_
  refine am_s_iload_n rfl dc148_0.2.2.2 ?_
  refine am_s_iconst am_cc0 dc148_1.1.1.1 ?_
  refine am_s_iconst am_cc3 dc148_1.1.1.2 ?_
  exact am_s_virtual true dc148_1.1.2.1 rfl (by decide) rfl rfl rfl (q1)
theorem t148_19 {sc : Option (Nat × (Nat → Int32))} {d k n : Nat} {P : am_O → Prop} {I : am_I} {J : am_J} {Pf : am_R} (hp : am_PF Pf) {x1 : Int32} {x2 : Int32} {l3 : Option Value} {r0_2 : Nat} {r27 : Nat} (q1 : Pf 0 2 = some r0_2) (q2 : am_SH[r0_2]? = some (.inl 4)) (q3 : am_in x1 8 = true) (q4 : Pf (r0_2 + 1) (Int32.toNatClampNeg x1) = some r27) (q5 : am_SH[r27]? = some (.inl 6)) (q6 : am_go sc d 148 (30, [some (.ref 0), some (.int x1), some (.int x2), some (.ref r27)], [.int x2], (am_SH, I, J, Pf), k, n) P) : am_go sc d 148 (19, [some (.ref 0), some (.int x1), some (.int x2), l3], [], (am_SH, I, J, Pf), k, n) P := by
  refine am_s_aload_n rfl dc148_1.1.2.2 ?_
  refine am_s_getR (r := r0_2) dc148_1.2.1.1 rfl rfl rfl (q1) ?_
  refine am_s_getR (r := r0_2 + 1) dc148_1.2.1.2 rfl (q2) rfl (am_r4_0 hp (q2)) ?_
  refine am_s_iload_n rfl dc148_1.2.2.1 ?_
  refine am_s_aaload (r := r27) dc148_1.2.2.2 (am_h4_0 (q2)) rfl (q3) (q4) ?_
  refine am_s_astore_n (ls' := [some (.ref 0), some (.int x1), some (.int x2), some (.ref r27)]) rfl rfl dc148_2.1.1.1 ?_
  refine am_s_iload_n rfl dc148_2.1.1.2 ?_
  exact q6
-- holds (II)Z
theorem dc149_0 : (((decode (am_by 149) 0 = .ok (.aload_n 0, 1)) ∧ (decode (am_by 149) 1 = .ok (.iload_n 1, 1))) ∧ ((decode (am_by 149) 2 = .ok (.aload_n 0, 1)) ∧ (decode (am_by 149) 3 = .ok (.getfield 26, 3)))) ∧ (((decode (am_by 149) 6 = .ok (.getfield 169, 3)) ∧ (decode (am_by 149) 9 = .ok (.invokevirtual 203, 3))) ∧ ((decode (am_by 149) 12 = .ok (.aload_n 0, 1)) ∧ (decode (am_by 149) 13 = .ok (.iload_n 2, 1)))) := by decide +kernel
theorem dc149_1 : (((decode (am_by 149) 14 = .ok (.bipush 32, 2)) ∧ (decode (am_by 149) 16 = .ok (.bipush 126, 2))) ∧ ((decode (am_by 149) 18 = .ok (.invokevirtual 102, 3)) ∧ (decode (am_by 149) 21 = .ok (.aload_n 0, 1)))) ∧ (((decode (am_by 149) 22 = .ok (.getfield 26, 3)) ∧ (decode (am_by 149) 25 = .ok (.getfield 207, 3))) ∧ ((decode (am_by 149) 28 = .ok (.iload_n 1, 1)) ∧ (decode (am_by 149) 29 = .ok (.aaload, 1)))) := by decide +kernel
theorem dc149_2 : (decode (am_by 149) 30 = .ok (.iload_n 2, 1)) ∧ ((decode (am_by 149) 31 = .ok (.invokevirtual 225, 3)) ∧ (decode (am_by 149) 34 = .ok (.ireturn, 1))) := by decide +kernel
theorem t149_0 {sc : Option (Nat × (Nat → Int32))} {d k n : Nat} {P : am_O → Prop} {I : am_I} {J : am_J} {Pf : am_R} (hp : am_PF Pf) {x1 : Int32} {x2 : Int32} {r0_2 : Nat} (q1 : Pf 0 2 = some r0_2) (q2 : am_SH[r0_2]? = some (.inl 4)) (q3 : am_mth d 175 [.ref 0, .int x1, .int (I r0_2 1)] (am_SH, I, J, Pf) (am_af sc d 149 9 [some (.ref 0), some (.int x1), some (.int x2)] [.int (I r0_2 1), .int x1, .ref 0] [] (am_SH, I, J, Pf) k n true P)) : am_go sc d 149 (0, [some (.ref 0), some (.int x1), some (.int x2)], [], (am_SH, I, J, Pf), k, n) P := by
  refine am_s_aload_n rfl dc149_0.1.1.1 ?_
  refine am_s_iload_n rfl dc149_0.1.1.2 ?_
  refine am_s_aload_n rfl dc149_0.1.2.1 ?_
  refine am_s_getR (r := r0_2) dc149_0.1.2.2 rfl rfl rfl (q1) ?_
  refine am_x_getI (x := I r0_2 1) dc149_0.2.1.1 rfl (q2) (Or.inl rfl) rfl ?_
  exact am_s_virtual true dc149_0.2.1.2 rfl (by decide) rfl rfl rfl (q3)
theorem t149_12 {sc : Option (Nat × (Nat → Int32))} {d k n : Nat} {P : am_O → Prop} {I : am_I} {J : am_J} {Pf : am_R} (hp : am_PF Pf) {x1 : Int32} {x2 : Int32} (q1 : am_mth d 176 [.ref 0, .int x2, .int 32, .int 126] (am_SH, I, J, Pf) (am_af sc d 149 18 [some (.ref 0), some (.int x1), some (.int x2)] [.int 126, .int 32, .int x2, .ref 0] [] (am_SH, I, J, Pf) k n true P)) : am_go sc d 149 (12, [some (.ref 0), some (.int x1), some (.int x2)], [], (am_SH, I, J, Pf), k, n) P := by
  refine am_s_aload_n rfl dc149_0.2.2.1 ?_
  refine am_s_iload_n rfl dc149_0.2.2.2 ?_
  refine am_s_bipush am_cb32 dc149_1.1.1.1 ?_
  refine am_s_bipush am_cb126 dc149_1.1.1.2 ?_
  exact am_s_virtual true dc149_1.1.2.1 rfl (by decide) rfl rfl rfl (q1)
theorem t149_21 {sc : Option (Nat × (Nat → Int32))} {d k n : Nat} {P : am_O → Prop} {I : am_I} {J : am_J} {Pf : am_R} (hp : am_PF Pf) {x1 : Int32} {x2 : Int32} {r0_2 : Nat} {r29 : Nat} (q1 : Pf 0 2 = some r0_2) (q2 : am_SH[r0_2]? = some (.inl 4)) (q3 : am_in x1 8 = true) (q4 : Pf (r0_2 + 1) (Int32.toNatClampNeg x1) = some r29) (q5 : am_SH[r29]? = some (.inl 6)) (q6 : am_mth d 78 [.ref r29, .int x2] (am_SH, I, J, Pf) (am_af sc d 149 31 [some (.ref 0), some (.int x1), some (.int x2)] [.int x2, .ref r29] [] (am_SH, I, J, Pf) k n false P)) : am_go sc d 149 (21, [some (.ref 0), some (.int x1), some (.int x2)], [], (am_SH, I, J, Pf), k, n) P := by
  refine am_s_aload_n rfl dc149_1.1.2.2 ?_
  refine am_s_getR (r := r0_2) dc149_1.2.1.1 rfl rfl rfl (q1) ?_
  refine am_s_getR (r := r0_2 + 1) dc149_1.2.1.2 rfl (q2) rfl (am_r4_0 hp (q2)) ?_
  refine am_s_iload_n rfl dc149_1.2.2.1 ?_
  refine am_s_aaload (r := r29) dc149_1.2.2.2 (am_h4_0 (q2)) rfl (q3) (q4) ?_
  refine am_s_iload_n rfl dc149_2.1 ?_
  exact am_s_virtual false dc149_2.2.1 rfl (by decide) rfl (q5) rfl (q6)
theorem t149_34 {sc : Option (Nat × (Nat → Int32))} {d k n : Nat} {P : am_O → Prop} {I : am_I} {J : am_J} {Pf : am_R} (hp : am_PF Pf) {l0 : Option Value} {l1 : Option Value} {l2 : Option Value} {s0 : Int32} (q1 : P (.inl (some (.int s0)), (am_SH, I, J, Pf), k, n)) (q2 : s0 = 0 ∨ s0 = 1) : am_go sc d 149 (34, [l0, l1, l2], [.int s0], (am_SH, I, J, Pf), k, n) P := by
  exact am_s_zreturn dc149_2.2.2 rfl (q2) (q1)
-- beside (II)I
theorem dc150_0 : (((decode (am_by 150) 0 = .ok (.aload_n 0, 1)) ∧ (decode (am_by 150) 1 = .ok (.iload_n 1, 1))) ∧ ((decode (am_by 150) 2 = .ok (.aload_n 0, 1)) ∧ (decode (am_by 150) 3 = .ok (.getfield 26, 3)))) ∧ (((decode (am_by 150) 6 = .ok (.getfield 169, 3)) ∧ (decode (am_by 150) 9 = .ok (.invokevirtual 203, 3))) ∧ ((decode (am_by 150) 12 = .ok (.aload_n 0, 1)) ∧ (decode (am_by 150) 13 = .ok (.iload_n 2, 1)))) := by decide +kernel
theorem dc150_1 : (((decode (am_by 150) 14 = .ok (.aload_n 0, 1)) ∧ (decode (am_by 150) 15 = .ok (.getfield 26, 3))) ∧ ((decode (am_by 150) 18 = .ok (.getfield 169, 3)) ∧ (decode (am_by 150) 21 = .ok (.invokevirtual 203, 3)))) ∧ (((decode (am_by 150) 24 = .ok (.aload_n 0, 1)) ∧ (decode (am_by 150) 25 = .ok (.getfield 26, 3))) ∧ ((decode (am_by 150) 28 = .ok (.getfield 207, 3)) ∧ (decode (am_by 150) 31 = .ok (.iload_n 1, 1)))) := by decide +kernel
theorem dc150_2 : (((decode (am_by 150) 32 = .ok (.aaload, 1)) ∧ (decode (am_by 150) 33 = .ok (.astore_n 3, 1))) ∧ ((decode (am_by 150) 34 = .ok (.aload_n 0, 1)) ∧ (decode (am_by 150) 35 = .ok (.getfield 26, 3)))) ∧ (((decode (am_by 150) 38 = .ok (.getfield 207, 3)) ∧ (decode (am_by 150) 41 = .ok (.iload_n 2, 1))) ∧ ((decode (am_by 150) 42 = .ok (.aaload, 1)) ∧ (decode (am_by 150) 43 = .ok (.astore 4, 2)))) := by decide +kernel
theorem dc150_3 : (((decode (am_by 150) 45 = .ok (.aload_n 3, 1)) ∧ (decode (am_by 150) 46 = .ok (.aload 4, 2))) ∧ ((decode (am_by 150) 48 = .ok (.invokevirtual 229, 3)) ∧ (decode (am_by 150) 51 = .ok (.ifCond .eq 5, 3)))) ∧ (((decode (am_by 150) 54 = .ok (.iconst 1, 1)) ∧ (decode (am_by 150) 55 = .ok (.ireturn, 1))) ∧ ((decode (am_by 150) 56 = .ok (.aload_n 3, 1)) ∧ (decode (am_by 150) 57 = .ok (.aload 4, 2)))) := by decide +kernel
theorem dc150_4 : (((decode (am_by 150) 59 = .ok (.invokevirtual 233, 3)) ∧ (decode (am_by 150) 62 = .ok (.ifCond .ne 5, 3))) ∧ ((decode (am_by 150) 65 = .ok (.iconst 0, 1)) ∧ (decode (am_by 150) 66 = .ok (.ireturn, 1)))) ∧ (((decode (am_by 150) 67 = .ok (.aload_n 3, 1)) ∧ (decode (am_by 150) 68 = .ok (.aload 4, 2))) ∧ ((decode (am_by 150) 70 = .ok (.invokevirtual 236, 3)) ∧ (decode (am_by 150) 73 = .ok (.ifCond .eq 5, 3)))) := by decide +kernel
theorem dc150_5 : (((decode (am_by 150) 76 = .ok (.iconst 2, 1)) ∧ (decode (am_by 150) 77 = .ok (.ireturn, 1))) ∧ ((decode (am_by 150) 78 = .ok (.aload 4, 2)) ∧ (decode (am_by 150) 80 = .ok (.aload_n 3, 1)))) ∧ (((decode (am_by 150) 81 = .ok (.invokevirtual 236, 3)) ∧ (decode (am_by 150) 84 = .ok (.ifCond .eq 7, 3))) ∧ ((decode (am_by 150) 87 = .ok (.iconst 3, 1)) ∧ (decode (am_by 150) 88 = .ok (.goto 4, 3)))) := by decide +kernel
theorem dc150_6 : (decode (am_by 150) 91 = .ok (.iconst 4, 1)) ∧ (decode (am_by 150) 92 = .ok (.ireturn, 1)) := by decide +kernel
theorem t150_0 {sc : Option (Nat × (Nat → Int32))} {d k n : Nat} {P : am_O → Prop} {I : am_I} {J : am_J} {Pf : am_R} (hp : am_PF Pf) {x1 : Int32} {x2 : Int32} {l3 : Option Value} {l4 : Option Value} {r0_2 : Nat} (q1 : Pf 0 2 = some r0_2) (q2 : am_SH[r0_2]? = some (.inl 4)) (q3 : am_mth d 175 [.ref 0, .int x1, .int (I r0_2 1)] (am_SH, I, J, Pf) (am_af sc d 150 9 [some (.ref 0), some (.int x1), some (.int x2), l3, l4] [.int (I r0_2 1), .int x1, .ref 0] [] (am_SH, I, J, Pf) k n true P)) : am_go sc d 150 (0, [some (.ref 0), some (.int x1), some (.int x2), l3, l4], [], (am_SH, I, J, Pf), k, n) P := by
  refine am_s_aload_n rfl dc150_0.1.1.1 ?_
  refine am_s_iload_n rfl dc150_0.1.1.2 ?_
  refine am_s_aload_n rfl dc150_0.1.2.1 ?_
  refine am_s_getR (r := r0_2) dc150_0.1.2.2 rfl rfl rfl (q1) ?_
  refine am_x_getI (x := I r0_2 1) dc150_0.2.1.1 rfl (q2) (Or.inl rfl) rfl ?_
  exact am_s_virtual true dc150_0.2.1.2 rfl (by decide) rfl rfl rfl (q3)
theorem t150_12 {sc : Option (Nat × (Nat → Int32))} {d k n : Nat} {P : am_O → Prop} {I : am_I} {J : am_J} {Pf : am_R} (hp : am_PF Pf) {x1 : Int32} {x2 : Int32} {l3 : Option Value} {l4 : Option Value} {r0_2 : Nat} (q1 : Pf 0 2 = some r0_2) (q2 : am_SH[r0_2]? = some (.inl 4)) (q3 : am_mth d 175 [.ref 0, .int x2, .int (I r0_2 1)] (am_SH, I, J, Pf) (am_af sc d 150 21 [some (.ref 0), some (.int x1), some (.int x2), l3, l4] [.int (I r0_2 1), .int x2, .ref 0] [] (am_SH, I, J, Pf) k n true P)) : am_go sc d 150 (12, [some (.ref 0), some (.int x1), some (.int x2), l3, l4], [], (am_SH, I, J, Pf), k, n) P := by
  refine am_s_aload_n rfl dc150_0.2.2.1 ?_
  refine am_s_iload_n rfl dc150_0.2.2.2 ?_
  refine am_s_aload_n rfl dc150_1.1.1.1 ?_
  refine am_s_getR (r := r0_2) dc150_1.1.1.2 rfl rfl rfl (q1) ?_
  refine am_x_getI (x := I r0_2 1) dc150_1.1.2.1 rfl (q2) (Or.inl rfl) rfl ?_
  exact am_s_virtual true dc150_1.1.2.2 rfl (by decide) rfl rfl rfl (q3)
theorem t150_24 {sc : Option (Nat × (Nat → Int32))} {d k n : Nat} {P : am_O → Prop} {I : am_I} {J : am_J} {Pf : am_R} (hp : am_PF Pf) {x1 : Int32} {x2 : Int32} {l3 : Option Value} {l4 : Option Value} {r0_2 : Nat} {r32 : Nat} {r42 : Nat} (q1 : Pf 0 2 = some r0_2) (q2 : am_SH[r0_2]? = some (.inl 4)) (q3 : am_in x1 8 = true) (q4 : Pf (r0_2 + 1) (Int32.toNatClampNeg x1) = some r32) (q5 : am_SH[r32]? = some (.inl 6)) (q6 : Pf 0 2 = some r0_2) (q7 : am_SH[r0_2]? = some (.inl 4)) (q8 : am_in x2 8 = true) (q9 : Pf (r0_2 + 1) (Int32.toNatClampNeg x2) = some r42) (q10 : am_SH[r42]? = some (.inl 6)) (q11 : am_mth d 84 [.ref r32, .ref r42] (am_SH, I, J, Pf) (am_af sc d 150 48 [some (.ref 0), some (.int x1), some (.int x2), some (.ref r32), some (.ref r42)] [.ref r42, .ref r32] [] (am_SH, I, J, Pf) k n false P)) : am_go sc d 150 (24, [some (.ref 0), some (.int x1), some (.int x2), l3, l4], [], (am_SH, I, J, Pf), k, n) P := by
  refine am_s_aload_n rfl dc150_1.2.1.1 ?_
  refine am_s_getR (r := r0_2) dc150_1.2.1.2 rfl rfl rfl (q1) ?_
  refine am_s_getR (r := r0_2 + 1) dc150_1.2.2.1 rfl (q2) rfl (am_r4_0 hp (q2)) ?_
  refine am_s_iload_n rfl dc150_1.2.2.2 ?_
  refine am_s_aaload (r := r32) dc150_2.1.1.1 (am_h4_0 (q2)) rfl (q3) (q4) ?_
  refine am_s_astore_n (ls' := [some (.ref 0), some (.int x1), some (.int x2), some (.ref r32), l4]) rfl rfl dc150_2.1.1.2 ?_
  refine am_s_aload_n rfl dc150_2.1.2.1 ?_
  refine am_s_getR (r := r0_2) dc150_2.1.2.2 rfl rfl rfl (q6) ?_
  refine am_s_getR (r := r0_2 + 1) dc150_2.2.1.1 rfl (q7) rfl (am_r4_0 hp (q7)) ?_
  refine am_s_iload_n rfl dc150_2.2.1.2 ?_
  refine am_s_aaload (r := r42) dc150_2.2.2.1 (am_h4_0 (q7)) rfl (q8) (q9) ?_
  refine am_s_astore (ls' := [some (.ref 0), some (.int x1), some (.int x2), some (.ref r32), some (.ref r42)]) rfl rfl dc150_2.2.2.2 ?_
  refine am_s_aload_n rfl dc150_3.1.1.1 ?_
  refine am_s_aload rfl dc150_3.1.1.2 ?_
  exact am_s_virtual false dc150_3.1.2.1 rfl (by decide) rfl (q5) rfl (q11)
theorem t150_51 {sc : Option (Nat × (Nat → Int32))} {d k n : Nat} {P : am_O → Prop} {I : am_I} {J : am_J} {Pf : am_R} (hp : am_PF Pf) {l0 : Option Value} {l1 : Option Value} {l2 : Option Value} {x3 : Nat} (hx3 : am_SH[x3]? = some (.inl 6)) {x4 : Nat} (hx4 : am_SH[x4]? = some (.inl 6)) {s0 : Int32} (q1 : (s0 = 0) → am_mth d 86 [.ref x3, .ref x4] (am_SH, I, J, Pf) (am_af sc d 150 59 [l0, l1, l2, some (.ref x3), some (.ref x4)] [.ref x4, .ref x3] [] (am_SH, I, J, Pf) k n false P)) (q2 : (¬ (s0 = 0)) → P (.inl (some (.int 1)), (am_SH, I, J, Pf), k, n)) : am_go sc d 150 (51, [l0, l1, l2, some (.ref x3), some (.ref x4)], [.int s0], (am_SH, I, J, Pf), k, n) P := by
  refine am_s_if_eq dc150_3.1.2.2 rfl (fun c1 => ?_) (fun c1 => ?_)
  · refine am_s_aload_n rfl dc150_3.2.2.1 ?_
    refine am_s_aload rfl dc150_3.2.2.2 ?_
    exact am_s_virtual false dc150_4.1.1.1 rfl (by decide) rfl hx3 rfl (q1 c1)
  · refine am_s_iconst am_cc1 dc150_3.2.1.1 ?_
    exact am_s_ireturn dc150_3.2.1.2 rfl (q2 c1)
theorem t150_62 {sc : Option (Nat × (Nat → Int32))} {d k n : Nat} {P : am_O → Prop} {I : am_I} {J : am_J} {Pf : am_R} (hp : am_PF Pf) {l0 : Option Value} {l1 : Option Value} {l2 : Option Value} {x3 : Nat} (hx3 : am_SH[x3]? = some (.inl 6)) {x4 : Nat} (hx4 : am_SH[x4]? = some (.inl 6)) {s0 : Int32} (q1 : (¬ s0 = 0) → am_mth d 85 [.ref x3, .ref x4] (am_SH, I, J, Pf) (am_af sc d 150 70 [l0, l1, l2, some (.ref x3), some (.ref x4)] [.ref x4, .ref x3] [] (am_SH, I, J, Pf) k n false P)) (q2 : (¬ (¬ s0 = 0)) → P (.inl (some (.int 0)), (am_SH, I, J, Pf), k, n)) : am_go sc d 150 (62, [l0, l1, l2, some (.ref x3), some (.ref x4)], [.int s0], (am_SH, I, J, Pf), k, n) P := by
  refine am_s_if_ne dc150_4.1.1.2 rfl (fun c1 => ?_) (fun c1 => ?_)
  · refine am_s_aload_n rfl dc150_4.2.1.1 ?_
    refine am_s_aload rfl dc150_4.2.1.2 ?_
    exact am_s_virtual false dc150_4.2.2.1 rfl (by decide) rfl hx3 rfl (q1 c1)
  · refine am_s_iconst am_cc0 dc150_4.1.2.1 ?_
    exact am_s_ireturn dc150_4.1.2.2 rfl (q2 c1)
theorem t150_73 {sc : Option (Nat × (Nat → Int32))} {d k n : Nat} {P : am_O → Prop} {I : am_I} {J : am_J} {Pf : am_R} (hp : am_PF Pf) {l0 : Option Value} {l1 : Option Value} {l2 : Option Value} {x3 : Nat} (hx3 : am_SH[x3]? = some (.inl 6)) {x4 : Nat} (hx4 : am_SH[x4]? = some (.inl 6)) {s0 : Int32} (q1 : (s0 = 0) → am_mth d 85 [.ref x4, .ref x3] (am_SH, I, J, Pf) (am_af sc d 150 81 [l0, l1, l2, some (.ref x3), some (.ref x4)] [.ref x3, .ref x4] [] (am_SH, I, J, Pf) k n false P)) (q2 : (¬ (s0 = 0)) → P (.inl (some (.int 2)), (am_SH, I, J, Pf), k, n)) : am_go sc d 150 (73, [l0, l1, l2, some (.ref x3), some (.ref x4)], [.int s0], (am_SH, I, J, Pf), k, n) P := by
  refine am_s_if_eq dc150_4.2.2.2 rfl (fun c1 => ?_) (fun c1 => ?_)
  · refine am_s_aload rfl dc150_5.1.2.1 ?_
    refine am_s_aload_n rfl dc150_5.1.2.2 ?_
    exact am_s_virtual false dc150_5.2.1.1 rfl (by decide) rfl hx4 rfl (q1 c1)
  · refine am_s_iconst am_cc2 dc150_5.1.1.1 ?_
    exact am_s_ireturn dc150_5.1.1.2 rfl (q2 c1)
theorem t150_84 {sc : Option (Nat × (Nat → Int32))} {d k n : Nat} {P : am_O → Prop} {I : am_I} {J : am_J} {Pf : am_R} (hp : am_PF Pf) {l0 : Option Value} {l1 : Option Value} {l2 : Option Value} {l3 : Option Value} {l4 : Option Value} {s0 : Int32} (q1 : (s0 = 0) → P (.inl (some (.int 4)), (am_SH, I, J, Pf), k, n)) (q2 : (¬ (s0 = 0)) → P (.inl (some (.int 3)), (am_SH, I, J, Pf), k, n)) : am_go sc d 150 (84, [l0, l1, l2, l3, l4], [.int s0], (am_SH, I, J, Pf), k, n) P := by
  refine am_s_if_eq dc150_5.2.1.2 rfl (fun c1 => ?_) (fun c1 => ?_)
  · refine am_s_iconst am_cc4 dc150_6.1 ?_
    exact am_s_ireturn dc150_6.2 rfl (q1 c1)
  · refine am_s_iconst am_cc3 dc150_5.2.2.1 ?_
    refine am_s_goto rfl dc150_5.2.2.2 ?_
    exact am_s_ireturn dc150_6.2 rfl (q2 c1)
-- production (II)I
theorem dc151_0 : (((decode (am_by 151) 0 = .ok (.aload_n 0, 1)) ∧ (decode (am_by 151) 1 = .ok (.iload_n 1, 1))) ∧ ((decode (am_by 151) 2 = .ok (.aload_n 0, 1)) ∧ (decode (am_by 151) 3 = .ok (.getfield 26, 3)))) ∧ (((decode (am_by 151) 6 = .ok (.getfield 134, 3)) ∧ (decode (am_by 151) 9 = .ok (.invokevirtual 203, 3))) ∧ ((decode (am_by 151) 12 = .ok (.aload_n 0, 1)) ∧ (decode (am_by 151) 13 = .ok (.iload_n 2, 1)))) := by decide +kernel
theorem dc151_1 : (((decode (am_by 151) 14 = .ok (.iconst 0, 1)) ∧ (decode (am_by 151) 15 = .ok (.iconst 2, 1))) ∧ ((decode (am_by 151) 16 = .ok (.invokevirtual 102, 3)) ∧ (decode (am_by 151) 19 = .ok (.iload_n 2, 1)))) ∧ (((decode (am_by 151) 20 = .ok (.lookupswitch 56 #[(0, 28), (1, 38)], 28)) ∧ (decode (am_by 151) 48 = .ok (.aload_n 0, 1))) ∧ ((decode (am_by 151) 49 = .ok (.getfield 26, 3)) ∧ (decode (am_by 151) 52 = .ok (.getfield 239, 3)))) := by decide +kernel
theorem dc151_2 : (((decode (am_by 151) 55 = .ok (.iload_n 1, 1)) ∧ (decode (am_by 151) 56 = .ok (.iaload, 1))) ∧ ((decode (am_by 151) 57 = .ok (.ireturn, 1)) ∧ (decode (am_by 151) 58 = .ok (.aload_n 0, 1)))) ∧ (((decode (am_by 151) 59 = .ok (.getfield 26, 3)) ∧ (decode (am_by 151) 62 = .ok (.getfield 243, 3))) ∧ ((decode (am_by 151) 65 = .ok (.iload_n 1, 1)) ∧ (decode (am_by 151) 66 = .ok (.baload, 1)))) := by decide +kernel
theorem dc151_3 : (((decode (am_by 151) 67 = .ok (.ifCond .eq 7, 3)) ∧ (decode (am_by 151) 70 = .ok (.iconst 1, 1))) ∧ ((decode (am_by 151) 71 = .ok (.goto 4, 3)) ∧ (decode (am_by 151) 74 = .ok (.iconst 0, 1)))) ∧ (((decode (am_by 151) 75 = .ok (.ireturn, 1)) ∧ (decode (am_by 151) 76 = .ok (.aload_n 0, 1))) ∧ ((decode (am_by 151) 77 = .ok (.getfield 26, 3)) ∧ (decode (am_by 151) 80 = .ok (.getfield 247, 3)))) := by decide +kernel
theorem dc151_4 : (decode (am_by 151) 83 = .ok (.iload_n 1, 1)) ∧ ((decode (am_by 151) 84 = .ok (.iaload, 1)) ∧ (decode (am_by 151) 85 = .ok (.ireturn, 1))) := by decide +kernel
theorem t151_0 {sc : Option (Nat × (Nat → Int32))} {d k n : Nat} {P : am_O → Prop} {I : am_I} {J : am_J} {Pf : am_R} (hp : am_PF Pf) {x1 : Int32} {x2 : Int32} {r0_2 : Nat} (q1 : Pf 0 2 = some r0_2) (q2 : am_SH[r0_2]? = some (.inl 4)) (q3 : am_mth d 175 [.ref 0, .int x1, .int (I r0_2 2)] (am_SH, I, J, Pf) (am_af sc d 151 9 [some (.ref 0), some (.int x1), some (.int x2)] [.int (I r0_2 2), .int x1, .ref 0] [] (am_SH, I, J, Pf) k n true P)) : am_go sc d 151 (0, [some (.ref 0), some (.int x1), some (.int x2)], [], (am_SH, I, J, Pf), k, n) P := by
  refine am_s_aload_n rfl dc151_0.1.1.1 ?_
  refine am_s_iload_n rfl dc151_0.1.1.2 ?_
  refine am_s_aload_n rfl dc151_0.1.2.1 ?_
  refine am_s_getR (r := r0_2) dc151_0.1.2.2 rfl rfl rfl (q1) ?_
  refine am_x_getI (x := I r0_2 2) dc151_0.2.1.1 rfl (q2) (Or.inl rfl) rfl ?_
  exact am_s_virtual true dc151_0.2.1.2 rfl (by decide) rfl rfl rfl (q3)
theorem t151_12 {sc : Option (Nat × (Nat → Int32))} {d k n : Nat} {P : am_O → Prop} {I : am_I} {J : am_J} {Pf : am_R} (hp : am_PF Pf) {x1 : Int32} {x2 : Int32} (q1 : am_mth d 176 [.ref 0, .int x2, .int 0, .int 2] (am_SH, I, J, Pf) (am_af sc d 151 16 [some (.ref 0), some (.int x1), some (.int x2)] [.int 2, .int 0, .int x2, .ref 0] [] (am_SH, I, J, Pf) k n true P)) : am_go sc d 151 (12, [some (.ref 0), some (.int x1), some (.int x2)], [], (am_SH, I, J, Pf), k, n) P := by
  refine am_s_aload_n rfl dc151_0.2.2.1 ?_
  refine am_s_iload_n rfl dc151_0.2.2.2 ?_
  refine am_s_iconst am_cc0 dc151_1.1.1.1 ?_
  refine am_s_iconst am_cc2 dc151_1.1.1.2 ?_
  exact am_s_virtual true dc151_1.1.2.1 rfl (by decide) rfl rfl rfl (q1)
theorem t151_19 {sc : Option (Nat × (Nat → Int32))} {d k n : Nat} {P : am_O → Prop} {I : am_I} {J : am_J} {Pf : am_R} (hp : am_PF Pf) {x1 : Int32} {x2 : Int32} (q1 : am_go sc d 151 (20, [some (.ref 0), some (.int x1), some (.int x2)], [.int x2], (am_SH, I, J, Pf), k, n) P) : am_go sc d 151 (19, [some (.ref 0), some (.int x1), some (.int x2)], [], (am_SH, I, J, Pf), k, n) P := by
  refine am_s_iload_n rfl dc151_1.1.2.2 ?_
  exact q1
-- sort (II)I
theorem dc152_0 : (((decode (am_by 152) 0 = .ok (.aload_n 0, 1)) ∧ (decode (am_by 152) 1 = .ok (.iload_n 1, 1))) ∧ ((decode (am_by 152) 2 = .ok (.invokevirtual 250, 3)) ∧ (decode (am_by 152) 5 = .ok (.aload_n 0, 1)))) ∧ (((decode (am_by 152) 6 = .ok (.iload_n 2, 1)) ∧ (decode (am_by 152) 7 = .ok (.iconst 0, 1))) ∧ ((decode (am_by 152) 8 = .ok (.iconst 5, 1)) ∧ (decode (am_by 152) 9 = .ok (.invokevirtual 102, 3)))) := by decide +kernel
theorem dc152_1 : (((decode (am_by 152) 12 = .ok (.aload_n 0, 1)) ∧ (decode (am_by 152) 13 = .ok (.getfield 26, 3))) ∧ ((decode (am_by 152) 16 = .ok (.getfield 184, 3)) ∧ (decode (am_by 152) 19 = .ok (.astore_n 3, 1)))) ∧ (((decode (am_by 152) 20 = .ok (.iload_n 2, 1)) ∧ (decode (am_by 152) 21 = .ok (.tableswitch 78 0 4 #[35, 42, 51, 61, 71], 35))) ∧ ((decode (am_by 152) 56 = .ok (.aload_n 3, 1)) ∧ (decode (am_by 152) 57 = .ok (.getfield 253, 3)))) := by decide +kernel
theorem dc152_2 : (((decode (am_by 152) 60 = .ok (.iload_n 1, 1)) ∧ (decode (am_by 152) 61 = .ok (.iaload, 1))) ∧ ((decode (am_by 152) 62 = .ok (.ireturn, 1)) ∧ (decode (am_by 152) 63 = .ok (.aload_n 3, 1)))) ∧ (((decode (am_by 152) 64 = .ok (.getfield 256, 3)) ∧ (decode (am_by 152) 67 = .ok (.iload_n 1, 1))) ∧ ((decode (am_by 152) 68 = .ok (.iushr, 1)) ∧ (decode (am_by 152) 69 = .ok (.iconst 1, 1)))) := by decide +kernel
theorem dc152_3 : (((decode (am_by 152) 70 = .ok (.iand, 1)) ∧ (decode (am_by 152) 71 = .ok (.ireturn, 1))) ∧ ((decode (am_by 152) 72 = .ok (.aload_n 3, 1)) ∧ (decode (am_by 152) 73 = .ok (.getfield 259, 3)))) ∧ (((decode (am_by 152) 76 = .ok (.iload_n 1, 1)) ∧ (decode (am_by 152) 77 = .ok (.aaload, 1))) ∧ ((decode (am_by 152) 78 = .ok (.invokevirtual 211, 3)) ∧ (decode (am_by 152) 81 = .ok (.ireturn, 1)))) := by decide +kernel
theorem dc152_4 : (((decode (am_by 152) 82 = .ok (.aload_n 3, 1)) ∧ (decode (am_by 152) 83 = .ok (.getfield 259, 3))) ∧ ((decode (am_by 152) 86 = .ok (.iload_n 1, 1)) ∧ (decode (am_by 152) 87 = .ok (.aaload, 1)))) ∧ (((decode (am_by 152) 88 = .ok (.invokevirtual 216, 3)) ∧ (decode (am_by 152) 91 = .ok (.ireturn, 1))) ∧ ((decode (am_by 152) 92 = .ok (.aload_n 3, 1)) ∧ (decode (am_by 152) 93 = .ok (.getfield 262, 3)))) := by decide +kernel
theorem dc152_5 : (((decode (am_by 152) 96 = .ok (.iload_n 1, 1)) ∧ (decode (am_by 152) 97 = .ok (.iaload, 1))) ∧ ((decode (am_by 152) 98 = .ok (.ireturn, 1)) ∧ (decode (am_by 152) 99 = .ok (.aload_n 3, 1)))) ∧ (((decode (am_by 152) 100 = .ok (.getfield 265, 3)) ∧ (decode (am_by 152) 103 = .ok (.iload_n 1, 1))) ∧ ((decode (am_by 152) 104 = .ok (.iaload, 1)) ∧ (decode (am_by 152) 105 = .ok (.ireturn, 1)))) := by decide +kernel
theorem t152_0 {sc : Option (Nat × (Nat → Int32))} {d k n : Nat} {P : am_O → Prop} {I : am_I} {J : am_J} {Pf : am_R} (hp : am_PF Pf) {x1 : Int32} {x2 : Int32} {l3 : Option Value} (q1 : am_mth d 177 [.ref 0, .int x1] (am_SH, I, J, Pf) (am_af sc d 152 2 [some (.ref 0), some (.int x1), some (.int x2), l3] [.int x1, .ref 0] [] (am_SH, I, J, Pf) k n true P)) : am_go sc d 152 (0, [some (.ref 0), some (.int x1), some (.int x2), l3], [], (am_SH, I, J, Pf), k, n) P := by
  refine am_s_aload_n rfl dc152_0.1.1.1 ?_
  refine am_s_iload_n rfl dc152_0.1.1.2 ?_
  exact am_s_virtual true dc152_0.1.2.1 rfl (by decide) rfl rfl rfl (q1)
theorem t152_5 {sc : Option (Nat × (Nat → Int32))} {d k n : Nat} {P : am_O → Prop} {I : am_I} {J : am_J} {Pf : am_R} (hp : am_PF Pf) {x1 : Int32} {x2 : Int32} {l3 : Option Value} (q1 : am_mth d 176 [.ref 0, .int x2, .int 0, .int 5] (am_SH, I, J, Pf) (am_af sc d 152 9 [some (.ref 0), some (.int x1), some (.int x2), l3] [.int 5, .int 0, .int x2, .ref 0] [] (am_SH, I, J, Pf) k n true P)) : am_go sc d 152 (5, [some (.ref 0), some (.int x1), some (.int x2), l3], [], (am_SH, I, J, Pf), k, n) P := by
  refine am_s_aload_n rfl dc152_0.1.2.2 ?_
  refine am_s_iload_n rfl dc152_0.2.1.1 ?_
  refine am_s_iconst am_cc0 dc152_0.2.1.2 ?_
  refine am_s_iconst am_cc5 dc152_0.2.2.1 ?_
  exact am_s_virtual true dc152_0.2.2.2 rfl (by decide) rfl rfl rfl (q1)
theorem t152_12 {sc : Option (Nat × (Nat → Int32))} {d k n : Nat} {P : am_O → Prop} {I : am_I} {J : am_J} {Pf : am_R} (hp : am_PF Pf) {x1 : Int32} {x2 : Int32} {l3 : Option Value} {r0_2 : Nat} (q1 : Pf 0 2 = some r0_2) (q2 : am_SH[r0_2]? = some (.inl 4)) (q3 : am_go sc d 152 (21, [some (.ref 0), some (.int x1), some (.int x2), some (.ref (r0_2 + 15))], [.int x2], (am_SH, I, J, Pf), k, n) P) : am_go sc d 152 (12, [some (.ref 0), some (.int x1), some (.int x2), l3], [], (am_SH, I, J, Pf), k, n) P := by
  refine am_s_aload_n rfl dc152_1.1.1.1 ?_
  refine am_s_getR (r := r0_2) dc152_1.1.1.2 rfl rfl rfl (q1) ?_
  refine am_s_getR (r := r0_2 + 15) dc152_1.1.2.1 rfl (q2) rfl (am_r4_20 hp (q2)) ?_
  refine am_s_astore_n (ls' := [some (.ref 0), some (.int x1), some (.int x2), some (.ref (r0_2 + 15))]) rfl rfl dc152_1.1.2.2 ?_
  refine am_s_iload_n rfl dc152_1.2.1.1 ?_
  exact q3
-- begins (II)Z
theorem dc153_0 : (((decode (am_by 153) 0 = .ok (.aload_n 0, 1)) ∧ (decode (am_by 153) 1 = .ok (.iload_n 1, 1))) ∧ ((decode (am_by 153) 2 = .ok (.invokevirtual 250, 3)) ∧ (decode (am_by 153) 5 = .ok (.aload_n 0, 1)))) ∧ (((decode (am_by 153) 6 = .ok (.iload_n 2, 1)) ∧ (decode (am_by 153) 7 = .ok (.bipush 32, 2))) ∧ ((decode (am_by 153) 9 = .ok (.bipush 126, 2)) ∧ (decode (am_by 153) 11 = .ok (.invokevirtual 102, 3)))) := by decide +kernel
theorem dc153_1 : (((decode (am_by 153) 14 = .ok (.aload_n 0, 1)) ∧ (decode (am_by 153) 15 = .ok (.getfield 26, 3))) ∧ ((decode (am_by 153) 18 = .ok (.getfield 184, 3)) ∧ (decode (am_by 153) 21 = .ok (.getfield 259, 3)))) ∧ (((decode (am_by 153) 24 = .ok (.iload_n 1, 1)) ∧ (decode (am_by 153) 25 = .ok (.aaload, 1))) ∧ ((decode (am_by 153) 26 = .ok (.iload_n 2, 1)) ∧ (decode (am_by 153) 27 = .ok (.invokevirtual 225, 3)))) := by decide +kernel
theorem dc153_2 : decode (am_by 153) 30 = .ok (.ireturn, 1) := by decide +kernel
theorem t153_0 {sc : Option (Nat × (Nat → Int32))} {d k n : Nat} {P : am_O → Prop} {I : am_I} {J : am_J} {Pf : am_R} (hp : am_PF Pf) {x1 : Int32} {x2 : Int32} (q1 : am_mth d 177 [.ref 0, .int x1] (am_SH, I, J, Pf) (am_af sc d 153 2 [some (.ref 0), some (.int x1), some (.int x2)] [.int x1, .ref 0] [] (am_SH, I, J, Pf) k n true P)) : am_go sc d 153 (0, [some (.ref 0), some (.int x1), some (.int x2)], [], (am_SH, I, J, Pf), k, n) P := by
  refine am_s_aload_n rfl dc153_0.1.1.1 ?_
  refine am_s_iload_n rfl dc153_0.1.1.2 ?_
  exact am_s_virtual true dc153_0.1.2.1 rfl (by decide) rfl rfl rfl (q1)
theorem t153_5 {sc : Option (Nat × (Nat → Int32))} {d k n : Nat} {P : am_O → Prop} {I : am_I} {J : am_J} {Pf : am_R} (hp : am_PF Pf) {x1 : Int32} {x2 : Int32} (q1 : am_mth d 176 [.ref 0, .int x2, .int 32, .int 126] (am_SH, I, J, Pf) (am_af sc d 153 11 [some (.ref 0), some (.int x1), some (.int x2)] [.int 126, .int 32, .int x2, .ref 0] [] (am_SH, I, J, Pf) k n true P)) : am_go sc d 153 (5, [some (.ref 0), some (.int x1), some (.int x2)], [], (am_SH, I, J, Pf), k, n) P := by
  refine am_s_aload_n rfl dc153_0.1.2.2 ?_
  refine am_s_iload_n rfl dc153_0.2.1.1 ?_
  refine am_s_bipush am_cb32 dc153_0.2.1.2 ?_
  refine am_s_bipush am_cb126 dc153_0.2.2.1 ?_
  exact am_s_virtual true dc153_0.2.2.2 rfl (by decide) rfl rfl rfl (q1)
theorem t153_14 {sc : Option (Nat × (Nat → Int32))} {d k n : Nat} {P : am_O → Prop} {I : am_I} {J : am_J} {Pf : am_R} (hp : am_PF Pf) {x1 : Int32} {x2 : Int32} {r0_2 : Nat} {r25 : Nat} (q1 : Pf 0 2 = some r0_2) (q2 : am_SH[r0_2]? = some (.inl 4)) (q3 : am_in x1 8 = true) (q4 : Pf (r0_2 + 15 + 5) (Int32.toNatClampNeg x1) = some r25) (q5 : am_SH[r25]? = some (.inl 6)) (q6 : am_mth d 78 [.ref r25, .int x2] (am_SH, I, J, Pf) (am_af sc d 153 27 [some (.ref 0), some (.int x1), some (.int x2)] [.int x2, .ref r25] [] (am_SH, I, J, Pf) k n false P)) : am_go sc d 153 (14, [some (.ref 0), some (.int x1), some (.int x2)], [], (am_SH, I, J, Pf), k, n) P := by
  refine am_s_aload_n rfl dc153_1.1.1.1 ?_
  refine am_s_getR (r := r0_2) dc153_1.1.1.2 rfl rfl rfl (q1) ?_
  refine am_s_getR (r := r0_2 + 15) dc153_1.1.2.1 rfl (q2) rfl (am_r4_20 hp (q2)) ?_
  refine am_s_getR (r := r0_2 + 15 + 5) dc153_1.1.2.2 rfl (am_h4_20 (q2)) rfl (am_r7_6 hp (am_h4_20 (q2))) ?_
  refine am_s_iload_n rfl dc153_1.2.1.1 ?_
  refine am_s_aaload (r := r25) dc153_1.2.1.2 (am_h7_6 (am_h4_20 (q2))) rfl (q3) (q4) ?_
  refine am_s_iload_n rfl dc153_1.2.2.1 ?_
  exact am_s_virtual false dc153_1.2.2.2 rfl (by decide) rfl (q5) rfl (q6)
theorem t153_30 {sc : Option (Nat × (Nat → Int32))} {d k n : Nat} {P : am_O → Prop} {I : am_I} {J : am_J} {Pf : am_R} (hp : am_PF Pf) {l0 : Option Value} {l1 : Option Value} {l2 : Option Value} {s0 : Int32} (q1 : P (.inl (some (.int s0)), (am_SH, I, J, Pf), k, n)) (q2 : s0 = 0 ∨ s0 = 1) : am_go sc d 153 (30, [l0, l1, l2], [.int s0], (am_SH, I, J, Pf), k, n) P := by
  exact am_s_zreturn dc153_2 rfl (q2) (q1)
-- sign (I)I
theorem dc154_0 : (((decode (am_by 154) 0 = .ok (.aload_n 0, 1)) ∧ (decode (am_by 154) 1 = .ok (.iload_n 1, 1))) ∧ ((decode (am_by 154) 2 = .ok (.aload_n 0, 1)) ∧ (decode (am_by 154) 3 = .ok (.getfield 71, 3)))) ∧ (((decode (am_by 154) 6 = .ok (.getfield 128, 3)) ∧ (decode (am_by 154) 9 = .ok (.invokevirtual 203, 3))) ∧ ((decode (am_by 154) 12 = .ok (.aload_n 0, 1)) ∧ (decode (am_by 154) 13 = .ok (.getfield 71, 3)))) := by decide +kernel
theorem dc154_1 : ((decode (am_by 154) 16 = .ok (.getfield 268, 3)) ∧ (decode (am_by 154) 19 = .ok (.iload_n 1, 1))) ∧ ((decode (am_by 154) 20 = .ok (.iaload, 1)) ∧ (decode (am_by 154) 21 = .ok (.ireturn, 1))) := by decide +kernel
theorem t154_0 {sc : Option (Nat × (Nat → Int32))} {d k n : Nat} {P : am_O → Prop} {I : am_I} {J : am_J} {Pf : am_R} (hp : am_PF Pf) {x1 : Int32} (q1 : am_mth d 175 [.ref 0, .int x1, .int (I 135 1)] (am_SH, I, J, Pf) (am_af sc d 154 9 [some (.ref 0), some (.int x1)] [.int (I 135 1), .int x1, .ref 0] [] (am_SH, I, J, Pf) k n true P)) : am_go sc d 154 (0, [some (.ref 0), some (.int x1)], [], (am_SH, I, J, Pf), k, n) P := by
  refine am_s_aload_n rfl dc154_0.1.1.1 ?_
  refine am_s_iload_n rfl dc154_0.1.1.2 ?_
  refine am_s_aload_n rfl dc154_0.1.2.1 ?_
  refine am_s_getR (r := 135) dc154_0.1.2.2 rfl rfl rfl (hp _ _ _ rfl) ?_
  refine am_x_getI (x := I 135 1) dc154_0.2.1.1 rfl rfl (Or.inl rfl) rfl ?_
  exact am_s_virtual true dc154_0.2.1.2 rfl (by decide) rfl rfl rfl (q1)
theorem t154_12 {sc : Option (Nat × (Nat → Int32))} {d k n : Nat} {P : am_O → Prop} {I : am_I} {J : am_J} {Pf : am_R} (hp : am_PF Pf) {x1 : Int32} (q1 : am_in x1 24 = true) (q2 : P (.inl (some (.int (I 136 (Int32.toNatClampNeg x1)))), (am_SH, I, J, Pf), k, n)) : am_go sc d 154 (12, [some (.ref 0), some (.int x1)], [], (am_SH, I, J, Pf), k, n) P := by
  refine am_s_aload_n rfl dc154_0.2.2.1 ?_
  refine am_s_getR (r := 135) dc154_0.2.2.2 rfl rfl rfl (hp _ _ _ rfl) ?_
  refine am_s_getR (r := 136) dc154_1.1.1 rfl rfl rfl (hp _ _ _ rfl) ?_
  refine am_s_iload_n rfl dc154_1.1.2 ?_
  refine am_x_iaload (x := I 136 (Int32.toNatClampNeg x1)) dc154_1.2.1 rfl (q1) rfl rfl ?_
  exact am_s_ireturn dc154_1.2.2 rfl (q2)
-- run (I)I
theorem dc155_0 : (((decode (am_by 155) 0 = .ok (.aload_n 0, 1)) ∧ (decode (am_by 155) 1 = .ok (.iload_n 1, 1))) ∧ ((decode (am_by 155) 2 = .ok (.aload_n 0, 1)) ∧ (decode (am_by 155) 3 = .ok (.getfield 71, 3)))) ∧ (((decode (am_by 155) 6 = .ok (.getfield 128, 3)) ∧ (decode (am_by 155) 9 = .ok (.iconst 1, 1))) ∧ ((decode (am_by 155) 10 = .ok (.iadd, 1)) ∧ (decode (am_by 155) 11 = .ok (.invokevirtual 203, 3)))) := by decide +kernel
theorem dc155_1 : (((decode (am_by 155) 14 = .ok (.aload_n 0, 1)) ∧ (decode (am_by 155) 15 = .ok (.invokevirtual 193, 3))) ∧ ((decode (am_by 155) 18 = .ok (.aload_n 0, 1)) ∧ (decode (am_by 155) 19 = .ok (.getfield 71, 3)))) ∧ (((decode (am_by 155) 22 = .ok (.getfield 271, 3)) ∧ (decode (am_by 155) 25 = .ok (.iload_n 1, 1))) ∧ ((decode (am_by 155) 26 = .ok (.iaload, 1)) ∧ (decode (am_by 155) 27 = .ok (.ireturn, 1)))) := by decide +kernel
theorem t155_0 {sc : Option (Nat × (Nat → Int32))} {d k n : Nat} {P : am_O → Prop} {I : am_I} {J : am_J} {Pf : am_R} (hp : am_PF Pf) {x1 : Int32} (q1 : am_mth d 175 [.ref 0, .int x1, .int ((I 135 1) + 1)] (am_SH, I, J, Pf) (am_af sc d 155 11 [some (.ref 0), some (.int x1)] [.int ((I 135 1) + 1), .int x1, .ref 0] [] (am_SH, I, J, Pf) k n true P)) : am_go sc d 155 (0, [some (.ref 0), some (.int x1)], [], (am_SH, I, J, Pf), k, n) P := by
  refine am_s_aload_n rfl dc155_0.1.1.1 ?_
  refine am_s_iload_n rfl dc155_0.1.1.2 ?_
  refine am_s_aload_n rfl dc155_0.1.2.1 ?_
  refine am_s_getR (r := 135) dc155_0.1.2.2 rfl rfl rfl (hp _ _ _ rfl) ?_
  refine am_x_getI (x := I 135 1) dc155_0.2.1.1 rfl rfl (Or.inl rfl) rfl ?_
  refine am_s_iconst am_cc1 dc155_0.2.1.2 ?_
  refine am_s_iadd dc155_0.2.2.1 ?_
  exact am_s_virtual true dc155_0.2.2.2 rfl (by decide) rfl rfl rfl (q1)
theorem t155_14 {sc : Option (Nat × (Nat → Int32))} {d k n : Nat} {P : am_O → Prop} {I : am_I} {J : am_J} {Pf : am_R} (hp : am_PF Pf) {x1 : Int32} (q1 : am_mth d 180 [.ref 0] (am_SH, I, J, Pf) (am_af sc d 155 15 [some (.ref 0), some (.int x1)] [.ref 0] [] (am_SH, I, J, Pf) k n true P)) : am_go sc d 155 (14, [some (.ref 0), some (.int x1)], [], (am_SH, I, J, Pf), k, n) P := by
  refine am_s_aload_n rfl dc155_1.1.1.1 ?_
  exact am_s_virtual true dc155_1.1.1.2 rfl (by decide) rfl rfl rfl (q1)
theorem t155_18 {sc : Option (Nat × (Nat → Int32))} {d k n : Nat} {P : am_O → Prop} {I : am_I} {J : am_J} {Pf : am_R} (hp : am_PF Pf) {x1 : Int32} (q1 : am_in x1 25 = true) (q2 : P (.inl (some (.int (I 137 (Int32.toNatClampNeg x1)))), (am_SH, I, J, Pf), k, n)) : am_go sc d 155 (18, [some (.ref 0), some (.int x1)], [], (am_SH, I, J, Pf), k, n) P := by
  refine am_s_aload_n rfl dc155_1.1.2.1 ?_
  refine am_s_getR (r := 135) dc155_1.1.2.2 rfl rfl rfl (hp _ _ _ rfl) ?_
  refine am_s_getR (r := 137) dc155_1.2.1.1 rfl rfl rfl (hp _ _ _ rfl) ?_
  refine am_s_iload_n rfl dc155_1.2.1.2 ?_
  refine am_x_iaload (x := I 137 (Int32.toNatClampNeg x1)) dc155_1.2.2.1 rfl (q1) rfl rfl ?_
  exact am_s_ireturn dc155_1.2.2.2 rfl (q2)
-- is (III)Z
theorem dc156_0 : (((decode (am_by 156) 0 = .ok (.aload_n 0, 1)) ∧ (decode (am_by 156) 1 = .ok (.iload_n 1, 1))) ∧ ((decode (am_by 156) 2 = .ok (.iload_n 2, 1)) ∧ (decode (am_by 156) 3 = .ok (.iload_n 3, 1)))) ∧ (((decode (am_by 156) 4 = .ok (.invokevirtual 274, 3)) ∧ (decode (am_by 156) 7 = .ok (.aload_n 0, 1))) ∧ ((decode (am_by 156) 8 = .ok (.invokevirtual 193, 3)) ∧ (decode (am_by 156) 11 = .ok (.aload_n 0, 1)))) := by decide +kernel
theorem dc156_1 : ((decode (am_by 156) 12 = .ok (.getfield 71, 3)) ∧ ((decode (am_by 156) 15 = .ok (.iload_n 1, 1)) ∧ (decode (am_by 156) 16 = .ok (.iload_n 2, 1)))) ∧ ((decode (am_by 156) 17 = .ok (.iload_n 3, 1)) ∧ ((decode (am_by 156) 18 = .ok (.invokevirtual 277, 3)) ∧ (decode (am_by 156) 21 = .ok (.ireturn, 1)))) := by decide +kernel
theorem t156_0 {sc : Option (Nat × (Nat → Int32))} {d k n : Nat} {P : am_O → Prop} {I : am_I} {J : am_J} {Pf : am_R} (hp : am_PF Pf) {x1 : Int32} {x2 : Int32} {x3 : Int32} (q1 : am_mth d 178 [.ref 0, .int x1, .int x2, .int x3] (am_SH, I, J, Pf) (am_af sc d 156 4 [some (.ref 0), some (.int x1), some (.int x2), some (.int x3)] [.int x3, .int x2, .int x1, .ref 0] [] (am_SH, I, J, Pf) k n true P)) : am_go sc d 156 (0, [some (.ref 0), some (.int x1), some (.int x2), some (.int x3)], [], (am_SH, I, J, Pf), k, n) P := by
  refine am_s_aload_n rfl dc156_0.1.1.1 ?_
  refine am_s_iload_n rfl dc156_0.1.1.2 ?_
  refine am_s_iload_n rfl dc156_0.1.2.1 ?_
  refine am_s_iload_n rfl dc156_0.1.2.2 ?_
  exact am_s_virtual true dc156_0.2.1.1 rfl (by decide) rfl rfl rfl (q1)
theorem t156_7 {sc : Option (Nat × (Nat → Int32))} {d k n : Nat} {P : am_O → Prop} {I : am_I} {J : am_J} {Pf : am_R} (hp : am_PF Pf) {x1 : Int32} {x2 : Int32} {x3 : Int32} (q1 : am_mth d 180 [.ref 0] (am_SH, I, J, Pf) (am_af sc d 156 8 [some (.ref 0), some (.int x1), some (.int x2), some (.int x3)] [.ref 0] [] (am_SH, I, J, Pf) k n true P)) : am_go sc d 156 (7, [some (.ref 0), some (.int x1), some (.int x2), some (.int x3)], [], (am_SH, I, J, Pf), k, n) P := by
  refine am_s_aload_n rfl dc156_0.2.1.2 ?_
  exact am_s_virtual true dc156_0.2.2.1 rfl (by decide) rfl rfl rfl (q1)
theorem t156_11 {sc : Option (Nat × (Nat → Int32))} {d k n : Nat} {P : am_O → Prop} {I : am_I} {J : am_J} {Pf : am_R} (hp : am_PF Pf) {x1 : Int32} {x2 : Int32} {x3 : Int32} (q1 : am_mth d 118 [.ref 135, .int x1, .int x2, .int x3] (am_SH, I, J, Pf) (am_af sc d 156 18 [some (.ref 0), some (.int x1), some (.int x2), some (.int x3)] [.int x3, .int x2, .int x1, .ref 135] [] (am_SH, I, J, Pf) k n false P)) : am_go sc d 156 (11, [some (.ref 0), some (.int x1), some (.int x2), some (.int x3)], [], (am_SH, I, J, Pf), k, n) P := by
  refine am_s_aload_n rfl dc156_0.2.2.2 ?_
  refine am_s_getR (r := 135) dc156_1.1.1 rfl rfl rfl (hp _ _ _ rfl) ?_
  refine am_s_iload_n rfl dc156_1.1.2.1 ?_
  refine am_s_iload_n rfl dc156_1.1.2.2 ?_
  refine am_s_iload_n rfl dc156_1.2.1 ?_
  exact am_s_virtual false dc156_1.2.2.1 rfl (by decide) rfl rfl rfl (q1)
theorem t156_21 {sc : Option (Nat × (Nat → Int32))} {d k n : Nat} {P : am_O → Prop} {I : am_I} {J : am_J} {Pf : am_R} (hp : am_PF Pf) {l0 : Option Value} {l1 : Option Value} {l2 : Option Value} {l3 : Option Value} {s0 : Int32} (q1 : P (.inl (some (.int s0)), (am_SH, I, J, Pf), k, n)) (q2 : s0 = 0 ∨ s0 = 1) : am_go sc d 156 (21, [l0, l1, l2, l3], [.int s0], (am_SH, I, J, Pf), k, n) P := by
  exact am_s_zreturn dc156_1.2.2.2 rfl (q2) (q1)
-- ends (II)I
theorem dc157_0 : (((decode (am_by 157) 0 = .ok (.aload_n 0, 1)) ∧ (decode (am_by 157) 1 = .ok (.iload_n 1, 1))) ∧ ((decode (am_by 157) 2 = .ok (.invokevirtual 250, 3)) ∧ (decode (am_by 157) 5 = .ok (.aload_n 0, 1)))) ∧ (((decode (am_by 157) 6 = .ok (.iload_n 2, 1)) ∧ (decode (am_by 157) 7 = .ok (.iconst 0, 1))) ∧ ((decode (am_by 157) 8 = .ok (.aload_n 0, 1)) ∧ (decode (am_by 157) 9 = .ok (.getfield 71, 3)))) := by decide +kernel
theorem dc157_1 : (((decode (am_by 157) 12 = .ok (.getfield 128, 3)) ∧ (decode (am_by 157) 15 = .ok (.invokevirtual 102, 3))) ∧ ((decode (am_by 157) 18 = .ok (.aload_n 0, 1)) ∧ (decode (am_by 157) 19 = .ok (.invokevirtual 193, 3)))) ∧ (((decode (am_by 157) 22 = .ok (.aload_n 0, 1)) ∧ (decode (am_by 157) 23 = .ok (.getfield 71, 3))) ∧ ((decode (am_by 157) 26 = .ok (.getfield 281, 3)) ∧ (decode (am_by 157) 29 = .ok (.iload_n 1, 1)))) := by decide +kernel
theorem dc157_2 : ((decode (am_by 157) 30 = .ok (.bipush 25, 2)) ∧ ((decode (am_by 157) 32 = .ok (.imul, 1)) ∧ (decode (am_by 157) 33 = .ok (.iload_n 2, 1)))) ∧ ((decode (am_by 157) 34 = .ok (.iadd, 1)) ∧ ((decode (am_by 157) 35 = .ok (.iaload, 1)) ∧ (decode (am_by 157) 36 = .ok (.ireturn, 1)))) := by decide +kernel
theorem t157_0 {sc : Option (Nat × (Nat → Int32))} {d k n : Nat} {P : am_O → Prop} {I : am_I} {J : am_J} {Pf : am_R} (hp : am_PF Pf) {x1 : Int32} {x2 : Int32} (q1 : am_mth d 177 [.ref 0, .int x1] (am_SH, I, J, Pf) (am_af sc d 157 2 [some (.ref 0), some (.int x1), some (.int x2)] [.int x1, .ref 0] [] (am_SH, I, J, Pf) k n true P)) : am_go sc d 157 (0, [some (.ref 0), some (.int x1), some (.int x2)], [], (am_SH, I, J, Pf), k, n) P := by
  refine am_s_aload_n rfl dc157_0.1.1.1 ?_
  refine am_s_iload_n rfl dc157_0.1.1.2 ?_
  exact am_s_virtual true dc157_0.1.2.1 rfl (by decide) rfl rfl rfl (q1)
theorem t157_5 {sc : Option (Nat × (Nat → Int32))} {d k n : Nat} {P : am_O → Prop} {I : am_I} {J : am_J} {Pf : am_R} (hp : am_PF Pf) {x1 : Int32} {x2 : Int32} (q1 : am_mth d 176 [.ref 0, .int x2, .int 0, .int (I 135 1)] (am_SH, I, J, Pf) (am_af sc d 157 15 [some (.ref 0), some (.int x1), some (.int x2)] [.int (I 135 1), .int 0, .int x2, .ref 0] [] (am_SH, I, J, Pf) k n true P)) : am_go sc d 157 (5, [some (.ref 0), some (.int x1), some (.int x2)], [], (am_SH, I, J, Pf), k, n) P := by
  refine am_s_aload_n rfl dc157_0.1.2.2 ?_
  refine am_s_iload_n rfl dc157_0.2.1.1 ?_
  refine am_s_iconst am_cc0 dc157_0.2.1.2 ?_
  refine am_s_aload_n rfl dc157_0.2.2.1 ?_
  refine am_s_getR (r := 135) dc157_0.2.2.2 rfl rfl rfl (hp _ _ _ rfl) ?_
  refine am_x_getI (x := I 135 1) dc157_1.1.1.1 rfl rfl (Or.inl rfl) rfl ?_
  exact am_s_virtual true dc157_1.1.1.2 rfl (by decide) rfl rfl rfl (q1)
theorem t157_18 {sc : Option (Nat × (Nat → Int32))} {d k n : Nat} {P : am_O → Prop} {I : am_I} {J : am_J} {Pf : am_R} (hp : am_PF Pf) {x1 : Int32} {x2 : Int32} (q1 : am_mth d 180 [.ref 0] (am_SH, I, J, Pf) (am_af sc d 157 19 [some (.ref 0), some (.int x1), some (.int x2)] [.ref 0] [] (am_SH, I, J, Pf) k n true P)) : am_go sc d 157 (18, [some (.ref 0), some (.int x1), some (.int x2)], [], (am_SH, I, J, Pf), k, n) P := by
  refine am_s_aload_n rfl dc157_1.1.2.1 ?_
  exact am_s_virtual true dc157_1.1.2.2 rfl (by decide) rfl rfl rfl (q1)
theorem t157_22 {sc : Option (Nat × (Nat → Int32))} {d k n : Nat} {P : am_O → Prop} {I : am_I} {J : am_J} {Pf : am_R} (hp : am_PF Pf) {x1 : Int32} {x2 : Int32} (q1 : am_in ((x1 * 25) + x2) 200 = true) (q2 : P (.inl (some (.int (I 138 (Int32.toNatClampNeg ((x1 * 25) + x2))))), (am_SH, I, J, Pf), k, n)) : am_go sc d 157 (22, [some (.ref 0), some (.int x1), some (.int x2)], [], (am_SH, I, J, Pf), k, n) P := by
  refine am_s_aload_n rfl dc157_1.2.1.1 ?_
  refine am_s_getR (r := 135) dc157_1.2.1.2 rfl rfl rfl (hp _ _ _ rfl) ?_
  refine am_s_getR (r := 138) dc157_1.2.2.1 rfl rfl rfl (hp _ _ _ rfl) ?_
  refine am_s_iload_n rfl dc157_1.2.2.2 ?_
  refine am_s_bipush am_cb25 dc157_2.1.1 ?_
  refine am_s_imul dc157_2.1.2.1 ?_
  refine am_s_iload_n rfl dc157_2.1.2.2 ?_
  refine am_s_iadd dc157_2.2.1 ?_
  refine am_x_iaload (x := I 138 (Int32.toNatClampNeg ((x1 * 25) + x2))) dc157_2.2.2.1 rfl (q1) rfl rfl ?_
  exact am_s_ireturn dc157_2.2.2.2 rfl (q2)
-- ways (III)I
theorem dc158_0 : (((decode (am_by 158) 0 = .ok (.aload_n 0, 1)) ∧ (decode (am_by 158) 1 = .ok (.iload_n 1, 1))) ∧ ((decode (am_by 158) 2 = .ok (.iload_n 2, 1)) ∧ (decode (am_by 158) 3 = .ok (.iload_n 3, 1)))) ∧ (((decode (am_by 158) 4 = .ok (.invokevirtual 274, 3)) ∧ (decode (am_by 158) 7 = .ok (.aload_n 0, 1))) ∧ ((decode (am_by 158) 8 = .ok (.invokevirtual 193, 3)) ∧ (decode (am_by 158) 11 = .ok (.aload_n 0, 1)))) := by decide +kernel
theorem dc158_1 : ((decode (am_by 158) 12 = .ok (.getfield 83, 3)) ∧ ((decode (am_by 158) 15 = .ok (.iload_n 1, 1)) ∧ (decode (am_by 158) 16 = .ok (.iload_n 2, 1)))) ∧ ((decode (am_by 158) 17 = .ok (.iload_n 3, 1)) ∧ ((decode (am_by 158) 18 = .ok (.invokevirtual 284, 3)) ∧ (decode (am_by 158) 21 = .ok (.ireturn, 1)))) := by decide +kernel
theorem t158_0 {sc : Option (Nat × (Nat → Int32))} {d k n : Nat} {P : am_O → Prop} {I : am_I} {J : am_J} {Pf : am_R} (hp : am_PF Pf) {x1 : Int32} {x2 : Int32} {x3 : Int32} (q1 : am_mth d 178 [.ref 0, .int x1, .int x2, .int x3] (am_SH, I, J, Pf) (am_af sc d 158 4 [some (.ref 0), some (.int x1), some (.int x2), some (.int x3)] [.int x3, .int x2, .int x1, .ref 0] [] (am_SH, I, J, Pf) k n true P)) : am_go sc d 158 (0, [some (.ref 0), some (.int x1), some (.int x2), some (.int x3)], [], (am_SH, I, J, Pf), k, n) P := by
  refine am_s_aload_n rfl dc158_0.1.1.1 ?_
  refine am_s_iload_n rfl dc158_0.1.1.2 ?_
  refine am_s_iload_n rfl dc158_0.1.2.1 ?_
  refine am_s_iload_n rfl dc158_0.1.2.2 ?_
  exact am_s_virtual true dc158_0.2.1.1 rfl (by decide) rfl rfl rfl (q1)
theorem t158_7 {sc : Option (Nat × (Nat → Int32))} {d k n : Nat} {P : am_O → Prop} {I : am_I} {J : am_J} {Pf : am_R} (hp : am_PF Pf) {x1 : Int32} {x2 : Int32} {x3 : Int32} (q1 : am_mth d 180 [.ref 0] (am_SH, I, J, Pf) (am_af sc d 158 8 [some (.ref 0), some (.int x1), some (.int x2), some (.int x3)] [.ref 0] [] (am_SH, I, J, Pf) k n true P)) : am_go sc d 158 (7, [some (.ref 0), some (.int x1), some (.int x2), some (.int x3)], [], (am_SH, I, J, Pf), k, n) P := by
  refine am_s_aload_n rfl dc158_0.2.1.2 ?_
  exact am_s_virtual true dc158_0.2.2.1 rfl (by decide) rfl rfl rfl (q1)
theorem t158_11 {sc : Option (Nat × (Nat → Int32))} {d k n : Nat} {P : am_O → Prop} {I : am_I} {J : am_J} {Pf : am_R} (hp : am_PF Pf) {x1 : Int32} {x2 : Int32} {x3 : Int32} (q1 : am_mth d 124 [.ref 145, .int x1, .int x2, .int x3] (am_SH, I, J, Pf) (am_af sc d 158 18 [some (.ref 0), some (.int x1), some (.int x2), some (.int x3)] [.int x3, .int x2, .int x1, .ref 145] [] (am_SH, I, J, Pf) k n false P)) : am_go sc d 158 (11, [some (.ref 0), some (.int x1), some (.int x2), some (.int x3)], [], (am_SH, I, J, Pf), k, n) P := by
  refine am_s_aload_n rfl dc158_0.2.2.2 ?_
  refine am_s_getR (r := 145) dc158_1.1.1 rfl rfl rfl (hp _ _ _ rfl) ?_
  refine am_s_iload_n rfl dc158_1.1.2.1 ?_
  refine am_s_iload_n rfl dc158_1.1.2.2 ?_
  refine am_s_iload_n rfl dc158_1.2.1 ?_
  exact am_s_virtual false dc158_1.2.2.1 rfl (by decide) rfl rfl rfl (q1)
theorem t158_21 {sc : Option (Nat × (Nat → Int32))} {d k n : Nat} {P : am_O → Prop} {I : am_I} {J : am_J} {Pf : am_R} (hp : am_PF Pf) {l0 : Option Value} {l1 : Option Value} {l2 : Option Value} {l3 : Option Value} {s0 : Int32} (q1 : P (.inl (some (.int s0)), (am_SH, I, J, Pf), k, n)) : am_go sc d 158 (21, [l0, l1, l2, l3], [.int s0], (am_SH, I, J, Pf), k, n) P := by
  exact am_s_ireturn dc158_1.2.2.2 rfl (q1)
-- height (III)I
theorem dc159_0 : (((decode (am_by 159) 0 = .ok (.aload_n 0, 1)) ∧ (decode (am_by 159) 1 = .ok (.iload_n 1, 1))) ∧ ((decode (am_by 159) 2 = .ok (.iload_n 2, 1)) ∧ (decode (am_by 159) 3 = .ok (.iload_n 3, 1)))) ∧ (((decode (am_by 159) 4 = .ok (.invokevirtual 274, 3)) ∧ (decode (am_by 159) 7 = .ok (.aload_n 0, 1))) ∧ ((decode (am_by 159) 8 = .ok (.invokevirtual 193, 3)) ∧ (decode (am_by 159) 11 = .ok (.aload_n 0, 1)))) := by decide +kernel
theorem dc159_1 : ((decode (am_by 159) 12 = .ok (.getfield 83, 3)) ∧ ((decode (am_by 159) 15 = .ok (.iload_n 1, 1)) ∧ (decode (am_by 159) 16 = .ok (.iload_n 2, 1)))) ∧ ((decode (am_by 159) 17 = .ok (.iload_n 3, 1)) ∧ ((decode (am_by 159) 18 = .ok (.invokevirtual 288, 3)) ∧ (decode (am_by 159) 21 = .ok (.ireturn, 1)))) := by decide +kernel
theorem t159_0 {sc : Option (Nat × (Nat → Int32))} {d k n : Nat} {P : am_O → Prop} {I : am_I} {J : am_J} {Pf : am_R} (hp : am_PF Pf) {x1 : Int32} {x2 : Int32} {x3 : Int32} (q1 : am_mth d 178 [.ref 0, .int x1, .int x2, .int x3] (am_SH, I, J, Pf) (am_af sc d 159 4 [some (.ref 0), some (.int x1), some (.int x2), some (.int x3)] [.int x3, .int x2, .int x1, .ref 0] [] (am_SH, I, J, Pf) k n true P)) : am_go sc d 159 (0, [some (.ref 0), some (.int x1), some (.int x2), some (.int x3)], [], (am_SH, I, J, Pf), k, n) P := by
  refine am_s_aload_n rfl dc159_0.1.1.1 ?_
  refine am_s_iload_n rfl dc159_0.1.1.2 ?_
  refine am_s_iload_n rfl dc159_0.1.2.1 ?_
  refine am_s_iload_n rfl dc159_0.1.2.2 ?_
  exact am_s_virtual true dc159_0.2.1.1 rfl (by decide) rfl rfl rfl (q1)
theorem t159_7 {sc : Option (Nat × (Nat → Int32))} {d k n : Nat} {P : am_O → Prop} {I : am_I} {J : am_J} {Pf : am_R} (hp : am_PF Pf) {x1 : Int32} {x2 : Int32} {x3 : Int32} (q1 : am_mth d 180 [.ref 0] (am_SH, I, J, Pf) (am_af sc d 159 8 [some (.ref 0), some (.int x1), some (.int x2), some (.int x3)] [.ref 0] [] (am_SH, I, J, Pf) k n true P)) : am_go sc d 159 (7, [some (.ref 0), some (.int x1), some (.int x2), some (.int x3)], [], (am_SH, I, J, Pf), k, n) P := by
  refine am_s_aload_n rfl dc159_0.2.1.2 ?_
  exact am_s_virtual true dc159_0.2.2.1 rfl (by decide) rfl rfl rfl (q1)
theorem t159_11 {sc : Option (Nat × (Nat → Int32))} {d k n : Nat} {P : am_O → Prop} {I : am_I} {J : am_J} {Pf : am_R} (hp : am_PF Pf) {x1 : Int32} {x2 : Int32} {x3 : Int32} (q1 : am_mth d 126 [.ref 145, .int x1, .int x2, .int x3] (am_SH, I, J, Pf) (am_af sc d 159 18 [some (.ref 0), some (.int x1), some (.int x2), some (.int x3)] [.int x3, .int x2, .int x1, .ref 145] [] (am_SH, I, J, Pf) k n false P)) : am_go sc d 159 (11, [some (.ref 0), some (.int x1), some (.int x2), some (.int x3)], [], (am_SH, I, J, Pf), k, n) P := by
  refine am_s_aload_n rfl dc159_0.2.2.2 ?_
  refine am_s_getR (r := 145) dc159_1.1.1 rfl rfl rfl (hp _ _ _ rfl) ?_
  refine am_s_iload_n rfl dc159_1.1.2.1 ?_
  refine am_s_iload_n rfl dc159_1.1.2.2 ?_
  refine am_s_iload_n rfl dc159_1.2.1 ?_
  exact am_s_virtual false dc159_1.2.2.1 rfl (by decide) rfl rfl rfl (q1)
theorem t159_21 {sc : Option (Nat × (Nat → Int32))} {d k n : Nat} {P : am_O → Prop} {I : am_I} {J : am_J} {Pf : am_R} (hp : am_PF Pf) {l0 : Option Value} {l1 : Option Value} {l2 : Option Value} {l3 : Option Value} {s0 : Int32} (q1 : P (.inl (some (.int s0)), (am_SH, I, J, Pf), k, n)) : am_go sc d 159 (21, [l0, l1, l2, l3], [.int s0], (am_SH, I, J, Pf), k, n) P := by
  exact am_s_ireturn dc159_1.2.2.2 rfl (q1)
-- nodes (III)I
theorem dc160_0 : (((decode (am_by 160) 0 = .ok (.aload_n 0, 1)) ∧ (decode (am_by 160) 1 = .ok (.iload_n 1, 1))) ∧ ((decode (am_by 160) 2 = .ok (.iload_n 2, 1)) ∧ (decode (am_by 160) 3 = .ok (.iload_n 3, 1)))) ∧ (((decode (am_by 160) 4 = .ok (.invokevirtual 274, 3)) ∧ (decode (am_by 160) 7 = .ok (.aload_n 0, 1))) ∧ ((decode (am_by 160) 8 = .ok (.invokevirtual 193, 3)) ∧ (decode (am_by 160) 11 = .ok (.aload_n 0, 1)))) := by decide +kernel
theorem dc160_1 : ((decode (am_by 160) 12 = .ok (.getfield 83, 3)) ∧ ((decode (am_by 160) 15 = .ok (.iload_n 1, 1)) ∧ (decode (am_by 160) 16 = .ok (.iload_n 2, 1)))) ∧ ((decode (am_by 160) 17 = .ok (.iload_n 3, 1)) ∧ ((decode (am_by 160) 18 = .ok (.invokevirtual 291, 3)) ∧ (decode (am_by 160) 21 = .ok (.ireturn, 1)))) := by decide +kernel
theorem t160_0 {sc : Option (Nat × (Nat → Int32))} {d k n : Nat} {P : am_O → Prop} {I : am_I} {J : am_J} {Pf : am_R} (hp : am_PF Pf) {x1 : Int32} {x2 : Int32} {x3 : Int32} (q1 : am_mth d 178 [.ref 0, .int x1, .int x2, .int x3] (am_SH, I, J, Pf) (am_af sc d 160 4 [some (.ref 0), some (.int x1), some (.int x2), some (.int x3)] [.int x3, .int x2, .int x1, .ref 0] [] (am_SH, I, J, Pf) k n true P)) : am_go sc d 160 (0, [some (.ref 0), some (.int x1), some (.int x2), some (.int x3)], [], (am_SH, I, J, Pf), k, n) P := by
  refine am_s_aload_n rfl dc160_0.1.1.1 ?_
  refine am_s_iload_n rfl dc160_0.1.1.2 ?_
  refine am_s_iload_n rfl dc160_0.1.2.1 ?_
  refine am_s_iload_n rfl dc160_0.1.2.2 ?_
  exact am_s_virtual true dc160_0.2.1.1 rfl (by decide) rfl rfl rfl (q1)
theorem t160_7 {sc : Option (Nat × (Nat → Int32))} {d k n : Nat} {P : am_O → Prop} {I : am_I} {J : am_J} {Pf : am_R} (hp : am_PF Pf) {x1 : Int32} {x2 : Int32} {x3 : Int32} (q1 : am_mth d 180 [.ref 0] (am_SH, I, J, Pf) (am_af sc d 160 8 [some (.ref 0), some (.int x1), some (.int x2), some (.int x3)] [.ref 0] [] (am_SH, I, J, Pf) k n true P)) : am_go sc d 160 (7, [some (.ref 0), some (.int x1), some (.int x2), some (.int x3)], [], (am_SH, I, J, Pf), k, n) P := by
  refine am_s_aload_n rfl dc160_0.2.1.2 ?_
  exact am_s_virtual true dc160_0.2.2.1 rfl (by decide) rfl rfl rfl (q1)
theorem t160_11 {sc : Option (Nat × (Nat → Int32))} {d k n : Nat} {P : am_O → Prop} {I : am_I} {J : am_J} {Pf : am_R} (hp : am_PF Pf) {x1 : Int32} {x2 : Int32} {x3 : Int32} (q1 : am_mth d 130 [.ref 145, .int x1, .int x2, .int x3] (am_SH, I, J, Pf) (am_af sc d 160 18 [some (.ref 0), some (.int x1), some (.int x2), some (.int x3)] [.int x3, .int x2, .int x1, .ref 145] [] (am_SH, I, J, Pf) k n false P)) : am_go sc d 160 (11, [some (.ref 0), some (.int x1), some (.int x2), some (.int x3)], [], (am_SH, I, J, Pf), k, n) P := by
  refine am_s_aload_n rfl dc160_0.2.2.2 ?_
  refine am_s_getR (r := 145) dc160_1.1.1 rfl rfl rfl (hp _ _ _ rfl) ?_
  refine am_s_iload_n rfl dc160_1.1.2.1 ?_
  refine am_s_iload_n rfl dc160_1.1.2.2 ?_
  refine am_s_iload_n rfl dc160_1.2.1 ?_
  exact am_s_virtual false dc160_1.2.2.1 rfl (by decide) rfl rfl rfl (q1)
theorem t160_21 {sc : Option (Nat × (Nat → Int32))} {d k n : Nat} {P : am_O → Prop} {I : am_I} {J : am_J} {Pf : am_R} (hp : am_PF Pf) {l0 : Option Value} {l1 : Option Value} {l2 : Option Value} {l3 : Option Value} {s0 : Int32} (q1 : P (.inl (some (.int s0)), (am_SH, I, J, Pf), k, n)) : am_go sc d 160 (21, [l0, l1, l2, l3], [.int s0], (am_SH, I, J, Pf), k, n) P := by
  exact am_s_ireturn dc160_1.2.2.2 rfl (q1)
-- node (III)I
theorem dc161_0 : (((decode (am_by 161) 0 = .ok (.aload_n 0, 1)) ∧ (decode (am_by 161) 1 = .ok (.iload_n 1, 1))) ∧ ((decode (am_by 161) 2 = .ok (.invokevirtual 250, 3)) ∧ (decode (am_by 161) 5 = .ok (.aload_n 0, 1)))) ∧ (((decode (am_by 161) 6 = .ok (.iload_n 2, 1)) ∧ (decode (am_by 161) 7 = .ok (.iconst 0, 1))) ∧ ((decode (am_by 161) 8 = .ok (.ldc_w 294, 3)) ∧ (decode (am_by 161) 11 = .ok (.invokevirtual 102, 3)))) := by decide +kernel
theorem dc161_1 : (((decode (am_by 161) 14 = .ok (.aload_n 0, 1)) ∧ (decode (am_by 161) 15 = .ok (.iload_n 3, 1))) ∧ ((decode (am_by 161) 16 = .ok (.iconst 0, 1)) ∧ (decode (am_by 161) 17 = .ok (.iconst 5, 1)))) ∧ (((decode (am_by 161) 18 = .ok (.invokevirtual 102, 3)) ∧ (decode (am_by 161) 21 = .ok (.aload_n 0, 1))) ∧ ((decode (am_by 161) 22 = .ok (.invokevirtual 193, 3)) ∧ (decode (am_by 161) 25 = .ok (.iload_n 2, 1)))) := by decide +kernel
theorem dc161_2 : (((decode (am_by 161) 26 = .ok (.aload_n 0, 1)) ∧ (decode (am_by 161) 27 = .ok (.getfield 83, 3))) ∧ ((decode (am_by 161) 30 = .ok (.iload_n 1, 1)) ∧ (decode (am_by 161) 31 = .ok (.iconst 0, 1)))) ∧ (((decode (am_by 161) 32 = .ok (.aload_n 0, 1)) ∧ (decode (am_by 161) 33 = .ok (.getfield 71, 3))) ∧ ((decode (am_by 161) 36 = .ok (.getfield 128, 3)) ∧ (decode (am_by 161) 39 = .ok (.invokevirtual 291, 3)))) := by decide +kernel
theorem dc161_3 : (((decode (am_by 161) 42 = .ok (.if_icmp .lt 5, 3)) ∧ (decode (am_by 161) 45 = .ok (.iconst (-1), 1))) ∧ ((decode (am_by 161) 46 = .ok (.ireturn, 1)) ∧ (decode (am_by 161) 47 = .ok (.aload_n 0, 1)))) ∧ (((decode (am_by 161) 48 = .ok (.getfield 83, 3)) ∧ (decode (am_by 161) 51 = .ok (.iload_n 2, 1))) ∧ ((decode (am_by 161) 52 = .ok (.iload_n 3, 1)) ∧ (decode (am_by 161) 53 = .ok (.invokevirtual 295, 3)))) := by decide +kernel
theorem dc161_4 : decode (am_by 161) 56 = .ok (.ireturn, 1) := by decide +kernel
theorem t161_0 {sc : Option (Nat × (Nat → Int32))} {d k n : Nat} {P : am_O → Prop} {I : am_I} {J : am_J} {Pf : am_R} (hp : am_PF Pf) {x1 : Int32} {x2 : Int32} {x3 : Int32} (q1 : am_mth d 177 [.ref 0, .int x1] (am_SH, I, J, Pf) (am_af sc d 161 2 [some (.ref 0), some (.int x1), some (.int x2), some (.int x3)] [.int x1, .ref 0] [] (am_SH, I, J, Pf) k n true P)) : am_go sc d 161 (0, [some (.ref 0), some (.int x1), some (.int x2), some (.int x3)], [], (am_SH, I, J, Pf), k, n) P := by
  refine am_s_aload_n rfl dc161_0.1.1.1 ?_
  refine am_s_iload_n rfl dc161_0.1.1.2 ?_
  exact am_s_virtual true dc161_0.1.2.1 rfl (by decide) rfl rfl rfl (q1)
theorem t161_5 {sc : Option (Nat × (Nat → Int32))} {d k n : Nat} {P : am_O → Prop} {I : am_I} {J : am_J} {Pf : am_R} (hp : am_PF Pf) {x1 : Int32} {x2 : Int32} {x3 : Int32} (q1 : am_mth d 176 [.ref 0, .int x2, .int 0, .int 2147483647] (am_SH, I, J, Pf) (am_af sc d 161 11 [some (.ref 0), some (.int x1), some (.int x2), some (.int x3)] [.int 2147483647, .int 0, .int x2, .ref 0] [] (am_SH, I, J, Pf) k n true P)) : am_go sc d 161 (5, [some (.ref 0), some (.int x1), some (.int x2), some (.int x3)], [], (am_SH, I, J, Pf), k, n) P := by
  refine am_s_aload_n rfl dc161_0.1.2.2 ?_
  refine am_s_iload_n rfl dc161_0.2.1.1 ?_
  refine am_s_iconst am_cc0 dc161_0.2.1.2 ?_
  refine am_s_ldcw (x := 2147483647) dc161_0.2.2.1 rfl rfl rfl ?_
  exact am_s_virtual true dc161_0.2.2.2 rfl (by decide) rfl rfl rfl (q1)
theorem t161_14 {sc : Option (Nat × (Nat → Int32))} {d k n : Nat} {P : am_O → Prop} {I : am_I} {J : am_J} {Pf : am_R} (hp : am_PF Pf) {x1 : Int32} {x2 : Int32} {x3 : Int32} (q1 : am_mth d 176 [.ref 0, .int x3, .int 0, .int 5] (am_SH, I, J, Pf) (am_af sc d 161 18 [some (.ref 0), some (.int x1), some (.int x2), some (.int x3)] [.int 5, .int 0, .int x3, .ref 0] [] (am_SH, I, J, Pf) k n true P)) : am_go sc d 161 (14, [some (.ref 0), some (.int x1), some (.int x2), some (.int x3)], [], (am_SH, I, J, Pf), k, n) P := by
  refine am_s_aload_n rfl dc161_1.1.1.1 ?_
  refine am_s_iload_n rfl dc161_1.1.1.2 ?_
  refine am_s_iconst am_cc0 dc161_1.1.2.1 ?_
  refine am_s_iconst am_cc5 dc161_1.1.2.2 ?_
  exact am_s_virtual true dc161_1.2.1.1 rfl (by decide) rfl rfl rfl (q1)
theorem t161_21 {sc : Option (Nat × (Nat → Int32))} {d k n : Nat} {P : am_O → Prop} {I : am_I} {J : am_J} {Pf : am_R} (hp : am_PF Pf) {x1 : Int32} {x2 : Int32} {x3 : Int32} (q1 : am_mth d 180 [.ref 0] (am_SH, I, J, Pf) (am_af sc d 161 22 [some (.ref 0), some (.int x1), some (.int x2), some (.int x3)] [.ref 0] [] (am_SH, I, J, Pf) k n true P)) : am_go sc d 161 (21, [some (.ref 0), some (.int x1), some (.int x2), some (.int x3)], [], (am_SH, I, J, Pf), k, n) P := by
  refine am_s_aload_n rfl dc161_1.2.1.2 ?_
  exact am_s_virtual true dc161_1.2.2.1 rfl (by decide) rfl rfl rfl (q1)
theorem t161_25 {sc : Option (Nat × (Nat → Int32))} {d k n : Nat} {P : am_O → Prop} {I : am_I} {J : am_J} {Pf : am_R} (hp : am_PF Pf) {x1 : Int32} {x2 : Int32} {x3 : Int32} (q1 : am_mth d 130 [.ref 145, .int x1, .int 0, .int (I 135 1)] (am_SH, I, J, Pf) (am_af sc d 161 39 [some (.ref 0), some (.int x1), some (.int x2), some (.int x3)] [.int (I 135 1), .int 0, .int x1, .ref 145, .int x2] [.int x2] (am_SH, I, J, Pf) k n false P)) : am_go sc d 161 (25, [some (.ref 0), some (.int x1), some (.int x2), some (.int x3)], [], (am_SH, I, J, Pf), k, n) P := by
  refine am_s_iload_n rfl dc161_1.2.2.2 ?_
  refine am_s_aload_n rfl dc161_2.1.1.1 ?_
  refine am_s_getR (r := 145) dc161_2.1.1.2 rfl rfl rfl (hp _ _ _ rfl) ?_
  refine am_s_iload_n rfl dc161_2.1.2.1 ?_
  refine am_s_iconst am_cc0 dc161_2.1.2.2 ?_
  refine am_s_aload_n rfl dc161_2.2.1.1 ?_
  refine am_s_getR (r := 135) dc161_2.2.1.2 rfl rfl rfl (hp _ _ _ rfl) ?_
  refine am_x_getI (x := I 135 1) dc161_2.2.2.1 rfl rfl (Or.inl rfl) rfl ?_
  exact am_s_virtual false dc161_2.2.2.2 rfl (by decide) rfl rfl rfl (q1)
theorem t161_42 {sc : Option (Nat × (Nat → Int32))} {d k n : Nat} {P : am_O → Prop} {I : am_I} {J : am_J} {Pf : am_R} (hp : am_PF Pf) {l1 : Option Value} {x2 : Int32} {x3 : Int32} {s0 : Int32} {s1 : Int32} (q1 : (s0 < s1) → am_mth d 137 [.ref 145, .int x2, .int x3] (am_SH, I, J, Pf) (am_af sc d 161 53 [some (.ref 0), l1, some (.int x2), some (.int x3)] [.int x3, .int x2, .ref 145] [] (am_SH, I, J, Pf) k n false P)) (q2 : (¬ (s0 < s1)) → P (.inl (some (.int (-1))), (am_SH, I, J, Pf), k, n)) : am_go sc d 161 (42, [some (.ref 0), l1, some (.int x2), some (.int x3)], [.int s1, .int s0], (am_SH, I, J, Pf), k, n) P := by
  refine am_s_ic_lt dc161_3.1.1.1 rfl (fun c1 => ?_) (fun c1 => ?_)
  · refine am_s_aload_n rfl dc161_3.1.2.2 ?_
    refine am_s_getR (r := 145) dc161_3.2.1.1 rfl rfl rfl (hp _ _ _ rfl) ?_
    refine am_s_iload_n rfl dc161_3.2.1.2 ?_
    refine am_s_iload_n rfl dc161_3.2.2.1 ?_
    exact am_s_virtual false dc161_3.2.2.2 rfl (by decide) rfl rfl rfl (q1 c1)
  · refine am_s_iconst am_ccm1 dc161_3.1.1.2 ?_
    exact am_s_ireturn dc161_3.1.2.1 rfl (q2 c1)
theorem t161_56 {sc : Option (Nat × (Nat → Int32))} {d k n : Nat} {P : am_O → Prop} {I : am_I} {J : am_J} {Pf : am_R} (hp : am_PF Pf) {l0 : Option Value} {l1 : Option Value} {l2 : Option Value} {l3 : Option Value} {s0 : Int32} (q1 : P (.inl (some (.int s0)), (am_SH, I, J, Pf), k, n)) : am_go sc d 161 (56, [l0, l1, l2, l3], [.int s0], (am_SH, I, J, Pf), k, n) P := by
  exact am_s_ireturn dc161_4 rfl (q1)
-- worth (I)I
theorem dc162_0 : (((decode (am_by 162) 0 = .ok (.aload_n 0, 1)) ∧ (decode (am_by 162) 1 = .ok (.iload_n 1, 1))) ∧ ((decode (am_by 162) 2 = .ok (.invokevirtual 250, 3)) ∧ (decode (am_by 162) 5 = .ok (.aload_n 0, 1)))) ∧ (((decode (am_by 162) 6 = .ok (.invokevirtual 193, 3)) ∧ (decode (am_by 162) 9 = .ok (.aload_n 0, 1))) ∧ ((decode (am_by 162) 10 = .ok (.getfield 83, 3)) ∧ (decode (am_by 162) 13 = .ok (.aload_n 0, 1)))) := by decide +kernel
theorem dc162_1 : (((decode (am_by 162) 14 = .ok (.getfield 36, 3)) ∧ (decode (am_by 162) 17 = .ok (.aload_n 0, 1))) ∧ ((decode (am_by 162) 18 = .ok (.getfield 83, 3)) ∧ (decode (am_by 162) 21 = .ok (.iload_n 1, 1)))) ∧ (((decode (am_by 162) 22 = .ok (.iconst 0, 1)) ∧ (decode (am_by 162) 23 = .ok (.aload_n 0, 1))) ∧ ((decode (am_by 162) 24 = .ok (.getfield 71, 3)) ∧ (decode (am_by 162) 27 = .ok (.getfield 128, 3)))) := by decide +kernel
theorem dc162_2 : (decode (am_by 162) 30 = .ok (.invokevirtual 291, 3)) ∧ ((decode (am_by 162) 33 = .ok (.invokevirtual 298, 3)) ∧ (decode (am_by 162) 36 = .ok (.ireturn, 1))) := by decide +kernel
theorem t162_0 {sc : Option (Nat × (Nat → Int32))} {d k n : Nat} {P : am_O → Prop} {I : am_I} {J : am_J} {Pf : am_R} (hp : am_PF Pf) {x1 : Int32} (q1 : am_mth d 177 [.ref 0, .int x1] (am_SH, I, J, Pf) (am_af sc d 162 2 [some (.ref 0), some (.int x1)] [.int x1, .ref 0] [] (am_SH, I, J, Pf) k n true P)) : am_go sc d 162 (0, [some (.ref 0), some (.int x1)], [], (am_SH, I, J, Pf), k, n) P := by
  refine am_s_aload_n rfl dc162_0.1.1.1 ?_
  refine am_s_iload_n rfl dc162_0.1.1.2 ?_
  exact am_s_virtual true dc162_0.1.2.1 rfl (by decide) rfl rfl rfl (q1)
theorem t162_5 {sc : Option (Nat × (Nat → Int32))} {d k n : Nat} {P : am_O → Prop} {I : am_I} {J : am_J} {Pf : am_R} (hp : am_PF Pf) {x1 : Int32} (q1 : am_mth d 180 [.ref 0] (am_SH, I, J, Pf) (am_af sc d 162 6 [some (.ref 0), some (.int x1)] [.ref 0] [] (am_SH, I, J, Pf) k n true P)) : am_go sc d 162 (5, [some (.ref 0), some (.int x1)], [], (am_SH, I, J, Pf), k, n) P := by
  refine am_s_aload_n rfl dc162_0.1.2.2 ?_
  exact am_s_virtual true dc162_0.2.1.1 rfl (by decide) rfl rfl rfl (q1)
theorem t162_9 {sc : Option (Nat × (Nat → Int32))} {d k n : Nat} {P : am_O → Prop} {I : am_I} {J : am_J} {Pf : am_R} (hp : am_PF Pf) {x1 : Int32} {r0_4 : Nat} (q1 : Pf 0 4 = some r0_4) (q2 : am_SH[r0_4]? = some (.inl 2)) (q3 : am_mth d 130 [.ref 145, .int x1, .int 0, .int (I 135 1)] (am_SH, I, J, Pf) (am_af sc d 162 30 [some (.ref 0), some (.int x1)] [.int (I 135 1), .int 0, .int x1, .ref 145, .ref r0_4, .ref 145] [.ref r0_4, .ref 145] (am_SH, I, J, Pf) k n false P)) : am_go sc d 162 (9, [some (.ref 0), some (.int x1)], [], (am_SH, I, J, Pf), k, n) P := by
  refine am_s_aload_n rfl dc162_0.2.1.2 ?_
  refine am_s_getR (r := 145) dc162_0.2.2.1 rfl rfl rfl (hp _ _ _ rfl) ?_
  refine am_s_aload_n rfl dc162_0.2.2.2 ?_
  refine am_s_getR (r := r0_4) dc162_1.1.1.1 rfl rfl rfl (q1) ?_
  refine am_s_aload_n rfl dc162_1.1.1.2 ?_
  refine am_s_getR (r := 145) dc162_1.1.2.1 rfl rfl rfl (hp _ _ _ rfl) ?_
  refine am_s_iload_n rfl dc162_1.1.2.2 ?_
  refine am_s_iconst am_cc0 dc162_1.2.1.1 ?_
  refine am_s_aload_n rfl dc162_1.2.1.2 ?_
  refine am_s_getR (r := 135) dc162_1.2.2.1 rfl rfl rfl (hp _ _ _ rfl) ?_
  refine am_x_getI (x := I 135 1) dc162_1.2.2.2 rfl rfl (Or.inl rfl) rfl ?_
  exact am_s_virtual false dc162_2.1 rfl (by decide) rfl rfl rfl (q3)
theorem t162_33 {sc : Option (Nat × (Nat → Int32))} {d k n : Nat} {P : am_O → Prop} {I : am_I} {J : am_J} {Pf : am_R} (hp : am_PF Pf) {l0 : Option Value} {l1 : Option Value} {s1 : Nat} (hs1 : am_SH[s1]? = some (.inl 2)) {s2 : Int32} (q1 : am_mth d 138 [.ref 145, .ref s1, .int s2] (am_SH, I, J, Pf) (am_af sc d 162 33 [l0, l1] [.int s2, .ref s1, .ref 145] [] (am_SH, I, J, Pf) k n false P)) : am_go sc d 162 (33, [l0, l1], [.int s2, .ref s1, .ref 145], (am_SH, I, J, Pf), k, n) P := by
  exact am_s_virtual false dc162_2.2.1 rfl (by decide) rfl rfl rfl (q1)
theorem t162_36 {sc : Option (Nat × (Nat → Int32))} {d k n : Nat} {P : am_O → Prop} {I : am_I} {J : am_J} {Pf : am_R} (hp : am_PF Pf) {l0 : Option Value} {l1 : Option Value} {s0 : Int32} (q1 : P (.inl (some (.int s0)), (am_SH, I, J, Pf), k, n)) : am_go sc d 162 (36, [l0, l1], [.int s0], (am_SH, I, J, Pf), k, n) P := by
  exact am_s_ireturn dc162_2.2.2 rfl (q1)
-- pieces (I)I
theorem dc163_0 : (((decode (am_by 163) 0 = .ok (.aload_n 0, 1)) ∧ (decode (am_by 163) 1 = .ok (.iload_n 1, 1))) ∧ ((decode (am_by 163) 2 = .ok (.invokevirtual 250, 3)) ∧ (decode (am_by 163) 5 = .ok (.aload_n 0, 1)))) ∧ (((decode (am_by 163) 6 = .ok (.invokevirtual 193, 3)) ∧ (decode (am_by 163) 9 = .ok (.aload_n 0, 1))) ∧ ((decode (am_by 163) 10 = .ok (.getfield 71, 3)) ∧ (decode (am_by 163) 13 = .ok (.iload_n 1, 1)))) := by decide +kernel
theorem dc163_1 : (decode (am_by 163) 14 = .ok (.invokevirtual 302, 3)) ∧ (decode (am_by 163) 17 = .ok (.ireturn, 1)) := by decide +kernel
theorem t163_0 {sc : Option (Nat × (Nat → Int32))} {d k n : Nat} {P : am_O → Prop} {I : am_I} {J : am_J} {Pf : am_R} (hp : am_PF Pf) {x1 : Int32} (q1 : am_mth d 177 [.ref 0, .int x1] (am_SH, I, J, Pf) (am_af sc d 163 2 [some (.ref 0), some (.int x1)] [.int x1, .ref 0] [] (am_SH, I, J, Pf) k n true P)) : am_go sc d 163 (0, [some (.ref 0), some (.int x1)], [], (am_SH, I, J, Pf), k, n) P := by
  refine am_s_aload_n rfl dc163_0.1.1.1 ?_
  refine am_s_iload_n rfl dc163_0.1.1.2 ?_
  exact am_s_virtual true dc163_0.1.2.1 rfl (by decide) rfl rfl rfl (q1)
theorem t163_5 {sc : Option (Nat × (Nat → Int32))} {d k n : Nat} {P : am_O → Prop} {I : am_I} {J : am_J} {Pf : am_R} (hp : am_PF Pf) {x1 : Int32} (q1 : am_mth d 180 [.ref 0] (am_SH, I, J, Pf) (am_af sc d 163 6 [some (.ref 0), some (.int x1)] [.ref 0] [] (am_SH, I, J, Pf) k n true P)) : am_go sc d 163 (5, [some (.ref 0), some (.int x1)], [], (am_SH, I, J, Pf), k, n) P := by
  refine am_s_aload_n rfl dc163_0.1.2.2 ?_
  exact am_s_virtual true dc163_0.2.1.1 rfl (by decide) rfl rfl rfl (q1)
theorem t163_9 {sc : Option (Nat × (Nat → Int32))} {d k n : Nat} {P : am_O → Prop} {I : am_I} {J : am_J} {Pf : am_R} (hp : am_PF Pf) {x1 : Int32} (q1 : am_mth d 120 [.ref 135, .int x1] (am_SH, I, J, Pf) (am_af sc d 163 14 [some (.ref 0), some (.int x1)] [.int x1, .ref 135] [] (am_SH, I, J, Pf) k n false P)) : am_go sc d 163 (9, [some (.ref 0), some (.int x1)], [], (am_SH, I, J, Pf), k, n) P := by
  refine am_s_aload_n rfl dc163_0.2.1.2 ?_
  refine am_s_getR (r := 135) dc163_0.2.2.1 rfl rfl rfl (hp _ _ _ rfl) ?_
  refine am_s_iload_n rfl dc163_0.2.2.2 ?_
  exact am_s_virtual false dc163_1.1 rfl (by decide) rfl rfl rfl (q1)
theorem t163_17 {sc : Option (Nat × (Nat → Int32))} {d k n : Nat} {P : am_O → Prop} {I : am_I} {J : am_J} {Pf : am_R} (hp : am_PF Pf) {l0 : Option Value} {l1 : Option Value} {s0 : Int32} (q1 : P (.inl (some (.int s0)), (am_SH, I, J, Pf), k, n)) : am_go sc d 163 (17, [l0, l1], [.int s0], (am_SH, I, J, Pf), k, n) P := by
  exact am_s_ireturn dc163_1.2 rfl (q1)
-- wrong (III)I
theorem dc164_0 : (((decode (am_by 164) 0 = .ok (.aload_n 0, 1)) ∧ (decode (am_by 164) 1 = .ok (.iload_n 1, 1))) ∧ ((decode (am_by 164) 2 = .ok (.invokevirtual 250, 3)) ∧ (decode (am_by 164) 5 = .ok (.aload_n 0, 1)))) ∧ (((decode (am_by 164) 6 = .ok (.iload_n 2, 1)) ∧ (decode (am_by 164) 7 = .ok (.iconst 0, 1))) ∧ ((decode (am_by 164) 8 = .ok (.ldc_w 294, 3)) ∧ (decode (am_by 164) 11 = .ok (.invokevirtual 102, 3)))) := by decide +kernel
theorem dc164_1 : (((decode (am_by 164) 14 = .ok (.aload_n 0, 1)) ∧ (decode (am_by 164) 15 = .ok (.iload_n 3, 1))) ∧ ((decode (am_by 164) 16 = .ok (.iconst 0, 1)) ∧ (decode (am_by 164) 17 = .ok (.iconst 2, 1)))) ∧ (((decode (am_by 164) 18 = .ok (.invokevirtual 102, 3)) ∧ (decode (am_by 164) 21 = .ok (.aload_n 0, 1))) ∧ ((decode (am_by 164) 22 = .ok (.invokevirtual 193, 3)) ∧ (decode (am_by 164) 25 = .ok (.iload_n 2, 1)))) := by decide +kernel
theorem dc164_2 : (((decode (am_by 164) 26 = .ok (.aload_n 0, 1)) ∧ (decode (am_by 164) 27 = .ok (.getfield 64, 3))) ∧ ((decode (am_by 164) 30 = .ok (.aload_n 0, 1)) ∧ (decode (am_by 164) 31 = .ok (.getfield 71, 3)))) ∧ (((decode (am_by 164) 34 = .ok (.iload_n 1, 1)) ∧ (decode (am_by 164) 35 = .ok (.invokevirtual 306, 3))) ∧ ((decode (am_by 164) 38 = .ok (.if_icmp .lt 5, 3)) ∧ (decode (am_by 164) 41 = .ok (.iconst (-1), 1)))) := by decide +kernel
theorem dc164_3 : (((decode (am_by 164) 42 = .ok (.ireturn, 1)) ∧ (decode (am_by 164) 43 = .ok (.aload_n 0, 1))) ∧ ((decode (am_by 164) 44 = .ok (.getfield 64, 3)) ∧ (decode (am_by 164) 47 = .ok (.getfield 310, 3)))) ∧ (((decode (am_by 164) 50 = .ok (.iload_n 2, 1)) ∧ (decode (am_by 164) 51 = .ok (.iconst 3, 1))) ∧ ((decode (am_by 164) 52 = .ok (.imul, 1)) ∧ (decode (am_by 164) 53 = .ok (.iload_n 3, 1)))) := by decide +kernel
theorem dc164_4 : (decode (am_by 164) 54 = .ok (.iadd, 1)) ∧ ((decode (am_by 164) 55 = .ok (.iaload, 1)) ∧ (decode (am_by 164) 56 = .ok (.ireturn, 1))) := by decide +kernel
theorem t164_0 {sc : Option (Nat × (Nat → Int32))} {d k n : Nat} {P : am_O → Prop} {I : am_I} {J : am_J} {Pf : am_R} (hp : am_PF Pf) {x1 : Int32} {x2 : Int32} {x3 : Int32} (q1 : am_mth d 177 [.ref 0, .int x1] (am_SH, I, J, Pf) (am_af sc d 164 2 [some (.ref 0), some (.int x1), some (.int x2), some (.int x3)] [.int x1, .ref 0] [] (am_SH, I, J, Pf) k n true P)) : am_go sc d 164 (0, [some (.ref 0), some (.int x1), some (.int x2), some (.int x3)], [], (am_SH, I, J, Pf), k, n) P := by
  refine am_s_aload_n rfl dc164_0.1.1.1 ?_
  refine am_s_iload_n rfl dc164_0.1.1.2 ?_
  exact am_s_virtual true dc164_0.1.2.1 rfl (by decide) rfl rfl rfl (q1)
theorem t164_5 {sc : Option (Nat × (Nat → Int32))} {d k n : Nat} {P : am_O → Prop} {I : am_I} {J : am_J} {Pf : am_R} (hp : am_PF Pf) {x1 : Int32} {x2 : Int32} {x3 : Int32} (q1 : am_mth d 176 [.ref 0, .int x2, .int 0, .int 2147483647] (am_SH, I, J, Pf) (am_af sc d 164 11 [some (.ref 0), some (.int x1), some (.int x2), some (.int x3)] [.int 2147483647, .int 0, .int x2, .ref 0] [] (am_SH, I, J, Pf) k n true P)) : am_go sc d 164 (5, [some (.ref 0), some (.int x1), some (.int x2), some (.int x3)], [], (am_SH, I, J, Pf), k, n) P := by
  refine am_s_aload_n rfl dc164_0.1.2.2 ?_
  refine am_s_iload_n rfl dc164_0.2.1.1 ?_
  refine am_s_iconst am_cc0 dc164_0.2.1.2 ?_
  refine am_s_ldcw (x := 2147483647) dc164_0.2.2.1 rfl rfl rfl ?_
  exact am_s_virtual true dc164_0.2.2.2 rfl (by decide) rfl rfl rfl (q1)
theorem t164_14 {sc : Option (Nat × (Nat → Int32))} {d k n : Nat} {P : am_O → Prop} {I : am_I} {J : am_J} {Pf : am_R} (hp : am_PF Pf) {x1 : Int32} {x2 : Int32} {x3 : Int32} (q1 : am_mth d 176 [.ref 0, .int x3, .int 0, .int 2] (am_SH, I, J, Pf) (am_af sc d 164 18 [some (.ref 0), some (.int x1), some (.int x2), some (.int x3)] [.int 2, .int 0, .int x3, .ref 0] [] (am_SH, I, J, Pf) k n true P)) : am_go sc d 164 (14, [some (.ref 0), some (.int x1), some (.int x2), some (.int x3)], [], (am_SH, I, J, Pf), k, n) P := by
  refine am_s_aload_n rfl dc164_1.1.1.1 ?_
  refine am_s_iload_n rfl dc164_1.1.1.2 ?_
  refine am_s_iconst am_cc0 dc164_1.1.2.1 ?_
  refine am_s_iconst am_cc2 dc164_1.1.2.2 ?_
  exact am_s_virtual true dc164_1.2.1.1 rfl (by decide) rfl rfl rfl (q1)
theorem t164_21 {sc : Option (Nat × (Nat → Int32))} {d k n : Nat} {P : am_O → Prop} {I : am_I} {J : am_J} {Pf : am_R} (hp : am_PF Pf) {x1 : Int32} {x2 : Int32} {x3 : Int32} (q1 : am_mth d 180 [.ref 0] (am_SH, I, J, Pf) (am_af sc d 164 22 [some (.ref 0), some (.int x1), some (.int x2), some (.int x3)] [.ref 0] [] (am_SH, I, J, Pf) k n true P)) : am_go sc d 164 (21, [some (.ref 0), some (.int x1), some (.int x2), some (.int x3)], [], (am_SH, I, J, Pf), k, n) P := by
  refine am_s_aload_n rfl dc164_1.2.1.2 ?_
  exact am_s_virtual true dc164_1.2.2.1 rfl (by decide) rfl rfl rfl (q1)
theorem t164_25 {sc : Option (Nat × (Nat → Int32))} {d k n : Nat} {P : am_O → Prop} {I : am_I} {J : am_J} {Pf : am_R} (hp : am_PF Pf) {x1 : Int32} {x2 : Int32} {x3 : Int32} (q1 : am_mth d 18 [.ref 112, .ref 135, .int x1] (am_SH, I, J, Pf) (am_af sc d 164 35 [some (.ref 0), some (.int x1), some (.int x2), some (.int x3)] [.int x1, .ref 135, .ref 112, .int x2] [.int x2] (am_SH, I, J, Pf) k n false P)) : am_go sc d 164 (25, [some (.ref 0), some (.int x1), some (.int x2), some (.int x3)], [], (am_SH, I, J, Pf), k, n) P := by
  refine am_s_iload_n rfl dc164_1.2.2.2 ?_
  refine am_s_aload_n rfl dc164_2.1.1.1 ?_
  refine am_s_getR (r := 112) dc164_2.1.1.2 rfl rfl rfl (hp _ _ _ rfl) ?_
  refine am_s_aload_n rfl dc164_2.1.2.1 ?_
  refine am_s_getR (r := 135) dc164_2.1.2.2 rfl rfl rfl (hp _ _ _ rfl) ?_
  refine am_s_iload_n rfl dc164_2.2.1.1 ?_
  exact am_s_virtual false dc164_2.2.1.2 rfl (by decide) rfl rfl rfl (q1)
theorem t164_38 {sc : Option (Nat × (Nat → Int32))} {d k n : Nat} {P : am_O → Prop} {I : am_I} {J : am_J} {Pf : am_R} (hp : am_PF Pf) {l1 : Option Value} {x2 : Int32} {x3 : Int32} {s0 : Int32} {s1 : Int32} (q1 : (s0 < s1) → am_in ((x2 * 3) + x3) 12 = true) (q2 : (s0 < s1) → P (.inl (some (.int (I 116 (Int32.toNatClampNeg ((x2 * 3) + x3))))), (am_SH, I, J, Pf), k, n)) (q3 : (¬ (s0 < s1)) → P (.inl (some (.int (-1))), (am_SH, I, J, Pf), k, n)) : am_go sc d 164 (38, [some (.ref 0), l1, some (.int x2), some (.int x3)], [.int s1, .int s0], (am_SH, I, J, Pf), k, n) P := by
  refine am_s_ic_lt dc164_2.2.2.1 rfl (fun c1 => ?_) (fun c1 => ?_)
  · refine am_s_aload_n rfl dc164_3.1.1.2 ?_
    refine am_s_getR (r := 112) dc164_3.1.2.1 rfl rfl rfl (hp _ _ _ rfl) ?_
    refine am_s_getR (r := 116) dc164_3.1.2.2 rfl rfl rfl (hp _ _ _ rfl) ?_
    refine am_s_iload_n rfl dc164_3.2.1.1 ?_
    refine am_s_iconst am_cc3 dc164_3.2.1.2 ?_
    refine am_s_imul dc164_3.2.2.1 ?_
    refine am_s_iload_n rfl dc164_3.2.2.2 ?_
    refine am_s_iadd dc164_4.1 ?_
    refine am_x_iaload (x := I 116 (Int32.toNatClampNeg ((x2 * 3) + x3))) dc164_4.2.1 rfl (q1 c1) rfl rfl ?_
    exact am_s_ireturn dc164_4.2.2 rfl (q2 c1)
  · refine am_s_iconst am_ccm1 dc164_2.2.2.2 ?_
    exact am_s_ireturn dc164_3.1.1.1 rfl (q3 c1)
-- body (II)I
theorem dc165_0 : (((decode (am_by 165) 0 = .ok (.aload_n 0, 1)) ∧ (decode (am_by 165) 1 = .ok (.iload_n 1, 1))) ∧ ((decode (am_by 165) 2 = .ok (.aload_n 0, 1)) ∧ (decode (am_by 165) 3 = .ok (.getfield 26, 3)))) ∧ (((decode (am_by 165) 6 = .ok (.getfield 172, 3)) ∧ (decode (am_by 165) 9 = .ok (.invokevirtual 203, 3))) ∧ ((decode (am_by 165) 12 = .ok (.aload_n 0, 1)) ∧ (decode (am_by 165) 13 = .ok (.iload_n 2, 1)))) := by decide +kernel
theorem dc165_1 : (((decode (am_by 165) 14 = .ok (.aload_n 0, 1)) ∧ (decode (am_by 165) 15 = .ok (.getfield 71, 3))) ∧ ((decode (am_by 165) 18 = .ok (.getfield 128, 3)) ∧ (decode (am_by 165) 21 = .ok (.invokevirtual 203, 3)))) ∧ (((decode (am_by 165) 24 = .ok (.aload_n 0, 1)) ∧ (decode (am_by 165) 25 = .ok (.getfield 71, 3))) ∧ ((decode (am_by 165) 28 = .ok (.aload_n 0, 1)) ∧ (decode (am_by 165) 29 = .ok (.getfield 26, 3)))) := by decide +kernel
theorem dc165_2 : (((decode (am_by 165) 32 = .ok (.iload_n 1, 1)) ∧ (decode (am_by 165) 33 = .ok (.iload_n 2, 1))) ∧ ((decode (am_by 165) 34 = .ok (.aload_n 0, 1)) ∧ (decode (am_by 165) 35 = .ok (.getfield 75, 3)))) ∧ (((decode (am_by 165) 38 = .ok (.invokevirtual 313, 3)) ∧ (decode (am_by 165) 41 = .ok (.iconst (-1), 1))) ∧ ((decode (am_by 165) 42 = .ok (.if_icmp .ne 7, 3)) ∧ (decode (am_by 165) 45 = .ok (.iconst (-1), 1)))) := by decide +kernel
theorem dc165_3 : ((decode (am_by 165) 46 = .ok (.goto 10, 3)) ∧ (decode (am_by 165) 49 = .ok (.aload_n 0, 1))) ∧ ((decode (am_by 165) 50 = .ok (.getfield 75, 3)) ∧ ((decode (am_by 165) 53 = .ok (.getfield 128, 3)) ∧ (decode (am_by 165) 56 = .ok (.ireturn, 1)))) := by decide +kernel
theorem t165_0 {sc : Option (Nat × (Nat → Int32))} {d k n : Nat} {P : am_O → Prop} {I : am_I} {J : am_J} {Pf : am_R} (hp : am_PF Pf) {x1 : Int32} {x2 : Int32} {r0_2 : Nat} (q1 : Pf 0 2 = some r0_2) (q2 : am_SH[r0_2]? = some (.inl 4)) (q3 : am_mth d 175 [.ref 0, .int x1, .int (I r0_2 9)] (am_SH, I, J, Pf) (am_af sc d 165 9 [some (.ref 0), some (.int x1), some (.int x2)] [.int (I r0_2 9), .int x1, .ref 0] [] (am_SH, I, J, Pf) k n true P)) : am_go sc d 165 (0, [some (.ref 0), some (.int x1), some (.int x2)], [], (am_SH, I, J, Pf), k, n) P := by
  refine am_s_aload_n rfl dc165_0.1.1.1 ?_
  refine am_s_iload_n rfl dc165_0.1.1.2 ?_
  refine am_s_aload_n rfl dc165_0.1.2.1 ?_
  refine am_s_getR (r := r0_2) dc165_0.1.2.2 rfl rfl rfl (q1) ?_
  refine am_x_getI (x := I r0_2 9) dc165_0.2.1.1 rfl (q2) (Or.inl rfl) rfl ?_
  exact am_s_virtual true dc165_0.2.1.2 rfl (by decide) rfl rfl rfl (q3)
theorem t165_12 {sc : Option (Nat × (Nat → Int32))} {d k n : Nat} {P : am_O → Prop} {I : am_I} {J : am_J} {Pf : am_R} (hp : am_PF Pf) {x1 : Int32} {x2 : Int32} (q1 : am_mth d 175 [.ref 0, .int x2, .int (I 135 1)] (am_SH, I, J, Pf) (am_af sc d 165 21 [some (.ref 0), some (.int x1), some (.int x2)] [.int (I 135 1), .int x2, .ref 0] [] (am_SH, I, J, Pf) k n true P)) : am_go sc d 165 (12, [some (.ref 0), some (.int x1), some (.int x2)], [], (am_SH, I, J, Pf), k, n) P := by
  refine am_s_aload_n rfl dc165_0.2.2.1 ?_
  refine am_s_iload_n rfl dc165_0.2.2.2 ?_
  refine am_s_aload_n rfl dc165_1.1.1.1 ?_
  refine am_s_getR (r := 135) dc165_1.1.1.2 rfl rfl rfl (hp _ _ _ rfl) ?_
  refine am_x_getI (x := I 135 1) dc165_1.1.2.1 rfl rfl (Or.inl rfl) rfl ?_
  exact am_s_virtual true dc165_1.1.2.2 rfl (by decide) rfl rfl rfl (q1)
theorem t165_24 {sc : Option (Nat × (Nat → Int32))} {d k n : Nat} {P : am_O → Prop} {I : am_I} {J : am_J} {Pf : am_R} (hp : am_PF Pf) {x1 : Int32} {x2 : Int32} {r0_2 : Nat} (q1 : Pf 0 2 = some r0_2) (q2 : am_SH[r0_2]? = some (.inl 4)) (q3 : am_mth d 115 [.ref 135, .ref r0_2, .int x1, .int x2, .ref 140] (am_SH, I, J, Pf) (am_af sc d 165 38 [some (.ref 0), some (.int x1), some (.int x2)] [.ref 140, .int x2, .int x1, .ref r0_2, .ref 135] [] (am_SH, I, J, Pf) k n false P)) : am_go sc d 165 (24, [some (.ref 0), some (.int x1), some (.int x2)], [], (am_SH, I, J, Pf), k, n) P := by
  refine am_s_aload_n rfl dc165_1.2.1.1 ?_
  refine am_s_getR (r := 135) dc165_1.2.1.2 rfl rfl rfl (hp _ _ _ rfl) ?_
  refine am_s_aload_n rfl dc165_1.2.2.1 ?_
  refine am_s_getR (r := r0_2) dc165_1.2.2.2 rfl rfl rfl (q1) ?_
  refine am_s_iload_n rfl dc165_2.1.1.1 ?_
  refine am_s_iload_n rfl dc165_2.1.1.2 ?_
  refine am_s_aload_n rfl dc165_2.1.2.1 ?_
  refine am_s_getR (r := 140) dc165_2.1.2.2 rfl rfl rfl (hp _ _ _ rfl) ?_
  exact am_s_virtual false dc165_2.2.1.1 rfl (by decide) rfl rfl rfl (q3)
theorem t165_41 {sc : Option (Nat × (Nat → Int32))} {d k n : Nat} {P : am_O → Prop} {I : am_I} {J : am_J} {Pf : am_R} (hp : am_PF Pf) {l1 : Option Value} {l2 : Option Value} {s0 : Int32} (q1 : (¬ s0 = (-1)) → P (.inl (some (.int (I 140 1))), (am_SH, I, J, Pf), k, n)) (q2 : (¬ (¬ s0 = (-1))) → P (.inl (some (.int (-1))), (am_SH, I, J, Pf), k, n)) : am_go sc d 165 (41, [some (.ref 0), l1, l2], [.int s0], (am_SH, I, J, Pf), k, n) P := by
  refine am_s_iconst am_ccm1 dc165_2.2.1.2 ?_
  refine am_s_ic_ne dc165_2.2.2.1 rfl (fun c1 => ?_) (fun c1 => ?_)
  · refine am_s_aload_n rfl dc165_3.1.2 ?_
    refine am_s_getR (r := 140) dc165_3.2.1 rfl rfl rfl (hp _ _ _ rfl) ?_
    refine am_x_getI (x := I 140 1) dc165_3.2.2.1 rfl rfl (Or.inl rfl) rfl ?_
    exact am_s_ireturn dc165_3.2.2.2 rfl (q1 c1)
  · refine am_s_iconst am_ccm1 dc165_2.2.2.2 ?_
    refine am_s_goto rfl dc165_3.1.1 ?_
    exact am_s_ireturn dc165_3.2.2.2 rfl (q2 c1)
-- inside (III)I
theorem dc166_0 : (((decode (am_by 166) 0 = .ok (.aload_n 0, 1)) ∧ (decode (am_by 166) 1 = .ok (.iload_n 1, 1))) ∧ ((decode (am_by 166) 2 = .ok (.aload_n 0, 1)) ∧ (decode (am_by 166) 3 = .ok (.getfield 26, 3)))) ∧ (((decode (am_by 166) 6 = .ok (.getfield 172, 3)) ∧ (decode (am_by 166) 9 = .ok (.invokevirtual 203, 3))) ∧ ((decode (am_by 166) 12 = .ok (.aload_n 0, 1)) ∧ (decode (am_by 166) 13 = .ok (.iload_n 2, 1)))) := by decide +kernel
theorem dc166_1 : (((decode (am_by 166) 14 = .ok (.aload_n 0, 1)) ∧ (decode (am_by 166) 15 = .ok (.getfield 71, 3))) ∧ ((decode (am_by 166) 18 = .ok (.getfield 128, 3)) ∧ (decode (am_by 166) 21 = .ok (.invokevirtual 203, 3)))) ∧ (((decode (am_by 166) 24 = .ok (.aload_n 0, 1)) ∧ (decode (am_by 166) 25 = .ok (.iload_n 3, 1))) ∧ ((decode (am_by 166) 26 = .ok (.iconst 0, 1)) ∧ (decode (am_by 166) 27 = .ok (.ldc_w 294, 3)))) := by decide +kernel
theorem dc166_2 : (((decode (am_by 166) 30 = .ok (.invokevirtual 102, 3)) ∧ (decode (am_by 166) 33 = .ok (.aload_n 0, 1))) ∧ ((decode (am_by 166) 34 = .ok (.getfield 71, 3)) ∧ (decode (am_by 166) 37 = .ok (.aload_n 0, 1)))) ∧ (((decode (am_by 166) 38 = .ok (.getfield 26, 3)) ∧ (decode (am_by 166) 41 = .ok (.iload_n 1, 1))) ∧ ((decode (am_by 166) 42 = .ok (.iload_n 2, 1)) ∧ (decode (am_by 166) 43 = .ok (.aload_n 0, 1)))) := by decide +kernel
theorem dc166_3 : (((decode (am_by 166) 44 = .ok (.getfield 75, 3)) ∧ (decode (am_by 166) 47 = .ok (.invokevirtual 313, 3))) ∧ ((decode (am_by 166) 50 = .ok (.iconst (-1), 1)) ∧ (decode (am_by 166) 51 = .ok (.if_icmp .ne 5, 3)))) ∧ (((decode (am_by 166) 54 = .ok (.iconst (-1), 1)) ∧ (decode (am_by 166) 55 = .ok (.ireturn, 1))) ∧ ((decode (am_by 166) 56 = .ok (.iload_n 3, 1)) ∧ (decode (am_by 166) 57 = .ok (.aload_n 0, 1)))) := by decide +kernel
theorem dc166_4 : (((decode (am_by 166) 58 = .ok (.getfield 75, 3)) ∧ (decode (am_by 166) 61 = .ok (.getfield 128, 3))) ∧ ((decode (am_by 166) 64 = .ok (.if_icmp .ge 15, 3)) ∧ (decode (am_by 166) 67 = .ok (.aload_n 0, 1)))) ∧ (((decode (am_by 166) 68 = .ok (.getfield 75, 3)) ∧ (decode (am_by 166) 71 = .ok (.getfield 268, 3))) ∧ ((decode (am_by 166) 74 = .ok (.iload_n 3, 1)) ∧ (decode (am_by 166) 75 = .ok (.iaload, 1)))) := by decide +kernel
theorem dc166_5 : (decode (am_by 166) 76 = .ok (.goto 4, 3)) ∧ ((decode (am_by 166) 79 = .ok (.iconst (-1), 1)) ∧ (decode (am_by 166) 80 = .ok (.ireturn, 1))) := by decide +kernel
theorem t166_0 {sc : Option (Nat × (Nat → Int32))} {d k n : Nat} {P : am_O → Prop} {I : am_I} {J : am_J} {Pf : am_R} (hp : am_PF Pf) {x1 : Int32} {x2 : Int32} {x3 : Int32} {r0_2 : Nat} (q1 : Pf 0 2 = some r0_2) (q2 : am_SH[r0_2]? = some (.inl 4)) (q3 : am_mth d 175 [.ref 0, .int x1, .int (I r0_2 9)] (am_SH, I, J, Pf) (am_af sc d 166 9 [some (.ref 0), some (.int x1), some (.int x2), some (.int x3)] [.int (I r0_2 9), .int x1, .ref 0] [] (am_SH, I, J, Pf) k n true P)) : am_go sc d 166 (0, [some (.ref 0), some (.int x1), some (.int x2), some (.int x3)], [], (am_SH, I, J, Pf), k, n) P := by
  refine am_s_aload_n rfl dc166_0.1.1.1 ?_
  refine am_s_iload_n rfl dc166_0.1.1.2 ?_
  refine am_s_aload_n rfl dc166_0.1.2.1 ?_
  refine am_s_getR (r := r0_2) dc166_0.1.2.2 rfl rfl rfl (q1) ?_
  refine am_x_getI (x := I r0_2 9) dc166_0.2.1.1 rfl (q2) (Or.inl rfl) rfl ?_
  exact am_s_virtual true dc166_0.2.1.2 rfl (by decide) rfl rfl rfl (q3)
theorem t166_12 {sc : Option (Nat × (Nat → Int32))} {d k n : Nat} {P : am_O → Prop} {I : am_I} {J : am_J} {Pf : am_R} (hp : am_PF Pf) {x1 : Int32} {x2 : Int32} {x3 : Int32} (q1 : am_mth d 175 [.ref 0, .int x2, .int (I 135 1)] (am_SH, I, J, Pf) (am_af sc d 166 21 [some (.ref 0), some (.int x1), some (.int x2), some (.int x3)] [.int (I 135 1), .int x2, .ref 0] [] (am_SH, I, J, Pf) k n true P)) : am_go sc d 166 (12, [some (.ref 0), some (.int x1), some (.int x2), some (.int x3)], [], (am_SH, I, J, Pf), k, n) P := by
  refine am_s_aload_n rfl dc166_0.2.2.1 ?_
  refine am_s_iload_n rfl dc166_0.2.2.2 ?_
  refine am_s_aload_n rfl dc166_1.1.1.1 ?_
  refine am_s_getR (r := 135) dc166_1.1.1.2 rfl rfl rfl (hp _ _ _ rfl) ?_
  refine am_x_getI (x := I 135 1) dc166_1.1.2.1 rfl rfl (Or.inl rfl) rfl ?_
  exact am_s_virtual true dc166_1.1.2.2 rfl (by decide) rfl rfl rfl (q1)
theorem t166_24 {sc : Option (Nat × (Nat → Int32))} {d k n : Nat} {P : am_O → Prop} {I : am_I} {J : am_J} {Pf : am_R} (hp : am_PF Pf) {x1 : Int32} {x2 : Int32} {x3 : Int32} (q1 : am_mth d 176 [.ref 0, .int x3, .int 0, .int 2147483647] (am_SH, I, J, Pf) (am_af sc d 166 30 [some (.ref 0), some (.int x1), some (.int x2), some (.int x3)] [.int 2147483647, .int 0, .int x3, .ref 0] [] (am_SH, I, J, Pf) k n true P)) : am_go sc d 166 (24, [some (.ref 0), some (.int x1), some (.int x2), some (.int x3)], [], (am_SH, I, J, Pf), k, n) P := by
  refine am_s_aload_n rfl dc166_1.2.1.1 ?_
  refine am_s_iload_n rfl dc166_1.2.1.2 ?_
  refine am_s_iconst am_cc0 dc166_1.2.2.1 ?_
  refine am_s_ldcw (x := 2147483647) dc166_1.2.2.2 rfl rfl rfl ?_
  exact am_s_virtual true dc166_2.1.1.1 rfl (by decide) rfl rfl rfl (q1)
theorem t166_33 {sc : Option (Nat × (Nat → Int32))} {d k n : Nat} {P : am_O → Prop} {I : am_I} {J : am_J} {Pf : am_R} (hp : am_PF Pf) {x1 : Int32} {x2 : Int32} {x3 : Int32} {r0_2 : Nat} (q1 : Pf 0 2 = some r0_2) (q2 : am_SH[r0_2]? = some (.inl 4)) (q3 : am_mth d 115 [.ref 135, .ref r0_2, .int x1, .int x2, .ref 140] (am_SH, I, J, Pf) (am_af sc d 166 47 [some (.ref 0), some (.int x1), some (.int x2), some (.int x3)] [.ref 140, .int x2, .int x1, .ref r0_2, .ref 135] [] (am_SH, I, J, Pf) k n false P)) : am_go sc d 166 (33, [some (.ref 0), some (.int x1), some (.int x2), some (.int x3)], [], (am_SH, I, J, Pf), k, n) P := by
  refine am_s_aload_n rfl dc166_2.1.1.2 ?_
  refine am_s_getR (r := 135) dc166_2.1.2.1 rfl rfl rfl (hp _ _ _ rfl) ?_
  refine am_s_aload_n rfl dc166_2.1.2.2 ?_
  refine am_s_getR (r := r0_2) dc166_2.2.1.1 rfl rfl rfl (q1) ?_
  refine am_s_iload_n rfl dc166_2.2.1.2 ?_
  refine am_s_iload_n rfl dc166_2.2.2.1 ?_
  refine am_s_aload_n rfl dc166_2.2.2.2 ?_
  refine am_s_getR (r := 140) dc166_3.1.1.1 rfl rfl rfl (hp _ _ _ rfl) ?_
  exact am_s_virtual false dc166_3.1.1.2 rfl (by decide) rfl rfl rfl (q3)
theorem t166_50 {sc : Option (Nat × (Nat → Int32))} {d k n : Nat} {P : am_O → Prop} {I : am_I} {J : am_J} {Pf : am_R} (hp : am_PF Pf) {l1 : Option Value} {l2 : Option Value} {x3 : Int32} {s0 : Int32} (q1 : (¬ s0 = (-1)) → ((I 140 1) ≤ x3) → P (.inl (some (.int (-1))), (am_SH, I, J, Pf), k, n)) (q2 : (¬ s0 = (-1)) → (¬ ((I 140 1) ≤ x3)) → am_in x3 24 = true) (q3 : (¬ s0 = (-1)) → (¬ ((I 140 1) ≤ x3)) → P (.inl (some (.int (I 141 (Int32.toNatClampNeg x3)))), (am_SH, I, J, Pf), k, n)) (q4 : (¬ (¬ s0 = (-1))) → P (.inl (some (.int (-1))), (am_SH, I, J, Pf), k, n)) : am_go sc d 166 (50, [some (.ref 0), l1, l2, some (.int x3)], [.int s0], (am_SH, I, J, Pf), k, n) P := by
  refine am_s_iconst am_ccm1 dc166_3.1.2.1 ?_
  refine am_s_ic_ne dc166_3.1.2.2 rfl (fun c1 => ?_) (fun c1 => ?_)
  · refine am_s_iload_n rfl dc166_3.2.2.1 ?_
    refine am_s_aload_n rfl dc166_3.2.2.2 ?_
    refine am_s_getR (r := 140) dc166_4.1.1.1 rfl rfl rfl (hp _ _ _ rfl) ?_
    refine am_x_getI (x := I 140 1) dc166_4.1.1.2 rfl rfl (Or.inl rfl) rfl ?_
    refine am_s_ic_ge dc166_4.1.2.1 rfl (fun c2 => ?_) (fun c2 => ?_)
    · refine am_s_iconst am_ccm1 dc166_5.2.1 ?_
      exact am_s_ireturn dc166_5.2.2 rfl (q1 c1 c2)
    · refine am_s_aload_n rfl dc166_4.1.2.2 ?_
      refine am_s_getR (r := 140) dc166_4.2.1.1 rfl rfl rfl (hp _ _ _ rfl) ?_
      refine am_s_getR (r := 141) dc166_4.2.1.2 rfl rfl rfl (hp _ _ _ rfl) ?_
      refine am_s_iload_n rfl dc166_4.2.2.1 ?_
      refine am_x_iaload (x := I 141 (Int32.toNatClampNeg x3)) dc166_4.2.2.2 rfl (q2 c1 c2) rfl rfl ?_
      refine am_s_goto rfl dc166_5.1 ?_
      exact am_s_ireturn dc166_5.2.2 rfl (q3 c1 c2)
  · refine am_s_iconst am_ccm1 dc166_3.2.1.1 ?_
    exact am_s_ireturn dc166_3.2.1.2 rfl (q4 c1)
-- fits (III)I
theorem dc167_0 : (((decode (am_by 167) 0 = .ok (.aload_n 0, 1)) ∧ (decode (am_by 167) 1 = .ok (.iload_n 2, 1))) ∧ ((decode (am_by 167) 2 = .ok (.aload_n 0, 1)) ∧ (decode (am_by 167) 3 = .ok (.getfield 71, 3)))) ∧ (((decode (am_by 167) 6 = .ok (.getfield 128, 3)) ∧ (decode (am_by 167) 9 = .ok (.invokevirtual 203, 3))) ∧ ((decode (am_by 167) 12 = .ok (.aload_n 0, 1)) ∧ (decode (am_by 167) 13 = .ok (.iload_n 1, 1)))) := by decide +kernel
theorem dc167_1 : (((decode (am_by 167) 14 = .ok (.invokevirtual 250, 3)) ∧ (decode (am_by 167) 17 = .ok (.aload_n 0, 1))) ∧ ((decode (am_by 167) 18 = .ok (.iload_n 3, 1)) ∧ (decode (am_by 167) 19 = .ok (.iconst 0, 1)))) ∧ (((decode (am_by 167) 20 = .ok (.iconst 2, 1)) ∧ (decode (am_by 167) 21 = .ok (.invokevirtual 102, 3))) ∧ ((decode (am_by 167) 24 = .ok (.aload_n 0, 1)) ∧ (decode (am_by 167) 25 = .ok (.getfield 64, 3)))) := by decide +kernel
theorem dc167_2 : (((decode (am_by 167) 28 = .ok (.aload_n 0, 1)) ∧ (decode (am_by 167) 29 = .ok (.getfield 71, 3))) ∧ ((decode (am_by 167) 32 = .ok (.aload_n 0, 1)) ∧ (decode (am_by 167) 33 = .ok (.getfield 75, 3)))) ∧ (((decode (am_by 167) 36 = .ok (.iload_n 1, 1)) ∧ (decode (am_by 167) 37 = .ok (.iload_n 2, 1))) ∧ ((decode (am_by 167) 38 = .ok (.invokevirtual 317, 3)) ∧ (decode (am_by 167) 41 = .ok (.astore 4, 2)))) := by decide +kernel
theorem dc167_3 : (((decode (am_by 167) 43 = .ok (.aload 4, 2)) ∧ (decode (am_by 167) 45 = .ok (.invokevirtual 211, 3))) ∧ ((decode (am_by 167) 48 = .ok (.istore 5, 2)) ∧ (decode (am_by 167) 50 = .ok (.iload_n 3, 1)))) ∧ (((decode (am_by 167) 51 = .ok (.ifCond .ne 6, 3)) ∧ (decode (am_by 167) 54 = .ok (.iload 5, 2))) ∧ ((decode (am_by 167) 56 = .ok (.ireturn, 1)) ∧ (decode (am_by 167) 57 = .ok (.iload 5, 2)))) := by decide +kernel
theorem dc167_4 : (((decode (am_by 167) 59 = .ok (.ifCond .ne 5, 3)) ∧ (decode (am_by 167) 62 = .ok (.iconst (-1), 1))) ∧ ((decode (am_by 167) 63 = .ok (.ireturn, 1)) ∧ (decode (am_by 167) 64 = .ok (.iload_n 3, 1)))) ∧ (((decode (am_by 167) 65 = .ok (.iconst 1, 1)) ∧ (decode (am_by 167) 66 = .ok (.if_icmp .ne 11, 3))) ∧ ((decode (am_by 167) 69 = .ok (.aload 4, 2)) ∧ (decode (am_by 167) 71 = .ok (.invokevirtual 216, 3)))) := by decide +kernel
theorem dc167_5 : ((decode (am_by 167) 74 = .ok (.goto 12, 3)) ∧ ((decode (am_by 167) 77 = .ok (.aload_n 0, 1)) ∧ (decode (am_by 167) 78 = .ok (.getfield 26, 3)))) ∧ ((decode (am_by 167) 81 = .ok (.aload 4, 2)) ∧ ((decode (am_by 167) 83 = .ok (.invokevirtual 321, 3)) ∧ (decode (am_by 167) 86 = .ok (.ireturn, 1)))) := by decide +kernel
theorem t167_0 {sc : Option (Nat × (Nat → Int32))} {d k n : Nat} {P : am_O → Prop} {I : am_I} {J : am_J} {Pf : am_R} (hp : am_PF Pf) {x1 : Int32} {x2 : Int32} {x3 : Int32} {l4 : Option Value} {l5 : Option Value} (q1 : am_mth d 175 [.ref 0, .int x2, .int (I 135 1)] (am_SH, I, J, Pf) (am_af sc d 167 9 [some (.ref 0), some (.int x1), some (.int x2), some (.int x3), l4, l5] [.int (I 135 1), .int x2, .ref 0] [] (am_SH, I, J, Pf) k n true P)) : am_go sc d 167 (0, [some (.ref 0), some (.int x1), some (.int x2), some (.int x3), l4, l5], [], (am_SH, I, J, Pf), k, n) P := by
  refine am_s_aload_n rfl dc167_0.1.1.1 ?_
  refine am_s_iload_n rfl dc167_0.1.1.2 ?_
  refine am_s_aload_n rfl dc167_0.1.2.1 ?_
  refine am_s_getR (r := 135) dc167_0.1.2.2 rfl rfl rfl (hp _ _ _ rfl) ?_
  refine am_x_getI (x := I 135 1) dc167_0.2.1.1 rfl rfl (Or.inl rfl) rfl ?_
  exact am_s_virtual true dc167_0.2.1.2 rfl (by decide) rfl rfl rfl (q1)
theorem t167_12 {sc : Option (Nat × (Nat → Int32))} {d k n : Nat} {P : am_O → Prop} {I : am_I} {J : am_J} {Pf : am_R} (hp : am_PF Pf) {x1 : Int32} {x2 : Int32} {x3 : Int32} {l4 : Option Value} {l5 : Option Value} (q1 : am_mth d 177 [.ref 0, .int x1] (am_SH, I, J, Pf) (am_af sc d 167 14 [some (.ref 0), some (.int x1), some (.int x2), some (.int x3), l4, l5] [.int x1, .ref 0] [] (am_SH, I, J, Pf) k n true P)) : am_go sc d 167 (12, [some (.ref 0), some (.int x1), some (.int x2), some (.int x3), l4, l5], [], (am_SH, I, J, Pf), k, n) P := by
  refine am_s_aload_n rfl dc167_0.2.2.1 ?_
  refine am_s_iload_n rfl dc167_0.2.2.2 ?_
  exact am_s_virtual true dc167_1.1.1.1 rfl (by decide) rfl rfl rfl (q1)
theorem t167_17 {sc : Option (Nat × (Nat → Int32))} {d k n : Nat} {P : am_O → Prop} {I : am_I} {J : am_J} {Pf : am_R} (hp : am_PF Pf) {x1 : Int32} {x2 : Int32} {x3 : Int32} {l4 : Option Value} {l5 : Option Value} (q1 : am_mth d 176 [.ref 0, .int x3, .int 0, .int 2] (am_SH, I, J, Pf) (am_af sc d 167 21 [some (.ref 0), some (.int x1), some (.int x2), some (.int x3), l4, l5] [.int 2, .int 0, .int x3, .ref 0] [] (am_SH, I, J, Pf) k n true P)) : am_go sc d 167 (17, [some (.ref 0), some (.int x1), some (.int x2), some (.int x3), l4, l5], [], (am_SH, I, J, Pf), k, n) P := by
  refine am_s_aload_n rfl dc167_1.1.1.2 ?_
  refine am_s_iload_n rfl dc167_1.1.2.1 ?_
  refine am_s_iconst am_cc0 dc167_1.1.2.2 ?_
  refine am_s_iconst am_cc2 dc167_1.2.1.1 ?_
  exact am_s_virtual true dc167_1.2.1.2 rfl (by decide) rfl rfl rfl (q1)
theorem t167_24 {sc : Option (Nat × (Nat → Int32))} {d k n : Nat} {P : am_O → Prop} {I : am_I} {J : am_J} {Pf : am_R} (hp : am_PF Pf) {x1 : Int32} {x2 : Int32} {x3 : Int32} {l4 : Option Value} {l5 : Option Value} (q1 : am_mth d 17 [.ref 112, .ref 135, .ref 140, .int x1, .int x2] (am_SH, I, J, Pf) (am_af sc d 167 38 [some (.ref 0), some (.int x1), some (.int x2), some (.int x3), l4, l5] [.int x2, .int x1, .ref 140, .ref 135, .ref 112] [] (am_SH, I, J, Pf) k n false P)) : am_go sc d 167 (24, [some (.ref 0), some (.int x1), some (.int x2), some (.int x3), l4, l5], [], (am_SH, I, J, Pf), k, n) P := by
  refine am_s_aload_n rfl dc167_1.2.2.1 ?_
  refine am_s_getR (r := 112) dc167_1.2.2.2 rfl rfl rfl (hp _ _ _ rfl) ?_
  refine am_s_aload_n rfl dc167_2.1.1.1 ?_
  refine am_s_getR (r := 135) dc167_2.1.1.2 rfl rfl rfl (hp _ _ _ rfl) ?_
  refine am_s_aload_n rfl dc167_2.1.2.1 ?_
  refine am_s_getR (r := 140) dc167_2.1.2.2 rfl rfl rfl (hp _ _ _ rfl) ?_
  refine am_s_iload_n rfl dc167_2.2.1.1 ?_
  refine am_s_iload_n rfl dc167_2.2.1.2 ?_
  exact am_s_virtual false dc167_2.2.2.1 rfl (by decide) rfl rfl rfl (q1)
theorem t167_41 {sc : Option (Nat × (Nat → Int32))} {d k n : Nat} {P : am_O → Prop} {I : am_I} {J : am_J} {Pf : am_R} (hp : am_PF Pf) {l1 : Option Value} {l2 : Option Value} {x3 : Int32} {l4 : Option Value} {l5 : Option Value} {s0 : Nat} (hs0 : am_SH[s0]? = some (.inl 6)) (q1 : am_mth d 83 [.ref s0] (am_SH, I, J, Pf) (am_af sc d 167 45 [some (.ref 0), l1, l2, some (.int x3), some (.ref s0), l5] [.ref s0] [] (am_SH, I, J, Pf) k n false P)) : am_go sc d 167 (41, [some (.ref 0), l1, l2, some (.int x3), l4, l5], [.ref s0], (am_SH, I, J, Pf), k, n) P := by
  refine am_s_astore (ls' := [some (.ref 0), l1, l2, some (.int x3), some (.ref s0), l5]) rfl rfl dc167_2.2.2.2 ?_
  refine am_s_aload rfl dc167_3.1.1.1 ?_
  exact am_s_virtual false dc167_3.1.1.2 rfl (by decide) rfl hs0 rfl (q1)
theorem t167_48 {sc : Option (Nat × (Nat → Int32))} {d k n : Nat} {P : am_O → Prop} {I : am_I} {J : am_J} {Pf : am_R} (hp : am_PF Pf) {l1 : Option Value} {l2 : Option Value} {x3 : Int32} {x4 : Nat} (hx4 : am_SH[x4]? = some (.inl 6)) {l5 : Option Value} {s0 : Int32} {r0_2 : Nat} (q1 : (¬ x3 = 0) → (¬ s0 = 0) → (¬ x3 = 1) → Pf 0 2 = some r0_2) (q2 : (¬ x3 = 0) → (¬ s0 = 0) → (¬ x3 = 1) → am_SH[r0_2]? = some (.inl 4)) (q3 : (¬ x3 = 0) → (¬ s0 = 0) → (¬ x3 = 1) → am_mth d 68 [.ref r0_2, .ref x4] (am_SH, I, J, Pf) (am_af sc d 167 83 [some (.ref 0), l1, l2, some (.int x3), some (.ref x4), some (.int s0)] [.ref x4, .ref r0_2] [] (am_SH, I, J, Pf) k n false P)) (q4 : (¬ x3 = 0) → (¬ s0 = 0) → (¬ (¬ x3 = 1)) → am_mth d 87 [.ref x4] (am_SH, I, J, Pf) (am_af sc d 167 71 [some (.ref 0), l1, l2, some (.int x3), some (.ref x4), some (.int s0)] [.ref x4] [] (am_SH, I, J, Pf) k n false P)) (q5 : (¬ x3 = 0) → (¬ (¬ s0 = 0)) → P (.inl (some (.int (-1))), (am_SH, I, J, Pf), k, n)) (q6 : (¬ (¬ x3 = 0)) → P (.inl (some (.int s0)), (am_SH, I, J, Pf), k, n)) : am_go sc d 167 (48, [some (.ref 0), l1, l2, some (.int x3), some (.ref x4), l5], [.int s0], (am_SH, I, J, Pf), k, n) P := by
  refine am_s_istore (ls' := [some (.ref 0), l1, l2, some (.int x3), some (.ref x4), some (.int s0)]) rfl rfl dc167_3.1.2.1 ?_
  refine am_s_iload_n rfl dc167_3.1.2.2 ?_
  refine am_s_if_ne dc167_3.2.1.1 rfl (fun c1 => ?_) (fun c1 => ?_)
  · refine am_s_iload rfl dc167_3.2.2.2 ?_
    refine am_s_if_ne dc167_4.1.1.1 rfl (fun c2 => ?_) (fun c2 => ?_)
    · refine am_s_iload_n rfl dc167_4.1.2.2 ?_
      refine am_s_iconst am_cc1 dc167_4.2.1.1 ?_
      refine am_s_ic_ne dc167_4.2.1.2 rfl (fun c3 => ?_) (fun c3 => ?_)
      · refine am_s_aload_n rfl dc167_5.1.2.1 ?_
        refine am_s_getR (r := r0_2) dc167_5.1.2.2 rfl rfl rfl (q1 c1 c2 c3) ?_
        refine am_s_aload rfl dc167_5.2.1 ?_
        exact am_s_virtual false dc167_5.2.2.1 rfl (by decide) rfl (q2 c1 c2 c3) rfl (q3 c1 c2 c3)
      · refine am_s_aload rfl dc167_4.2.2.1 ?_
        exact am_s_virtual false dc167_4.2.2.2 rfl (by decide) rfl hx4 rfl (q4 c1 c2 c3)
    · refine am_s_iconst am_ccm1 dc167_4.1.1.2 ?_
      exact am_s_ireturn dc167_4.1.2.1 rfl (q5 c1 c2)
  · refine am_s_iload rfl dc167_3.2.1.2 ?_
    exact am_s_ireturn dc167_3.2.2.1 rfl (q6 c1)
theorem t167_74 {sc : Option (Nat × (Nat → Int32))} {d k n : Nat} {P : am_O → Prop} {I : am_I} {J : am_J} {Pf : am_R} (hp : am_PF Pf) {l0 : Option Value} {l1 : Option Value} {l2 : Option Value} {l3 : Option Value} {l4 : Option Value} {l5 : Option Value} {s0 : Int32} (q1 : P (.inl (some (.int s0)), (am_SH, I, J, Pf), k, n)) : am_go sc d 167 (74, [l0, l1, l2, l3, l4, l5], [.int s0], (am_SH, I, J, Pf), k, n) P := by
  refine am_s_goto rfl dc167_5.1.1 ?_
  exact am_s_ireturn dc167_5.2.2.2 rfl (q1)
theorem t167_86 {sc : Option (Nat × (Nat → Int32))} {d k n : Nat} {P : am_O → Prop} {I : am_I} {J : am_J} {Pf : am_R} (hp : am_PF Pf) {l0 : Option Value} {l1 : Option Value} {l2 : Option Value} {l3 : Option Value} {l4 : Option Value} {l5 : Option Value} {s0 : Int32} (q1 : P (.inl (some (.int s0)), (am_SH, I, J, Pf), k, n)) : am_go sc d 167 (86, [l0, l1, l2, l3, l4, l5], [.int s0], (am_SH, I, J, Pf), k, n) P := by
  exact am_s_ireturn dc167_5.2.2.2 rfl (q1)
-- commonest (I)I
theorem dc168_0 : (((decode (am_by 168) 0 = .ok (.aload_n 0, 1)) ∧ (decode (am_by 168) 1 = .ok (.iload_n 1, 1))) ∧ ((decode (am_by 168) 2 = .ok (.iconst 0, 1)) ∧ (decode (am_by 168) 3 = .ok (.iconst 1, 1)))) ∧ (((decode (am_by 168) 4 = .ok (.invokevirtual 102, 3)) ∧ (decode (am_by 168) 7 = .ok (.aload_n 0, 1))) ∧ ((decode (am_by 168) 8 = .ok (.invokevirtual 193, 3)) ∧ (decode (am_by 168) 11 = .ok (.iconst 0, 1)))) := by decide +kernel
theorem dc168_1 : (((decode (am_by 168) 12 = .ok (.istore_n 2, 1)) ∧ (decode (am_by 168) 13 = .ok (.iconst 1, 1))) ∧ ((decode (am_by 168) 14 = .ok (.istore_n 3, 1)) ∧ (decode (am_by 168) 15 = .ok (.iload_n 3, 1)))) ∧ (((decode (am_by 168) 16 = .ok (.bipush 8, 2)) ∧ (decode (am_by 168) 18 = .ok (.if_icmp .ge 30, 3))) ∧ ((decode (am_by 168) 21 = .ok (.aload_n 0, 1)) ∧ (decode (am_by 168) 22 = .ok (.getfield 71, 3)))) := by decide +kernel
theorem dc168_2 : (((decode (am_by 168) 25 = .ok (.iload_n 3, 1)) ∧ (decode (am_by 168) 26 = .ok (.invokevirtual 302, 3))) ∧ ((decode (am_by 168) 29 = .ok (.aload_n 0, 1)) ∧ (decode (am_by 168) 30 = .ok (.getfield 71, 3)))) ∧ (((decode (am_by 168) 33 = .ok (.iload_n 2, 1)) ∧ (decode (am_by 168) 34 = .ok (.invokevirtual 302, 3))) ∧ ((decode (am_by 168) 37 = .ok (.if_icmp .le 5, 3)) ∧ (decode (am_by 168) 40 = .ok (.iload_n 3, 1)))) := by decide +kernel
theorem dc168_3 : (((decode (am_by 168) 41 = .ok (.istore_n 2, 1)) ∧ (decode (am_by 168) 42 = .ok (.iinc 3 1, 3))) ∧ ((decode (am_by 168) 45 = .ok (.goto (-30), 3)) ∧ (decode (am_by 168) 48 = .ok (.iload_n 1, 1)))) ∧ (((decode (am_by 168) 49 = .ok (.ifCond .ne 7, 3)) ∧ (decode (am_by 168) 52 = .ok (.iload_n 2, 1))) ∧ ((decode (am_by 168) 53 = .ok (.goto 11, 3)) ∧ (decode (am_by 168) 56 = .ok (.aload_n 0, 1)))) := by decide +kernel
theorem dc168_4 : ((decode (am_by 168) 57 = .ok (.getfield 71, 3)) ∧ (decode (am_by 168) 60 = .ok (.iload_n 2, 1))) ∧ ((decode (am_by 168) 61 = .ok (.invokevirtual 302, 3)) ∧ (decode (am_by 168) 64 = .ok (.ireturn, 1))) := by decide +kernel
theorem t168_0 {sc : Option (Nat × (Nat → Int32))} {d k n : Nat} {P : am_O → Prop} {I : am_I} {J : am_J} {Pf : am_R} (hp : am_PF Pf) {x1 : Int32} {l2 : Option Value} {l3 : Option Value} (q1 : am_mth d 176 [.ref 0, .int x1, .int 0, .int 1] (am_SH, I, J, Pf) (am_af sc d 168 4 [some (.ref 0), some (.int x1), l2, l3] [.int 1, .int 0, .int x1, .ref 0] [] (am_SH, I, J, Pf) k n true P)) : am_go sc d 168 (0, [some (.ref 0), some (.int x1), l2, l3], [], (am_SH, I, J, Pf), k, n) P := by
  refine am_s_aload_n rfl dc168_0.1.1.1 ?_
  refine am_s_iload_n rfl dc168_0.1.1.2 ?_
  refine am_s_iconst am_cc0 dc168_0.1.2.1 ?_
  refine am_s_iconst am_cc1 dc168_0.1.2.2 ?_
  exact am_s_virtual true dc168_0.2.1.1 rfl (by decide) rfl rfl rfl (q1)
theorem t168_15 {sc : Option (Nat × (Nat → Int32))} {d k n : Nat} {P : am_O → Prop} {I : am_I} {J : am_J} {Pf : am_R} (hp : am_PF Pf) {x1 : Int32} {x2 : Int32} {x3 : Int32} (q1 : (8 ≤ x3) → (¬ x1 = 0) → am_mth d 120 [.ref 135, .int x2] (am_SH, I, J, Pf) (am_af sc d 168 61 [some (.ref 0), some (.int x1), some (.int x2), some (.int x3)] [.int x2, .ref 135] [] (am_SH, I, J, Pf) k n false P)) (q2 : (8 ≤ x3) → (¬ (¬ x1 = 0)) → P (.inl (some (.int x2)), (am_SH, I, J, Pf), k, n)) (q3 : (¬ (8 ≤ x3)) → am_mth d 120 [.ref 135, .int x3] (am_SH, I, J, Pf) (am_af sc d 168 26 [some (.ref 0), some (.int x1), some (.int x2), some (.int x3)] [.int x3, .ref 135] [] (am_SH, I, J, Pf) k n false P)) : am_go sc d 168 (15, [some (.ref 0), some (.int x1), some (.int x2), some (.int x3)], [], (am_SH, I, J, Pf), k, n) P := by
  refine am_s_iload_n rfl dc168_1.1.2.2 ?_
  refine am_s_bipush am_cb8 dc168_1.2.1.1 ?_
  refine am_s_ic_ge dc168_1.2.1.2 rfl (fun c1 => ?_) (fun c1 => ?_)
  · refine am_s_iload_n rfl dc168_3.1.2.2 ?_
    refine am_s_if_ne dc168_3.2.1.1 rfl (fun c2 => ?_) (fun c2 => ?_)
    · refine am_s_aload_n rfl dc168_3.2.2.2 ?_
      refine am_s_getR (r := 135) dc168_4.1.1 rfl rfl rfl (hp _ _ _ rfl) ?_
      refine am_s_iload_n rfl dc168_4.1.2 ?_
      exact am_s_virtual false dc168_4.2.1 rfl (by decide) rfl rfl rfl (q1 c1 c2)
    · refine am_s_iload_n rfl dc168_3.2.1.2 ?_
      refine am_s_goto rfl dc168_3.2.2.1 ?_
      exact am_s_ireturn dc168_4.2.2 rfl (q2 c1 c2)
  · refine am_s_aload_n rfl dc168_1.2.2.1 ?_
    refine am_s_getR (r := 135) dc168_1.2.2.2 rfl rfl rfl (hp _ _ _ rfl) ?_
    refine am_s_iload_n rfl dc168_2.1.1.1 ?_
    exact am_s_virtual false dc168_2.1.1.2 rfl (by decide) rfl rfl rfl (q3 c1)
theorem t168_7 {sc : Option (Nat × (Nat → Int32))} {d k n : Nat} {P : am_O → Prop} {I : am_I} {J : am_J} {Pf : am_R} (hp : am_PF Pf) {x1 : Int32} {l2 : Option Value} {l3 : Option Value} (q1 : am_mth d 180 [.ref 0] (am_SH, I, J, Pf) (am_af sc d 168 8 [some (.ref 0), some (.int x1), l2, l3] [.ref 0] [] (am_SH, I, J, Pf) k n true P)) : am_go sc d 168 (7, [some (.ref 0), some (.int x1), l2, l3], [], (am_SH, I, J, Pf), k, n) P := by
  refine am_s_aload_n rfl dc168_0.2.1.2 ?_
  exact am_s_virtual true dc168_0.2.2.1 rfl (by decide) rfl rfl rfl (q1)
theorem t168_29 {sc : Option (Nat × (Nat → Int32))} {d k n : Nat} {P : am_O → Prop} {I : am_I} {J : am_J} {Pf : am_R} (hp : am_PF Pf) {x1 : Int32} {x2 : Int32} {x3 : Int32} {s0 : Int32} (q1 : am_mth d 120 [.ref 135, .int x2] (am_SH, I, J, Pf) (am_af sc d 168 34 [some (.ref 0), some (.int x1), some (.int x2), some (.int x3)] [.int x2, .ref 135, .int s0] [.int s0] (am_SH, I, J, Pf) k n false P)) : am_go sc d 168 (29, [some (.ref 0), some (.int x1), some (.int x2), some (.int x3)], [.int s0], (am_SH, I, J, Pf), k, n) P := by
  refine am_s_aload_n rfl dc168_2.1.2.1 ?_
  refine am_s_getR (r := 135) dc168_2.1.2.2 rfl rfl rfl (hp _ _ _ rfl) ?_
  refine am_s_iload_n rfl dc168_2.2.1.1 ?_
  exact am_s_virtual false dc168_2.2.1.2 rfl (by decide) rfl rfl rfl (q1)
theorem t168_64 {sc : Option (Nat × (Nat → Int32))} {d k n : Nat} {P : am_O → Prop} {I : am_I} {J : am_J} {Pf : am_R} (hp : am_PF Pf) {l0 : Option Value} {l1 : Option Value} {l2 : Option Value} {l3 : Option Value} {s0 : Int32} (q1 : P (.inl (some (.int s0)), (am_SH, I, J, Pf), k, n)) : am_go sc d 168 (64, [l0, l1, l2, l3], [.int s0], (am_SH, I, J, Pf), k, n) P := by
  exact am_s_ireturn dc168_4.2.2 rfl (q1)
theorem t168_11 {sc : Option (Nat × (Nat → Int32))} {d k n : Nat} {P : am_O → Prop} {I : am_I} {J : am_J} {Pf : am_R} (hp : am_PF Pf) {x1 : Int32} {l2 : Option Value} {l3 : Option Value} (q1 : am_go sc d 168 (15, [some (.ref 0), some (.int x1), some (.int 0), some (.int 1)], [], (am_SH, I, J, Pf), k, n) P) : am_go sc d 168 (11, [some (.ref 0), some (.int x1), l2, l3], [], (am_SH, I, J, Pf), k, n) P := by
  refine am_s_iconst am_cc0 dc168_0.2.2.2 ?_
  refine am_s_istore_n (ls' := [some (.ref 0), some (.int x1), some (.int 0), l3]) rfl rfl dc168_1.1.1.1 ?_
  refine am_s_iconst am_cc1 dc168_1.1.1.2 ?_
  refine am_s_istore_n (ls' := [some (.ref 0), some (.int x1), some (.int 0), some (.int 1)]) rfl rfl dc168_1.1.2.1 ?_
  exact q1
theorem t168_37 {sc : Option (Nat × (Nat → Int32))} {d k n : Nat} {P : am_O → Prop} {I : am_I} {J : am_J} {Pf : am_R} (hp : am_PF Pf) {x1 : Int32} {x2 : Int32} {x3 : Int32} {s0 : Int32} {s1 : Int32} (q1 : (s0 ≤ s1) → am_go sc d 168 (15, [some (.ref 0), some (.int x1), some (.int x2), some (.int (x3 + 1))], [], (am_SH, I, J, Pf), k, n) P) (q2 : (¬ (s0 ≤ s1)) → am_go sc d 168 (15, [some (.ref 0), some (.int x1), some (.int x3), some (.int (x3 + 1))], [], (am_SH, I, J, Pf), k, n) P) : am_go sc d 168 (37, [some (.ref 0), some (.int x1), some (.int x2), some (.int x3)], [.int s1, .int s0], (am_SH, I, J, Pf), k, n) P := by
  refine am_s_ic_le dc168_2.2.2.1 rfl (fun c1 => ?_) (fun c1 => ?_)
  · refine am_s_iinc (ls' := [some (.ref 0), some (.int x1), some (.int x2), some (.int (x3 + 1))]) am_cc1 rfl rfl dc168_3.1.1.2 ?_
    refine am_s_goto rfl dc168_3.1.2.1 ?_
    exact q1 c1
  · refine am_s_iload_n rfl dc168_2.2.2.2 ?_
    refine am_s_istore_n (ls' := [some (.ref 0), some (.int x1), some (.int x3), some (.int x3)]) rfl rfl dc168_3.1.1.1 ?_
    refine am_s_iinc (ls' := [some (.ref 0), some (.int x1), some (.int x3), some (.int (x3 + 1))]) am_cc1 rfl rfl dc168_3.1.1.2 ?_
    refine am_s_goto rfl dc168_3.1.2.1 ?_
    exact q2 c1
-- year (III)I
theorem dc169_0 : (((decode (am_by 169) 0 = .ok (.aload_n 0, 1)) ∧ (decode (am_by 169) 1 = .ok (.iload_n 2, 1))) ∧ ((decode (am_by 169) 2 = .ok (.iconst 1, 1)) ∧ (decode (am_by 169) 3 = .ok (.bipush 24, 2)))) ∧ (((decode (am_by 169) 5 = .ok (.invokevirtual 102, 3)) ∧ (decode (am_by 169) 8 = .ok (.aload_n 0, 1))) ∧ ((decode (am_by 169) 9 = .ok (.iload_n 3, 1)) ∧ (decode (am_by 169) 10 = .ok (.iconst 0, 1)))) := by decide +kernel
theorem dc169_1 : (((decode (am_by 169) 11 = .ok (.iconst 3, 1)) ∧ (decode (am_by 169) 12 = .ok (.invokevirtual 102, 3))) ∧ ((decode (am_by 169) 15 = .ok (.aload_n 0, 1)) ∧ (decode (am_by 169) 16 = .ok (.iload_n 1, 1)))) ∧ (((decode (am_by 169) 17 = .ok (.iload_n 2, 1)) ∧ (decode (am_by 169) 18 = .ok (.iload_n 3, 1))) ∧ ((decode (am_by 169) 19 = .ok (.iconst 3, 1)) ∧ (decode (am_by 169) 20 = .ok (.if_icmp .ne 7, 3)))) := by decide +kernel
theorem dc169_2 : (((decode (am_by 169) 23 = .ok (.iconst 1, 1)) ∧ (decode (am_by 169) 24 = .ok (.goto 4, 3))) ∧ ((decode (am_by 169) 27 = .ok (.iconst 0, 1)) ∧ (decode (am_by 169) 28 = .ok (.invokevirtual 325, 3)))) ∧ (((decode (am_by 169) 31 = .ok (.istore 4, 2)) ∧ (decode (am_by 169) 33 = .ok (.iload_n 3, 1))) ∧ ((decode (am_by 169) 34 = .ok (.lookupswitch 39 #[(0, 26), (1, 34)], 26)) ∧ (decode (am_by 169) 60 = .ok (.aload_n 0, 1)))) := by decide +kernel
theorem dc169_3 : (((decode (am_by 169) 61 = .ok (.getfield 75, 3)) ∧ (decode (am_by 169) 64 = .ok (.getfield 128, 3))) ∧ ((decode (am_by 169) 67 = .ok (.ireturn, 1)) ∧ (decode (am_by 169) 68 = .ok (.aload_n 0, 1)))) ∧ (((decode (am_by 169) 69 = .ok (.invokevirtual 329, 3)) ∧ (decode (am_by 169) 72 = .ok (.ireturn, 1))) ∧ ((decode (am_by 169) 73 = .ok (.iload 4, 2)) ∧ (decode (am_by 169) 75 = .ok (.ireturn, 1)))) := by decide +kernel
theorem t169_0 {sc : Option (Nat × (Nat → Int32))} {d k n : Nat} {P : am_O → Prop} {I : am_I} {J : am_J} {Pf : am_R} (hp : am_PF Pf) {x1 : Int32} {x2 : Int32} {x3 : Int32} {l4 : Option Value} (q1 : am_mth d 176 [.ref 0, .int x2, .int 1, .int 24] (am_SH, I, J, Pf) (am_af sc d 169 5 [some (.ref 0), some (.int x1), some (.int x2), some (.int x3), l4] [.int 24, .int 1, .int x2, .ref 0] [] (am_SH, I, J, Pf) k n true P)) : am_go sc d 169 (0, [some (.ref 0), some (.int x1), some (.int x2), some (.int x3), l4], [], (am_SH, I, J, Pf), k, n) P := by
  refine am_s_aload_n rfl dc169_0.1.1.1 ?_
  refine am_s_iload_n rfl dc169_0.1.1.2 ?_
  refine am_s_iconst am_cc1 dc169_0.1.2.1 ?_
  refine am_s_bipush am_cb24 dc169_0.1.2.2 ?_
  exact am_s_virtual true dc169_0.2.1.1 rfl (by decide) rfl rfl rfl (q1)
theorem t169_8 {sc : Option (Nat × (Nat → Int32))} {d k n : Nat} {P : am_O → Prop} {I : am_I} {J : am_J} {Pf : am_R} (hp : am_PF Pf) {x1 : Int32} {x2 : Int32} {x3 : Int32} {l4 : Option Value} (q1 : am_mth d 176 [.ref 0, .int x3, .int 0, .int 3] (am_SH, I, J, Pf) (am_af sc d 169 12 [some (.ref 0), some (.int x1), some (.int x2), some (.int x3), l4] [.int 3, .int 0, .int x3, .ref 0] [] (am_SH, I, J, Pf) k n true P)) : am_go sc d 169 (8, [some (.ref 0), some (.int x1), some (.int x2), some (.int x3), l4], [], (am_SH, I, J, Pf), k, n) P := by
  refine am_s_aload_n rfl dc169_0.2.1.2 ?_
  refine am_s_iload_n rfl dc169_0.2.2.1 ?_
  refine am_s_iconst am_cc0 dc169_0.2.2.2 ?_
  refine am_s_iconst am_cc3 dc169_1.1.1.1 ?_
  exact am_s_virtual true dc169_1.1.1.2 rfl (by decide) rfl rfl rfl (q1)
theorem t169_15 {sc : Option (Nat × (Nat → Int32))} {d k n : Nat} {P : am_O → Prop} {I : am_I} {J : am_J} {Pf : am_R} (hp : am_PF Pf) {x1 : Int32} {x2 : Int32} {x3 : Int32} {l4 : Option Value} (q1 : (¬ x3 = 3) → am_mth d 183 [.ref 0, .int x1, .int x2, .int 0] (am_SH, I, J, Pf) (am_af sc d 169 28 [some (.ref 0), some (.int x1), some (.int x2), some (.int x3), l4] [.int 0, .int x2, .int x1, .ref 0] [] (am_SH, I, J, Pf) k n true P)) (q2 : (¬ (¬ x3 = 3)) → am_mth d 183 [.ref 0, .int x1, .int x2, .int 1] (am_SH, I, J, Pf) (am_af sc d 169 28 [some (.ref 0), some (.int x1), some (.int x2), some (.int x3), l4] [.int 1, .int x2, .int x1, .ref 0] [] (am_SH, I, J, Pf) k n true P)) : am_go sc d 169 (15, [some (.ref 0), some (.int x1), some (.int x2), some (.int x3), l4], [], (am_SH, I, J, Pf), k, n) P := by
  refine am_s_aload_n rfl dc169_1.1.2.1 ?_
  refine am_s_iload_n rfl dc169_1.1.2.2 ?_
  refine am_s_iload_n rfl dc169_1.2.1.1 ?_
  refine am_s_iload_n rfl dc169_1.2.1.2 ?_
  refine am_s_iconst am_cc3 dc169_1.2.2.1 ?_
  refine am_s_ic_ne dc169_1.2.2.2 rfl (fun c1 => ?_) (fun c1 => ?_)
  · refine am_s_iconst am_cc0 dc169_2.1.2.1 ?_
    exact am_s_virtual true dc169_2.1.2.2 rfl (by decide) rfl rfl rfl (q1 c1)
  · refine am_s_iconst am_cc1 dc169_2.1.1.1 ?_
    refine am_s_goto rfl dc169_2.1.1.2 ?_
    exact am_s_virtual true dc169_2.1.2.2 rfl (by decide) rfl rfl rfl (q2 c1)
theorem t169_31 {sc : Option (Nat × (Nat → Int32))} {d k n : Nat} {P : am_O → Prop} {I : am_I} {J : am_J} {Pf : am_R} (hp : am_PF Pf) {l1 : Option Value} {l2 : Option Value} {x3 : Int32} {l4 : Option Value} {s0 : Int32} (q1 : am_go sc d 169 (34, [some (.ref 0), l1, l2, some (.int x3), some (.int s0)], [.int x3], (am_SH, I, J, Pf), k, n) P) : am_go sc d 169 (31, [some (.ref 0), l1, l2, some (.int x3), l4], [.int s0], (am_SH, I, J, Pf), k, n) P := by
  refine am_s_istore (ls' := [some (.ref 0), l1, l2, some (.int x3), some (.int s0)]) rfl rfl dc169_2.2.1.1 ?_
  refine am_s_iload_n rfl dc169_2.2.1.2 ?_
  exact q1
-- span (IIIII)I
theorem dc170_0 : (((decode (am_by 170) 0 = .ok (.aload_n 0, 1)) ∧ (decode (am_by 170) 1 = .ok (.iload_n 2, 1))) ∧ ((decode (am_by 170) 2 = .ok (.iconst 1, 1)) ∧ (decode (am_by 170) 3 = .ok (.iconst 4, 1)))) ∧ (((decode (am_by 170) 4 = .ok (.invokevirtual 102, 3)) ∧ (decode (am_by 170) 7 = .ok (.aload_n 0, 1))) ∧ ((decode (am_by 170) 8 = .ok (.iload_n 3, 1)) ∧ (decode (am_by 170) 9 = .ok (.iconst 1, 1)))) := by decide +kernel
theorem dc170_1 : (((decode (am_by 170) 10 = .ok (.bipush 24, 2)) ∧ (decode (am_by 170) 12 = .ok (.invokevirtual 102, 3))) ∧ ((decode (am_by 170) 15 = .ok (.aload_n 0, 1)) ∧ (decode (am_by 170) 16 = .ok (.iload 4, 2)))) ∧ (((decode (am_by 170) 18 = .ok (.iconst 0, 1)) ∧ (decode (am_by 170) 19 = .ok (.iconst 2, 1))) ∧ ((decode (am_by 170) 20 = .ok (.invokevirtual 102, 3)) ∧ (decode (am_by 170) 23 = .ok (.aload_n 0, 1)))) := by decide +kernel
theorem dc170_2 : (((decode (am_by 170) 24 = .ok (.iload 5, 2)) ∧ (decode (am_by 170) 26 = .ok (.invokevirtual 250, 3))) ∧ ((decode (am_by 170) 29 = .ok (.bipush 24, 2)) ∧ (decode (am_by 170) 31 = .ok (.istore 6, 2)))) ∧ (((decode (am_by 170) 33 = .ok (.iconst 0, 1)) ∧ (decode (am_by 170) 34 = .ok (.istore 7, 2))) ∧ ((decode (am_by 170) 36 = .ok (.iconst 0, 1)) ∧ (decode (am_by 170) 37 = .ok (.istore 8, 2)))) := by decide +kernel
theorem dc170_3 : (((decode (am_by 170) 39 = .ok (.iconst 0, 1)) ∧ (decode (am_by 170) 40 = .ok (.istore 9, 2))) ∧ ((decode (am_by 170) 42 = .ok (.iload 9, 2)) ∧ (decode (am_by 170) 44 = .ok (.iload_n 2, 1)))) ∧ (((decode (am_by 170) 45 = .ok (.if_icmp .ge 68, 3)) ∧ (decode (am_by 170) 48 = .ok (.aload_n 0, 1))) ∧ ((decode (am_by 170) 49 = .ok (.iload_n 1, 1)) ∧ (decode (am_by 170) 50 = .ok (.iload 9, 2)))) := by decide +kernel
theorem dc170_4 : (((decode (am_by 170) 52 = .ok (.iadd, 1)) ∧ (decode (am_by 170) 53 = .ok (.iload_n 3, 1))) ∧ ((decode (am_by 170) 54 = .ok (.iconst 0, 1)) ∧ (decode (am_by 170) 55 = .ok (.invokevirtual 325, 3)))) ∧ (((decode (am_by 170) 58 = .ok (.pop, 1)) ∧ (decode (am_by 170) 59 = .ok (.iload 6, 2))) ∧ ((decode (am_by 170) 61 = .ok (.aload_n 0, 1)) ∧ (decode (am_by 170) 62 = .ok (.getfield 75, 3)))) := by decide +kernel
theorem dc170_5 : (((decode (am_by 170) 65 = .ok (.getfield 128, 3)) ∧ (decode (am_by 170) 68 = .ok (.invokestatic 137, 3))) ∧ ((decode (am_by 170) 71 = .ok (.istore 6, 2)) ∧ (decode (am_by 170) 73 = .ok (.iload 7, 2)))) ∧ (((decode (am_by 170) 75 = .ok (.aload_n 0, 1)) ∧ (decode (am_by 170) 76 = .ok (.getfield 75, 3))) ∧ ((decode (am_by 170) 79 = .ok (.getfield 128, 3)) ∧ (decode (am_by 170) 82 = .ok (.invokestatic 332, 3)))) := by decide +kernel
theorem dc170_6 : (((decode (am_by 170) 85 = .ok (.istore 7, 2)) ∧ (decode (am_by 170) 87 = .ok (.iload 4, 2))) ∧ ((decode (am_by 170) 89 = .ok (.iconst 2, 1)) ∧ (decode (am_by 170) 90 = .ok (.if_icmp .ne 17, 3)))) ∧ (((decode (am_by 170) 93 = .ok (.iload 8, 2)) ∧ (decode (am_by 170) 95 = .ok (.aload_n 0, 1))) ∧ ((decode (am_by 170) 96 = .ok (.invokevirtual 329, 3)) ∧ (decode (am_by 170) 99 = .ok (.iload 5, 2)))) := by decide +kernel
theorem dc170_7 : (((decode (am_by 170) 101 = .ok (.iushr, 1)) ∧ (decode (am_by 170) 102 = .ok (.iconst 1, 1))) ∧ ((decode (am_by 170) 103 = .ok (.iand, 1)) ∧ (decode (am_by 170) 104 = .ok (.iadd, 1)))) ∧ (((decode (am_by 170) 105 = .ok (.istore 8, 2)) ∧ (decode (am_by 170) 107 = .ok (.iinc 9 1, 3))) ∧ ((decode (am_by 170) 110 = .ok (.goto (-68), 3)) ∧ (decode (am_by 170) 113 = .ok (.iload 4, 2)))) := by decide +kernel
theorem dc170_8 : (((decode (am_by 170) 115 = .ok (.iconst 2, 1)) ∧ (decode (am_by 170) 116 = .ok (.if_icmp .ne 6, 3))) ∧ ((decode (am_by 170) 119 = .ok (.iload 8, 2)) ∧ (decode (am_by 170) 121 = .ok (.ireturn, 1)))) ∧ (((decode (am_by 170) 122 = .ok (.iload 4, 2)) ∧ (decode (am_by 170) 124 = .ok (.ifCond .ne 8, 3))) ∧ ((decode (am_by 170) 127 = .ok (.iload 6, 2)) ∧ (decode (am_by 170) 129 = .ok (.goto 5, 3)))) := by decide +kernel
theorem dc170_9 : (decode (am_by 170) 132 = .ok (.iload 7, 2)) ∧ (decode (am_by 170) 134 = .ok (.ireturn, 1)) := by decide +kernel
theorem t170_0 {sc : Option (Nat × (Nat → Int32))} {d k n : Nat} {P : am_O → Prop} {I : am_I} {J : am_J} {Pf : am_R} (hp : am_PF Pf) {x1 : Int32} {x2 : Int32} {x3 : Int32} {x4 : Int32} {x5 : Int32} {l6 : Option Value} {l7 : Option Value} {l8 : Option Value} {l9 : Option Value} (q1 : am_mth d 176 [.ref 0, .int x2, .int 1, .int 4] (am_SH, I, J, Pf) (am_af sc d 170 4 [some (.ref 0), some (.int x1), some (.int x2), some (.int x3), some (.int x4), some (.int x5), l6, l7, l8, l9] [.int 4, .int 1, .int x2, .ref 0] [] (am_SH, I, J, Pf) k n true P)) : am_go sc d 170 (0, [some (.ref 0), some (.int x1), some (.int x2), some (.int x3), some (.int x4), some (.int x5), l6, l7, l8, l9], [], (am_SH, I, J, Pf), k, n) P := by
  refine am_s_aload_n rfl dc170_0.1.1.1 ?_
  refine am_s_iload_n rfl dc170_0.1.1.2 ?_
  refine am_s_iconst am_cc1 dc170_0.1.2.1 ?_
  refine am_s_iconst am_cc4 dc170_0.1.2.2 ?_
  exact am_s_virtual true dc170_0.2.1.1 rfl (by decide) rfl rfl rfl (q1)
theorem t170_42 {sc : Option (Nat × (Nat → Int32))} {d k n : Nat} {P : am_O → Prop} {I : am_I} {J : am_J} {Pf : am_R} (hp : am_PF Pf) {x1 : Int32} {x2 : Int32} {x3 : Int32} {x4 : Int32} {x5 : Int32} {x6 : Int32} {x7 : Int32} {x8 : Int32} {x9 : Int32} (q1 : (x2 ≤ x9) → (¬ x4 = 2) → (¬ x4 = 0) → P (.inl (some (.int x7)), (am_SH, I, J, Pf), k, n)) (q2 : (x2 ≤ x9) → (¬ x4 = 2) → (¬ (¬ x4 = 0)) → P (.inl (some (.int x6)), (am_SH, I, J, Pf), k, n)) (q3 : (x2 ≤ x9) → (¬ (¬ x4 = 2)) → P (.inl (some (.int x8)), (am_SH, I, J, Pf), k, n)) (q4 : (¬ (x2 ≤ x9)) → am_mth d 183 [.ref 0, .int (x1 + x9), .int x3, .int 0] (am_SH, I, J, Pf) (am_af sc d 170 55 [some (.ref 0), some (.int x1), some (.int x2), some (.int x3), some (.int x4), some (.int x5), some (.int x6), some (.int x7), some (.int x8), some (.int x9)] [.int 0, .int x3, .int (x1 + x9), .ref 0] [] (am_SH, I, J, Pf) k n true P)) : am_go sc d 170 (42, [some (.ref 0), some (.int x1), some (.int x2), some (.int x3), some (.int x4), some (.int x5), some (.int x6), some (.int x7), some (.int x8), some (.int x9)], [], (am_SH, I, J, Pf), k, n) P := by
  refine am_s_iload rfl dc170_3.1.2.1 ?_
  refine am_s_iload_n rfl dc170_3.1.2.2 ?_
  refine am_s_ic_ge dc170_3.2.1.1 rfl (fun c1 => ?_) (fun c1 => ?_)
  · refine am_s_iload rfl dc170_7.2.2.2 ?_
    refine am_s_iconst am_cc2 dc170_8.1.1.1 ?_
    refine am_s_ic_ne dc170_8.1.1.2 rfl (fun c2 => ?_) (fun c2 => ?_)
    · refine am_s_iload rfl dc170_8.2.1.1 ?_
      refine am_s_if_ne dc170_8.2.1.2 rfl (fun c3 => ?_) (fun c3 => ?_)
      · refine am_s_iload rfl dc170_9.1 ?_
        exact am_s_ireturn dc170_9.2 rfl (q1 c1 c2 c3)
      · refine am_s_iload rfl dc170_8.2.2.1 ?_
        refine am_s_goto rfl dc170_8.2.2.2 ?_
        exact am_s_ireturn dc170_9.2 rfl (q2 c1 c2 c3)
    · refine am_s_iload rfl dc170_8.1.2.1 ?_
      exact am_s_ireturn dc170_8.1.2.2 rfl (q3 c1 c2)
  · refine am_s_aload_n rfl dc170_3.2.1.2 ?_
    refine am_s_iload_n rfl dc170_3.2.2.1 ?_
    refine am_s_iload rfl dc170_3.2.2.2 ?_
    refine am_s_iadd dc170_4.1.1.1 ?_
    refine am_s_iload_n rfl dc170_4.1.1.2 ?_
    refine am_s_iconst am_cc0 dc170_4.1.2.1 ?_
    exact am_s_virtual true dc170_4.1.2.2 rfl (by decide) rfl rfl rfl (q4 c1)
theorem t170_7 {sc : Option (Nat × (Nat → Int32))} {d k n : Nat} {P : am_O → Prop} {I : am_I} {J : am_J} {Pf : am_R} (hp : am_PF Pf) {x1 : Int32} {x2 : Int32} {x3 : Int32} {x4 : Int32} {x5 : Int32} {l6 : Option Value} {l7 : Option Value} {l8 : Option Value} {l9 : Option Value} (q1 : am_mth d 176 [.ref 0, .int x3, .int 1, .int 24] (am_SH, I, J, Pf) (am_af sc d 170 12 [some (.ref 0), some (.int x1), some (.int x2), some (.int x3), some (.int x4), some (.int x5), l6, l7, l8, l9] [.int 24, .int 1, .int x3, .ref 0] [] (am_SH, I, J, Pf) k n true P)) : am_go sc d 170 (7, [some (.ref 0), some (.int x1), some (.int x2), some (.int x3), some (.int x4), some (.int x5), l6, l7, l8, l9], [], (am_SH, I, J, Pf), k, n) P := by
  refine am_s_aload_n rfl dc170_0.2.1.2 ?_
  refine am_s_iload_n rfl dc170_0.2.2.1 ?_
  refine am_s_iconst am_cc1 dc170_0.2.2.2 ?_
  refine am_s_bipush am_cb24 dc170_1.1.1.1 ?_
  exact am_s_virtual true dc170_1.1.1.2 rfl (by decide) rfl rfl rfl (q1)
theorem t170_58 {sc : Option (Nat × (Nat → Int32))} {d k n : Nat} {P : am_O → Prop} {I : am_I} {J : am_J} {Pf : am_R} (hp : am_PF Pf) {x1 : Int32} {x2 : Int32} {x3 : Int32} {x4 : Int32} {x5 : Int32} {x6 : Int32} {x7 : Int32} {x8 : Int32} {x9 : Int32} {s0 : Int32} (q1 : am_mth d 330 [.int x6, .int (I 140 1)] (am_SH, I, J, Pf) (am_af sc d 170 68 [some (.ref 0), some (.int x1), some (.int x2), some (.int x3), some (.int x4), some (.int x5), some (.int x6), some (.int x7), some (.int x8), some (.int x9)] [.int (I 140 1), .int x6] [] (am_SH, I, J, Pf) k n false P)) : am_go sc d 170 (58, [some (.ref 0), some (.int x1), some (.int x2), some (.int x3), some (.int x4), some (.int x5), some (.int x6), some (.int x7), some (.int x8), some (.int x9)], [.int s0], (am_SH, I, J, Pf), k, n) P := by
  refine am_s_pop rfl dc170_4.2.1.1 ?_
  refine am_s_iload rfl dc170_4.2.1.2 ?_
  refine am_s_aload_n rfl dc170_4.2.2.1 ?_
  refine am_s_getR (r := 140) dc170_4.2.2.2 rfl rfl rfl (hp _ _ _ rfl) ?_
  refine am_x_getI (x := I 140 1) dc170_5.1.1.1 rfl rfl (Or.inl rfl) rfl ?_
  exact am_s_static dc170_5.1.1.2 rfl rfl rfl (q1)
theorem t170_15 {sc : Option (Nat × (Nat → Int32))} {d k n : Nat} {P : am_O → Prop} {I : am_I} {J : am_J} {Pf : am_R} (hp : am_PF Pf) {x1 : Int32} {x2 : Int32} {x3 : Int32} {x4 : Int32} {x5 : Int32} {l6 : Option Value} {l7 : Option Value} {l8 : Option Value} {l9 : Option Value} (q1 : am_mth d 176 [.ref 0, .int x4, .int 0, .int 2] (am_SH, I, J, Pf) (am_af sc d 170 20 [some (.ref 0), some (.int x1), some (.int x2), some (.int x3), some (.int x4), some (.int x5), l6, l7, l8, l9] [.int 2, .int 0, .int x4, .ref 0] [] (am_SH, I, J, Pf) k n true P)) : am_go sc d 170 (15, [some (.ref 0), some (.int x1), some (.int x2), some (.int x3), some (.int x4), some (.int x5), l6, l7, l8, l9], [], (am_SH, I, J, Pf), k, n) P := by
  refine am_s_aload_n rfl dc170_1.1.2.1 ?_
  refine am_s_iload rfl dc170_1.1.2.2 ?_
  refine am_s_iconst am_cc0 dc170_1.2.1.1 ?_
  refine am_s_iconst am_cc2 dc170_1.2.1.2 ?_
  exact am_s_virtual true dc170_1.2.2.1 rfl (by decide) rfl rfl rfl (q1)
theorem t170_71 {sc : Option (Nat × (Nat → Int32))} {d k n : Nat} {P : am_O → Prop} {I : am_I} {J : am_J} {Pf : am_R} (hp : am_PF Pf) {x1 : Int32} {x2 : Int32} {x3 : Int32} {x4 : Int32} {x5 : Int32} {l6 : Option Value} {x7 : Int32} {x8 : Int32} {x9 : Int32} {s0 : Int32} (q1 : am_mth d 329 [.int x7, .int (I 140 1)] (am_SH, I, J, Pf) (am_af sc d 170 82 [some (.ref 0), some (.int x1), some (.int x2), some (.int x3), some (.int x4), some (.int x5), some (.int s0), some (.int x7), some (.int x8), some (.int x9)] [.int (I 140 1), .int x7] [] (am_SH, I, J, Pf) k n false P)) : am_go sc d 170 (71, [some (.ref 0), some (.int x1), some (.int x2), some (.int x3), some (.int x4), some (.int x5), l6, some (.int x7), some (.int x8), some (.int x9)], [.int s0], (am_SH, I, J, Pf), k, n) P := by
  refine am_s_istore (ls' := [some (.ref 0), some (.int x1), some (.int x2), some (.int x3), some (.int x4), some (.int x5), some (.int s0), some (.int x7), some (.int x8), some (.int x9)]) rfl rfl dc170_5.1.2.1 ?_
  refine am_s_iload rfl dc170_5.1.2.2 ?_
  refine am_s_aload_n rfl dc170_5.2.1.1 ?_
  refine am_s_getR (r := 140) dc170_5.2.1.2 rfl rfl rfl (hp _ _ _ rfl) ?_
  refine am_x_getI (x := I 140 1) dc170_5.2.2.1 rfl rfl (Or.inl rfl) rfl ?_
  exact am_s_static dc170_5.2.2.2 rfl rfl rfl (q1)
theorem t170_23 {sc : Option (Nat × (Nat → Int32))} {d k n : Nat} {P : am_O → Prop} {I : am_I} {J : am_J} {Pf : am_R} (hp : am_PF Pf) {x1 : Int32} {x2 : Int32} {x3 : Int32} {x4 : Int32} {x5 : Int32} {l6 : Option Value} {l7 : Option Value} {l8 : Option Value} {l9 : Option Value} (q1 : am_mth d 177 [.ref 0, .int x5] (am_SH, I, J, Pf) (am_af sc d 170 26 [some (.ref 0), some (.int x1), some (.int x2), some (.int x3), some (.int x4), some (.int x5), l6, l7, l8, l9] [.int x5, .ref 0] [] (am_SH, I, J, Pf) k n true P)) : am_go sc d 170 (23, [some (.ref 0), some (.int x1), some (.int x2), some (.int x3), some (.int x4), some (.int x5), l6, l7, l8, l9], [], (am_SH, I, J, Pf), k, n) P := by
  refine am_s_aload_n rfl dc170_1.2.2.2 ?_
  refine am_s_iload rfl dc170_2.1.1.1 ?_
  exact am_s_virtual true dc170_2.1.1.2 rfl (by decide) rfl rfl rfl (q1)
theorem t170_85 {sc : Option (Nat × (Nat → Int32))} {d k n : Nat} {P : am_O → Prop} {I : am_I} {J : am_J} {Pf : am_R} (hp : am_PF Pf) {x1 : Int32} {x2 : Int32} {x3 : Int32} {x4 : Int32} {x5 : Int32} {x6 : Int32} {l7 : Option Value} {x8 : Int32} {x9 : Int32} {s0 : Int32} (q1 : (¬ x4 = 2) → am_go sc d 170 (42, [some (.ref 0), some (.int x1), some (.int x2), some (.int x3), some (.int x4), some (.int x5), some (.int x6), some (.int s0), some (.int x8), some (.int (x9 + 1))], [], (am_SH, I, J, Pf), k, n) P) (q2 : (¬ (¬ x4 = 2)) → am_mth d 181 [.ref 0] (am_SH, I, J, Pf) (am_af sc d 170 96 [some (.ref 0), some (.int x1), some (.int x2), some (.int x3), some (.int x4), some (.int x5), some (.int x6), some (.int s0), some (.int x8), some (.int x9)] [.ref 0, .int x8] [.int x8] (am_SH, I, J, Pf) k n true P)) : am_go sc d 170 (85, [some (.ref 0), some (.int x1), some (.int x2), some (.int x3), some (.int x4), some (.int x5), some (.int x6), l7, some (.int x8), some (.int x9)], [.int s0], (am_SH, I, J, Pf), k, n) P := by
  refine am_s_istore (ls' := [some (.ref 0), some (.int x1), some (.int x2), some (.int x3), some (.int x4), some (.int x5), some (.int x6), some (.int s0), some (.int x8), some (.int x9)]) rfl rfl dc170_6.1.1.1 ?_
  refine am_s_iload rfl dc170_6.1.1.2 ?_
  refine am_s_iconst am_cc2 dc170_6.1.2.1 ?_
  refine am_s_ic_ne dc170_6.1.2.2 rfl (fun c1 => ?_) (fun c1 => ?_)
  · refine am_s_iinc (ls' := [some (.ref 0), some (.int x1), some (.int x2), some (.int x3), some (.int x4), some (.int x5), some (.int x6), some (.int s0), some (.int x8), some (.int (x9 + 1))]) am_cc1 rfl rfl dc170_7.2.1.2 ?_
    refine am_s_goto rfl dc170_7.2.2.1 ?_
    exact q1 c1
  · refine am_s_iload rfl dc170_6.2.1.1 ?_
    refine am_s_aload_n rfl dc170_6.2.1.2 ?_
    exact am_s_virtual true dc170_6.2.2.1 rfl (by decide) rfl rfl rfl (q2 c1)
theorem t170_29 {sc : Option (Nat × (Nat → Int32))} {d k n : Nat} {P : am_O → Prop} {I : am_I} {J : am_J} {Pf : am_R} (hp : am_PF Pf) {x1 : Int32} {x2 : Int32} {x3 : Int32} {x4 : Int32} {x5 : Int32} {l6 : Option Value} {l7 : Option Value} {l8 : Option Value} {l9 : Option Value} (q1 : am_go sc d 170 (42, [some (.ref 0), some (.int x1), some (.int x2), some (.int x3), some (.int x4), some (.int x5), some (.int 24), some (.int 0), some (.int 0), some (.int 0)], [], (am_SH, I, J, Pf), k, n) P) : am_go sc d 170 (29, [some (.ref 0), some (.int x1), some (.int x2), some (.int x3), some (.int x4), some (.int x5), l6, l7, l8, l9], [], (am_SH, I, J, Pf), k, n) P := by
  refine am_s_bipush am_cb24 dc170_2.1.2.1 ?_
  refine am_s_istore (ls' := [some (.ref 0), some (.int x1), some (.int x2), some (.int x3), some (.int x4), some (.int x5), some (.int 24), l7, l8, l9]) rfl rfl dc170_2.1.2.2 ?_
  refine am_s_iconst am_cc0 dc170_2.2.1.1 ?_
  refine am_s_istore (ls' := [some (.ref 0), some (.int x1), some (.int x2), some (.int x3), some (.int x4), some (.int x5), some (.int 24), some (.int 0), l8, l9]) rfl rfl dc170_2.2.1.2 ?_
  refine am_s_iconst am_cc0 dc170_2.2.2.1 ?_
  refine am_s_istore (ls' := [some (.ref 0), some (.int x1), some (.int x2), some (.int x3), some (.int x4), some (.int x5), some (.int 24), some (.int 0), some (.int 0), l9]) rfl rfl dc170_2.2.2.2 ?_
  refine am_s_iconst am_cc0 dc170_3.1.1.1 ?_
  refine am_s_istore (ls' := [some (.ref 0), some (.int x1), some (.int x2), some (.int x3), some (.int x4), some (.int x5), some (.int 24), some (.int 0), some (.int 0), some (.int 0)]) rfl rfl dc170_3.1.1.2 ?_
  exact q1
theorem t170_99 {sc : Option (Nat × (Nat → Int32))} {d k n : Nat} {P : am_O → Prop} {I : am_I} {J : am_J} {Pf : am_R} (hp : am_PF Pf) {x1 : Int32} {x2 : Int32} {x3 : Int32} {x4 : Int32} {x5 : Int32} {x6 : Int32} {x7 : Int32} {l8 : Option Value} {x9 : Int32} {s0 : Int32} {s1 : Int32} (q1 : am_go sc d 170 (42, [some (.ref 0), some (.int x1), some (.int x2), some (.int x3), some (.int x4), some (.int x5), some (.int x6), some (.int x7), some (.int (s0 + ((UInt32.toInt32 (Int32.toUInt32 s1 >>> (Int32.toUInt32 x5 &&& Int32.toUInt32 31))) &&& 1))), some (.int (x9 + 1))], [], (am_SH, I, J, Pf), k, n) P) : am_go sc d 170 (99, [some (.ref 0), some (.int x1), some (.int x2), some (.int x3), some (.int x4), some (.int x5), some (.int x6), some (.int x7), l8, some (.int x9)], [.int s1, .int s0], (am_SH, I, J, Pf), k, n) P := by
  refine am_s_iload rfl dc170_6.2.2.2 ?_
  refine am_s_iushr dc170_7.1.1.1 ?_
  refine am_s_iconst am_cc1 dc170_7.1.1.2 ?_
  refine am_s_iand dc170_7.1.2.1 ?_
  refine am_s_iadd dc170_7.1.2.2 ?_
  refine am_s_istore (ls' := [some (.ref 0), some (.int x1), some (.int x2), some (.int x3), some (.int x4), some (.int x5), some (.int x6), some (.int x7), some (.int (s0 + ((UInt32.toInt32 (Int32.toUInt32 s1 >>> (Int32.toUInt32 x5 &&& Int32.toUInt32 31))) &&& 1))), some (.int x9)]) rfl rfl dc170_7.2.1.1 ?_
  refine am_s_iinc (ls' := [some (.ref 0), some (.int x1), some (.int x2), some (.int x3), some (.int x4), some (.int x5), some (.int x6), some (.int x7), some (.int (s0 + ((UInt32.toInt32 (Int32.toUInt32 s1 >>> (Int32.toUInt32 x5 &&& Int32.toUInt32 31))) &&& 1))), some (.int (x9 + 1))]) am_cc1 rfl rfl dc170_7.2.1.2 ?_
  refine am_s_goto rfl dc170_7.2.2.1 ?_
  exact q1
-- image ()I
theorem dc171_0 : (((decode (am_by 171) 0 = .ok (.aload_n 0, 1)) ∧ (decode (am_by 171) 1 = .ok (.getfield 122, 3))) ∧ ((decode (am_by 171) 4 = .ok (.iconst 3, 1)) ∧ (decode (am_by 171) 5 = .ok (.if_icmp .lt 5, 3)))) ∧ (((decode (am_by 171) 8 = .ok (.iconst (-1), 1)) ∧ (decode (am_by 171) 9 = .ok (.ireturn, 1))) ∧ ((decode (am_by 171) 10 = .ok (.aload_n 0, 1)) ∧ (decode (am_by 171) 11 = .ok (.getfield 57, 3)))) := by decide +kernel
theorem dc171_1 : (((decode (am_by 171) 14 = .ok (.aload_n 0, 1)) ∧ (decode (am_by 171) 15 = .ok (.getfield 122, 3))) ∧ ((decode (am_by 171) 18 = .ok (.aaload, 1)) ∧ (decode (am_by 171) 19 = .ok (.aload_n 0, 1)))) ∧ (((decode (am_by 171) 20 = .ok (.getfield 53, 3)) ∧ (decode (am_by 171) 23 = .ok (.invokevirtual 335, 3))) ∧ ((decode (am_by 171) 26 = .ok (.aload_n 0, 1)) ∧ (decode (am_by 171) 27 = .ok (.getfield 57, 3)))) := by decide +kernel
theorem dc171_2 : (((decode (am_by 171) 30 = .ok (.aload_n 0, 1)) ∧ (decode (am_by 171) 31 = .ok (.getfield 122, 3))) ∧ ((decode (am_by 171) 34 = .ok (.aaload, 1)) ∧ (decode (am_by 171) 35 = .ok (.aload_n 0, 1)))) ∧ (((decode (am_by 171) 36 = .ok (.getfield 71, 3)) ∧ (decode (am_by 171) 39 = .ok (.invokevirtual 150, 3))) ∧ ((decode (am_by 171) 42 = .ok (.aload_n 0, 1)) ∧ (decode (am_by 171) 43 = .ok (.dup, 1)))) := by decide +kernel
theorem dc171_3 : ((decode (am_by 171) 44 = .ok (.getfield 122, 3)) ∧ ((decode (am_by 171) 47 = .ok (.iconst 1, 1)) ∧ (decode (am_by 171) 48 = .ok (.iadd, 1)))) ∧ (((decode (am_by 171) 49 = .ok (.putfield 122, 3)) ∧ (decode (am_by 171) 52 = .ok (.aload_n 0, 1))) ∧ ((decode (am_by 171) 53 = .ok (.getfield 122, 3)) ∧ (decode (am_by 171) 56 = .ok (.ireturn, 1)))) := by decide +kernel
theorem t171_0 {sc : Option (Nat × (Nat → Int32))} {d k n : Nat} {P : am_O → Prop} {I : am_I} {J : am_J} {Pf : am_R} (hp : am_PF Pf) {r18 : Nat} (q1 : ((I 0 9) < 3) → am_in (I 0 9) 3 = true) (q2 : ((I 0 9) < 3) → Pf 111 (Int32.toNatClampNeg (I 0 9)) = some r18) (q3 : ((I 0 9) < 3) → am_SH[r18]? = some (.inl 5)) (q4 : ((I 0 9) < 3) → am_mth d 73 [.ref r18, .ref 108] (am_SH, I, J, Pf) (am_af sc d 171 23 [some (.ref 0)] [.ref 108, .ref r18] [] (am_SH, I, J, Pf) k n false P)) (q5 : (¬ ((I 0 9) < 3)) → P (.inl (some (.int (-1))), (am_SH, I, J, Pf), k, n)) : am_go sc d 171 (0, [some (.ref 0)], [], (am_SH, I, J, Pf), k, n) P := by
  refine am_s_aload_n rfl dc171_0.1.1.1 ?_
  refine am_x_getI (x := I 0 9) dc171_0.1.1.2 rfl rfl (Or.inl rfl) rfl ?_
  refine am_s_iconst am_cc3 dc171_0.1.2.1 ?_
  refine am_s_ic_lt dc171_0.1.2.2 rfl (fun c1 => ?_) (fun c1 => ?_)
  · refine am_s_aload_n rfl dc171_0.2.2.1 ?_
    refine am_s_getR (r := 111) dc171_0.2.2.2 rfl rfl rfl (hp _ _ _ rfl) ?_
    refine am_s_aload_n rfl dc171_1.1.1.1 ?_
    refine am_x_getI (x := I 0 9) dc171_1.1.1.2 rfl rfl (Or.inl rfl) rfl ?_
    refine am_s_aaload (r := r18) dc171_1.1.2.1 rfl rfl (q1 c1) (q2 c1) ?_
    refine am_s_aload_n rfl dc171_1.1.2.2 ?_
    refine am_s_getR (r := 108) dc171_1.2.1.1 rfl rfl rfl (hp _ _ _ rfl) ?_
    exact am_s_virtual false dc171_1.2.1.2 rfl (by decide) rfl (q3 c1) rfl (q4 c1)
  · refine am_s_iconst am_ccm1 dc171_0.2.1.1 ?_
    exact am_s_ireturn dc171_0.2.1.2 rfl (q5 c1)
theorem t171_26 {sc : Option (Nat × (Nat → Int32))} {d k n : Nat} {P : am_O → Prop} {I : am_I} {J : am_J} {Pf : am_R} (hp : am_PF Pf) {r34 : Nat} (q1 : am_in (I 0 9) 3 = true) (q2 : Pf 111 (Int32.toNatClampNeg (I 0 9)) = some r34) (q3 : am_SH[r34]? = some (.inl 5)) (q4 : am_mth d 71 [.ref r34, .ref 135] (am_SH, I, J, Pf) (am_af sc d 171 39 [some (.ref 0)] [.ref 135, .ref r34] [] (am_SH, I, J, Pf) k n false P)) : am_go sc d 171 (26, [some (.ref 0)], [], (am_SH, I, J, Pf), k, n) P := by
  refine am_s_aload_n rfl dc171_1.2.2.1 ?_
  refine am_s_getR (r := 111) dc171_1.2.2.2 rfl rfl rfl (hp _ _ _ rfl) ?_
  refine am_s_aload_n rfl dc171_2.1.1.1 ?_
  refine am_x_getI (x := I 0 9) dc171_2.1.1.2 rfl rfl (Or.inl rfl) rfl ?_
  refine am_s_aaload (r := r34) dc171_2.1.2.1 rfl rfl (q1) (q2) ?_
  refine am_s_aload_n rfl dc171_2.1.2.2 ?_
  refine am_s_getR (r := 135) dc171_2.2.1.1 rfl rfl rfl (hp _ _ _ rfl) ?_
  exact am_s_virtual false dc171_2.2.1.2 rfl (by decide) rfl (q3) rfl (q4)
theorem t171_42 {sc : Option (Nat × (Nat → Int32))} {d k n : Nat} {P : am_O → Prop} {I : am_I} {J : am_J} {Pf : am_R} (hp : am_PF Pf)  (q1 : P (.inl (some (.int ((I 0 9) + 1))), (am_SH, am_u I 0 9 ((I 0 9) + 1), J, Pf), k, n)) : am_go sc d 171 (42, [some (.ref 0)], [], (am_SH, I, J, Pf), k, n) P := by
  refine am_s_aload_n rfl dc171_2.2.2.1 ?_
  refine am_s_dup rfl dc171_2.2.2.2 ?_
  refine am_x_getI (x := I 0 9) dc171_3.1.1 rfl rfl (Or.inl rfl) rfl ?_
  refine am_s_iconst am_cc1 dc171_3.1.2.1 ?_
  refine am_s_iadd dc171_3.1.2.2 ?_
  refine am_s_putI dc171_3.2.1.1 rfl rfl rfl rfl ?_
  refine am_s_aload_n rfl dc171_3.2.1.2 ?_
  refine am_x_getI (x := (I 0 9) + 1) dc171_3.2.2.1 rfl rfl (Or.inl rfl) rfl ?_
  exact am_s_ireturn dc171_3.2.2.2 rfl (q1)
-- restore ()I
theorem dc172_0 : (((decode (am_by 172) 0 = .ok (.aload_n 0, 1)) ∧ (decode (am_by 172) 1 = .ok (.getfield 122, 3))) ∧ ((decode (am_by 172) 4 = .ok (.ifCond .ne 5, 3)) ∧ (decode (am_by 172) 7 = .ok (.iconst (-1), 1)))) ∧ (((decode (am_by 172) 8 = .ok (.ireturn, 1)) ∧ (decode (am_by 172) 9 = .ok (.aload_n 0, 1))) ∧ ((decode (am_by 172) 10 = .ok (.dup, 1)) ∧ (decode (am_by 172) 11 = .ok (.getfield 122, 3)))) := by decide +kernel
theorem dc172_1 : (((decode (am_by 172) 14 = .ok (.iconst 1, 1)) ∧ (decode (am_by 172) 15 = .ok (.isub, 1))) ∧ ((decode (am_by 172) 16 = .ok (.putfield 122, 3)) ∧ (decode (am_by 172) 19 = .ok (.aload_n 0, 1)))) ∧ (((decode (am_by 172) 20 = .ok (.getfield 53, 3)) ∧ (decode (am_by 172) 23 = .ok (.aload_n 0, 1))) ∧ ((decode (am_by 172) 24 = .ok (.getfield 57, 3)) ∧ (decode (am_by 172) 27 = .ok (.aload_n 0, 1)))) := by decide +kernel
theorem dc172_2 : (((decode (am_by 172) 28 = .ok (.getfield 122, 3)) ∧ (decode (am_by 172) 31 = .ok (.aaload, 1))) ∧ ((decode (am_by 172) 32 = .ok (.invokevirtual 335, 3)) ∧ (decode (am_by 172) 35 = .ok (.aload_n 0, 1)))) ∧ (((decode (am_by 172) 36 = .ok (.getfield 53, 3)) ∧ (decode (am_by 172) 39 = .ok (.aload_n 0, 1))) ∧ ((decode (am_by 172) 40 = .ok (.getfield 71, 3)) ∧ (decode (am_by 172) 43 = .ok (.invokevirtual 166, 3)))) := by decide +kernel
theorem dc172_3 : ((decode (am_by 172) 46 = .ok (.aload_n 0, 1)) ∧ ((decode (am_by 172) 47 = .ok (.iconst 0, 1)) ∧ (decode (am_by 172) 48 = .ok (.invokevirtual 131, 3)))) ∧ ((decode (am_by 172) 51 = .ok (.aload_n 0, 1)) ∧ ((decode (am_by 172) 52 = .ok (.getfield 122, 3)) ∧ (decode (am_by 172) 55 = .ok (.ireturn, 1)))) := by decide +kernel
theorem t172_0 {sc : Option (Nat × (Nat → Int32))} {d k n : Nat} {P : am_O → Prop} {I : am_I} {J : am_J} {Pf : am_R} (hp : am_PF Pf) {r31 : Nat} (q1 : (¬ (I 0 9) = 0) → am_in ((I 0 9) - 1) 3 = true) (q2 : (¬ (I 0 9) = 0) → Pf 111 (Int32.toNatClampNeg ((I 0 9) - 1)) = some r31) (q3 : (¬ (I 0 9) = 0) → am_SH[r31]? = some (.inl 5)) (q4 : (¬ (I 0 9) = 0) → am_mth d 73 [.ref 108, .ref r31] (am_SH, am_u I 0 9 ((I 0 9) - 1), J, Pf) (am_af sc d 172 32 [some (.ref 0)] [.ref r31, .ref 108] [] (am_SH, am_u I 0 9 ((I 0 9) - 1), J, Pf) k n false P)) (q5 : (¬ (¬ (I 0 9) = 0)) → P (.inl (some (.int (-1))), (am_SH, I, J, Pf), k, n)) : am_go sc d 172 (0, [some (.ref 0)], [], (am_SH, I, J, Pf), k, n) P := by
  refine am_s_aload_n rfl dc172_0.1.1.1 ?_
  refine am_x_getI (x := I 0 9) dc172_0.1.1.2 rfl rfl (Or.inl rfl) rfl ?_
  refine am_s_if_ne dc172_0.1.2.1 rfl (fun c1 => ?_) (fun c1 => ?_)
  · refine am_s_aload_n rfl dc172_0.2.1.2 ?_
    refine am_s_dup rfl dc172_0.2.2.1 ?_
    refine am_x_getI (x := I 0 9) dc172_0.2.2.2 rfl rfl (Or.inl rfl) rfl ?_
    refine am_s_iconst am_cc1 dc172_1.1.1.1 ?_
    refine am_s_isub dc172_1.1.1.2 ?_
    refine am_s_putI dc172_1.1.2.1 rfl rfl rfl rfl ?_
    refine am_s_aload_n rfl dc172_1.1.2.2 ?_
    refine am_s_getR (r := 108) dc172_1.2.1.1 rfl rfl rfl (hp _ _ _ rfl) ?_
    refine am_s_aload_n rfl dc172_1.2.1.2 ?_
    refine am_s_getR (r := 111) dc172_1.2.2.1 rfl rfl rfl (hp _ _ _ rfl) ?_
    refine am_s_aload_n rfl dc172_1.2.2.2 ?_
    refine am_x_getI (x := (I 0 9) - 1) dc172_2.1.1.1 rfl rfl (Or.inl rfl) rfl ?_
    refine am_s_aaload (r := r31) dc172_2.1.1.2 rfl rfl (q1 c1) (q2 c1) ?_
    exact am_s_virtual false dc172_2.1.2.1 rfl (by decide) rfl rfl rfl (q4 c1)
  · refine am_s_iconst am_ccm1 dc172_0.1.2.2 ?_
    exact am_s_ireturn dc172_0.2.1.1 rfl (q5 c1)
theorem t172_35 {sc : Option (Nat × (Nat → Int32))} {d k n : Nat} {P : am_O → Prop} {I : am_I} {J : am_J} {Pf : am_R} (hp : am_PF Pf)  (q1 : am_mth d 72 [.ref 108, .ref 135] (am_SH, I, J, Pf) (am_af sc d 172 43 [some (.ref 0)] [.ref 135, .ref 108] [] (am_SH, I, J, Pf) k n false P)) : am_go sc d 172 (35, [some (.ref 0)], [], (am_SH, I, J, Pf), k, n) P := by
  refine am_s_aload_n rfl dc172_2.1.2.2 ?_
  refine am_s_getR (r := 108) dc172_2.2.1.1 rfl rfl rfl (hp _ _ _ rfl) ?_
  refine am_s_aload_n rfl dc172_2.2.1.2 ?_
  refine am_s_getR (r := 135) dc172_2.2.2.1 rfl rfl rfl (hp _ _ _ rfl) ?_
  exact am_s_virtual false dc172_2.2.2.2 rfl (by decide) rfl rfl rfl (q1)
theorem t172_46 {sc : Option (Nat × (Nat → Int32))} {d k n : Nat} {P : am_O → Prop} {I : am_I} {J : am_J} {Pf : am_R} (hp : am_PF Pf)  (q1 : am_mth d 179 [.ref 0, .int 0] (am_SH, I, J, Pf) (am_af sc d 172 48 [some (.ref 0)] [.int 0, .ref 0] [] (am_SH, I, J, Pf) k n true P)) : am_go sc d 172 (46, [some (.ref 0)], [], (am_SH, I, J, Pf), k, n) P := by
  refine am_s_aload_n rfl dc172_3.1.1 ?_
  refine am_s_iconst am_cc0 dc172_3.1.2.1 ?_
  exact am_s_virtual true dc172_3.1.2.2 rfl (by decide) rfl rfl rfl (q1)
theorem t172_51 {sc : Option (Nat × (Nat → Int32))} {d k n : Nat} {P : am_O → Prop} {I : am_I} {J : am_J} {Pf : am_R} (hp : am_PF Pf)  (q1 : P (.inl (some (.int (I 0 9))), (am_SH, I, J, Pf), k, n)) : am_go sc d 172 (51, [some (.ref 0)], [], (am_SH, I, J, Pf), k, n) P := by
  refine am_s_aload_n rfl dc172_3.2.1 ?_
  refine am_x_getI (x := I 0 9) dc172_3.2.2.1 rfl rfl (Or.inl rfl) rfl ?_
  exact am_s_ireturn dc172_3.2.2.2 rfl (q1)
-- status (I)I
theorem dc173_0 : (((decode (am_by 173) 0 = .ok (.iload_n 1, 1)) ∧ (decode (am_by 173) 1 = .ok (.ifCond .ne 8, 3))) ∧ ((decode (am_by 173) 4 = .ok (.aload_n 0, 1)) ∧ (decode (am_by 173) 5 = .ok (.getfield 339, 3)))) ∧ (((decode (am_by 173) 8 = .ok (.ireturn, 1)) ∧ (decode (am_by 173) 9 = .ok (.iload_n 1, 1))) ∧ ((decode (am_by 173) 10 = .ok (.iconst 1, 1)) ∧ (decode (am_by 173) 11 = .ok (.if_icmp .ne 10, 3)))) := by decide +kernel
theorem dc173_1 : ((decode (am_by 173) 14 = .ok (.aload_n 0, 1)) ∧ (decode (am_by 173) 15 = .ok (.getfield 342, 3))) ∧ ((decode (am_by 173) 18 = .ok (.goto 4, 3)) ∧ ((decode (am_by 173) 21 = .ok (.iconst (-1), 1)) ∧ (decode (am_by 173) 22 = .ok (.ireturn, 1)))) := by decide +kernel
theorem t173_0 {sc : Option (Nat × (Nat → Int32))} {d k n : Nat} {P : am_O → Prop} {I : am_I} {J : am_J} {Pf : am_R} (hp : am_PF Pf) {x1 : Int32} (q1 : (¬ x1 = 0) → (¬ x1 = 1) → P (.inl (some (.int (-1))), (am_SH, I, J, Pf), k, n)) (q2 : (¬ x1 = 0) → (¬ (¬ x1 = 1)) → P (.inl (some (.int (I 0 19))), (am_SH, I, J, Pf), k, n)) (q3 : (¬ (¬ x1 = 0)) → P (.inl (some (.int (I 0 18))), (am_SH, I, J, Pf), k, n)) : am_go sc d 173 (0, [some (.ref 0), some (.int x1)], [], (am_SH, I, J, Pf), k, n) P := by
  refine am_s_iload_n rfl dc173_0.1.1.1 ?_
  refine am_s_if_ne dc173_0.1.1.2 rfl (fun c1 => ?_) (fun c1 => ?_)
  · refine am_s_iload_n rfl dc173_0.2.1.2 ?_
    refine am_s_iconst am_cc1 dc173_0.2.2.1 ?_
    refine am_s_ic_ne dc173_0.2.2.2 rfl (fun c2 => ?_) (fun c2 => ?_)
    · refine am_s_iconst am_ccm1 dc173_1.2.2.1 ?_
      exact am_s_ireturn dc173_1.2.2.2 rfl (q1 c1 c2)
    · refine am_s_aload_n rfl dc173_1.1.1 ?_
      refine am_x_getI (x := I 0 19) dc173_1.1.2 rfl rfl (Or.inl rfl) rfl ?_
      refine am_s_goto rfl dc173_1.2.1 ?_
      exact am_s_ireturn dc173_1.2.2.2 rfl (q2 c1 c2)
  · refine am_s_aload_n rfl dc173_0.1.2.1 ?_
    refine am_x_getI (x := I 0 18) dc173_0.1.2.2 rfl rfl (Or.inl rfl) rfl ?_
    exact am_s_ireturn dc173_0.2.1.1 rfl (q3 c1)
-- count (I)I
theorem dc174_0 : (((decode (am_by 174) 0 = .ok (.iload_n 1, 1)) ∧ (decode (am_by 174) 1 = .ok (.tableswitch 48 0 2 #[27, 32, 40], 27))) ∧ ((decode (am_by 174) 28 = .ok (.aload_n 0, 1)) ∧ (decode (am_by 174) 29 = .ok (.getfield 122, 3)))) ∧ (((decode (am_by 174) 32 = .ok (.ireturn, 1)) ∧ (decode (am_by 174) 33 = .ok (.aload_n 0, 1))) ∧ ((decode (am_by 174) 34 = .ok (.getfield 10, 3)) ∧ (decode (am_by 174) 37 = .ok (.getfield 95, 3)))) := by decide +kernel
theorem dc174_1 : ((decode (am_by 174) 40 = .ok (.ireturn, 1)) ∧ ((decode (am_by 174) 41 = .ok (.aload_n 0, 1)) ∧ (decode (am_by 174) 42 = .ok (.getfield 53, 3)))) ∧ (((decode (am_by 174) 45 = .ok (.getfield 125, 3)) ∧ (decode (am_by 174) 48 = .ok (.ireturn, 1))) ∧ ((decode (am_by 174) 49 = .ok (.iconst (-1), 1)) ∧ (decode (am_by 174) 50 = .ok (.ireturn, 1)))) := by decide +kernel
theorem t174_0 {sc : Option (Nat × (Nat → Int32))} {d k n : Nat} {P : am_O → Prop} {I : am_I} {J : am_J} {Pf : am_R} (hp : am_PF Pf) {x1 : Int32} (q1 : am_go sc d 174 (1, [some (.ref 0), some (.int x1)], [.int x1], (am_SH, I, J, Pf), k, n) P) : am_go sc d 174 (0, [some (.ref 0), some (.int x1)], [], (am_SH, I, J, Pf), k, n) P := by
  refine am_s_iload_n rfl dc174_0.1.1.1 ?_
  exact q1
-- needOne (II)V
theorem dc175_0 : (((decode (am_by 175) 0 = .ok (.iload_n 1, 1)) ∧ (decode (am_by 175) 1 = .ok (.ifCond .lt 9, 3))) ∧ ((decode (am_by 175) 4 = .ok (.iload_n 1, 1)) ∧ (decode (am_by 175) 5 = .ok (.iload_n 2, 1)))) ∧ (((decode (am_by 175) 6 = .ok (.if_icmp .ge 4, 3)) ∧ (decode (am_by 175) 9 = .ok (.return_, 1))) ∧ ((decode (am_by 175) 10 = .ok (.aload_n 0, 1)) ∧ (decode (am_by 175) 11 = .ok (.dup, 1)))) := by decide +kernel
theorem dc175_1 : (((decode (am_by 175) 12 = .ok (.getfield 339, 3)) ∧ (decode (am_by 175) 15 = .ok (.iconst 1, 1))) ∧ ((decode (am_by 175) 16 = .ok (.iadd, 1)) ∧ (decode (am_by 175) 17 = .ok (.putfield 339, 3)))) ∧ (((decode (am_by 175) 20 = .ok (.new 345, 3)) ∧ (decode (am_by 175) 23 = .ok (.dup, 1))) ∧ ((decode (am_by 175) 24 = .ok (.ldc_w 347, 3)) ∧ (decode (am_by 175) 27 = .ok (.invokespecial 349, 3)))) := by decide +kernel
theorem dc175_2 : decode (am_by 175) 30 = .ok (.athrow, 1) := by decide +kernel
theorem t175_0 {sc : Option (Nat × (Nat → Int32))} {d k n : Nat} {P : am_O → Prop} {I : am_I} {J : am_J} {Pf : am_R} (hp : am_PF Pf) {x1 : Int32} {x2 : Int32} (q1 : (x1 < 0) → am_go sc d 175 (10, [some (.ref 0), some (.int x1), some (.int x2)], [], (am_SH, I, J, Pf), k, n) P) (q2 : (¬ (x1 < 0)) → (x2 ≤ x1) → am_go sc d 175 (10, [some (.ref 0), some (.int x1), some (.int x2)], [], (am_SH, I, J, Pf), k, n) P) (q3 : (¬ (x1 < 0)) → (¬ (x2 ≤ x1)) → P (.inl none, (am_SH, I, J, Pf), k, n)) : am_go sc d 175 (0, [some (.ref 0), some (.int x1), some (.int x2)], [], (am_SH, I, J, Pf), k, n) P := by
  refine am_s_iload_n rfl dc175_0.1.1.1 ?_
  refine am_s_if_lt dc175_0.1.1.2 rfl (fun c1 => ?_) (fun c1 => ?_)
  · exact q1 c1
  · refine am_s_iload_n rfl dc175_0.1.2.1 ?_
    refine am_s_iload_n rfl dc175_0.1.2.2 ?_
    refine am_s_ic_ge dc175_0.2.1.1 rfl (fun c2 => ?_) (fun c2 => ?_)
    · exact q2 c1 c2
    · exact am_s_return dc175_0.2.1.2 rfl (q3 c1 c2)
theorem t175_10 {sc : Option (Nat × (Nat → Int32))} {d k n : Nat} {P : am_O → Prop} {I : am_I} {J : am_J} {Pf : am_R} (hp : am_PF Pf) {l1 : Option Value} {l2 : Option Value} (q1 : am_go sc d 175 (20, [some (.ref 0), l1, l2], [], (am_SH, am_u I 0 18 ((I 0 18) + 1), J, Pf), k, n) P) : am_go sc d 175 (10, [some (.ref 0), l1, l2], [], (am_SH, I, J, Pf), k, n) P := by
  refine am_s_aload_n rfl dc175_0.2.2.1 ?_
  refine am_s_dup rfl dc175_0.2.2.2 ?_
  refine am_x_getI (x := I 0 18) dc175_1.1.1.1 rfl rfl (Or.inl rfl) rfl ?_
  refine am_s_iconst am_cc1 dc175_1.1.1.2 ?_
  refine am_s_iadd dc175_1.1.2.1 ?_
  refine am_s_putI dc175_1.1.2.2 rfl rfl rfl rfl ?_
  exact q1
-- needWithin (III)V
theorem dc176_0 : (((decode (am_by 176) 0 = .ok (.iload_n 1, 1)) ∧ (decode (am_by 176) 1 = .ok (.iload_n 2, 1))) ∧ ((decode (am_by 176) 2 = .ok (.if_icmp .lt 9, 3)) ∧ (decode (am_by 176) 5 = .ok (.iload_n 1, 1)))) ∧ (((decode (am_by 176) 6 = .ok (.iload_n 3, 1)) ∧ (decode (am_by 176) 7 = .ok (.if_icmp .gt 4, 3))) ∧ ((decode (am_by 176) 10 = .ok (.return_, 1)) ∧ (decode (am_by 176) 11 = .ok (.aload_n 0, 1)))) := by decide +kernel
theorem dc176_1 : (((decode (am_by 176) 12 = .ok (.dup, 1)) ∧ (decode (am_by 176) 13 = .ok (.getfield 342, 3))) ∧ ((decode (am_by 176) 16 = .ok (.iconst 1, 1)) ∧ (decode (am_by 176) 17 = .ok (.iadd, 1)))) ∧ (((decode (am_by 176) 18 = .ok (.putfield 342, 3)) ∧ (decode (am_by 176) 21 = .ok (.new 352, 3))) ∧ ((decode (am_by 176) 24 = .ok (.dup, 1)) ∧ (decode (am_by 176) 25 = .ok (.ldc_w 354, 3)))) := by decide +kernel
theorem dc176_2 : (decode (am_by 176) 28 = .ok (.invokespecial 356, 3)) ∧ (decode (am_by 176) 31 = .ok (.athrow, 1)) := by decide +kernel
theorem t176_0 {sc : Option (Nat × (Nat → Int32))} {d k n : Nat} {P : am_O → Prop} {I : am_I} {J : am_J} {Pf : am_R} (hp : am_PF Pf) {x1 : Int32} {x2 : Int32} {x3 : Int32} (q1 : (x1 < x2) → am_go sc d 176 (11, [some (.ref 0), some (.int x1), some (.int x2), some (.int x3)], [], (am_SH, I, J, Pf), k, n) P) (q2 : (¬ (x1 < x2)) → (x3 < x1) → am_go sc d 176 (11, [some (.ref 0), some (.int x1), some (.int x2), some (.int x3)], [], (am_SH, I, J, Pf), k, n) P) (q3 : (¬ (x1 < x2)) → (¬ (x3 < x1)) → P (.inl none, (am_SH, I, J, Pf), k, n)) : am_go sc d 176 (0, [some (.ref 0), some (.int x1), some (.int x2), some (.int x3)], [], (am_SH, I, J, Pf), k, n) P := by
  refine am_s_iload_n rfl dc176_0.1.1.1 ?_
  refine am_s_iload_n rfl dc176_0.1.1.2 ?_
  refine am_s_ic_lt dc176_0.1.2.1 rfl (fun c1 => ?_) (fun c1 => ?_)
  · exact q1 c1
  · refine am_s_iload_n rfl dc176_0.1.2.2 ?_
    refine am_s_iload_n rfl dc176_0.2.1.1 ?_
    refine am_s_ic_gt dc176_0.2.1.2 rfl (fun c2 => ?_) (fun c2 => ?_)
    · exact q2 c1 c2
    · exact am_s_return dc176_0.2.2.1 rfl (q3 c1 c2)
theorem t176_11 {sc : Option (Nat × (Nat → Int32))} {d k n : Nat} {P : am_O → Prop} {I : am_I} {J : am_J} {Pf : am_R} (hp : am_PF Pf) {l1 : Option Value} {l2 : Option Value} {l3 : Option Value} (q1 : am_go sc d 176 (21, [some (.ref 0), l1, l2, l3], [], (am_SH, am_u I 0 19 ((I 0 19) + 1), J, Pf), k, n) P) : am_go sc d 176 (11, [some (.ref 0), l1, l2, l3], [], (am_SH, I, J, Pf), k, n) P := by
  refine am_s_aload_n rfl dc176_0.2.2.2 ?_
  refine am_s_dup rfl dc176_1.1.1.1 ?_
  refine am_x_getI (x := I 0 19) dc176_1.1.1.2 rfl rfl (Or.inl rfl) rfl ?_
  refine am_s_iconst am_cc1 dc176_1.1.2.1 ?_
  refine am_s_iadd dc176_1.1.2.2 ?_
  refine am_s_putI dc176_1.2.1.1 rfl rfl rfl rfl ?_
  exact q1
-- needSort (I)V
theorem dc177_0 : ((decode (am_by 177) 0 = .ok (.aload_n 0, 1)) ∧ ((decode (am_by 177) 1 = .ok (.iload_n 1, 1)) ∧ (decode (am_by 177) 2 = .ok (.iconst 0, 1)))) ∧ ((decode (am_by 177) 3 = .ok (.bipush 7, 2)) ∧ ((decode (am_by 177) 5 = .ok (.invokevirtual 102, 3)) ∧ (decode (am_by 177) 8 = .ok (.return_, 1)))) := by decide +kernel
theorem t177_0 {sc : Option (Nat × (Nat → Int32))} {d k n : Nat} {P : am_O → Prop} {I : am_I} {J : am_J} {Pf : am_R} (hp : am_PF Pf) {x1 : Int32} (q1 : am_mth d 176 [.ref 0, .int x1, .int 0, .int 7] (am_SH, I, J, Pf) (am_af sc d 177 5 [some (.ref 0), some (.int x1)] [.int 7, .int 0, .int x1, .ref 0] [] (am_SH, I, J, Pf) k n true P)) : am_go sc d 177 (0, [some (.ref 0), some (.int x1)], [], (am_SH, I, J, Pf), k, n) P := by
  refine am_s_aload_n rfl dc177_0.1.1 ?_
  refine am_s_iload_n rfl dc177_0.1.2.1 ?_
  refine am_s_iconst am_cc0 dc177_0.1.2.2 ?_
  refine am_s_bipush am_cb7 dc177_0.2.1 ?_
  exact am_s_virtual true dc177_0.2.2.1 rfl (by decide) rfl rfl rfl (q1)
theorem t177_8 {sc : Option (Nat × (Nat → Int32))} {d k n : Nat} {P : am_O → Prop} {I : am_I} {J : am_J} {Pf : am_R} (hp : am_PF Pf) {l0 : Option Value} {l1 : Option Value} (q1 : P (.inl none, (am_SH, I, J, Pf), k, n)) : am_go sc d 177 (8, [l0, l1], [], (am_SH, I, J, Pf), k, n) P := by
  exact am_s_return dc177_0.2.2.2 rfl (q1)
-- needPiece (III)V
theorem dc178_0 : (((decode (am_by 178) 0 = .ok (.aload_n 0, 1)) ∧ (decode (am_by 178) 1 = .ok (.iload_n 1, 1))) ∧ ((decode (am_by 178) 2 = .ok (.invokevirtual 250, 3)) ∧ (decode (am_by 178) 5 = .ok (.aload_n 0, 1)))) ∧ (((decode (am_by 178) 6 = .ok (.iload_n 3, 1)) ∧ (decode (am_by 178) 7 = .ok (.iconst 0, 1))) ∧ ((decode (am_by 178) 8 = .ok (.aload_n 0, 1)) ∧ (decode (am_by 178) 9 = .ok (.getfield 71, 3)))) := by decide +kernel
theorem dc178_1 : (((decode (am_by 178) 12 = .ok (.getfield 128, 3)) ∧ (decode (am_by 178) 15 = .ok (.invokevirtual 102, 3))) ∧ ((decode (am_by 178) 18 = .ok (.aload_n 0, 1)) ∧ (decode (am_by 178) 19 = .ok (.iload_n 2, 1)))) ∧ (((decode (am_by 178) 20 = .ok (.iconst 0, 1)) ∧ (decode (am_by 178) 21 = .ok (.iload_n 3, 1))) ∧ ((decode (am_by 178) 22 = .ok (.invokevirtual 102, 3)) ∧ (decode (am_by 178) 25 = .ok (.return_, 1)))) := by decide +kernel
theorem t178_0 {sc : Option (Nat × (Nat → Int32))} {d k n : Nat} {P : am_O → Prop} {I : am_I} {J : am_J} {Pf : am_R} (hp : am_PF Pf) {x1 : Int32} {x2 : Int32} {x3 : Int32} (q1 : am_mth d 177 [.ref 0, .int x1] (am_SH, I, J, Pf) (am_af sc d 178 2 [some (.ref 0), some (.int x1), some (.int x2), some (.int x3)] [.int x1, .ref 0] [] (am_SH, I, J, Pf) k n true P)) : am_go sc d 178 (0, [some (.ref 0), some (.int x1), some (.int x2), some (.int x3)], [], (am_SH, I, J, Pf), k, n) P := by
  refine am_s_aload_n rfl dc178_0.1.1.1 ?_
  refine am_s_iload_n rfl dc178_0.1.1.2 ?_
  exact am_s_virtual true dc178_0.1.2.1 rfl (by decide) rfl rfl rfl (q1)
theorem t178_5 {sc : Option (Nat × (Nat → Int32))} {d k n : Nat} {P : am_O → Prop} {I : am_I} {J : am_J} {Pf : am_R} (hp : am_PF Pf) {l1 : Option Value} {x2 : Int32} {x3 : Int32} (q1 : am_mth d 176 [.ref 0, .int x3, .int 0, .int (I 135 1)] (am_SH, I, J, Pf) (am_af sc d 178 15 [some (.ref 0), l1, some (.int x2), some (.int x3)] [.int (I 135 1), .int 0, .int x3, .ref 0] [] (am_SH, I, J, Pf) k n true P)) : am_go sc d 178 (5, [some (.ref 0), l1, some (.int x2), some (.int x3)], [], (am_SH, I, J, Pf), k, n) P := by
  refine am_s_aload_n rfl dc178_0.1.2.2 ?_
  refine am_s_iload_n rfl dc178_0.2.1.1 ?_
  refine am_s_iconst am_cc0 dc178_0.2.1.2 ?_
  refine am_s_aload_n rfl dc178_0.2.2.1 ?_
  refine am_s_getR (r := 135) dc178_0.2.2.2 rfl rfl rfl (hp _ _ _ rfl) ?_
  refine am_x_getI (x := I 135 1) dc178_1.1.1.1 rfl rfl (Or.inl rfl) rfl ?_
  exact am_s_virtual true dc178_1.1.1.2 rfl (by decide) rfl rfl rfl (q1)
theorem t178_18 {sc : Option (Nat × (Nat → Int32))} {d k n : Nat} {P : am_O → Prop} {I : am_I} {J : am_J} {Pf : am_R} (hp : am_PF Pf) {l1 : Option Value} {x2 : Int32} {x3 : Int32} (q1 : am_mth d 176 [.ref 0, .int x2, .int 0, .int x3] (am_SH, I, J, Pf) (am_af sc d 178 22 [some (.ref 0), l1, some (.int x2), some (.int x3)] [.int x3, .int 0, .int x2, .ref 0] [] (am_SH, I, J, Pf) k n true P)) : am_go sc d 178 (18, [some (.ref 0), l1, some (.int x2), some (.int x3)], [], (am_SH, I, J, Pf), k, n) P := by
  refine am_s_aload_n rfl dc178_1.1.2.1 ?_
  refine am_s_iload_n rfl dc178_1.1.2.2 ?_
  refine am_s_iconst am_cc0 dc178_1.2.1.1 ?_
  refine am_s_iload_n rfl dc178_1.2.1.2 ?_
  exact am_s_virtual true dc178_1.2.2.1 rfl (by decide) rfl rfl rfl (q1)
theorem t178_25 {sc : Option (Nat × (Nat → Int32))} {d k n : Nat} {P : am_O → Prop} {I : am_I} {J : am_J} {Pf : am_R} (hp : am_PF Pf) {l0 : Option Value} {l1 : Option Value} {l2 : Option Value} {l3 : Option Value} (q1 : P (.inl none, (am_SH, I, J, Pf), k, n)) : am_go sc d 178 (25, [l0, l1, l2, l3], [], (am_SH, I, J, Pf), k, n) P := by
  exact am_s_return dc178_1.2.2.2 rfl (q1)
-- textChanged (I)V
theorem dc179_0 : ((decode (am_by 179) 0 = .ok (.aload_n 0, 1)) ∧ ((decode (am_by 179) 1 = .ok (.iload_n 1, 1)) ∧ (decode (am_by 179) 2 = .ok (.putfield 200, 3)))) ∧ (((decode (am_by 179) 5 = .ok (.aload_n 0, 1)) ∧ (decode (am_by 179) 6 = .ok (.iconst 0, 1))) ∧ ((decode (am_by 179) 7 = .ok (.putfield 357, 3)) ∧ (decode (am_by 179) 10 = .ok (.return_, 1)))) := by decide +kernel
theorem t179_0 {sc : Option (Nat × (Nat → Int32))} {d k n : Nat} {P : am_O → Prop} {I : am_I} {J : am_J} {Pf : am_R} (hp : am_PF Pf) {x1 : Int32} (q1 : P (.inl none, (am_SH, am_u (am_u I 0 16 x1) 0 12 0, J, Pf), k, n)) : am_go sc d 179 (0, [some (.ref 0), some (.int x1)], [], (am_SH, I, J, Pf), k, n) P := by
  refine am_s_aload_n rfl dc179_0.1.1 ?_
  refine am_s_iload_n rfl dc179_0.1.2.1 ?_
  refine am_s_putI dc179_0.1.2.2 rfl rfl rfl rfl ?_
  refine am_s_aload_n rfl dc179_0.2.1.1 ?_
  refine am_s_iconst am_cc0 dc179_0.2.1.2 ?_
  refine am_s_putZ dc179_0.2.2.1 rfl rfl rfl rfl (by decide) ?_
  exact am_s_return dc179_0.2.2.2 rfl (q1)
-- look ()V
theorem dc180_0 : (((decode (am_by 180) 0 = .ok (.aload_n 0, 1)) ∧ (decode (am_by 180) 1 = .ok (.getfield 357, 3))) ∧ ((decode (am_by 180) 4 = .ok (.ifCond .eq 4, 3)) ∧ (decode (am_by 180) 7 = .ok (.return_, 1)))) ∧ (((decode (am_by 180) 8 = .ok (.aload_n 0, 1)) ∧ (decode (am_by 180) 9 = .ok (.getfield 64, 3))) ∧ ((decode (am_by 180) 12 = .ok (.aload_n 0, 1)) ∧ (decode (am_by 180) 13 = .ok (.getfield 71, 3)))) := by decide +kernel
theorem dc180_1 : (((decode (am_by 180) 16 = .ok (.iconst 0, 1)) ∧ (decode (am_by 180) 17 = .ok (.aload_n 0, 1))) ∧ ((decode (am_by 180) 18 = .ok (.getfield 71, 3)) ∧ (decode (am_by 180) 21 = .ok (.getfield 128, 3)))) ∧ (((decode (am_by 180) 24 = .ok (.invokevirtual 361, 3)) ∧ (decode (am_by 180) 27 = .ok (.aload_n 0, 1))) ∧ ((decode (am_by 180) 28 = .ok (.getfield 83, 3)) ∧ (decode (am_by 180) 31 = .ok (.invokevirtual 365, 3)))) := by decide +kernel
theorem dc180_2 : ((decode (am_by 180) 34 = .ok (.aload_n 0, 1)) ∧ (decode (am_by 180) 35 = .ok (.iconst 1, 1))) ∧ ((decode (am_by 180) 36 = .ok (.putfield 357, 3)) ∧ (decode (am_by 180) 39 = .ok (.return_, 1))) := by decide +kernel
theorem t180_0 {sc : Option (Nat × (Nat → Int32))} {d k n : Nat} {P : am_O → Prop} {I : am_I} {J : am_J} {Pf : am_R} (hp : am_PF Pf)  (q1 : ((I 0 12) = 0) → am_mth d 2 [.ref 112, .ref 135, .int 0, .int (I 135 1)] (am_SH, I, J, Pf) (am_af sc d 180 24 [some (.ref 0)] [.int (I 135 1), .int 0, .ref 135, .ref 112] [] (am_SH, I, J, Pf) k n false P)) (q2 : (¬ ((I 0 12) = 0)) → P (.inl none, (am_SH, I, J, Pf), k, n)) : am_go sc d 180 (0, [some (.ref 0)], [], (am_SH, I, J, Pf), k, n) P := by
  refine am_s_aload_n rfl dc180_0.1.1.1 ?_
  refine am_x_getI (x := I 0 12) dc180_0.1.1.2 rfl rfl (Or.inr rfl) rfl ?_
  refine am_s_if_eq dc180_0.1.2.1 rfl (fun c1 => ?_) (fun c1 => ?_)
  · refine am_s_aload_n rfl dc180_0.2.1.1 ?_
    refine am_s_getR (r := 112) dc180_0.2.1.2 rfl rfl rfl (hp _ _ _ rfl) ?_
    refine am_s_aload_n rfl dc180_0.2.2.1 ?_
    refine am_s_getR (r := 135) dc180_0.2.2.2 rfl rfl rfl (hp _ _ _ rfl) ?_
    refine am_s_iconst am_cc0 dc180_1.1.1.1 ?_
    refine am_s_aload_n rfl dc180_1.1.1.2 ?_
    refine am_s_getR (r := 135) dc180_1.1.2.1 rfl rfl rfl (hp _ _ _ rfl) ?_
    refine am_x_getI (x := I 135 1) dc180_1.1.2.2 rfl rfl (Or.inl rfl) rfl ?_
    exact am_s_virtual false dc180_1.2.1.1 rfl (by decide) rfl rfl rfl (q1 c1)
  · exact am_s_return dc180_0.1.2.2 rfl (q2 c1)
theorem t180_27 {sc : Option (Nat × (Nat → Int32))} {d k n : Nat} {P : am_O → Prop} {I : am_I} {J : am_J} {Pf : am_R} (hp : am_PF Pf)  (q1 : am_mth d 123 [.ref 145] (am_SH, I, J, Pf) (am_af sc d 180 31 [some (.ref 0)] [.ref 145] [] (am_SH, I, J, Pf) k n false P)) : am_go sc d 180 (27, [some (.ref 0)], [], (am_SH, I, J, Pf), k, n) P := by
  refine am_s_aload_n rfl dc180_1.2.1.2 ?_
  refine am_s_getR (r := 145) dc180_1.2.2.1 rfl rfl rfl (hp _ _ _ rfl) ?_
  exact am_s_virtual false dc180_1.2.2.2 rfl (by decide) rfl rfl rfl (q1)
theorem t180_34 {sc : Option (Nat × (Nat → Int32))} {d k n : Nat} {P : am_O → Prop} {I : am_I} {J : am_J} {Pf : am_R} (hp : am_PF Pf)  (q1 : P (.inl none, (am_SH, am_u I 0 12 1, J, Pf), k, n)) : am_go sc d 180 (34, [some (.ref 0)], [], (am_SH, I, J, Pf), k, n) P := by
  refine am_s_aload_n rfl dc180_2.1.1 ?_
  refine am_s_iconst am_cc1 dc180_2.1.2 ?_
  refine am_s_putZ dc180_2.2.1 rfl rfl rfl rfl (by decide) ?_
  exact am_s_return dc180_2.2.2 rfl (q1)
-- lookAtTrial ()I
theorem dc181_0 : (((decode (am_by 181) 0 = .ok (.aload_n 0, 1)) ∧ (decode (am_by 181) 1 = .ok (.getfield 64, 3))) ∧ ((decode (am_by 181) 4 = .ok (.aload_n 0, 1)) ∧ (decode (am_by 181) 5 = .ok (.getfield 75, 3)))) ∧ (((decode (am_by 181) 8 = .ok (.iconst 0, 1)) ∧ (decode (am_by 181) 9 = .ok (.aload_n 0, 1))) ∧ ((decode (am_by 181) 10 = .ok (.getfield 75, 3)) ∧ (decode (am_by 181) 13 = .ok (.getfield 128, 3)))) := by decide +kernel
theorem dc181_1 : ((decode (am_by 181) 16 = .ok (.invokevirtual 361, 3)) ∧ (decode (am_by 181) 19 = .ok (.aload_n 0, 1))) ∧ ((decode (am_by 181) 20 = .ok (.getfield 75, 3)) ∧ ((decode (am_by 181) 23 = .ok (.invokevirtual 196, 3)) ∧ (decode (am_by 181) 26 = .ok (.ireturn, 1)))) := by decide +kernel
theorem t181_0 {sc : Option (Nat × (Nat → Int32))} {d k n : Nat} {P : am_O → Prop} {I : am_I} {J : am_J} {Pf : am_R} (hp : am_PF Pf)  (q1 : am_mth d 2 [.ref 112, .ref 140, .int 0, .int (I 140 1)] (am_SH, I, J, Pf) (am_af sc d 181 16 [some (.ref 0)] [.int (I 140 1), .int 0, .ref 140, .ref 112] [] (am_SH, I, J, Pf) k n false P)) : am_go sc d 181 (0, [some (.ref 0)], [], (am_SH, I, J, Pf), k, n) P := by
  refine am_s_aload_n rfl dc181_0.1.1.1 ?_
  refine am_s_getR (r := 112) dc181_0.1.1.2 rfl rfl rfl (hp _ _ _ rfl) ?_
  refine am_s_aload_n rfl dc181_0.1.2.1 ?_
  refine am_s_getR (r := 140) dc181_0.1.2.2 rfl rfl rfl (hp _ _ _ rfl) ?_
  refine am_s_iconst am_cc0 dc181_0.2.1.1 ?_
  refine am_s_aload_n rfl dc181_0.2.1.2 ?_
  refine am_s_getR (r := 140) dc181_0.2.2.1 rfl rfl rfl (hp _ _ _ rfl) ?_
  refine am_x_getI (x := I 140 1) dc181_0.2.2.2 rfl rfl (Or.inl rfl) rfl ?_
  exact am_s_virtual false dc181_1.1.1 rfl (by decide) rfl rfl rfl (q1)
theorem t181_19 {sc : Option (Nat × (Nat → Int32))} {d k n : Nat} {P : am_O → Prop} {I : am_I} {J : am_J} {Pf : am_R} (hp : am_PF Pf)  (q1 : am_mth d 119 [.ref 140] (am_SH, I, J, Pf) (am_af sc d 181 23 [some (.ref 0)] [.ref 140] [] (am_SH, I, J, Pf) k n false P)) : am_go sc d 181 (19, [some (.ref 0)], [], (am_SH, I, J, Pf), k, n) P := by
  refine am_s_aload_n rfl dc181_1.1.2 ?_
  refine am_s_getR (r := 140) dc181_1.2.1 rfl rfl rfl (hp _ _ _ rfl) ?_
  exact am_s_virtual false dc181_1.2.2.1 rfl (by decide) rfl rfl rfl (q1)
theorem t181_26 {sc : Option (Nat × (Nat → Int32))} {d k n : Nat} {P : am_O → Prop} {I : am_I} {J : am_J} {Pf : am_R} (hp : am_PF Pf) {l0 : Option Value} {s0 : Int32} (q1 : P (.inl (some (.int s0)), (am_SH, I, J, Pf), k, n)) : am_go sc d 181 (26, [l0], [.int s0], (am_SH, I, J, Pf), k, n) P := by
  exact am_s_ireturn dc181_1.2.2.2 rfl (q1)
-- drawBy (I)I
theorem dc182_0 : (((decode (am_by 182) 0 = .ok (.aload_n 0, 1)) ∧ (decode (am_by 182) 1 = .ok (.aload_n 0, 1))) ∧ ((decode (am_by 182) 2 = .ok (.getfield 368, 3)) ∧ (decode (am_by 182) 5 = .ok (.ldc_w 371, 3)))) ∧ (((decode (am_by 182) 8 = .ok (.imul, 1)) ∧ (decode (am_by 182) 9 = .ok (.sipush 12345, 3))) ∧ ((decode (am_by 182) 12 = .ok (.iadd, 1)) ∧ (decode (am_by 182) 13 = .ok (.putfield 368, 3)))) := by decide +kernel
theorem dc182_1 : (((decode (am_by 182) 16 = .ok (.iload_n 1, 1)) ∧ (decode (am_by 182) 17 = .ok (.iconst 1, 1))) ∧ ((decode (am_by 182) 18 = .ok (.if_icmp .ge 7, 3)) ∧ (decode (am_by 182) 21 = .ok (.iconst 0, 1)))) ∧ (((decode (am_by 182) 22 = .ok (.goto 16, 3)) ∧ (decode (am_by 182) 25 = .ok (.aload_n 0, 1))) ∧ ((decode (am_by 182) 26 = .ok (.getfield 368, 3)) ∧ (decode (am_by 182) 29 = .ok (.bipush 16, 2)))) := by decide +kernel
theorem dc182_2 : ((decode (am_by 182) 31 = .ok (.iushr, 1)) ∧ ((decode (am_by 182) 32 = .ok (.sipush 32767, 3)) ∧ (decode (am_by 182) 35 = .ok (.iand, 1)))) ∧ ((decode (am_by 182) 36 = .ok (.iload_n 1, 1)) ∧ ((decode (am_by 182) 37 = .ok (.irem, 1)) ∧ (decode (am_by 182) 38 = .ok (.ireturn, 1)))) := by decide +kernel
theorem t182_0 {sc : Option (Nat × (Nat → Int32))} {d k n : Nat} {P : am_O → Prop} {I : am_I} {J : am_J} {Pf : am_R} (hp : am_PF Pf) {x1 : Int32} (q1 : (1 ≤ x1) → ¬ x1 = 0) (q2 : (1 ≤ x1) → P (.inl (some (.int (((UInt32.toInt32 (Int32.toUInt32 (((I 0 17) * 1103515245) + 12345) >>> (Int32.toUInt32 16 &&& Int32.toUInt32 31))) &&& 32767) - ((UInt32.toInt32 (Int32.toUInt32 (((I 0 17) * 1103515245) + 12345) >>> (Int32.toUInt32 16 &&& Int32.toUInt32 31))) &&& 32767) / x1 * x1))), (am_SH, am_u I 0 17 (((I 0 17) * 1103515245) + 12345), J, Pf), k, n)) (q3 : (¬ (1 ≤ x1)) → P (.inl (some (.int 0)), (am_SH, am_u I 0 17 (((I 0 17) * 1103515245) + 12345), J, Pf), k, n)) : am_go sc d 182 (0, [some (.ref 0), some (.int x1)], [], (am_SH, I, J, Pf), k, n) P := by
  refine am_s_aload_n rfl dc182_0.1.1.1 ?_
  refine am_s_aload_n rfl dc182_0.1.1.2 ?_
  refine am_x_getI (x := I 0 17) dc182_0.1.2.1 rfl rfl (Or.inl rfl) rfl ?_
  refine am_s_ldcw (x := 1103515245) dc182_0.1.2.2 rfl rfl rfl ?_
  refine am_s_imul dc182_0.2.1.1 ?_
  refine am_s_sipush am_cs12345 dc182_0.2.1.2 ?_
  refine am_s_iadd dc182_0.2.2.1 ?_
  refine am_s_putI dc182_0.2.2.2 rfl rfl rfl rfl ?_
  refine am_s_iload_n rfl dc182_1.1.1.1 ?_
  refine am_s_iconst am_cc1 dc182_1.1.1.2 ?_
  refine am_s_ic_ge dc182_1.1.2.1 rfl (fun c1 => ?_) (fun c1 => ?_)
  · refine am_s_aload_n rfl dc182_1.2.1.2 ?_
    refine am_x_getI (x := ((I 0 17) * 1103515245) + 12345) dc182_1.2.2.1 rfl rfl (Or.inl rfl) rfl ?_
    refine am_s_bipush am_cb16 dc182_1.2.2.2 ?_
    refine am_s_iushr dc182_2.1.1 ?_
    refine am_s_sipush am_cs32767 dc182_2.1.2.1 ?_
    refine am_s_iand dc182_2.1.2.2 ?_
    refine am_s_iload_n rfl dc182_2.2.1 ?_
    refine am_s_irem (q1 c1) dc182_2.2.2.1 ?_
    exact am_s_ireturn dc182_2.2.2.2 rfl (q2 c1)
  · refine am_s_iconst am_cc0 dc182_1.1.2.2 ?_
    refine am_s_goto rfl dc182_1.2.1.1 ?_
    exact am_s_ireturn dc182_2.2.2.2 rfl (q3 c1)
-- passYear (IIZ)I
theorem dc183_0 : (((decode (am_by 183) 0 = .ok (.aload_n 0, 1)) ∧ (decode (am_by 183) 1 = .ok (.getfield 75, 3))) ∧ ((decode (am_by 183) 4 = .ok (.aload_n 0, 1)) ∧ (decode (am_by 183) 5 = .ok (.getfield 71, 3)))) ∧ (((decode (am_by 183) 8 = .ok (.invokevirtual 372, 3)) ∧ (decode (am_by 183) 11 = .ok (.aload_n 0, 1))) ∧ ((decode (am_by 183) 12 = .ok (.iload_n 1, 1)) ∧ (decode (am_by 183) 13 = .ok (.putfield 368, 3)))) := by decide +kernel
theorem dc183_1 : (((decode (am_by 183) 16 = .ok (.iconst 0, 1)) ∧ (decode (am_by 183) 17 = .ok (.istore 4, 2))) ∧ ((decode (am_by 183) 19 = .ok (.iconst 0, 1)) ∧ (decode (am_by 183) 20 = .ok (.istore 5, 2)))) ∧ (((decode (am_by 183) 22 = .ok (.iconst 0, 1)) ∧ (decode (am_by 183) 23 = .ok (.istore 6, 2))) ∧ ((decode (am_by 183) 25 = .ok (.iload 6, 2)) ∧ (decode (am_by 183) 27 = .ok (.iload_n 2, 1)))) := by decide +kernel
theorem dc183_2 : (((decode (am_by 183) 28 = .ok (.if_icmp .ge 72, 3)) ∧ (decode (am_by 183) 31 = .ok (.aload_n 0, 1))) ∧ ((decode (am_by 183) 32 = .ok (.aload_n 0, 1)) ∧ (decode (am_by 183) 33 = .ok (.iconst 4, 1)))) ∧ (((decode (am_by 183) 34 = .ok (.invokevirtual 375, 3)) ∧ (decode (am_by 183) 37 = .ok (.invokevirtual 378, 3))) ∧ ((decode (am_by 183) 40 = .ok (.ifCond .ne 6, 3)) ∧ (decode (am_by 183) 43 = .ok (.iinc 4 1, 3)))) := by decide +kernel
theorem dc183_3 : (((decode (am_by 183) 46 = .ok (.iload_n 3, 1)) ∧ (decode (am_by 183) 47 = .ok (.ifCond .ne 6, 3))) ∧ ((decode (am_by 183) 50 = .ok (.goto 44, 3)) ∧ (decode (am_by 183) 53 = .ok (.aload_n 0, 1)))) ∧ (((decode (am_by 183) 54 = .ok (.getfield 64, 3)) ∧ (decode (am_by 183) 57 = .ok (.aload_n 0, 1))) ∧ ((decode (am_by 183) 58 = .ok (.getfield 75, 3)) ∧ (decode (am_by 183) 61 = .ok (.iconst 0, 1)))) := by decide +kernel
theorem dc183_4 : (((decode (am_by 183) 62 = .ok (.aload_n 0, 1)) ∧ (decode (am_by 183) 63 = .ok (.getfield 75, 3))) ∧ ((decode (am_by 183) 66 = .ok (.getfield 128, 3)) ∧ (decode (am_by 183) 69 = .ok (.invokevirtual 361, 3)))) ∧ (((decode (am_by 183) 72 = .ok (.aload_n 0, 1)) ∧ (decode (am_by 183) 73 = .ok (.getfield 75, 3))) ∧ ((decode (am_by 183) 76 = .ok (.iconst 0, 1)) ∧ (decode (am_by 183) 77 = .ok (.iconst 0, 1)))) := by decide +kernel
theorem dc183_5 : (((decode (am_by 183) 78 = .ok (.aload_n 0, 1)) ∧ (decode (am_by 183) 79 = .ok (.getfield 75, 3))) ∧ ((decode (am_by 183) 82 = .ok (.getfield 128, 3)) ∧ (decode (am_by 183) 85 = .ok (.invokevirtual 277, 3)))) ∧ (((decode (am_by 183) 88 = .ok (.ifCond .eq 6, 3)) ∧ (decode (am_by 183) 91 = .ok (.iinc 5 1, 3))) ∧ ((decode (am_by 183) 94 = .ok (.iinc 6 1, 3)) ∧ (decode (am_by 183) 97 = .ok (.goto (-72), 3)))) := by decide +kernel
theorem dc183_6 : ((decode (am_by 183) 100 = .ok (.iload_n 3, 1)) ∧ ((decode (am_by 183) 101 = .ok (.ifCond .eq 8, 3)) ∧ (decode (am_by 183) 104 = .ok (.iload 5, 2)))) ∧ ((decode (am_by 183) 106 = .ok (.goto 5, 3)) ∧ ((decode (am_by 183) 109 = .ok (.iload 4, 2)) ∧ (decode (am_by 183) 111 = .ok (.ireturn, 1)))) := by decide +kernel
theorem t183_0 {sc : Option (Nat × (Nat → Int32))} {d k n : Nat} {P : am_O → Prop} {I : am_I} {J : am_J} {Pf : am_R} (hp : am_PF Pf) {x1 : Int32} {x2 : Int32} {x3 : Int32} {l4 : Option Value} {l5 : Option Value} {l6 : Option Value} (q1 : am_mth d 109 [.ref 140, .ref 135] (am_SH, I, J, Pf) (am_af sc d 183 8 [some (.ref 0), some (.int x1), some (.int x2), some (.int x3), l4, l5, l6] [.ref 135, .ref 140] [] (am_SH, I, J, Pf) k n false P)) : am_go sc d 183 (0, [some (.ref 0), some (.int x1), some (.int x2), some (.int x3), l4, l5, l6], [], (am_SH, I, J, Pf), k, n) P := by
  refine am_s_aload_n rfl dc183_0.1.1.1 ?_
  refine am_s_getR (r := 140) dc183_0.1.1.2 rfl rfl rfl (hp _ _ _ rfl) ?_
  refine am_s_aload_n rfl dc183_0.1.2.1 ?_
  refine am_s_getR (r := 135) dc183_0.1.2.2 rfl rfl rfl (hp _ _ _ rfl) ?_
  exact am_s_virtual false dc183_0.2.1.1 rfl (by decide) rfl rfl rfl (q1)
theorem t183_25 {sc : Option (Nat × (Nat → Int32))} {d k n : Nat} {P : am_O → Prop} {I : am_I} {J : am_J} {Pf : am_R} (hp : am_PF Pf) {l1 : Option Value} {x2 : Int32} {x3 : Int32} {x4 : Int32} {x5 : Int32} {x6 : Int32} (q1 : (x2 ≤ x6) → (x3 = 0) → P (.inl (some (.int x4)), (am_SH, I, J, Pf), k, n)) (q2 : (x2 ≤ x6) → (¬ (x3 = 0)) → P (.inl (some (.int x5)), (am_SH, I, J, Pf), k, n)) (q3 : (¬ (x2 ≤ x6)) → am_mth d 182 [.ref 0, .int 4] (am_SH, I, J, Pf) (am_af sc d 183 34 [some (.ref 0), l1, some (.int x2), some (.int x3), some (.int x4), some (.int x5), some (.int x6)] [.int 4, .ref 0, .ref 0] [.ref 0] (am_SH, I, J, Pf) k n true P)) : am_go sc d 183 (25, [some (.ref 0), l1, some (.int x2), some (.int x3), some (.int x4), some (.int x5), some (.int x6)], [], (am_SH, I, J, Pf), k, n) P := by
  refine am_s_iload rfl dc183_1.2.2.1 ?_
  refine am_s_iload_n rfl dc183_1.2.2.2 ?_
  refine am_s_ic_ge dc183_2.1.1.1 rfl (fun c1 => ?_) (fun c1 => ?_)
  · refine am_s_iload_n rfl dc183_6.1.1 ?_
    refine am_s_if_eq dc183_6.1.2.1 rfl (fun c2 => ?_) (fun c2 => ?_)
    · refine am_s_iload rfl dc183_6.2.2.1 ?_
      exact am_s_ireturn dc183_6.2.2.2 rfl (q1 c1 c2)
    · refine am_s_iload rfl dc183_6.1.2.2 ?_
      refine am_s_goto rfl dc183_6.2.1 ?_
      exact am_s_ireturn dc183_6.2.2.2 rfl (q2 c1 c2)
  · refine am_s_aload_n rfl dc183_2.1.1.2 ?_
    refine am_s_aload_n rfl dc183_2.1.2.1 ?_
    refine am_s_iconst am_cc4 dc183_2.1.2.2 ?_
    exact am_s_virtual true dc183_2.2.1.1 rfl (by decide) rfl rfl rfl (q3 c1)
theorem t183_11 {sc : Option (Nat × (Nat → Int32))} {d k n : Nat} {P : am_O → Prop} {I : am_I} {J : am_J} {Pf : am_R} (hp : am_PF Pf) {x1 : Int32} {x2 : Int32} {x3 : Int32} {l4 : Option Value} {l5 : Option Value} {l6 : Option Value} (q1 : am_go sc d 183 (25, [some (.ref 0), some (.int x1), some (.int x2), some (.int x3), some (.int 0), some (.int 0), some (.int 0)], [], (am_SH, am_u I 0 17 x1, J, Pf), k, n) P) : am_go sc d 183 (11, [some (.ref 0), some (.int x1), some (.int x2), some (.int x3), l4, l5, l6], [], (am_SH, I, J, Pf), k, n) P := by
  refine am_s_aload_n rfl dc183_0.2.1.2 ?_
  refine am_s_iload_n rfl dc183_0.2.2.1 ?_
  refine am_s_putI dc183_0.2.2.2 rfl rfl rfl rfl ?_
  refine am_s_iconst am_cc0 dc183_1.1.1.1 ?_
  refine am_s_istore (ls' := [some (.ref 0), some (.int x1), some (.int x2), some (.int x3), some (.int 0), l5, l6]) rfl rfl dc183_1.1.1.2 ?_
  refine am_s_iconst am_cc0 dc183_1.1.2.1 ?_
  refine am_s_istore (ls' := [some (.ref 0), some (.int x1), some (.int x2), some (.int x3), some (.int 0), some (.int 0), l6]) rfl rfl dc183_1.1.2.2 ?_
  refine am_s_iconst am_cc0 dc183_1.2.1.1 ?_
  refine am_s_istore (ls' := [some (.ref 0), some (.int x1), some (.int x2), some (.int x3), some (.int 0), some (.int 0), some (.int 0)]) rfl rfl dc183_1.2.1.2 ?_
  exact q1
theorem t183_37 {sc : Option (Nat × (Nat → Int32))} {d k n : Nat} {P : am_O → Prop} {I : am_I} {J : am_J} {Pf : am_R} (hp : am_PF Pf) {l1 : Option Value} {x2 : Int32} {x3 : Int32} {x4 : Int32} {x5 : Int32} {x6 : Int32} {s1 : Int32} (q1 : am_mth d 184 [.ref 0, .int s1] (am_SH, I, J, Pf) (am_af sc d 183 37 [some (.ref 0), l1, some (.int x2), some (.int x3), some (.int x4), some (.int x5), some (.int x6)] [.int s1, .ref 0] [] (am_SH, I, J, Pf) k n true P)) : am_go sc d 183 (37, [some (.ref 0), l1, some (.int x2), some (.int x3), some (.int x4), some (.int x5), some (.int x6)], [.int s1, .ref 0], (am_SH, I, J, Pf), k, n) P := by
  exact am_s_virtual true dc183_2.2.1.2 rfl (by decide) rfl rfl rfl (q1)
theorem t183_40 {sc : Option (Nat × (Nat → Int32))} {d k n : Nat} {P : am_O → Prop} {I : am_I} {J : am_J} {Pf : am_R} (hp : am_PF Pf) {l1 : Option Value} {x2 : Int32} {x3 : Int32} {x4 : Int32} {x5 : Int32} {x6 : Int32} {s0 : Int32} (q1 : (¬ s0 = 0) → (¬ x3 = 0) → am_mth d 2 [.ref 112, .ref 140, .int 0, .int (I 140 1)] (am_SH, I, J, Pf) (am_af sc d 183 69 [some (.ref 0), l1, some (.int x2), some (.int x3), some (.int x4), some (.int x5), some (.int x6)] [.int (I 140 1), .int 0, .ref 140, .ref 112] [] (am_SH, I, J, Pf) k n false P)) (q2 : (¬ s0 = 0) → (¬ (¬ x3 = 0)) → am_go sc d 183 (25, [some (.ref 0), l1, some (.int x2), some (.int x3), some (.int x4), some (.int x5), some (.int (x6 + 1))], [], (am_SH, I, J, Pf), k, n) P) (q3 : (¬ (¬ s0 = 0)) → (¬ x3 = 0) → am_mth d 2 [.ref 112, .ref 140, .int 0, .int (I 140 1)] (am_SH, I, J, Pf) (am_af sc d 183 69 [some (.ref 0), l1, some (.int x2), some (.int x3), some (.int (x4 + 1)), some (.int x5), some (.int x6)] [.int (I 140 1), .int 0, .ref 140, .ref 112] [] (am_SH, I, J, Pf) k n false P)) (q4 : (¬ (¬ s0 = 0)) → (¬ (¬ x3 = 0)) → am_go sc d 183 (25, [some (.ref 0), l1, some (.int x2), some (.int x3), some (.int (x4 + 1)), some (.int x5), some (.int (x6 + 1))], [], (am_SH, I, J, Pf), k, n) P) : am_go sc d 183 (40, [some (.ref 0), l1, some (.int x2), some (.int x3), some (.int x4), some (.int x5), some (.int x6)], [.int s0], (am_SH, I, J, Pf), k, n) P := by
  refine am_s_if_ne dc183_2.2.2.1 rfl (fun c1 => ?_) (fun c1 => ?_)
  · refine am_s_iload_n rfl dc183_3.1.1.1 ?_
    refine am_s_if_ne dc183_3.1.1.2 rfl (fun c2 => ?_) (fun c2 => ?_)
    · refine am_s_aload_n rfl dc183_3.1.2.2 ?_
      refine am_s_getR (r := 112) dc183_3.2.1.1 rfl rfl rfl (hp _ _ _ rfl) ?_
      refine am_s_aload_n rfl dc183_3.2.1.2 ?_
      refine am_s_getR (r := 140) dc183_3.2.2.1 rfl rfl rfl (hp _ _ _ rfl) ?_
      refine am_s_iconst am_cc0 dc183_3.2.2.2 ?_
      refine am_s_aload_n rfl dc183_4.1.1.1 ?_
      refine am_s_getR (r := 140) dc183_4.1.1.2 rfl rfl rfl (hp _ _ _ rfl) ?_
      refine am_x_getI (x := I 140 1) dc183_4.1.2.1 rfl rfl (Or.inl rfl) rfl ?_
      exact am_s_virtual false dc183_4.1.2.2 rfl (by decide) rfl rfl rfl (q1 c1 c2)
    · refine am_s_goto rfl dc183_3.1.2.1 ?_
      refine am_s_iinc (ls' := [some (.ref 0), l1, some (.int x2), some (.int x3), some (.int x4), some (.int x5), some (.int (x6 + 1))]) am_cc1 rfl rfl dc183_5.2.2.1 ?_
      refine am_s_goto rfl dc183_5.2.2.2 ?_
      exact q2 c1 c2
  · refine am_s_iinc (ls' := [some (.ref 0), l1, some (.int x2), some (.int x3), some (.int (x4 + 1)), some (.int x5), some (.int x6)]) am_cc1 rfl rfl dc183_2.2.2.2 ?_
    refine am_s_iload_n rfl dc183_3.1.1.1 ?_
    refine am_s_if_ne dc183_3.1.1.2 rfl (fun c2 => ?_) (fun c2 => ?_)
    · refine am_s_aload_n rfl dc183_3.1.2.2 ?_
      refine am_s_getR (r := 112) dc183_3.2.1.1 rfl rfl rfl (hp _ _ _ rfl) ?_
      refine am_s_aload_n rfl dc183_3.2.1.2 ?_
      refine am_s_getR (r := 140) dc183_3.2.2.1 rfl rfl rfl (hp _ _ _ rfl) ?_
      refine am_s_iconst am_cc0 dc183_3.2.2.2 ?_
      refine am_s_aload_n rfl dc183_4.1.1.1 ?_
      refine am_s_getR (r := 140) dc183_4.1.1.2 rfl rfl rfl (hp _ _ _ rfl) ?_
      refine am_x_getI (x := I 140 1) dc183_4.1.2.1 rfl rfl (Or.inl rfl) rfl ?_
      exact am_s_virtual false dc183_4.1.2.2 rfl (by decide) rfl rfl rfl (q3 c1 c2)
    · refine am_s_goto rfl dc183_3.1.2.1 ?_
      refine am_s_iinc (ls' := [some (.ref 0), l1, some (.int x2), some (.int x3), some (.int (x4 + 1)), some (.int x5), some (.int (x6 + 1))]) am_cc1 rfl rfl dc183_5.2.2.1 ?_
      refine am_s_goto rfl dc183_5.2.2.2 ?_
      exact q4 c1 c2
theorem t183_72 {sc : Option (Nat × (Nat → Int32))} {d k n : Nat} {P : am_O → Prop} {I : am_I} {J : am_J} {Pf : am_R} (hp : am_PF Pf) {l1 : Option Value} {x2 : Int32} {x3 : Int32} {x4 : Int32} {x5 : Int32} {x6 : Int32} (q1 : am_mth d 118 [.ref 140, .int 0, .int 0, .int (I 140 1)] (am_SH, I, J, Pf) (am_af sc d 183 85 [some (.ref 0), l1, some (.int x2), some (.int x3), some (.int x4), some (.int x5), some (.int x6)] [.int (I 140 1), .int 0, .int 0, .ref 140] [] (am_SH, I, J, Pf) k n false P)) : am_go sc d 183 (72, [some (.ref 0), l1, some (.int x2), some (.int x3), some (.int x4), some (.int x5), some (.int x6)], [], (am_SH, I, J, Pf), k, n) P := by
  refine am_s_aload_n rfl dc183_4.2.1.1 ?_
  refine am_s_getR (r := 140) dc183_4.2.1.2 rfl rfl rfl (hp _ _ _ rfl) ?_
  refine am_s_iconst am_cc0 dc183_4.2.2.1 ?_
  refine am_s_iconst am_cc0 dc183_4.2.2.2 ?_
  refine am_s_aload_n rfl dc183_5.1.1.1 ?_
  refine am_s_getR (r := 140) dc183_5.1.1.2 rfl rfl rfl (hp _ _ _ rfl) ?_
  refine am_x_getI (x := I 140 1) dc183_5.1.2.1 rfl rfl (Or.inl rfl) rfl ?_
  exact am_s_virtual false dc183_5.1.2.2 rfl (by decide) rfl rfl rfl (q1)
theorem t183_88 {sc : Option (Nat × (Nat → Int32))} {d k n : Nat} {P : am_O → Prop} {I : am_I} {J : am_J} {Pf : am_R} (hp : am_PF Pf) {l1 : Option Value} {x2 : Int32} {x3 : Int32} {x4 : Int32} {x5 : Int32} {x6 : Int32} {s0 : Int32} (q1 : (s0 = 0) → am_go sc d 183 (25, [some (.ref 0), l1, some (.int x2), some (.int x3), some (.int x4), some (.int x5), some (.int (x6 + 1))], [], (am_SH, I, J, Pf), k, n) P) (q2 : (¬ (s0 = 0)) → am_go sc d 183 (25, [some (.ref 0), l1, some (.int x2), some (.int x3), some (.int x4), some (.int (x5 + 1)), some (.int (x6 + 1))], [], (am_SH, I, J, Pf), k, n) P) : am_go sc d 183 (88, [some (.ref 0), l1, some (.int x2), some (.int x3), some (.int x4), some (.int x5), some (.int x6)], [.int s0], (am_SH, I, J, Pf), k, n) P := by
  refine am_s_if_eq dc183_5.2.1.1 rfl (fun c1 => ?_) (fun c1 => ?_)
  · refine am_s_iinc (ls' := [some (.ref 0), l1, some (.int x2), some (.int x3), some (.int x4), some (.int x5), some (.int (x6 + 1))]) am_cc1 rfl rfl dc183_5.2.2.1 ?_
    refine am_s_goto rfl dc183_5.2.2.2 ?_
    exact q1 c1
  · refine am_s_iinc (ls' := [some (.ref 0), l1, some (.int x2), some (.int x3), some (.int x4), some (.int (x5 + 1)), some (.int x6)]) am_cc1 rfl rfl dc183_5.2.1.2 ?_
    refine am_s_iinc (ls' := [some (.ref 0), l1, some (.int x2), some (.int x3), some (.int x4), some (.int (x5 + 1)), some (.int (x6 + 1))]) am_cc1 rfl rfl dc183_5.2.2.1 ?_
    refine am_s_goto rfl dc183_5.2.2.2 ?_
    exact q2 c1
-- editTrial (I)Z
theorem dc184_0 : (((decode (am_by 184) 0 = .ok (.iload_n 1, 1)) ∧ (decode (am_by 184) 1 = .ok (.iconst 3, 1))) ∧ ((decode (am_by 184) 2 = .ok (.if_icmp .ne 25, 3)) ∧ (decode (am_by 184) 5 = .ok (.aload_n 0, 1)))) ∧ (((decode (am_by 184) 6 = .ok (.bipush 24, 2)) ∧ (decode (am_by 184) 8 = .ok (.invokevirtual 375, 3))) ∧ ((decode (am_by 184) 11 = .ok (.istore_n 2, 1)) ∧ (decode (am_by 184) 12 = .ok (.aload_n 0, 1)))) := by decide +kernel
theorem dc184_1 : (((decode (am_by 184) 13 = .ok (.getfield 75, 3)) ∧ (decode (am_by 184) 16 = .ok (.iload_n 2, 1))) ∧ ((decode (am_by 184) 17 = .ok (.aload_n 0, 1)) ∧ (decode (am_by 184) 18 = .ok (.bipush 24, 2)))) ∧ (((decode (am_by 184) 20 = .ok (.invokevirtual 375, 3)) ∧ (decode (am_by 184) 23 = .ok (.invokevirtual 381, 3))) ∧ ((decode (am_by 184) 26 = .ok (.ireturn, 1)) ∧ (decode (am_by 184) 27 = .ok (.aload_n 0, 1)))) := by decide +kernel
theorem dc184_2 : (((decode (am_by 184) 28 = .ok (.aload_n 0, 1)) ∧ (decode (am_by 184) 29 = .ok (.getfield 75, 3))) ∧ ((decode (am_by 184) 32 = .ok (.getfield 128, 3)) ∧ (decode (am_by 184) 35 = .ok (.iconst 1, 1)))) ∧ (((decode (am_by 184) 36 = .ok (.iadd, 1)) ∧ (decode (am_by 184) 37 = .ok (.invokevirtual 375, 3))) ∧ ((decode (am_by 184) 40 = .ok (.istore_n 2, 1)) ∧ (decode (am_by 184) 41 = .ok (.iload_n 1, 1)))) := by decide +kernel
theorem dc184_3 : (((decode (am_by 184) 42 = .ok (.iconst 2, 1)) ∧ (decode (am_by 184) 43 = .ok (.if_icmp .ne 13, 3))) ∧ ((decode (am_by 184) 46 = .ok (.aload_n 0, 1)) ∧ (decode (am_by 184) 47 = .ok (.getfield 75, 3)))) ∧ (((decode (am_by 184) 50 = .ok (.iload_n 2, 1)) ∧ (decode (am_by 184) 51 = .ok (.iconst 1, 1))) ∧ ((decode (am_by 184) 52 = .ok (.invokevirtual 385, 3)) ∧ (decode (am_by 184) 55 = .ok (.ireturn, 1)))) := by decide +kernel
theorem dc184_4 : (((decode (am_by 184) 56 = .ok (.aload_n 0, 1)) ∧ (decode (am_by 184) 57 = .ok (.getfield 75, 3))) ∧ ((decode (am_by 184) 60 = .ok (.iload_n 2, 1)) ∧ (decode (am_by 184) 61 = .ok (.bipush 32, 2)))) ∧ (((decode (am_by 184) 63 = .ok (.aload_n 0, 1)) ∧ (decode (am_by 184) 64 = .ok (.bipush 95, 2))) ∧ ((decode (am_by 184) 66 = .ok (.invokevirtual 375, 3)) ∧ (decode (am_by 184) 69 = .ok (.iadd, 1)))) := by decide +kernel
theorem dc184_5 : (decode (am_by 184) 70 = .ok (.invokevirtual 388, 3)) ∧ (decode (am_by 184) 73 = .ok (.ireturn, 1)) := by decide +kernel
theorem t184_0 {sc : Option (Nat × (Nat → Int32))} {d k n : Nat} {P : am_O → Prop} {I : am_I} {J : am_J} {Pf : am_R} (hp : am_PF Pf) {x1 : Int32} {l2 : Option Value} (q1 : (¬ x1 = 3) → am_mth d 182 [.ref 0, .int ((I 140 1) + 1)] (am_SH, I, J, Pf) (am_af sc d 184 37 [some (.ref 0), some (.int x1), l2] [.int ((I 140 1) + 1), .ref 0] [] (am_SH, I, J, Pf) k n true P)) (q2 : (¬ (¬ x1 = 3)) → am_mth d 182 [.ref 0, .int 24] (am_SH, I, J, Pf) (am_af sc d 184 8 [some (.ref 0), some (.int x1), l2] [.int 24, .ref 0] [] (am_SH, I, J, Pf) k n true P)) : am_go sc d 184 (0, [some (.ref 0), some (.int x1), l2], [], (am_SH, I, J, Pf), k, n) P := by
  refine am_s_iload_n rfl dc184_0.1.1.1 ?_
  refine am_s_iconst am_cc3 dc184_0.1.1.2 ?_
  refine am_s_ic_ne dc184_0.1.2.1 rfl (fun c1 => ?_) (fun c1 => ?_)
  · refine am_s_aload_n rfl dc184_1.2.2.2 ?_
    refine am_s_aload_n rfl dc184_2.1.1.1 ?_
    refine am_s_getR (r := 140) dc184_2.1.1.2 rfl rfl rfl (hp _ _ _ rfl) ?_
    refine am_x_getI (x := I 140 1) dc184_2.1.2.1 rfl rfl (Or.inl rfl) rfl ?_
    refine am_s_iconst am_cc1 dc184_2.1.2.2 ?_
    refine am_s_iadd dc184_2.2.1.1 ?_
    exact am_s_virtual true dc184_2.2.1.2 rfl (by decide) rfl rfl rfl (q1 c1)
  · refine am_s_aload_n rfl dc184_0.1.2.2 ?_
    refine am_s_bipush am_cb24 dc184_0.2.1.1 ?_
    exact am_s_virtual true dc184_0.2.1.2 rfl (by decide) rfl rfl rfl (q2 c1)
theorem t184_11 {sc : Option (Nat × (Nat → Int32))} {d k n : Nat} {P : am_O → Prop} {I : am_I} {J : am_J} {Pf : am_R} (hp : am_PF Pf) {l1 : Option Value} {l2 : Option Value} {s0 : Int32} (hl1 : am_k1 l1 = true) (q1 : am_mth d 182 [.ref 0, .int 24] (am_SH, I, J, Pf) (am_af sc d 184 20 [some (.ref 0), l1, some (.int s0)] [.int 24, .ref 0, .int s0, .ref 140] [.int s0, .ref 140] (am_SH, I, J, Pf) k n true P)) : am_go sc d 184 (11, [some (.ref 0), l1, l2], [.int s0], (am_SH, I, J, Pf), k, n) P := by
  refine am_s_istore_n (ls' := [some (.ref 0), l1, some (.int s0)]) rfl (am_set1_k (am_kill_x (j := 1) rfl hl1) rfl) dc184_0.2.2.1 ?_
  refine am_s_aload_n rfl dc184_0.2.2.2 ?_
  refine am_s_getR (r := 140) dc184_1.1.1.1 rfl rfl rfl (hp _ _ _ rfl) ?_
  refine am_s_iload_n rfl dc184_1.1.1.2 ?_
  refine am_s_aload_n rfl dc184_1.1.2.1 ?_
  refine am_s_bipush am_cb24 dc184_1.1.2.2 ?_
  exact am_s_virtual true dc184_1.2.1.1 rfl (by decide) rfl rfl rfl (q1)
theorem t184_40 {sc : Option (Nat × (Nat → Int32))} {d k n : Nat} {P : am_O → Prop} {I : am_I} {J : am_J} {Pf : am_R} (hp : am_PF Pf) {x1 : Int32} {l2 : Option Value} {s0 : Int32} (q1 : (¬ x1 = 2) → am_mth d 182 [.ref 0, .int 95] (am_SH, I, J, Pf) (am_af sc d 184 66 [some (.ref 0), some (.int x1), some (.int s0)] [.int 95, .ref 0, .int 32, .int s0, .ref 140] [.int 32, .int s0, .ref 140] (am_SH, I, J, Pf) k n true P)) (q2 : (¬ (¬ x1 = 2)) → am_mth d 113 [.ref 140, .int s0, .int 1] (am_SH, I, J, Pf) (am_af sc d 184 52 [some (.ref 0), some (.int x1), some (.int s0)] [.int 1, .int s0, .ref 140] [] (am_SH, I, J, Pf) k n false P)) : am_go sc d 184 (40, [some (.ref 0), some (.int x1), l2], [.int s0], (am_SH, I, J, Pf), k, n) P := by
  refine am_s_istore_n (ls' := [some (.ref 0), some (.int x1), some (.int s0)]) rfl rfl dc184_2.2.2.1 ?_
  refine am_s_iload_n rfl dc184_2.2.2.2 ?_
  refine am_s_iconst am_cc2 dc184_3.1.1.1 ?_
  refine am_s_ic_ne dc184_3.1.1.2 rfl (fun c1 => ?_) (fun c1 => ?_)
  · refine am_s_aload_n rfl dc184_4.1.1.1 ?_
    refine am_s_getR (r := 140) dc184_4.1.1.2 rfl rfl rfl (hp _ _ _ rfl) ?_
    refine am_s_iload_n rfl dc184_4.1.2.1 ?_
    refine am_s_bipush am_cb32 dc184_4.1.2.2 ?_
    refine am_s_aload_n rfl dc184_4.2.1.1 ?_
    refine am_s_bipush am_cb95 dc184_4.2.1.2 ?_
    exact am_s_virtual true dc184_4.2.2.1 rfl (by decide) rfl rfl rfl (q1 c1)
  · refine am_s_aload_n rfl dc184_3.1.2.1 ?_
    refine am_s_getR (r := 140) dc184_3.1.2.2 rfl rfl rfl (hp _ _ _ rfl) ?_
    refine am_s_iload_n rfl dc184_3.2.1.1 ?_
    refine am_s_iconst am_cc1 dc184_3.2.1.2 ?_
    exact am_s_virtual false dc184_3.2.2.1 rfl (by decide) rfl rfl rfl (q2 c1)
theorem t184_23 {sc : Option (Nat × (Nat → Int32))} {d k n : Nat} {P : am_O → Prop} {I : am_I} {J : am_J} {Pf : am_R} (hp : am_PF Pf) {l0 : Option Value} {l1 : Option Value} {l2 : Option Value} {s1 : Int32} {s2 : Int32} (q1 : am_mth d 114 [.ref 140, .int s1, .int s2] (am_SH, I, J, Pf) (am_af sc d 184 23 [l0, l1, l2] [.int s2, .int s1, .ref 140] [] (am_SH, I, J, Pf) k n false P)) : am_go sc d 184 (23, [l0, l1, l2], [.int s2, .int s1, .ref 140], (am_SH, I, J, Pf), k, n) P := by
  exact am_s_virtual false dc184_1.2.1.2 rfl (by decide) rfl rfl rfl (q1)
theorem t184_55 {sc : Option (Nat × (Nat → Int32))} {d k n : Nat} {P : am_O → Prop} {I : am_I} {J : am_J} {Pf : am_R} (hp : am_PF Pf) {l0 : Option Value} {l1 : Option Value} {l2 : Option Value} {s0 : Int32} (q1 : P (.inl (some (.int s0)), (am_SH, I, J, Pf), k, n)) (q2 : s0 = 0 ∨ s0 = 1) : am_go sc d 184 (55, [l0, l1, l2], [.int s0], (am_SH, I, J, Pf), k, n) P := by
  exact am_s_zreturn dc184_3.2.2.2 rfl (q2) (q1)
theorem t184_69 {sc : Option (Nat × (Nat → Int32))} {d k n : Nat} {P : am_O → Prop} {I : am_I} {J : am_J} {Pf : am_R} (hp : am_PF Pf) {l0 : Option Value} {l1 : Option Value} {l2 : Option Value} {s1 : Int32} {s2 : Int32} {s3 : Int32} (q1 : am_mth d 112 [.ref 140, .int s1, .int (s2 + s3)] (am_SH, I, J, Pf) (am_af sc d 184 70 [l0, l1, l2] [.int (s2 + s3), .int s1, .ref 140] [] (am_SH, I, J, Pf) k n false P)) : am_go sc d 184 (69, [l0, l1, l2], [.int s3, .int s2, .int s1, .ref 140], (am_SH, I, J, Pf), k, n) P := by
  refine am_s_iadd dc184_4.2.2.2 ?_
  exact am_s_virtual false dc184_5.1 rfl (by decide) rfl rfl rfl (q1)
theorem t184_26 {sc : Option (Nat × (Nat → Int32))} {d k n : Nat} {P : am_O → Prop} {I : am_I} {J : am_J} {Pf : am_R} (hp : am_PF Pf) {l0 : Option Value} {l1 : Option Value} {l2 : Option Value} {s0 : Int32} (q1 : P (.inl (some (.int s0)), (am_SH, I, J, Pf), k, n)) (q2 : s0 = 0 ∨ s0 = 1) : am_go sc d 184 (26, [l0, l1, l2], [.int s0], (am_SH, I, J, Pf), k, n) P := by
  exact am_s_zreturn dc184_1.2.2.1 rfl (q2) (q1)
theorem t184_73 {sc : Option (Nat × (Nat → Int32))} {d k n : Nat} {P : am_O → Prop} {I : am_I} {J : am_J} {Pf : am_R} (hp : am_PF Pf) {l0 : Option Value} {l1 : Option Value} {l2 : Option Value} {s0 : Int32} (q1 : P (.inl (some (.int s0)), (am_SH, I, J, Pf), k, n)) (q2 : s0 = 0 ∨ s0 = 1) : am_go sc d 184 (73, [l0, l1, l2], [.int s0], (am_SH, I, J, Pf), k, n) P := by
  exact am_s_zreturn dc184_5.2 rfl (q2) (q1)
-- isSign (I)Z
theorem dc185_0 : (((decode (am_by 185) 0 = .ok (.iload_n 0, 1)) ∧ (decode (am_by 185) 1 = .ok (.bipush 32, 2))) ∧ ((decode (am_by 185) 3 = .ok (.if_icmp .lt 13, 3)) ∧ (decode (am_by 185) 6 = .ok (.iload_n 0, 1)))) ∧ (((decode (am_by 185) 7 = .ok (.bipush 126, 2)) ∧ (decode (am_by 185) 9 = .ok (.if_icmp .gt 7, 3))) ∧ ((decode (am_by 185) 12 = .ok (.iconst 1, 1)) ∧ (decode (am_by 185) 13 = .ok (.goto 4, 3)))) := by decide +kernel
theorem dc185_1 : (decode (am_by 185) 16 = .ok (.iconst 0, 1)) ∧ (decode (am_by 185) 17 = .ok (.ireturn, 1)) := by decide +kernel
theorem t185_0 {sc : Option (Nat × (Nat → Int32))} {d k n : Nat} {P : am_O → Prop} {I : am_I} {J : am_J} {Pf : am_R} (hp : am_PF Pf) {x0 : Int32} (q1 : (x0 < 32) → P (.inl (some (.int 0)), (am_SH, I, J, Pf), k, n)) (q2 : (¬ (x0 < 32)) → (126 < x0) → P (.inl (some (.int 0)), (am_SH, I, J, Pf), k, n)) (q3 : (¬ (x0 < 32)) → (¬ (126 < x0)) → P (.inl (some (.int 1)), (am_SH, I, J, Pf), k, n)) : am_go sc d 185 (0, [some (.int x0)], [], (am_SH, I, J, Pf), k, n) P := by
  refine am_s_iload_n rfl dc185_0.1.1.1 ?_
  refine am_s_bipush am_cb32 dc185_0.1.1.2 ?_
  refine am_s_ic_lt dc185_0.1.2.1 rfl (fun c1 => ?_) (fun c1 => ?_)
  · refine am_s_iconst am_cc0 dc185_1.1 ?_
    exact am_s_zreturn dc185_1.2 rfl (by decide) (q1 c1)
  · refine am_s_iload_n rfl dc185_0.1.2.2 ?_
    refine am_s_bipush am_cb126 dc185_0.2.1.1 ?_
    refine am_s_ic_gt dc185_0.2.1.2 rfl (fun c2 => ?_) (fun c2 => ?_)
    · refine am_s_iconst am_cc0 dc185_1.1 ?_
      exact am_s_zreturn dc185_1.2 rfl (by decide) (q2 c1 c2)
    · refine am_s_iconst am_cc1 dc185_0.2.2.1 ?_
      refine am_s_goto rfl dc185_0.2.2.2 ?_
      exact am_s_zreturn dc185_1.2 rfl (by decide) (q3 c1 c2)
-- isDigit (I)Z
theorem dc186_0 : (((decode (am_by 186) 0 = .ok (.iload_n 0, 1)) ∧ (decode (am_by 186) 1 = .ok (.bipush 48, 2))) ∧ ((decode (am_by 186) 3 = .ok (.if_icmp .lt 13, 3)) ∧ (decode (am_by 186) 6 = .ok (.iload_n 0, 1)))) ∧ (((decode (am_by 186) 7 = .ok (.bipush 57, 2)) ∧ (decode (am_by 186) 9 = .ok (.if_icmp .gt 7, 3))) ∧ ((decode (am_by 186) 12 = .ok (.iconst 1, 1)) ∧ (decode (am_by 186) 13 = .ok (.goto 4, 3)))) := by decide +kernel
theorem dc186_1 : (decode (am_by 186) 16 = .ok (.iconst 0, 1)) ∧ (decode (am_by 186) 17 = .ok (.ireturn, 1)) := by decide +kernel
theorem t186_0 {sc : Option (Nat × (Nat → Int32))} {d k n : Nat} {P : am_O → Prop} {I : am_I} {J : am_J} {Pf : am_R} (hp : am_PF Pf) {x0 : Int32} (q1 : (x0 < 48) → P (.inl (some (.int 0)), (am_SH, I, J, Pf), k, n)) (q2 : (¬ (x0 < 48)) → (57 < x0) → P (.inl (some (.int 0)), (am_SH, I, J, Pf), k, n)) (q3 : (¬ (x0 < 48)) → (¬ (57 < x0)) → P (.inl (some (.int 1)), (am_SH, I, J, Pf), k, n)) : am_go sc d 186 (0, [some (.int x0)], [], (am_SH, I, J, Pf), k, n) P := by
  refine am_s_iload_n rfl dc186_0.1.1.1 ?_
  refine am_s_bipush am_cb48 dc186_0.1.1.2 ?_
  refine am_s_ic_lt dc186_0.1.2.1 rfl (fun c1 => ?_) (fun c1 => ?_)
  · refine am_s_iconst am_cc0 dc186_1.1 ?_
    exact am_s_zreturn dc186_1.2 rfl (by decide) (q1 c1)
  · refine am_s_iload_n rfl dc186_0.1.2.2 ?_
    refine am_s_bipush am_cb57 dc186_0.2.1.1 ?_
    refine am_s_ic_gt dc186_0.2.1.2 rfl (fun c2 => ?_) (fun c2 => ?_)
    · refine am_s_iconst am_cc0 dc186_1.1 ?_
      exact am_s_zreturn dc186_1.2 rfl (by decide) (q2 c1 c2)
    · refine am_s_iconst am_cc1 dc186_0.2.2.1 ?_
      refine am_s_goto rfl dc186_0.2.2.2 ?_
      exact am_s_zreturn dc186_1.2 rfl (by decide) (q3 c1 c2)
-- isLetter (I)Z
theorem dc187_0 : (((decode (am_by 187) 0 = .ok (.iload_n 0, 1)) ∧ (decode (am_by 187) 1 = .ok (.bipush 97, 2))) ∧ ((decode (am_by 187) 3 = .ok (.if_icmp .lt 13, 3)) ∧ (decode (am_by 187) 6 = .ok (.iload_n 0, 1)))) ∧ (((decode (am_by 187) 7 = .ok (.bipush 122, 2)) ∧ (decode (am_by 187) 9 = .ok (.if_icmp .gt 7, 3))) ∧ ((decode (am_by 187) 12 = .ok (.iconst 1, 1)) ∧ (decode (am_by 187) 13 = .ok (.goto 4, 3)))) := by decide +kernel
theorem dc187_1 : (decode (am_by 187) 16 = .ok (.iconst 0, 1)) ∧ (decode (am_by 187) 17 = .ok (.ireturn, 1)) := by decide +kernel
theorem t187_0 {sc : Option (Nat × (Nat → Int32))} {d k n : Nat} {P : am_O → Prop} {I : am_I} {J : am_J} {Pf : am_R} (hp : am_PF Pf) {x0 : Int32} (q1 : (x0 < 97) → P (.inl (some (.int 0)), (am_SH, I, J, Pf), k, n)) (q2 : (¬ (x0 < 97)) → (122 < x0) → P (.inl (some (.int 0)), (am_SH, I, J, Pf), k, n)) (q3 : (¬ (x0 < 97)) → (¬ (122 < x0)) → P (.inl (some (.int 1)), (am_SH, I, J, Pf), k, n)) : am_go sc d 187 (0, [some (.int x0)], [], (am_SH, I, J, Pf), k, n) P := by
  refine am_s_iload_n rfl dc187_0.1.1.1 ?_
  refine am_s_bipush am_cb97 dc187_0.1.1.2 ?_
  refine am_s_ic_lt dc187_0.1.2.1 rfl (fun c1 => ?_) (fun c1 => ?_)
  · refine am_s_iconst am_cc0 dc187_1.1 ?_
    exact am_s_zreturn dc187_1.2 rfl (by decide) (q1 c1)
  · refine am_s_iload_n rfl dc187_0.1.2.2 ?_
    refine am_s_bipush am_cb122 dc187_0.2.1.1 ?_
    refine am_s_ic_gt dc187_0.2.1.2 rfl (fun c2 => ?_) (fun c2 => ?_)
    · refine am_s_iconst am_cc0 dc187_1.1 ?_
      exact am_s_zreturn dc187_1.2 rfl (by decide) (q2 c1 c2)
    · refine am_s_iconst am_cc1 dc187_0.2.2.1 ?_
      refine am_s_goto rfl dc187_0.2.2.2 ?_
      exact am_s_zreturn dc187_1.2 rfl (by decide) (q3 c1 c2)
