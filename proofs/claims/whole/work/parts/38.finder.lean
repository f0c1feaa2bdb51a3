/-! Walks: finder -/
-- take (LPrunedParses$Rules;)V
theorem dc1_0 : (((decode (am_by 1) 0 = .ok (.aload_n 0, 1)) ∧ (decode (am_by 1) 1 = .ok (.aload_n 1, 1))) ∧ ((decode (am_by 1) 2 = .ok (.putfield 42, 3)) ∧ (decode (am_by 1) 5 = .ok (.aload_n 0, 1)))) ∧ (((decode (am_by 1) 6 = .ok (.aload_n 1, 1)) ∧ (decode (am_by 1) 7 = .ok (.getfield 46, 3))) ∧ ((decode (am_by 1) 10 = .ok (.putfield 52, 3)) ∧ (decode (am_by 1) 13 = .ok (.aload_n 0, 1)))) := by decide +kernel
theorem dc1_1 : ((decode (am_by 1) 14 = .ok (.getfield 38, 3)) ∧ ((decode (am_by 1) 17 = .ok (.iconst (-1), 1)) ∧ (decode (am_by 1) 18 = .ok (.invokestatic 53, 3)))) ∧ (((decode (am_by 1) 21 = .ok (.aload_n 0, 1)) ∧ (decode (am_by 1) 22 = .ok (.iconst 0, 1))) ∧ ((decode (am_by 1) 23 = .ok (.putfield 59, 3)) ∧ (decode (am_by 1) 26 = .ok (.return_, 1)))) := by decide +kernel
theorem t1_0 {sc : Option (Nat × (Nat → Int32))} {d k n : Nat} {P : am_O → Prop} {I : am_I} {J : am_J} {Pf : am_R} (hp : am_PF Pf) {x1 : Nat} (hx1 : am_SH[x1]? = some (.inl 4)) {rx1_20 : Nat} (q1 : (am_u Pf 112 0 (some x1)) x1 20 = some rx1_20) (q2 : am_SH[rx1_20]? = some (.inl 7)) (q3 : (am_u (am_u Pf 112 0 (some x1)) 112 1 (some rx1_20)) 112 8 = some 119) (q4 : am_mth d 341 [.ref 119, .int (-1)] (am_SH, I, J, am_u (am_u Pf 112 0 (some x1)) 112 1 (some rx1_20)) (am_af sc d 1 18 [some (.ref 112), some (.ref x1)] [.int (-1), .ref 119] [] (am_SH, I, J, am_u (am_u Pf 112 0 (some x1)) 112 1 (some rx1_20)) k n false P)) : am_go sc d 1 (0, [some (.ref 112), some (.ref x1)], [], (am_SH, I, J, Pf), k, n) P := by
  refine am_s_aload_n rfl dc1_0.1.1.1 ?_
  refine am_s_aload_n rfl dc1_0.1.1.2 ?_
  refine am_s_putR dc1_0.1.2.1 rfl rfl rfl rfl (am_blt hx1) ?_
  refine am_s_aload_n rfl dc1_0.1.2.2 ?_
  refine am_s_aload_n rfl dc1_0.2.1.1 ?_
  refine am_s_getR (r := rx1_20) dc1_0.2.1.2 rfl hx1 rfl (q1) ?_
  refine am_s_putR dc1_0.2.2.1 rfl rfl rfl rfl (am_blt (q2)) ?_
  refine am_s_aload_n rfl dc1_0.2.2.2 ?_
  refine am_s_getR (r := 119) dc1_1.1.1 rfl rfl rfl (q3) ?_
  refine am_s_iconst am_ccm1 dc1_1.1.2.1 ?_
  exact am_s_static dc1_1.1.2.2 rfl rfl rfl (q4)
theorem t1_21 {sc : Option (Nat × (Nat → Int32))} {d k n : Nat} {P : am_O → Prop} {I : am_I} {J : am_J} {Pf : am_R} (hp : am_PF Pf) {l1 : Option Value} (q1 : P (.inl none, (am_SH, am_u I 112 9 0, J, Pf), k, n)) : am_go sc d 1 (21, [some (.ref 112), l1], [], (am_SH, I, J, Pf), k, n) P := by
  refine am_s_aload_n rfl dc1_1.2.1.1 ?_
  refine am_s_iconst am_cc0 dc1_1.2.1.2 ?_
  refine am_s_putI dc1_1.2.2.1 rfl rfl rfl rfl ?_
  exact am_s_return dc1_1.2.2.2 rfl (q1)
-- fill (LPrunedParses$Table;II)V
theorem dc2_0 : (((decode (am_by 2) 0 = .ok (.aload_n 1, 1)) ∧ (decode (am_by 2) 1 = .ok (.aload_n 0, 1))) ∧ ((decode (am_by 2) 2 = .ok (.getfield 42, 3)) ∧ (decode (am_by 2) 5 = .ok (.invokevirtual 63, 3)))) ∧ (((decode (am_by 2) 8 = .ok (.aload_n 0, 1)) ∧ (decode (am_by 2) 9 = .ok (.aload_n 1, 1))) ∧ ((decode (am_by 2) 10 = .ok (.iload_n 2, 1)) ∧ (decode (am_by 2) 11 = .ok (.iload_n 3, 1)))) := by decide +kernel
theorem dc2_1 : (((decode (am_by 2) 12 = .ok (.invokevirtual 67, 3)) ∧ (decode (am_by 2) 15 = .ok (.aload_n 0, 1))) ∧ ((decode (am_by 2) 16 = .ok (.aload_n 1, 1)) ∧ (decode (am_by 2) 17 = .ok (.invokevirtual 71, 3)))) ∧ (((decode (am_by 2) 20 = .ok (.iload_n 3, 1)) ∧ (decode (am_by 2) 21 = .ok (.istore 4, 2))) ∧ ((decode (am_by 2) 23 = .ok (.iload 4, 2)) ∧ (decode (am_by 2) 25 = .ok (.ifCond .lt 16, 3)))) := by decide +kernel
theorem dc2_2 : ((decode (am_by 2) 28 = .ok (.aload_n 0, 1)) ∧ ((decode (am_by 2) 29 = .ok (.aload_n 1, 1)) ∧ (decode (am_by 2) 30 = .ok (.iload 4, 2)))) ∧ (((decode (am_by 2) 32 = .ok (.invokevirtual 75, 3)) ∧ (decode (am_by 2) 35 = .ok (.iinc 4 (-1), 3))) ∧ ((decode (am_by 2) 38 = .ok (.goto (-15), 3)) ∧ (decode (am_by 2) 41 = .ok (.return_, 1)))) := by decide +kernel
theorem t2_0 {sc : Option (Nat × (Nat → Int32))} {d k n : Nat} {P : am_O → Prop} {I : am_I} {J : am_J} {Pf : am_R} (hp : am_PF Pf) {x1 : Nat} (hx1 : am_SH[x1]? = some (.inl 9)) {x2 : Int32} {x3 : Int32} {l4 : Option Value} {r112_0 : Nat} (q1 : Pf 112 0 = some r112_0) (q2 : am_SH[r112_0]? = some (.inl 4)) (q3 : am_mth d 116 [.ref x1, .ref r112_0] (am_SH, I, J, Pf) (am_af sc d 2 5 [some (.ref 112), some (.ref x1), some (.int x2), some (.int x3), l4] [.ref r112_0, .ref x1] [] (am_SH, I, J, Pf) k n false P)) : am_go sc d 2 (0, [some (.ref 112), some (.ref x1), some (.int x2), some (.int x3), l4], [], (am_SH, I, J, Pf), k, n) P := by
  refine am_s_aload_n rfl dc2_0.1.1.1 ?_
  refine am_s_aload_n rfl dc2_0.1.1.2 ?_
  refine am_s_getR (r := r112_0) dc2_0.1.2.1 rfl rfl rfl (q1) ?_
  exact am_s_virtual false dc2_0.1.2.2 rfl (by decide) rfl hx1 rfl (q3)
theorem t2_23 {sc : Option (Nat × (Nat → Int32))} {d k n : Nat} {P : am_O → Prop} {I : am_I} {J : am_J} {Pf : am_R} (hp : am_PF Pf) {x1 : Nat} (hx1 : am_SH[x1]? = some (.inl 9)) {l2 : Option Value} {l3 : Option Value} {x4 : Int32} (q1 : (x4 < 0) → P (.inl none, (am_SH, I, J, Pf), k, n)) (q2 : (¬ (x4 < 0)) → am_mth d 10 [.ref 112, .ref x1, .int x4] (am_SH, I, J, Pf) (am_af sc d 2 32 [some (.ref 112), some (.ref x1), l2, l3, some (.int x4)] [.int x4, .ref x1, .ref 112] [] (am_SH, I, J, Pf) k n true P)) : am_go sc d 2 (23, [some (.ref 112), some (.ref x1), l2, l3, some (.int x4)], [], (am_SH, I, J, Pf), k, n) P := by
  refine am_s_iload rfl dc2_1.2.2.1 ?_
  refine am_s_if_lt dc2_1.2.2.2 rfl (fun c1 => ?_) (fun c1 => ?_)
  · exact am_s_return dc2_2.2.2.2 rfl (q1 c1)
  · refine am_s_aload_n rfl dc2_2.1.1 ?_
    refine am_s_aload_n rfl dc2_2.1.2.1 ?_
    refine am_s_iload rfl dc2_2.1.2.2 ?_
    exact am_s_virtual true dc2_2.2.1.1 rfl (by decide) rfl rfl rfl (q2 c1)
theorem t2_8 {sc : Option (Nat × (Nat → Int32))} {d k n : Nat} {P : am_O → Prop} {I : am_I} {J : am_J} {Pf : am_R} (hp : am_PF Pf) {x1 : Nat} (hx1 : am_SH[x1]? = some (.inl 9)) {x2 : Int32} {x3 : Int32} {l4 : Option Value} (q1 : am_mth d 3 [.ref 112, .ref x1, .int x2, .int x3] (am_SH, I, J, Pf) (am_af sc d 2 12 [some (.ref 112), some (.ref x1), some (.int x2), some (.int x3), l4] [.int x3, .int x2, .ref x1, .ref 112] [] (am_SH, I, J, Pf) k n true P)) : am_go sc d 2 (8, [some (.ref 112), some (.ref x1), some (.int x2), some (.int x3), l4], [], (am_SH, I, J, Pf), k, n) P := by
  refine am_s_aload_n rfl dc2_0.2.1.1 ?_
  refine am_s_aload_n rfl dc2_0.2.1.2 ?_
  refine am_s_iload_n rfl dc2_0.2.2.1 ?_
  refine am_s_iload_n rfl dc2_0.2.2.2 ?_
  exact am_s_virtual true dc2_1.1.1.1 rfl (by decide) rfl rfl rfl (q1)
theorem t2_35 {sc : Option (Nat × (Nat → Int32))} {d k n : Nat} {P : am_O → Prop} {I : am_I} {J : am_J} {Pf : am_R} (hp : am_PF Pf) {x1 : Nat} (hx1 : am_SH[x1]? = some (.inl 9)) {l2 : Option Value} {l3 : Option Value} {x4 : Int32} (hl3 : am_k1 l3 = true) (q1 : am_go sc d 2 (23, [some (.ref 112), some (.ref x1), l2, l3, some (.int (x4 + (-1)))], [], (am_SH, I, J, Pf), k, n) P) : am_go sc d 2 (35, [some (.ref 112), some (.ref x1), l2, l3, some (.int x4)], [], (am_SH, I, J, Pf), k, n) P := by
  refine am_s_iinc (ls' := [some (.ref 112), some (.ref x1), l2, l3, some (.int (x4 + (-1)))]) am_ccm1 rfl (am_set1_k (am_kill_x (j := 3) rfl hl3) rfl) dc2_2.2.1.2 ?_
  refine am_s_goto rfl dc2_2.2.2.1 ?_
  exact q1
theorem t2_15 {sc : Option (Nat × (Nat → Int32))} {d k n : Nat} {P : am_O → Prop} {I : am_I} {J : am_J} {Pf : am_R} (hp : am_PF Pf) {x1 : Nat} (hx1 : am_SH[x1]? = some (.inl 9)) {l2 : Option Value} {x3 : Int32} {l4 : Option Value} (q1 : am_mth d 9 [.ref 112, .ref x1] (am_SH, I, J, Pf) (am_af sc d 2 17 [some (.ref 112), some (.ref x1), l2, some (.int x3), l4] [.ref x1, .ref 112] [] (am_SH, I, J, Pf) k n true P)) : am_go sc d 2 (15, [some (.ref 112), some (.ref x1), l2, some (.int x3), l4], [], (am_SH, I, J, Pf), k, n) P := by
  refine am_s_aload_n rfl dc2_1.1.1.2 ?_
  refine am_s_aload_n rfl dc2_1.1.2.1 ?_
  exact am_s_virtual true dc2_1.1.2.2 rfl (by decide) rfl rfl rfl (q1)
theorem t2_20 {sc : Option (Nat × (Nat → Int32))} {d k n : Nat} {P : am_O → Prop} {I : am_I} {J : am_J} {Pf : am_R} (hp : am_PF Pf) {x1 : Nat} (hx1 : am_SH[x1]? = some (.inl 9)) {l2 : Option Value} {x3 : Int32} {l4 : Option Value} (q1 : am_go sc d 2 (23, [some (.ref 112), some (.ref x1), l2, some (.int x3), some (.int x3)], [], (am_SH, I, J, Pf), k, n) P) : am_go sc d 2 (20, [some (.ref 112), some (.ref x1), l2, some (.int x3), l4], [], (am_SH, I, J, Pf), k, n) P := by
  refine am_s_iload_n rfl dc2_1.2.1.1 ?_
  refine am_s_istore (ls' := [some (.ref 112), some (.ref x1), l2, some (.int x3), some (.int x3)]) rfl rfl dc2_1.2.1.2 ?_
  exact q1
-- findQuotes (LPrunedParses$Table;II)V
theorem dc3_0 : (((decode (am_by 3) 0 = .ok (.iconst 0, 1)) ∧ (decode (am_by 3) 1 = .ok (.istore 4, 2))) ∧ ((decode (am_by 3) 3 = .ok (.iload 4, 2)) ∧ (decode (am_by 3) 5 = .ok (.aload_n 0, 1)))) ∧ (((decode (am_by 3) 6 = .ok (.getfield 42, 3)) ∧ (decode (am_by 3) 9 = .ok (.getfield 79, 3))) ∧ ((decode (am_by 3) 12 = .ok (.if_icmp .ge 46, 3)) ∧ (decode (am_by 3) 15 = .ok (.iload_n 3, 1)))) := by decide +kernel
theorem dc3_1 : (((decode (am_by 3) 16 = .ok (.istore 5, 2)) ∧ (decode (am_by 3) 18 = .ok (.iload 5, 2))) ∧ ((decode (am_by 3) 20 = .ok (.ifCond .lt 32, 3)) ∧ (decode (am_by 3) 23 = .ok (.aload_n 1, 1)))) ∧ (((decode (am_by 3) 24 = .ok (.getfield 82, 3)) ∧ (decode (am_by 3) 27 = .ok (.iload 4, 2))) ∧ ((decode (am_by 3) 29 = .ok (.bipush 25, 2)) ∧ (decode (am_by 3) 31 = .ok (.imul, 1)))) := by decide +kernel
theorem dc3_2 : (((decode (am_by 3) 32 = .ok (.iload 5, 2)) ∧ (decode (am_by 3) 34 = .ok (.iadd, 1))) ∧ ((decode (am_by 3) 35 = .ok (.aload_n 0, 1)) ∧ (decode (am_by 3) 36 = .ok (.aload_n 1, 1)))) ∧ (((decode (am_by 3) 37 = .ok (.iload_n 2, 1)) ∧ (decode (am_by 3) 38 = .ok (.iload 4, 2))) ∧ ((decode (am_by 3) 40 = .ok (.iload 5, 2)) ∧ (decode (am_by 3) 42 = .ok (.invokevirtual 85, 3)))) := by decide +kernel
theorem dc3_3 : ((decode (am_by 3) 45 = .ok (.iastore, 1)) ∧ ((decode (am_by 3) 46 = .ok (.iinc 5 (-1), 3)) ∧ (decode (am_by 3) 49 = .ok (.goto (-31), 3)))) ∧ ((decode (am_by 3) 52 = .ok (.iinc 4 1, 3)) ∧ ((decode (am_by 3) 55 = .ok (.goto (-52), 3)) ∧ (decode (am_by 3) 58 = .ok (.return_, 1)))) := by decide +kernel
theorem t3_0 {sc : Option (Nat × (Nat → Int32))} {d k n : Nat} {P : am_O → Prop} {I : am_I} {J : am_J} {Pf : am_R} (hp : am_PF Pf) {x1 : Nat} (hx1 : am_SH[x1]? = some (.inl 9)) {x2 : Int32} {x3 : Int32} {l4 : Option Value} {l5 : Option Value} (q1 : am_go sc d 3 (3, [some (.ref 112), some (.ref x1), some (.int x2), some (.int x3), some (.int 0), l5], [], (am_SH, I, J, Pf), k, n) P) : am_go sc d 3 (0, [some (.ref 112), some (.ref x1), some (.int x2), some (.int x3), l4, l5], [], (am_SH, I, J, Pf), k, n) P := by
  refine am_s_iconst am_cc0 dc3_0.1.1.1 ?_
  refine am_s_istore (ls' := [some (.ref 112), some (.ref x1), some (.int x2), some (.int x3), some (.int 0), l5]) rfl rfl dc3_0.1.1.2 ?_
  exact q1
theorem t3_3 {sc : Option (Nat × (Nat → Int32))} {d k n : Nat} {P : am_O → Prop} {I : am_I} {J : am_J} {Pf : am_R} (hp : am_PF Pf) {x1 : Nat} (hx1 : am_SH[x1]? = some (.inl 9)) {x2 : Int32} {x3 : Int32} {x4 : Int32} {l5 : Option Value} {r112_0 : Nat} (q1 : Pf 112 0 = some r112_0) (q2 : am_SH[r112_0]? = some (.inl 4)) (q3 : ((I r112_0 9) ≤ x4) → P (.inl none, (am_SH, I, J, Pf), k, n)) (q4 : (¬ ((I r112_0 9) ≤ x4)) → am_go sc d 3 (18, [some (.ref 112), some (.ref x1), some (.int x2), some (.int x3), some (.int x4), some (.int x3)], [], (am_SH, I, J, Pf), k, n) P) : am_go sc d 3 (3, [some (.ref 112), some (.ref x1), some (.int x2), some (.int x3), some (.int x4), l5], [], (am_SH, I, J, Pf), k, n) P := by
  refine am_s_iload rfl dc3_0.1.2.1 ?_
  refine am_s_aload_n rfl dc3_0.1.2.2 ?_
  refine am_s_getR (r := r112_0) dc3_0.2.1.1 rfl rfl rfl (q1) ?_
  refine am_x_getI (x := I r112_0 9) dc3_0.2.1.2 rfl (q2) (Or.inl rfl) rfl ?_
  refine am_s_ic_ge dc3_0.2.2.1 rfl (fun c1 => ?_) (fun c1 => ?_)
  · exact am_s_return dc3_3.2.2.2 rfl (q3 c1)
  · refine am_s_iload_n rfl dc3_0.2.2.2 ?_
    refine am_s_istore (ls' := [some (.ref 112), some (.ref x1), some (.int x2), some (.int x3), some (.int x4), some (.int x3)]) rfl rfl dc3_1.1.1.1 ?_
    exact q4 c1
theorem t3_18 {sc : Option (Nat × (Nat → Int32))} {d k n : Nat} {P : am_O → Prop} {I : am_I} {J : am_J} {Pf : am_R} (hp : am_PF Pf) {x1 : Nat} (hx1 : am_SH[x1]? = some (.inl 9)) {x2 : Int32} {x3 : Int32} {x4 : Int32} {x5 : Int32} (q1 : (x5 < 0) → am_go sc d 3 (3, [some (.ref 112), some (.ref x1), some (.int x2), some (.int x3), some (.int (x4 + 1)), some (.int x5)], [], (am_SH, I, J, Pf), k, n) P) (q2 : (¬ (x5 < 0)) → am_mth d 4 [.ref 112, .ref x1, .int x2, .int x4, .int x5] (am_SH, I, J, Pf) (am_af sc d 3 42 [some (.ref 112), some (.ref x1), some (.int x2), some (.int x3), some (.int x4), some (.int x5)] [.int x5, .int x4, .int x2, .ref x1, .ref 112, .int ((x4 * 25) + x5), .ref (x1 + 4)] [.int ((x4 * 25) + x5), .ref (x1 + 4)] (am_SH, I, J, Pf) k n true P)) : am_go sc d 3 (18, [some (.ref 112), some (.ref x1), some (.int x2), some (.int x3), some (.int x4), some (.int x5)], [], (am_SH, I, J, Pf), k, n) P := by
  refine am_s_iload rfl dc3_1.1.1.2 ?_
  refine am_s_if_lt dc3_1.1.2.1 rfl (fun c1 => ?_) (fun c1 => ?_)
  · refine am_s_iinc (ls' := [some (.ref 112), some (.ref x1), some (.int x2), some (.int x3), some (.int (x4 + 1)), some (.int x5)]) am_cc1 rfl rfl dc3_3.2.1 ?_
    refine am_s_goto rfl dc3_3.2.2.1 ?_
    exact q1 c1
  · refine am_s_aload_n rfl dc3_1.1.2.2 ?_
    refine am_s_getR (r := x1 + 4) dc3_1.2.1.1 rfl hx1 rfl (am_r9_4 hp hx1) ?_
    refine am_s_iload rfl dc3_1.2.1.2 ?_
    refine am_s_bipush am_cb25 dc3_1.2.2.1 ?_
    refine am_s_imul dc3_1.2.2.2 ?_
    refine am_s_iload rfl dc3_2.1.1.1 ?_
    refine am_s_iadd dc3_2.1.1.2 ?_
    refine am_s_aload_n rfl dc3_2.1.2.1 ?_
    refine am_s_aload_n rfl dc3_2.1.2.2 ?_
    refine am_s_iload_n rfl dc3_2.2.1.1 ?_
    refine am_s_iload rfl dc3_2.2.1.2 ?_
    refine am_s_iload rfl dc3_2.2.2.1 ?_
    exact am_s_virtual true dc3_2.2.2.2 rfl (by decide) rfl rfl rfl (q2 c1)
theorem t3_45 {sc : Option (Nat × (Nat → Int32))} {d k n : Nat} {P : am_O → Prop} {I : am_I} {J : am_J} {Pf : am_R} (hp : am_PF Pf) {x1 : Nat} (hx1 : am_SH[x1]? = some (.inl 9)) {x2 : Int32} {x3 : Int32} {x4 : Int32} {x5 : Int32} {s0 : Nat} (hs0 : am_SH[s0]? = some (.inr (0, 100))) {s1 : Int32} {s2 : Int32} (q1 : am_in s1 100 = true) (q2 : am_go sc d 3 (18, [some (.ref 112), some (.ref x1), some (.int x2), some (.int x3), some (.int x4), some (.int (x5 + (-1)))], [], (am_SH, am_u I s0 (Int32.toNatClampNeg s1) s2, J, Pf), k, n) P) : am_go sc d 3 (45, [some (.ref 112), some (.ref x1), some (.int x2), some (.int x3), some (.int x4), some (.int x5)], [.int s2, .int s1, .ref s0], (am_SH, I, J, Pf), k, n) P := by
  refine am_s_iastore dc3_3.1.1 hs0 (q1) rfl ?_
  refine am_s_iinc (ls' := [some (.ref 112), some (.ref x1), some (.int x2), some (.int x3), some (.int x4), some (.int (x5 + (-1)))]) am_ccm1 rfl rfl dc3_3.1.2.1 ?_
  refine am_s_goto rfl dc3_3.1.2.2 ?_
  exact q2
-- quoteEnd (LPrunedParses$Table;III)I
theorem dc4_0 : (((decode (am_by 4) 0 = .ok (.iload_n 2, 1)) ∧ (decode (am_by 4) 1 = .ok (.ifCond .lt 12, 3))) ∧ ((decode (am_by 4) 4 = .ok (.iload_n 2, 1)) ∧ (decode (am_by 4) 5 = .ok (.aload_n 0, 1)))) ∧ (((decode (am_by 4) 6 = .ok (.getfield 11, 3)) ∧ (decode (am_by 4) 9 = .ok (.arraylength, 1))) ∧ ((decode (am_by 4) 10 = .ok (.if_icmp .lt 5, 3)) ∧ (decode (am_by 4) 13 = .ok (.iconst (-1), 1)))) := by decide +kernel
theorem dc4_1 : (((decode (am_by 4) 14 = .ok (.ireturn, 1)) ∧ (decode (am_by 4) 15 = .ok (.aload_n 0, 1))) ∧ ((decode (am_by 4) 16 = .ok (.getfield 11, 3)) ∧ (decode (am_by 4) 19 = .ok (.iload_n 2, 1)))) ∧ (((decode (am_by 4) 20 = .ok (.aaload, 1)) ∧ (decode (am_by 4) 21 = .ok (.astore 5, 2))) ∧ ((decode (am_by 4) 23 = .ok (.aload_n 1, 1)) ∧ (decode (am_by 4) 24 = .ok (.aload_n 0, 1)))) := by decide +kernel
theorem dc4_2 : (((decode (am_by 4) 25 = .ok (.getfield 42, 3)) ∧ (decode (am_by 4) 28 = .ok (.iload_n 3, 1))) ∧ ((decode (am_by 4) 29 = .ok (.iload 4, 2)) ∧ (decode (am_by 4) 31 = .ok (.aload 5, 2)))) ∧ (((decode (am_by 4) 33 = .ok (.invokevirtual 89, 3)) ∧ (decode (am_by 4) 36 = .ok (.istore 6, 2))) ∧ ((decode (am_by 4) 38 = .ok (.iload 6, 2)) ∧ (decode (am_by 4) 40 = .ok (.iconst (-1), 1)))) := by decide +kernel
theorem dc4_3 : (((decode (am_by 4) 41 = .ok (.if_icmp .ne 5, 3)) ∧ (decode (am_by 4) 44 = .ok (.iconst (-1), 1))) ∧ ((decode (am_by 4) 45 = .ok (.ireturn, 1)) ∧ (decode (am_by 4) 46 = .ok (.aload_n 0, 1)))) ∧ (((decode (am_by 4) 47 = .ok (.aload 5, 2)) ∧ (decode (am_by 4) 49 = .ok (.iload_n 2, 1))) ∧ ((decode (am_by 4) 50 = .ok (.iconst 1, 1)) ∧ (decode (am_by 4) 51 = .ok (.iadd, 1)))) := by decide +kernel
theorem dc4_4 : (((decode (am_by 4) 52 = .ok (.invokevirtual 93, 3)) ∧ (decode (am_by 4) 55 = .ok (.aload_n 0, 1))) ∧ ((decode (am_by 4) 56 = .ok (.getfield 42, 3)) ∧ (decode (am_by 4) 59 = .ok (.getfield 97, 3)))) ∧ (((decode (am_by 4) 62 = .ok (.iload_n 3, 1)) ∧ (decode (am_by 4) 63 = .ok (.iaload, 1))) ∧ ((decode (am_by 4) 64 = .ok (.iushr, 1)) ∧ (decode (am_by 4) 65 = .ok (.iconst 1, 1)))) := by decide +kernel
theorem dc4_5 : ((decode (am_by 4) 66 = .ok (.iand, 1)) ∧ ((decode (am_by 4) 67 = .ok (.ifCond .eq 8, 3)) ∧ (decode (am_by 4) 70 = .ok (.iload 6, 2)))) ∧ ((decode (am_by 4) 72 = .ok (.goto 4, 3)) ∧ ((decode (am_by 4) 75 = .ok (.iconst (-1), 1)) ∧ (decode (am_by 4) 76 = .ok (.ireturn, 1)))) := by decide +kernel
theorem t4_0 {sc : Option (Nat × (Nat → Int32))} {d k n : Nat} {P : am_O → Prop} {I : am_I} {J : am_J} {Pf : am_R} (hp : am_PF Pf) {x1 : Nat} (hx1 : am_SH[x1]? = some (.inl 9)) {x2 : Int32} {x3 : Int32} {x4 : Int32} {l5 : Option Value} {l6 : Option Value} {r20 : Nat} {r112_0 : Nat} (q1 : (x2 < 0) → P (.inl (some (.int (-1))), (am_SH, I, J, Pf), k, n)) (q2 : (¬ (x2 < 0)) → (x2 < 3) → am_in x2 3 = true) (q3 : (¬ (x2 < 0)) → (x2 < 3) → Pf 113 (Int32.toNatClampNeg x2) = some r20) (q4 : (¬ (x2 < 0)) → (x2 < 3) → am_SH[r20]? = some (.inl 9)) (q5 : (¬ (x2 < 0)) → (x2 < 3) → Pf 112 0 = some r112_0) (q6 : (¬ (x2 < 0)) → (x2 < 3) → am_SH[r112_0]? = some (.inl 4)) (q7 : (¬ (x2 < 0)) → (x2 < 3) → am_mth d 115 [.ref x1, .ref r112_0, .int x3, .int x4, .ref r20] (am_SH, I, J, Pf) (am_af sc d 4 33 [some (.ref 112), some (.ref x1), some (.int x2), some (.int x3), some (.int x4), some (.ref r20), l6] [.ref r20, .int x4, .int x3, .ref r112_0, .ref x1] [] (am_SH, I, J, Pf) k n false P)) (q8 : (¬ (x2 < 0)) → (¬ (x2 < 3)) → P (.inl (some (.int (-1))), (am_SH, I, J, Pf), k, n)) : am_go sc d 4 (0, [some (.ref 112), some (.ref x1), some (.int x2), some (.int x3), some (.int x4), l5, l6], [], (am_SH, I, J, Pf), k, n) P := by
  refine am_s_iload_n rfl dc4_0.1.1.1 ?_
  refine am_s_if_lt dc4_0.1.1.2 rfl (fun c1 => ?_) (fun c1 => ?_)
  · refine am_s_iconst am_ccm1 dc4_0.2.2.2 ?_
    exact am_s_ireturn dc4_1.1.1.1 rfl (q1 c1)
  · refine am_s_iload_n rfl dc4_0.1.2.1 ?_
    refine am_s_aload_n rfl dc4_0.1.2.2 ?_
    refine am_s_getR (r := 113) dc4_0.2.1.1 rfl rfl rfl (hp _ _ _ rfl) ?_
    refine am_s_lenq (x := 3) dc4_0.2.1.2 rfl rfl rfl (by decide +kernel) ?_
    refine am_s_ic_lt dc4_0.2.2.1 rfl (fun c2 => ?_) (fun c2 => ?_)
    · refine am_s_aload_n rfl dc4_1.1.1.2 ?_
      refine am_s_getR (r := 113) dc4_1.1.2.1 rfl rfl rfl (hp _ _ _ rfl) ?_
      refine am_s_iload_n rfl dc4_1.1.2.2 ?_
      refine am_s_aaload (r := r20) dc4_1.2.1.1 rfl rfl (q2 c1 c2) (q3 c1 c2) ?_
      refine am_s_astore (ls' := [some (.ref 112), some (.ref x1), some (.int x2), some (.int x3), some (.int x4), some (.ref r20), l6]) rfl rfl dc4_1.2.1.2 ?_
      refine am_s_aload_n rfl dc4_1.2.2.1 ?_
      refine am_s_aload_n rfl dc4_1.2.2.2 ?_
      refine am_s_getR (r := r112_0) dc4_2.1.1.1 rfl rfl rfl (q5 c1 c2) ?_
      refine am_s_iload_n rfl dc4_2.1.1.2 ?_
      refine am_s_iload rfl dc4_2.1.2.1 ?_
      refine am_s_aload rfl dc4_2.1.2.2 ?_
      exact am_s_virtual false dc4_2.2.1.1 rfl (by decide) rfl hx1 rfl (q7 c1 c2)
    · refine am_s_iconst am_ccm1 dc4_0.2.2.2 ?_
      exact am_s_ireturn dc4_1.1.1.1 rfl (q8 c1 c2)
theorem t4_36 {sc : Option (Nat × (Nat → Int32))} {d k n : Nat} {P : am_O → Prop} {I : am_I} {J : am_J} {Pf : am_R} (hp : am_PF Pf) {l1 : Option Value} {x2 : Int32} {x3 : Int32} {l4 : Option Value} {x5 : Nat} (hx5 : am_SH[x5]? = some (.inl 9)) {l6 : Option Value} {s0 : Int32} (q1 : (¬ s0 = (-1)) → am_mth d 5 [.ref 112, .ref x5, .int (x2 + 1)] (am_SH, I, J, Pf) (am_af sc d 4 52 [some (.ref 112), l1, some (.int x2), some (.int x3), l4, some (.ref x5), some (.int s0)] [.int (x2 + 1), .ref x5, .ref 112] [] (am_SH, I, J, Pf) k n true P)) (q2 : (¬ (¬ s0 = (-1))) → P (.inl (some (.int (-1))), (am_SH, I, J, Pf), k, n)) : am_go sc d 4 (36, [some (.ref 112), l1, some (.int x2), some (.int x3), l4, some (.ref x5), l6], [.int s0], (am_SH, I, J, Pf), k, n) P := by
  refine am_s_istore (ls' := [some (.ref 112), l1, some (.int x2), some (.int x3), l4, some (.ref x5), some (.int s0)]) rfl rfl dc4_2.2.1.2 ?_
  refine am_s_iload rfl dc4_2.2.2.1 ?_
  refine am_s_iconst am_ccm1 dc4_2.2.2.2 ?_
  refine am_s_ic_ne dc4_3.1.1.1 rfl (fun c1 => ?_) (fun c1 => ?_)
  · refine am_s_aload_n rfl dc4_3.1.2.2 ?_
    refine am_s_aload rfl dc4_3.2.1.1 ?_
    refine am_s_iload_n rfl dc4_3.2.1.2 ?_
    refine am_s_iconst am_cc1 dc4_3.2.2.1 ?_
    refine am_s_iadd dc4_3.2.2.2 ?_
    exact am_s_virtual true dc4_4.1.1.1 rfl (by decide) rfl rfl rfl (q1 c1)
  · refine am_s_iconst am_ccm1 dc4_3.1.1.2 ?_
    exact am_s_ireturn dc4_3.1.2.1 rfl (q2 c1)
theorem t4_55 {sc : Option (Nat × (Nat → Int32))} {d k n : Nat} {P : am_O → Prop} {I : am_I} {J : am_J} {Pf : am_R} (hp : am_PF Pf) {l1 : Option Value} {l2 : Option Value} {x3 : Int32} {l4 : Option Value} {l5 : Option Value} {x6 : Int32} {s0 : Int32} {r112_0 : Nat} (q1 : Pf 112 0 = some r112_0) (q2 : am_SH[r112_0]? = some (.inl 4)) (q3 : am_in x3 4 = true) (q4 : (((UInt32.toInt32 (Int32.toUInt32 s0 >>> (Int32.toUInt32 (I (r112_0 + 9) (Int32.toNatClampNeg x3)) &&& Int32.toUInt32 31))) &&& 1) = 0) → P (.inl (some (.int (-1))), (am_SH, I, J, Pf), k, n)) (q5 : (¬ (((UInt32.toInt32 (Int32.toUInt32 s0 >>> (Int32.toUInt32 (I (r112_0 + 9) (Int32.toNatClampNeg x3)) &&& Int32.toUInt32 31))) &&& 1) = 0)) → P (.inl (some (.int x6)), (am_SH, I, J, Pf), k, n)) : am_go sc d 4 (55, [some (.ref 112), l1, l2, some (.int x3), l4, l5, some (.int x6)], [.int s0], (am_SH, I, J, Pf), k, n) P := by
  refine am_s_aload_n rfl dc4_4.1.1.2 ?_
  refine am_s_getR (r := r112_0) dc4_4.1.2.1 rfl rfl rfl (q1) ?_
  refine am_s_getR (r := r112_0 + 9) dc4_4.1.2.2 rfl (q2) rfl (am_r4_11 hp (q2)) ?_
  refine am_s_iload_n rfl dc4_4.2.1.1 ?_
  refine am_x_iaload (x := I (r112_0 + 9) (Int32.toNatClampNeg x3)) dc4_4.2.1.2 (am_h4_11 (q2)) (q3) rfl rfl ?_
  refine am_s_iushr dc4_4.2.2.1 ?_
  refine am_s_iconst am_cc1 dc4_4.2.2.2 ?_
  refine am_s_iand dc4_5.1.1 ?_
  refine am_s_if_eq dc4_5.1.2.1 rfl (fun c1 => ?_) (fun c1 => ?_)
  · refine am_s_iconst am_ccm1 dc4_5.2.2.1 ?_
    exact am_s_ireturn dc4_5.2.2.2 rfl (q4 c1)
  · refine am_s_iload rfl dc4_5.1.2.2 ?_
    refine am_s_goto rfl dc4_5.2.1 ?_
    exact am_s_ireturn dc4_5.2.2.2 rfl (q5 c1)
-- sortsOfBody (LPrunedParses$Table;I)I
theorem dc5_0 : (((decode (am_by 5) 0 = .ok (.aload_n 1, 1)) ∧ (decode (am_by 5) 1 = .ok (.iconst 0, 1))) ∧ ((decode (am_by 5) 2 = .ok (.invokestatic 100, 3)) ∧ (decode (am_by 5) 5 = .ok (.lstore_n 3, 1)))) ∧ (((decode (am_by 5) 6 = .ok (.aload_n 1, 1)) ∧ (decode (am_by 5) 7 = .ok (.bipush 9, 2))) ∧ ((decode (am_by 5) 9 = .ok (.invokestatic 100, 3)) ∧ (decode (am_by 5) 12 = .ok (.lstore 5, 2)))) := by decide +kernel
theorem dc5_1 : (((decode (am_by 5) 14 = .ok (.aload_n 1, 1)) ∧ (decode (am_by 5) 15 = .ok (.bipush 18, 2))) ∧ ((decode (am_by 5) 17 = .ok (.invokestatic 100, 3)) ∧ (decode (am_by 5) 20 = .ok (.bipush 8, 2)))) ∧ (((decode (am_by 5) 22 = .ok (.lshl, 1)) ∧ (decode (am_by 5) 23 = .ok (.aload_n 1, 1))) ∧ ((decode (am_by 5) 24 = .ok (.getfield 104, 3)) ∧ (decode (am_by 5) 27 = .ok (.iconst 2, 1)))) := by decide +kernel
theorem dc5_2 : (((decode (am_by 5) 28 = .ok (.ishl, 1)) ∧ (decode (am_by 5) 29 = .ok (.i2l, 1))) ∧ ((decode (am_by 5) 30 = .ok (.lor, 1)) ∧ (decode (am_by 5) 31 = .ok (.iload_n 2, 1)))) ∧ (((decode (am_by 5) 32 = .ok (.i2l, 1)) ∧ (decode (am_by 5) 33 = .ok (.lor, 1))) ∧ ((decode (am_by 5) 34 = .ok (.lstore 7, 2)) ∧ (decode (am_by 5) 36 = .ok (.lload_n 3, 1)))) := by decide +kernel
theorem dc5_3 : (((decode (am_by 5) 37 = .ok (.lload 5, 2)) ∧ (decode (am_by 5) 39 = .ok (.lload 7, 2))) ∧ ((decode (am_by 5) 41 = .ok (.invokestatic 107, 3)) ∧ (decode (am_by 5) 44 = .ok (.istore 9, 2)))) ∧ (((decode (am_by 5) 46 = .ok (.iconst 0, 1)) ∧ (decode (am_by 5) 47 = .ok (.istore 10, 2))) ∧ ((decode (am_by 5) 49 = .ok (.iload 10, 2)) ∧ (decode (am_by 5) 51 = .ok (.sipush 256, 3)))) := by decide +kernel
theorem dc5_4 : (((decode (am_by 5) 54 = .ok (.if_icmp .ge 86, 3)) ∧ (decode (am_by 5) 57 = .ok (.aload_n 0, 1))) ∧ ((decode (am_by 5) 58 = .ok (.getfield 38, 3)) ∧ (decode (am_by 5) 61 = .ok (.iload 9, 2)))) ∧ (((decode (am_by 5) 63 = .ok (.iaload, 1)) ∧ (decode (am_by 5) 64 = .ok (.iconst (-1), 1))) ∧ ((decode (am_by 5) 65 = .ok (.if_icmp .eq 75, 3)) ∧ (decode (am_by 5) 68 = .ok (.aload_n 0, 1)))) := by decide +kernel
theorem dc5_5 : (((decode (am_by 5) 69 = .ok (.getfield 34, 3)) ∧ (decode (am_by 5) 72 = .ok (.iload 9, 2))) ∧ ((decode (am_by 5) 74 = .ok (.iconst 3, 1)) ∧ (decode (am_by 5) 75 = .ok (.imul, 1)))) ∧ (((decode (am_by 5) 76 = .ok (.laload, 1)) ∧ (decode (am_by 5) 77 = .ok (.lload_n 3, 1))) ∧ ((decode (am_by 5) 78 = .ok (.lcmp, 1)) ∧ (decode (am_by 5) 79 = .ok (.ifCond .ne 45, 3)))) := by decide +kernel
theorem dc5_6 : (((decode (am_by 5) 82 = .ok (.aload_n 0, 1)) ∧ (decode (am_by 5) 83 = .ok (.getfield 34, 3))) ∧ ((decode (am_by 5) 86 = .ok (.iload 9, 2)) ∧ (decode (am_by 5) 88 = .ok (.iconst 3, 1)))) ∧ (((decode (am_by 5) 89 = .ok (.imul, 1)) ∧ (decode (am_by 5) 90 = .ok (.iconst 1, 1))) ∧ ((decode (am_by 5) 91 = .ok (.iadd, 1)) ∧ (decode (am_by 5) 92 = .ok (.laload, 1)))) := by decide +kernel
theorem dc5_7 : (((decode (am_by 5) 93 = .ok (.lload 5, 2)) ∧ (decode (am_by 5) 95 = .ok (.lcmp, 1))) ∧ ((decode (am_by 5) 96 = .ok (.ifCond .ne 28, 3)) ∧ (decode (am_by 5) 99 = .ok (.aload_n 0, 1)))) ∧ (((decode (am_by 5) 100 = .ok (.getfield 34, 3)) ∧ (decode (am_by 5) 103 = .ok (.iload 9, 2))) ∧ ((decode (am_by 5) 105 = .ok (.iconst 3, 1)) ∧ (decode (am_by 5) 106 = .ok (.imul, 1)))) := by decide +kernel
theorem dc5_8 : (((decode (am_by 5) 107 = .ok (.iconst 2, 1)) ∧ (decode (am_by 5) 108 = .ok (.iadd, 1))) ∧ ((decode (am_by 5) 109 = .ok (.laload, 1)) ∧ (decode (am_by 5) 110 = .ok (.lload 7, 2)))) ∧ (((decode (am_by 5) 112 = .ok (.lcmp, 1)) ∧ (decode (am_by 5) 113 = .ok (.ifCond .ne 11, 3))) ∧ ((decode (am_by 5) 116 = .ok (.aload_n 0, 1)) ∧ (decode (am_by 5) 117 = .ok (.getfield 38, 3)))) := by decide +kernel
theorem dc5_9 : (((decode (am_by 5) 120 = .ok (.iload 9, 2)) ∧ (decode (am_by 5) 122 = .ok (.iaload, 1))) ∧ ((decode (am_by 5) 123 = .ok (.ireturn, 1)) ∧ (decode (am_by 5) 124 = .ok (.iload 9, 2)))) ∧ (((decode (am_by 5) 126 = .ok (.iconst 1, 1)) ∧ (decode (am_by 5) 127 = .ok (.iadd, 1))) ∧ ((decode (am_by 5) 128 = .ok (.sipush 255, 3)) ∧ (decode (am_by 5) 131 = .ok (.iand, 1)))) := by decide +kernel
theorem dc5_10 : (((decode (am_by 5) 132 = .ok (.istore 9, 2)) ∧ (decode (am_by 5) 134 = .ok (.iinc 10 1, 3))) ∧ ((decode (am_by 5) 137 = .ok (.goto (-88), 3)) ∧ (decode (am_by 5) 140 = .ok (.aload_n 0, 1)))) ∧ (((decode (am_by 5) 141 = .ok (.aload_n 1, 1)) ∧ (decode (am_by 5) 142 = .ok (.iload_n 2, 1))) ∧ ((decode (am_by 5) 143 = .ok (.aload_n 1, 1)) ∧ (decode (am_by 5) 144 = .ok (.getfield 104, 3)))) := by decide +kernel
theorem dc5_11 : (((decode (am_by 5) 147 = .ok (.invokevirtual 111, 3)) ∧ (decode (am_by 5) 150 = .ok (.aload_n 1, 1))) ∧ ((decode (am_by 5) 151 = .ok (.invokevirtual 113, 3)) ∧ (decode (am_by 5) 154 = .ok (.istore 10, 2)))) ∧ (((decode (am_by 5) 156 = .ok (.aload_n 0, 1)) ∧ (decode (am_by 5) 157 = .ok (.lload_n 3, 1))) ∧ ((decode (am_by 5) 158 = .ok (.lload 5, 2)) ∧ (decode (am_by 5) 160 = .ok (.lload 7, 2)))) := by decide +kernel
theorem dc5_12 : ((decode (am_by 5) 162 = .ok (.iload 10, 2)) ∧ (decode (am_by 5) 164 = .ok (.invokevirtual 117, 3))) ∧ ((decode (am_by 5) 167 = .ok (.iload 10, 2)) ∧ (decode (am_by 5) 169 = .ok (.ireturn, 1))) := by decide +kernel
theorem t5_0 {sc : Option (Nat × (Nat → Int32))} {d k n : Nat} {P : am_O → Prop} {I : am_I} {J : am_J} {Pf : am_R} (hp : am_PF Pf) {x1 : Nat} (hx1 : am_SH[x1]? = some (.inl 9)) {x2 : Int32} {l3 : Option Value} {l4 : Option Value} {l5 : Option Value} {l6 : Option Value} {l7 : Option Value} {l8 : Option Value} {l9 : Option Value} {l10 : Option Value} (q1 : am_mth d 6 [.ref x1, .int 0] (am_SH, I, J, Pf) (am_af sc d 5 2 [some (.ref 112), some (.ref x1), some (.int x2), l3, l4, l5, l6, l7, l8, l9, l10] [.int 0, .ref x1] [] (am_SH, I, J, Pf) k n false P)) : am_go sc d 5 (0, [some (.ref 112), some (.ref x1), some (.int x2), l3, l4, l5, l6, l7, l8, l9, l10], [], (am_SH, I, J, Pf), k, n) P := by
  refine am_s_aload_n rfl dc5_0.1.1.1 ?_
  refine am_s_iconst am_cc0 dc5_0.1.1.2 ?_
  exact am_s_static dc5_0.1.2.1 rfl rfl rfl (q1)
theorem t5_49 {sc : Option (Nat × (Nat → Int32))} {d k n : Nat} {P : am_O → Prop} {I : am_I} {J : am_J} {Pf : am_R} (hp : am_PF Pf) {x1 : Nat} (hx1 : am_SH[x1]? = some (.inl 9)) {x2 : Int32} {x3 : Int64} {l4 : Option Value} {x5 : Int64} {l6 : Option Value} {x7 : Int64} {l8 : Option Value} {x9 : Int32} {x10 : Int32} (q1 : (256 ≤ x10) → am_go sc d 5 (140, [some (.ref 112), some (.ref x1), some (.int x2), some (.long x3), l4, some (.long x5), l6, some (.long x7), l8, some (.int x9), some (.int x10)], [], (am_SH, I, J, Pf), k, n) P) (q2 : (¬ (256 ≤ x10)) → am_in x9 256 = true) (q3 : (¬ (256 ≤ x10)) → ((I 119 (Int32.toNatClampNeg x9)) = (-1)) → am_go sc d 5 (140, [some (.ref 112), some (.ref x1), some (.int x2), some (.long x3), l4, some (.long x5), l6, some (.long x7), l8, some (.int x9), some (.int x10)], [], (am_SH, I, J, Pf), k, n) P) (q4 : (¬ (256 ≤ x10)) → (¬ ((I 119 (Int32.toNatClampNeg x9)) = (-1))) → am_in (x9 * 3) 768 = true) (q5 : (¬ (256 ≤ x10)) → (¬ ((I 119 (Int32.toNatClampNeg x9)) = (-1))) → (¬ (lg_cmp (J 118 (Int32.toNatClampNeg (x9 * 3))) x3) = 0) → am_go sc d 5 (124, [some (.ref 112), some (.ref x1), some (.int x2), some (.long x3), l4, some (.long x5), l6, some (.long x7), l8, some (.int x9), some (.int x10)], [], (am_SH, I, J, Pf), k, n) P) (q6 : (¬ (256 ≤ x10)) → (¬ ((I 119 (Int32.toNatClampNeg x9)) = (-1))) → (¬ (¬ (lg_cmp (J 118 (Int32.toNatClampNeg (x9 * 3))) x3) = 0)) → am_in ((x9 * 3) + 1) 768 = true) (q7 : (¬ (256 ≤ x10)) → (¬ ((I 119 (Int32.toNatClampNeg x9)) = (-1))) → (¬ (¬ (lg_cmp (J 118 (Int32.toNatClampNeg (x9 * 3))) x3) = 0)) → (¬ (lg_cmp (J 118 (Int32.toNatClampNeg ((x9 * 3) + 1))) x5) = 0) → am_go sc d 5 (124, [some (.ref 112), some (.ref x1), some (.int x2), some (.long x3), l4, some (.long x5), l6, some (.long x7), l8, some (.int x9), some (.int x10)], [], (am_SH, I, J, Pf), k, n) P) (q8 : (¬ (256 ≤ x10)) → (¬ ((I 119 (Int32.toNatClampNeg x9)) = (-1))) → (¬ (¬ (lg_cmp (J 118 (Int32.toNatClampNeg (x9 * 3))) x3) = 0)) → (¬ (¬ (lg_cmp (J 118 (Int32.toNatClampNeg ((x9 * 3) + 1))) x5) = 0)) → am_in ((x9 * 3) + 2) 768 = true) (q9 : (¬ (256 ≤ x10)) → (¬ ((I 119 (Int32.toNatClampNeg x9)) = (-1))) → (¬ (¬ (lg_cmp (J 118 (Int32.toNatClampNeg (x9 * 3))) x3) = 0)) → (¬ (¬ (lg_cmp (J 118 (Int32.toNatClampNeg ((x9 * 3) + 1))) x5) = 0)) → (¬ (lg_cmp (J 118 (Int32.toNatClampNeg ((x9 * 3) + 2))) x7) = 0) → am_go sc d 5 (124, [some (.ref 112), some (.ref x1), some (.int x2), some (.long x3), l4, some (.long x5), l6, some (.long x7), l8, some (.int x9), some (.int x10)], [], (am_SH, I, J, Pf), k, n) P) (q10 : (¬ (256 ≤ x10)) → (¬ ((I 119 (Int32.toNatClampNeg x9)) = (-1))) → (¬ (¬ (lg_cmp (J 118 (Int32.toNatClampNeg (x9 * 3))) x3) = 0)) → (¬ (¬ (lg_cmp (J 118 (Int32.toNatClampNeg ((x9 * 3) + 1))) x5) = 0)) → (¬ (¬ (lg_cmp (J 118 (Int32.toNatClampNeg ((x9 * 3) + 2))) x7) = 0)) → am_in x9 256 = true) (q11 : (¬ (256 ≤ x10)) → (¬ ((I 119 (Int32.toNatClampNeg x9)) = (-1))) → (¬ (¬ (lg_cmp (J 118 (Int32.toNatClampNeg (x9 * 3))) x3) = 0)) → (¬ (¬ (lg_cmp (J 118 (Int32.toNatClampNeg ((x9 * 3) + 1))) x5) = 0)) → (¬ (¬ (lg_cmp (J 118 (Int32.toNatClampNeg ((x9 * 3) + 2))) x7) = 0)) → P (.inl (some (.int (I 119 (Int32.toNatClampNeg x9)))), (am_SH, I, J, Pf), k, n)) : am_go sc d 5 (49, [some (.ref 112), some (.ref x1), some (.int x2), some (.long x3), l4, some (.long x5), l6, some (.long x7), l8, some (.int x9), some (.int x10)], [], (am_SH, I, J, Pf), k, n) P := by
  refine am_s_iload rfl dc5_3.2.2.1 ?_
  refine am_s_sipush am_cs256 dc5_3.2.2.2 ?_
  refine am_s_ic_ge dc5_4.1.1.1 rfl (fun c1 => ?_) (fun c1 => ?_)
  · exact q1 c1
  · refine am_s_aload_n rfl dc5_4.1.1.2 ?_
    refine am_s_getR (r := 119) dc5_4.1.2.1 rfl rfl rfl (hp _ _ _ rfl) ?_
    refine am_s_iload rfl dc5_4.1.2.2 ?_
    refine am_x_iaload (x := I 119 (Int32.toNatClampNeg x9)) dc5_4.2.1.1 rfl (q2 c1) rfl rfl ?_
    refine am_s_iconst am_ccm1 dc5_4.2.1.2 ?_
    refine am_s_ic_eq dc5_4.2.2.1 rfl (fun c2 => ?_) (fun c2 => ?_)
    · exact q3 c1 c2
    · refine am_s_aload_n rfl dc5_4.2.2.2 ?_
      refine am_s_getR (r := 118) dc5_5.1.1.1 rfl rfl rfl (hp _ _ _ rfl) ?_
      refine am_s_iload rfl dc5_5.1.1.2 ?_
      refine am_s_iconst am_cc3 dc5_5.1.2.1 ?_
      refine am_s_imul dc5_5.1.2.2 ?_
      refine am_x_laload (x := J 118 (Int32.toNatClampNeg (x9 * 3))) dc5_5.2.1.1 rfl (q4 c1 c2) rfl rfl ?_
      refine am_s_lload_n rfl dc5_5.2.1.2 ?_
      refine am_s_lcmp dc5_5.2.2.1 ?_
      refine am_s_if_ne dc5_5.2.2.2 rfl (fun c3 => ?_) (fun c3 => ?_)
      · exact q5 c1 c2 c3
      · refine am_s_aload_n rfl dc5_6.1.1.1 ?_
        refine am_s_getR (r := 118) dc5_6.1.1.2 rfl rfl rfl (hp _ _ _ rfl) ?_
        refine am_s_iload rfl dc5_6.1.2.1 ?_
        refine am_s_iconst am_cc3 dc5_6.1.2.2 ?_
        refine am_s_imul dc5_6.2.1.1 ?_
        refine am_s_iconst am_cc1 dc5_6.2.1.2 ?_
        refine am_s_iadd dc5_6.2.2.1 ?_
        refine am_x_laload (x := J 118 (Int32.toNatClampNeg ((x9 * 3) + 1))) dc5_6.2.2.2 rfl (q6 c1 c2 c3) rfl rfl ?_
        refine am_s_lload rfl dc5_7.1.1.1 ?_
        refine am_s_lcmp dc5_7.1.1.2 ?_
        refine am_s_if_ne dc5_7.1.2.1 rfl (fun c4 => ?_) (fun c4 => ?_)
        · exact q7 c1 c2 c3 c4
        · refine am_s_aload_n rfl dc5_7.1.2.2 ?_
          refine am_s_getR (r := 118) dc5_7.2.1.1 rfl rfl rfl (hp _ _ _ rfl) ?_
          refine am_s_iload rfl dc5_7.2.1.2 ?_
          refine am_s_iconst am_cc3 dc5_7.2.2.1 ?_
          refine am_s_imul dc5_7.2.2.2 ?_
          refine am_s_iconst am_cc2 dc5_8.1.1.1 ?_
          refine am_s_iadd dc5_8.1.1.2 ?_
          refine am_x_laload (x := J 118 (Int32.toNatClampNeg ((x9 * 3) + 2))) dc5_8.1.2.1 rfl (q8 c1 c2 c3 c4) rfl rfl ?_
          refine am_s_lload rfl dc5_8.1.2.2 ?_
          refine am_s_lcmp dc5_8.2.1.1 ?_
          refine am_s_if_ne dc5_8.2.1.2 rfl (fun c5 => ?_) (fun c5 => ?_)
          · exact q9 c1 c2 c3 c4 c5
          · refine am_s_aload_n rfl dc5_8.2.2.1 ?_
            refine am_s_getR (r := 119) dc5_8.2.2.2 rfl rfl rfl (hp _ _ _ rfl) ?_
            refine am_s_iload rfl dc5_9.1.1.1 ?_
            refine am_x_iaload (x := I 119 (Int32.toNatClampNeg x9)) dc5_9.1.1.2 rfl (q10 c1 c2 c3 c4 c5) rfl rfl ?_
            exact am_s_ireturn dc5_9.1.2.1 rfl (q11 c1 c2 c3 c4 c5)
theorem t5_124 {sc : Option (Nat × (Nat → Int32))} {d k n : Nat} {P : am_O → Prop} {I : am_I} {J : am_J} {Pf : am_R} (hp : am_PF Pf) {x1 : Nat} (hx1 : am_SH[x1]? = some (.inl 9)) {x2 : Int32} {x3 : Int64} {l4 : Option Value} {x5 : Int64} {l6 : Option Value} {x7 : Int64} {l8 : Option Value} {x9 : Int32} {x10 : Int32} (hl8 : am_k1 l8 = true) (q1 : am_go sc d 5 (49, [some (.ref 112), some (.ref x1), some (.int x2), some (.long x3), l4, some (.long x5), l6, some (.long x7), l8, some (.int ((x9 + 1) &&& 255)), some (.int (x10 + 1))], [], (am_SH, I, J, Pf), k, n) P) : am_go sc d 5 (124, [some (.ref 112), some (.ref x1), some (.int x2), some (.long x3), l4, some (.long x5), l6, some (.long x7), l8, some (.int x9), some (.int x10)], [], (am_SH, I, J, Pf), k, n) P := by
  refine am_s_iload rfl dc5_9.1.2.2 ?_
  refine am_s_iconst am_cc1 dc5_9.2.1.1 ?_
  refine am_s_iadd dc5_9.2.1.2 ?_
  refine am_s_sipush am_cs255 dc5_9.2.2.1 ?_
  refine am_s_iand dc5_9.2.2.2 ?_
  refine am_s_istore (ls' := [some (.ref 112), some (.ref x1), some (.int x2), some (.long x3), l4, some (.long x5), l6, some (.long x7), l8, some (.int ((x9 + 1) &&& 255)), some (.int x10)]) rfl (am_set1_k (am_kill_x (j := 8) rfl hl8) rfl) dc5_10.1.1.1 ?_
  refine am_s_iinc (ls' := [some (.ref 112), some (.ref x1), some (.int x2), some (.long x3), l4, some (.long x5), l6, some (.long x7), l8, some (.int ((x9 + 1) &&& 255)), some (.int (x10 + 1))]) am_cc1 rfl rfl dc5_10.1.1.2 ?_
  refine am_s_goto rfl dc5_10.1.2.1 ?_
  exact q1
theorem t5_140 {sc : Option (Nat × (Nat → Int32))} {d k n : Nat} {P : am_O → Prop} {I : am_I} {J : am_J} {Pf : am_R} (hp : am_PF Pf) {x1 : Nat} (hx1 : am_SH[x1]? = some (.inl 9)) {x2 : Int32} {x3 : Int64} {l4 : Option Value} {x5 : Int64} {l6 : Option Value} {x7 : Int64} {l8 : Option Value} {l9 : Option Value} {l10 : Option Value} (q1 : am_mth d 2 [.ref 112, .ref x1, .int x2, .int (I x1 1)] (am_SH, I, J, Pf) (am_af sc d 5 147 [some (.ref 112), some (.ref x1), some (.int x2), some (.long x3), l4, some (.long x5), l6, some (.long x7), l8, l9, l10] [.int (I x1 1), .int x2, .ref x1, .ref 112] [] (am_SH, I, J, Pf) k n true P)) : am_go sc d 5 (140, [some (.ref 112), some (.ref x1), some (.int x2), some (.long x3), l4, some (.long x5), l6, some (.long x7), l8, l9, l10], [], (am_SH, I, J, Pf), k, n) P := by
  refine am_s_aload_n rfl dc5_10.1.2.2 ?_
  refine am_s_aload_n rfl dc5_10.2.1.1 ?_
  refine am_s_iload_n rfl dc5_10.2.1.2 ?_
  refine am_s_aload_n rfl dc5_10.2.2.1 ?_
  refine am_x_getI (x := I x1 1) dc5_10.2.2.2 rfl hx1 (Or.inl rfl) rfl ?_
  exact am_s_virtual true dc5_11.1.1.1 rfl (by decide) rfl rfl rfl (q1)
theorem t5_5 {sc : Option (Nat × (Nat → Int32))} {d k n : Nat} {P : am_O → Prop} {I : am_I} {J : am_J} {Pf : am_R} (hp : am_PF Pf) {x1 : Nat} (hx1 : am_SH[x1]? = some (.inl 9)) {x2 : Int32} {l3 : Option Value} {l4 : Option Value} {l5 : Option Value} {l6 : Option Value} {l7 : Option Value} {l8 : Option Value} {l9 : Option Value} {l10 : Option Value} {s0 : Int64} (q1 : am_mth d 6 [.ref x1, .int 9] (am_SH, I, J, Pf) (am_af sc d 5 9 [some (.ref 112), some (.ref x1), some (.int x2), some (.long s0), none, l5, l6, l7, l8, l9, l10] [.int 9, .ref x1] [] (am_SH, I, J, Pf) k n false P)) : am_go sc d 5 (5, [some (.ref 112), some (.ref x1), some (.int x2), l3, l4, l5, l6, l7, l8, l9, l10], [.long s0], (am_SH, I, J, Pf), k, n) P := by
  refine am_s_lstore_n (ls' := [some (.ref 112), some (.ref x1), some (.int x2), some (.long s0), none, l5, l6, l7, l8, l9, l10]) rfl rfl dc5_0.1.2.2 ?_
  refine am_s_aload_n rfl dc5_0.2.1.1 ?_
  refine am_s_bipush am_cb9 dc5_0.2.1.2 ?_
  exact am_s_static dc5_0.2.2.1 rfl rfl rfl (q1)
theorem t5_150 {sc : Option (Nat × (Nat → Int32))} {d k n : Nat} {P : am_O → Prop} {I : am_I} {J : am_J} {Pf : am_R} (hp : am_PF Pf) {x1 : Nat} (hx1 : am_SH[x1]? = some (.inl 9)) {l2 : Option Value} {x3 : Int64} {l4 : Option Value} {x5 : Int64} {l6 : Option Value} {x7 : Int64} {l8 : Option Value} {l9 : Option Value} {l10 : Option Value} (q1 : am_mth d 119 [.ref x1] (am_SH, I, J, Pf) (am_af sc d 5 151 [some (.ref 112), some (.ref x1), l2, some (.long x3), l4, some (.long x5), l6, some (.long x7), l8, l9, l10] [.ref x1] [] (am_SH, I, J, Pf) k n false P)) : am_go sc d 5 (150, [some (.ref 112), some (.ref x1), l2, some (.long x3), l4, some (.long x5), l6, some (.long x7), l8, l9, l10], [], (am_SH, I, J, Pf), k, n) P := by
  refine am_s_aload_n rfl dc5_11.1.1.2 ?_
  exact am_s_virtual false dc5_11.1.2.1 rfl (by decide) rfl hx1 rfl (q1)
theorem t5_12 {sc : Option (Nat × (Nat → Int32))} {d k n : Nat} {P : am_O → Prop} {I : am_I} {J : am_J} {Pf : am_R} (hp : am_PF Pf) {x1 : Nat} (hx1 : am_SH[x1]? = some (.inl 9)) {x2 : Int32} {x3 : Int64} {l4 : Option Value} {l5 : Option Value} {l6 : Option Value} {l7 : Option Value} {l8 : Option Value} {l9 : Option Value} {l10 : Option Value} {s0 : Int64} (hl4 : am_k1 l4 = true) (q1 : am_mth d 6 [.ref x1, .int 18] (am_SH, I, J, Pf) (am_af sc d 5 17 [some (.ref 112), some (.ref x1), some (.int x2), some (.long x3), l4, some (.long s0), none, l7, l8, l9, l10] [.int 18, .ref x1] [] (am_SH, I, J, Pf) k n false P)) : am_go sc d 5 (12, [some (.ref 112), some (.ref x1), some (.int x2), some (.long x3), l4, l5, l6, l7, l8, l9, l10], [.long s0], (am_SH, I, J, Pf), k, n) P := by
  refine am_s_lstore (ls' := [some (.ref 112), some (.ref x1), some (.int x2), some (.long x3), l4, some (.long s0), none, l7, l8, l9, l10]) rfl (am_set2_k (am_kill_x (j := 4) rfl hl4) rfl) dc5_0.2.2.2 ?_
  refine am_s_aload_n rfl dc5_1.1.1.1 ?_
  refine am_s_bipush am_cb18 dc5_1.1.1.2 ?_
  exact am_s_static dc5_1.1.2.1 rfl rfl rfl (q1)
theorem t5_154 {sc : Option (Nat × (Nat → Int32))} {d k n : Nat} {P : am_O → Prop} {I : am_I} {J : am_J} {Pf : am_R} (hp : am_PF Pf) {l1 : Option Value} {l2 : Option Value} {x3 : Int64} {l4 : Option Value} {x5 : Int64} {l6 : Option Value} {x7 : Int64} {l8 : Option Value} {l9 : Option Value} {l10 : Option Value} {s0 : Int32} (hl9 : am_k1 l9 = true) (q1 : am_mth d 8 [.ref 112, .long x3, .long x5, .long x7, .int s0] (am_SH, I, J, Pf) (am_af sc d 5 164 [some (.ref 112), l1, l2, some (.long x3), l4, some (.long x5), l6, some (.long x7), l8, l9, some (.int s0)] [.int s0, .long x7, .long x5, .long x3, .ref 112] [] (am_SH, I, J, Pf) k n true P)) : am_go sc d 5 (154, [some (.ref 112), l1, l2, some (.long x3), l4, some (.long x5), l6, some (.long x7), l8, l9, l10], [.int s0], (am_SH, I, J, Pf), k, n) P := by
  refine am_s_istore (ls' := [some (.ref 112), l1, l2, some (.long x3), l4, some (.long x5), l6, some (.long x7), l8, l9, some (.int s0)]) rfl (am_set1_k (am_kill_x (j := 9) rfl hl9) rfl) dc5_11.1.2.2 ?_
  refine am_s_aload_n rfl dc5_11.2.1.1 ?_
  refine am_s_lload_n rfl dc5_11.2.1.2 ?_
  refine am_s_lload rfl dc5_11.2.2.1 ?_
  refine am_s_lload rfl dc5_11.2.2.2 ?_
  refine am_s_iload rfl dc5_12.1.1 ?_
  exact am_s_virtual true dc5_12.1.2 rfl (by decide) rfl rfl rfl (q1)
theorem t5_20 {sc : Option (Nat × (Nat → Int32))} {d k n : Nat} {P : am_O → Prop} {I : am_I} {J : am_J} {Pf : am_R} (hp : am_PF Pf) {x1 : Nat} (hx1 : am_SH[x1]? = some (.inl 9)) {x2 : Int32} {x3 : Int64} {l4 : Option Value} {x5 : Int64} {l6 : Option Value} {l7 : Option Value} {l8 : Option Value} {l9 : Option Value} {l10 : Option Value} {s0 : Int64} (hl6 : am_k1 l6 = true) (q1 : am_mth d 7 [.long x3, .long x5, .long (((s0 <<< (Int32.toInt64 8 &&& 63)) ||| (Int32.toInt64 ((I x1 1) <<< ((2 : Int32) &&& 31)))) ||| (Int32.toInt64 x2))] (am_SH, I, J, Pf) (am_af sc d 5 41 [some (.ref 112), some (.ref x1), some (.int x2), some (.long x3), l4, some (.long x5), l6, some (.long (((s0 <<< (Int32.toInt64 8 &&& 63)) ||| (Int32.toInt64 ((I x1 1) <<< ((2 : Int32) &&& 31)))) ||| (Int32.toInt64 x2))), none, l9, l10] [.long (((s0 <<< (Int32.toInt64 8 &&& 63)) ||| (Int32.toInt64 ((I x1 1) <<< ((2 : Int32) &&& 31)))) ||| (Int32.toInt64 x2)), .long x5, .long x3] [] (am_SH, I, J, Pf) k n false P)) : am_go sc d 5 (20, [some (.ref 112), some (.ref x1), some (.int x2), some (.long x3), l4, some (.long x5), l6, l7, l8, l9, l10], [.long s0], (am_SH, I, J, Pf), k, n) P := by
  refine am_s_bipush am_cb8 dc5_1.1.2.2 ?_
  refine am_s_lshl dc5_1.2.1.1 ?_
  refine am_s_aload_n rfl dc5_1.2.1.2 ?_
  refine am_x_getI (x := I x1 1) dc5_1.2.2.1 rfl hx1 (Or.inl rfl) rfl ?_
  refine am_s_iconst am_cc2 dc5_1.2.2.2 ?_
  refine am_s_ishl dc5_2.1.1.1 ?_
  refine am_s_i2l dc5_2.1.1.2 ?_
  refine am_s_lor dc5_2.1.2.1 ?_
  refine am_s_iload_n rfl dc5_2.1.2.2 ?_
  refine am_s_i2l dc5_2.2.1.1 ?_
  refine am_s_lor dc5_2.2.1.2 ?_
  refine am_s_lstore (ls' := [some (.ref 112), some (.ref x1), some (.int x2), some (.long x3), l4, some (.long x5), l6, some (.long (((s0 <<< (Int32.toInt64 8 &&& 63)) ||| (Int32.toInt64 ((I x1 1) <<< ((2 : Int32) &&& 31)))) ||| (Int32.toInt64 x2))), none, l9, l10]) rfl (am_set2_k (am_kill_x (j := 6) rfl hl6) rfl) dc5_2.2.2.1 ?_
  refine am_s_lload_n rfl dc5_2.2.2.2 ?_
  refine am_s_lload rfl dc5_3.1.1.1 ?_
  refine am_s_lload rfl dc5_3.1.1.2 ?_
  exact am_s_static dc5_3.1.2.1 rfl rfl rfl (q1)
theorem t5_167 {sc : Option (Nat × (Nat → Int32))} {d k n : Nat} {P : am_O → Prop} {I : am_I} {J : am_J} {Pf : am_R} (hp : am_PF Pf) {l0 : Option Value} {l1 : Option Value} {l2 : Option Value} {l3 : Option Value} {l4 : Option Value} {l5 : Option Value} {l6 : Option Value} {l7 : Option Value} {l8 : Option Value} {l9 : Option Value} {x10 : Int32} (q1 : P (.inl (some (.int x10)), (am_SH, I, J, Pf), k, n)) : am_go sc d 5 (167, [l0, l1, l2, l3, l4, l5, l6, l7, l8, l9, some (.int x10)], [], (am_SH, I, J, Pf), k, n) P := by
  refine am_s_iload rfl dc5_12.2.1 ?_
  exact am_s_ireturn dc5_12.2.2 rfl (q1)
theorem t5_44 {sc : Option (Nat × (Nat → Int32))} {d k n : Nat} {P : am_O → Prop} {I : am_I} {J : am_J} {Pf : am_R} (hp : am_PF Pf) {x1 : Nat} (hx1 : am_SH[x1]? = some (.inl 9)) {x2 : Int32} {x3 : Int64} {l4 : Option Value} {x5 : Int64} {l6 : Option Value} {x7 : Int64} {l8 : Option Value} {l9 : Option Value} {l10 : Option Value} {s0 : Int32} (hl8 : am_k1 l8 = true) (q1 : am_go sc d 5 (49, [some (.ref 112), some (.ref x1), some (.int x2), some (.long x3), l4, some (.long x5), l6, some (.long x7), l8, some (.int s0), some (.int 0)], [], (am_SH, I, J, Pf), k, n) P) : am_go sc d 5 (44, [some (.ref 112), some (.ref x1), some (.int x2), some (.long x3), l4, some (.long x5), l6, some (.long x7), l8, l9, l10], [.int s0], (am_SH, I, J, Pf), k, n) P := by
  refine am_s_istore (ls' := [some (.ref 112), some (.ref x1), some (.int x2), some (.long x3), l4, some (.long x5), l6, some (.long x7), l8, some (.int s0), l10]) rfl (am_set1_k (am_kill_x (j := 8) rfl hl8) rfl) dc5_3.1.2.2 ?_
  refine am_s_iconst am_cc0 dc5_3.2.1.1 ?_
  refine am_s_istore (ls' := [some (.ref 112), some (.ref x1), some (.int x2), some (.long x3), l4, some (.long x5), l6, some (.long x7), l8, some (.int s0), some (.int 0)]) rfl rfl dc5_3.2.1.2 ?_
  exact q1
-- packed (LPrunedParses$Table;I)J
theorem dc6_0 : (((decode (am_by 6) 0 = .ok (.lconst 0, 1)) ∧ (decode (am_by 6) 1 = .ok (.lstore_n 2, 1))) ∧ ((decode (am_by 6) 2 = .ok (.iload_n 1, 1)) ∧ (decode (am_by 6) 3 = .ok (.istore 4, 2)))) ∧ (((decode (am_by 6) 5 = .ok (.iload 4, 2)) ∧ (decode (am_by 6) 7 = .ok (.iload_n 1, 1))) ∧ ((decode (am_by 6) 8 = .ok (.bipush 9, 2)) ∧ (decode (am_by 6) 10 = .ok (.iadd, 1)))) := by decide +kernel
theorem dc6_1 : (((decode (am_by 6) 11 = .ok (.if_icmp .ge 32, 3)) ∧ (decode (am_by 6) 14 = .ok (.iload 4, 2))) ∧ ((decode (am_by 6) 16 = .ok (.aload_n 0, 1)) ∧ (decode (am_by 6) 17 = .ok (.getfield 104, 3)))) ∧ (((decode (am_by 6) 20 = .ok (.if_icmp .ge 23, 3)) ∧ (decode (am_by 6) 23 = .ok (.lload_n 2, 1))) ∧ ((decode (am_by 6) 24 = .ok (.bipush 7, 2)) ∧ (decode (am_by 6) 26 = .ok (.lshl, 1)))) := by decide +kernel
theorem dc6_2 : (((decode (am_by 6) 27 = .ok (.aload_n 0, 1)) ∧ (decode (am_by 6) 28 = .ok (.getfield 121, 3))) ∧ ((decode (am_by 6) 31 = .ok (.iload 4, 2)) ∧ (decode (am_by 6) 33 = .ok (.iaload, 1)))) ∧ (((decode (am_by 6) 34 = .ok (.i2l, 1)) ∧ (decode (am_by 6) 35 = .ok (.lor, 1))) ∧ ((decode (am_by 6) 36 = .ok (.lstore_n 2, 1)) ∧ (decode (am_by 6) 37 = .ok (.iinc 4 1, 3)))) := by decide +kernel
theorem dc6_3 : (decode (am_by 6) 40 = .ok (.goto (-35), 3)) ∧ ((decode (am_by 6) 43 = .ok (.lload_n 2, 1)) ∧ (decode (am_by 6) 44 = .ok (.lreturn, 1))) := by decide +kernel
theorem t6_0 {sc : Option (Nat × (Nat → Int32))} {d k n : Nat} {P : am_O → Prop} {I : am_I} {J : am_J} {Pf : am_R} (hp : am_PF Pf) {x0 : Nat} (hx0 : am_SH[x0]? = some (.inl 9)) {x1 : Int32} {l2 : Option Value} {l3 : Option Value} {l4 : Option Value} (q1 : am_go sc d 6 (5, [some (.ref x0), some (.int x1), some (.long 0), none, some (.int x1)], [], (am_SH, I, J, Pf), k, n) P) : am_go sc d 6 (0, [some (.ref x0), some (.int x1), l2, l3, l4], [], (am_SH, I, J, Pf), k, n) P := by
  refine am_s_lconst (x := 0) (by decide) dc6_0.1.1.1 ?_
  refine am_s_lstore_n (ls' := [some (.ref x0), some (.int x1), some (.long 0), none, l4]) rfl rfl dc6_0.1.1.2 ?_
  refine am_s_iload_n rfl dc6_0.1.2.1 ?_
  refine am_s_istore (ls' := [some (.ref x0), some (.int x1), some (.long 0), none, some (.int x1)]) rfl rfl dc6_0.1.2.2 ?_
  exact q1
theorem t6_5 {sc : Option (Nat × (Nat → Int32))} {d k n : Nat} {P : am_O → Prop} {I : am_I} {J : am_J} {Pf : am_R} (hp : am_PF Pf) {x0 : Nat} (hx0 : am_SH[x0]? = some (.inl 9)) {x1 : Int32} {x2 : Int64} {l3 : Option Value} {x4 : Int32} (q1 : ((x1 + 9) ≤ x4) → P (.inl (some (.long x2)), (am_SH, I, J, Pf), k, n)) (q2 : (¬ ((x1 + 9) ≤ x4)) → ((I x0 1) ≤ x4) → P (.inl (some (.long x2)), (am_SH, I, J, Pf), k, n)) (q3 : (¬ ((x1 + 9) ≤ x4)) → (¬ ((I x0 1) ≤ x4)) → am_in x4 24 = true) (q4 : (¬ ((x1 + 9) ≤ x4)) → (¬ ((I x0 1) ≤ x4)) → am_go sc d 6 (5, [some (.ref x0), some (.int x1), some (.long ((x2 <<< (Int32.toInt64 7 &&& 63)) ||| (Int32.toInt64 (I (x0 + 1) (Int32.toNatClampNeg x4))))), none, some (.int (x4 + 1))], [], (am_SH, I, J, Pf), k, n) P) : am_go sc d 6 (5, [some (.ref x0), some (.int x1), some (.long x2), l3, some (.int x4)], [], (am_SH, I, J, Pf), k, n) P := by
  refine am_s_iload rfl dc6_0.2.1.1 ?_
  refine am_s_iload_n rfl dc6_0.2.1.2 ?_
  refine am_s_bipush am_cb9 dc6_0.2.2.1 ?_
  refine am_s_iadd dc6_0.2.2.2 ?_
  refine am_s_ic_ge dc6_1.1.1.1 rfl (fun c1 => ?_) (fun c1 => ?_)
  · refine am_s_lload_n rfl dc6_3.2.1 ?_
    exact am_s_lreturn dc6_3.2.2 rfl (q1 c1)
  · refine am_s_iload rfl dc6_1.1.1.2 ?_
    refine am_s_aload_n rfl dc6_1.1.2.1 ?_
    refine am_x_getI (x := I x0 1) dc6_1.1.2.2 rfl hx0 (Or.inl rfl) rfl ?_
    refine am_s_ic_ge dc6_1.2.1.1 rfl (fun c2 => ?_) (fun c2 => ?_)
    · refine am_s_lload_n rfl dc6_3.2.1 ?_
      exact am_s_lreturn dc6_3.2.2 rfl (q2 c1 c2)
    · refine am_s_lload_n rfl dc6_1.2.1.2 ?_
      refine am_s_bipush am_cb7 dc6_1.2.2.1 ?_
      refine am_s_lshl dc6_1.2.2.2 ?_
      refine am_s_aload_n rfl dc6_2.1.1.1 ?_
      refine am_s_getR (r := x0 + 1) dc6_2.1.1.2 rfl hx0 rfl (am_r9_0 hp hx0) ?_
      refine am_s_iload rfl dc6_2.1.2.1 ?_
      refine am_x_iaload (x := I (x0 + 1) (Int32.toNatClampNeg x4)) dc6_2.1.2.2 (am_h9_0 hx0) (q3 c1 c2) rfl rfl ?_
      refine am_s_i2l dc6_2.2.1.1 ?_
      refine am_s_lor dc6_2.2.1.2 ?_
      refine am_s_lstore_n (ls' := [some (.ref x0), some (.int x1), some (.long ((x2 <<< (Int32.toInt64 7 &&& 63)) ||| (Int32.toInt64 (I (x0 + 1) (Int32.toNatClampNeg x4))))), none, some (.int x4)]) rfl rfl dc6_2.2.2.1 ?_
      refine am_s_iinc (ls' := [some (.ref x0), some (.int x1), some (.long ((x2 <<< (Int32.toInt64 7 &&& 63)) ||| (Int32.toInt64 (I (x0 + 1) (Int32.toNatClampNeg x4))))), none, some (.int (x4 + 1))]) am_cc1 rfl rfl dc6_2.2.2.2 ?_
      refine am_s_goto rfl dc6_3.1 ?_
      exact q4 c1 c2
-- slotOf (JJJ)I
theorem dc7_0 : (((decode (am_by 7) 0 = .ok (.lload_n 0, 1)) ∧ (decode (am_by 7) 1 = .ok (.ldc2_w 124, 3))) ∧ ((decode (am_by 7) 4 = .ok (.lmul, 1)) ∧ (decode (am_by 7) 5 = .ok (.lload_n 2, 1)))) ∧ (((decode (am_by 7) 6 = .ok (.ladd, 1)) ∧ (decode (am_by 7) 7 = .ok (.ldc2_w 124, 3))) ∧ ((decode (am_by 7) 10 = .ok (.lmul, 1)) ∧ (decode (am_by 7) 11 = .ok (.lload 4, 2)))) := by decide +kernel
theorem dc7_1 : (((decode (am_by 7) 13 = .ok (.ladd, 1)) ∧ (decode (am_by 7) 14 = .ok (.ldc2_w 126, 3))) ∧ ((decode (am_by 7) 17 = .ok (.lmul, 1)) ∧ (decode (am_by 7) 18 = .ok (.lstore 6, 2)))) ∧ (((decode (am_by 7) 20 = .ok (.lload 6, 2)) ∧ (decode (am_by 7) 22 = .ok (.bipush 40, 2))) ∧ ((decode (am_by 7) 24 = .ok (.lushr, 1)) ∧ (decode (am_by 7) 25 = .ok (.l2i, 1)))) := by decide +kernel
theorem dc7_2 : (decode (am_by 7) 26 = .ok (.sipush 255, 3)) ∧ ((decode (am_by 7) 29 = .ok (.iand, 1)) ∧ (decode (am_by 7) 30 = .ok (.ireturn, 1))) := by decide +kernel
theorem t7_0 {sc : Option (Nat × (Nat → Int32))} {d k n : Nat} {P : am_O → Prop} {I : am_I} {J : am_J} {Pf : am_R} (hp : am_PF Pf) {x0 : Int64} {l1 : Option Value} {x2 : Int64} {l3 : Option Value} {x4 : Int64} {l5 : Option Value} {l6 : Option Value} {l7 : Option Value} (hl5 : am_k1 l5 = true) (q1 : P (.inl (some (.int ((Int64.toInt32 (UInt64.toInt64 (Int64.toUInt64 (((((x0 * 31) + x2) * 31) + x4) * (-7046029254386353131)) >>> (Int64.toUInt64 (Int32.toInt64 40) &&& Int64.toUInt64 63)))) &&& 255))), (am_SH, I, J, Pf), k, n)) : am_go sc d 7 (0, [some (.long x0), l1, some (.long x2), l3, some (.long x4), l5, l6, l7], [], (am_SH, I, J, Pf), k, n) P := by
  refine am_s_lload_n rfl dc7_0.1.1.1 ?_
  refine am_s_ldc2 (x := 31) dc7_0.1.1.2 rfl rfl ?_
  refine am_s_lmul dc7_0.1.2.1 ?_
  refine am_s_lload_n rfl dc7_0.1.2.2 ?_
  refine am_s_ladd dc7_0.2.1.1 ?_
  refine am_s_ldc2 (x := 31) dc7_0.2.1.2 rfl rfl ?_
  refine am_s_lmul dc7_0.2.2.1 ?_
  refine am_s_lload rfl dc7_0.2.2.2 ?_
  refine am_s_ladd dc7_1.1.1.1 ?_
  refine am_s_ldc2 (x := (-7046029254386353131)) dc7_1.1.1.2 rfl rfl ?_
  refine am_s_lmul dc7_1.1.2.1 ?_
  refine am_s_lstore (ls' := [some (.long x0), l1, some (.long x2), l3, some (.long x4), l5, some (.long (((((x0 * 31) + x2) * 31) + x4) * (-7046029254386353131))), none]) rfl (am_set2_k (am_kill_x (j := 5) rfl hl5) rfl) dc7_1.1.2.2 ?_
  refine am_s_lload rfl dc7_1.2.1.1 ?_
  refine am_s_bipush am_cb40 dc7_1.2.1.2 ?_
  refine am_s_lushr dc7_1.2.2.1 ?_
  refine am_s_l2i dc7_1.2.2.2 ?_
  refine am_s_sipush am_cs255 dc7_2.1 ?_
  refine am_s_iand dc7_2.2.1 ?_
  exact am_s_ireturn dc7_2.2.2 rfl (q1)
-- keep (JJJI)V
theorem dc8_0 : (((decode (am_by 8) 0 = .ok (.aload_n 0, 1)) ∧ (decode (am_by 8) 1 = .ok (.getfield 59, 3))) ∧ ((decode (am_by 8) 4 = .ok (.sipush 192, 3)) ∧ (decode (am_by 8) 7 = .ok (.if_icmp .lt 16, 3)))) ∧ (((decode (am_by 8) 10 = .ok (.aload_n 0, 1)) ∧ (decode (am_by 8) 11 = .ok (.getfield 38, 3))) ∧ ((decode (am_by 8) 14 = .ok (.iconst (-1), 1)) ∧ (decode (am_by 8) 15 = .ok (.invokestatic 53, 3)))) := by decide +kernel
theorem dc8_1 : (((decode (am_by 8) 18 = .ok (.aload_n 0, 1)) ∧ (decode (am_by 8) 19 = .ok (.iconst 0, 1))) ∧ ((decode (am_by 8) 20 = .ok (.putfield 59, 3)) ∧ (decode (am_by 8) 23 = .ok (.lload_n 1, 1)))) ∧ (((decode (am_by 8) 24 = .ok (.lload_n 3, 1)) ∧ (decode (am_by 8) 25 = .ok (.lload 5, 2))) ∧ ((decode (am_by 8) 27 = .ok (.invokestatic 107, 3)) ∧ (decode (am_by 8) 30 = .ok (.istore 8, 2)))) := by decide +kernel
theorem dc8_2 : (((decode (am_by 8) 32 = .ok (.iconst 0, 1)) ∧ (decode (am_by 8) 33 = .ok (.istore 9, 2))) ∧ ((decode (am_by 8) 35 = .ok (.iload 9, 2)) ∧ (decode (am_by 8) 37 = .ok (.sipush 256, 3)))) ∧ (((decode (am_by 8) 40 = .ok (.if_icmp .ge 30, 3)) ∧ (decode (am_by 8) 43 = .ok (.aload_n 0, 1))) ∧ ((decode (am_by 8) 44 = .ok (.getfield 38, 3)) ∧ (decode (am_by 8) 47 = .ok (.iload 8, 2)))) := by decide +kernel
theorem dc8_3 : (((decode (am_by 8) 49 = .ok (.iaload, 1)) ∧ (decode (am_by 8) 50 = .ok (.iconst (-1), 1))) ∧ ((decode (am_by 8) 51 = .ok (.if_icmp .eq 19, 3)) ∧ (decode (am_by 8) 54 = .ok (.iload 8, 2)))) ∧ (((decode (am_by 8) 56 = .ok (.iconst 1, 1)) ∧ (decode (am_by 8) 57 = .ok (.iadd, 1))) ∧ ((decode (am_by 8) 58 = .ok (.sipush 255, 3)) ∧ (decode (am_by 8) 61 = .ok (.iand, 1)))) := by decide +kernel
theorem dc8_4 : (((decode (am_by 8) 62 = .ok (.istore 8, 2)) ∧ (decode (am_by 8) 64 = .ok (.iinc 9 1, 3))) ∧ ((decode (am_by 8) 67 = .ok (.goto (-32), 3)) ∧ (decode (am_by 8) 70 = .ok (.aload_n 0, 1)))) ∧ (((decode (am_by 8) 71 = .ok (.getfield 34, 3)) ∧ (decode (am_by 8) 74 = .ok (.iload 8, 2))) ∧ ((decode (am_by 8) 76 = .ok (.iconst 3, 1)) ∧ (decode (am_by 8) 77 = .ok (.imul, 1)))) := by decide +kernel
theorem dc8_5 : (((decode (am_by 8) 78 = .ok (.lload_n 1, 1)) ∧ (decode (am_by 8) 79 = .ok (.lastore, 1))) ∧ ((decode (am_by 8) 80 = .ok (.aload_n 0, 1)) ∧ (decode (am_by 8) 81 = .ok (.getfield 34, 3)))) ∧ (((decode (am_by 8) 84 = .ok (.iload 8, 2)) ∧ (decode (am_by 8) 86 = .ok (.iconst 3, 1))) ∧ ((decode (am_by 8) 87 = .ok (.imul, 1)) ∧ (decode (am_by 8) 88 = .ok (.iconst 1, 1)))) := by decide +kernel
theorem dc8_6 : (((decode (am_by 8) 89 = .ok (.iadd, 1)) ∧ (decode (am_by 8) 90 = .ok (.lload_n 3, 1))) ∧ ((decode (am_by 8) 91 = .ok (.lastore, 1)) ∧ (decode (am_by 8) 92 = .ok (.aload_n 0, 1)))) ∧ (((decode (am_by 8) 93 = .ok (.getfield 34, 3)) ∧ (decode (am_by 8) 96 = .ok (.iload 8, 2))) ∧ ((decode (am_by 8) 98 = .ok (.iconst 3, 1)) ∧ (decode (am_by 8) 99 = .ok (.imul, 1)))) := by decide +kernel
theorem dc8_7 : (((decode (am_by 8) 100 = .ok (.iconst 2, 1)) ∧ (decode (am_by 8) 101 = .ok (.iadd, 1))) ∧ ((decode (am_by 8) 102 = .ok (.lload 5, 2)) ∧ (decode (am_by 8) 104 = .ok (.lastore, 1)))) ∧ (((decode (am_by 8) 105 = .ok (.aload_n 0, 1)) ∧ (decode (am_by 8) 106 = .ok (.getfield 38, 3))) ∧ ((decode (am_by 8) 109 = .ok (.iload 8, 2)) ∧ (decode (am_by 8) 111 = .ok (.iload 7, 2)))) := by decide +kernel
theorem dc8_8 : (((decode (am_by 8) 113 = .ok (.iastore, 1)) ∧ (decode (am_by 8) 114 = .ok (.aload_n 0, 1))) ∧ ((decode (am_by 8) 115 = .ok (.dup, 1)) ∧ (decode (am_by 8) 116 = .ok (.getfield 59, 3)))) ∧ (((decode (am_by 8) 119 = .ok (.iconst 1, 1)) ∧ (decode (am_by 8) 120 = .ok (.iadd, 1))) ∧ ((decode (am_by 8) 121 = .ok (.putfield 59, 3)) ∧ (decode (am_by 8) 124 = .ok (.return_, 1)))) := by decide +kernel
theorem t8_0 {sc : Option (Nat × (Nat → Int32))} {d k n : Nat} {P : am_O → Prop} {I : am_I} {J : am_J} {Pf : am_R} (hp : am_PF Pf) {x1 : Int64} {l2 : Option Value} {x3 : Int64} {l4 : Option Value} {x5 : Int64} {l6 : Option Value} {x7 : Int32} {l8 : Option Value} {l9 : Option Value} (q1 : ((I 112 9) < 192) → am_go sc d 8 (23, [some (.ref 112), some (.long x1), l2, some (.long x3), l4, some (.long x5), l6, some (.int x7), l8, l9], [], (am_SH, I, J, Pf), k, n) P) (q2 : (¬ ((I 112 9) < 192)) → am_mth d 341 [.ref 119, .int (-1)] (am_SH, I, J, Pf) (am_af sc d 8 15 [some (.ref 112), some (.long x1), l2, some (.long x3), l4, some (.long x5), l6, some (.int x7), l8, l9] [.int (-1), .ref 119] [] (am_SH, I, J, Pf) k n false P)) : am_go sc d 8 (0, [some (.ref 112), some (.long x1), l2, some (.long x3), l4, some (.long x5), l6, some (.int x7), l8, l9], [], (am_SH, I, J, Pf), k, n) P := by
  refine am_s_aload_n rfl dc8_0.1.1.1 ?_
  refine am_x_getI (x := I 112 9) dc8_0.1.1.2 rfl rfl (Or.inl rfl) rfl ?_
  refine am_s_sipush am_cs192 dc8_0.1.2.1 ?_
  refine am_s_ic_lt dc8_0.1.2.2 rfl (fun c1 => ?_) (fun c1 => ?_)
  · exact q1 c1
  · refine am_s_aload_n rfl dc8_0.2.1.1 ?_
    refine am_s_getR (r := 119) dc8_0.2.1.2 rfl rfl rfl (hp _ _ _ rfl) ?_
    refine am_s_iconst am_ccm1 dc8_0.2.2.1 ?_
    exact am_s_static dc8_0.2.2.2 rfl rfl rfl (q2 c1)
theorem t8_23 {sc : Option (Nat × (Nat → Int32))} {d k n : Nat} {P : am_O → Prop} {I : am_I} {J : am_J} {Pf : am_R} (hp : am_PF Pf) {x1 : Int64} {l2 : Option Value} {x3 : Int64} {l4 : Option Value} {x5 : Int64} {l6 : Option Value} {x7 : Int32} {l8 : Option Value} {l9 : Option Value} (q1 : am_mth d 7 [.long x1, .long x3, .long x5] (am_SH, I, J, Pf) (am_af sc d 8 27 [some (.ref 112), some (.long x1), l2, some (.long x3), l4, some (.long x5), l6, some (.int x7), l8, l9] [.long x5, .long x3, .long x1] [] (am_SH, I, J, Pf) k n false P)) : am_go sc d 8 (23, [some (.ref 112), some (.long x1), l2, some (.long x3), l4, some (.long x5), l6, some (.int x7), l8, l9], [], (am_SH, I, J, Pf), k, n) P := by
  refine am_s_lload_n rfl dc8_1.1.2.2 ?_
  refine am_s_lload_n rfl dc8_1.2.1.1 ?_
  refine am_s_lload rfl dc8_1.2.1.2 ?_
  exact am_s_static dc8_1.2.2.1 rfl rfl rfl (q1)
theorem t8_35 {sc : Option (Nat × (Nat → Int32))} {d k n : Nat} {P : am_O → Prop} {I : am_I} {J : am_J} {Pf : am_R} (hp : am_PF Pf) {x1 : Int64} {l2 : Option Value} {x3 : Int64} {l4 : Option Value} {x5 : Int64} {l6 : Option Value} {x7 : Int32} {x8 : Int32} {x9 : Int32} (q1 : (256 ≤ x9) → am_go sc d 8 (70, [some (.ref 112), some (.long x1), l2, some (.long x3), l4, some (.long x5), l6, some (.int x7), some (.int x8), some (.int x9)], [], (am_SH, I, J, Pf), k, n) P) (q2 : (¬ (256 ≤ x9)) → am_in x8 256 = true) (q3 : (¬ (256 ≤ x9)) → ((I 119 (Int32.toNatClampNeg x8)) = (-1)) → am_go sc d 8 (70, [some (.ref 112), some (.long x1), l2, some (.long x3), l4, some (.long x5), l6, some (.int x7), some (.int x8), some (.int x9)], [], (am_SH, I, J, Pf), k, n) P) (q4 : (¬ (256 ≤ x9)) → (¬ ((I 119 (Int32.toNatClampNeg x8)) = (-1))) → am_go sc d 8 (35, [some (.ref 112), some (.long x1), l2, some (.long x3), l4, some (.long x5), l6, some (.int x7), some (.int ((x8 + 1) &&& 255)), some (.int (x9 + 1))], [], (am_SH, I, J, Pf), k, n) P) : am_go sc d 8 (35, [some (.ref 112), some (.long x1), l2, some (.long x3), l4, some (.long x5), l6, some (.int x7), some (.int x8), some (.int x9)], [], (am_SH, I, J, Pf), k, n) P := by
  refine am_s_iload rfl dc8_2.1.2.1 ?_
  refine am_s_sipush am_cs256 dc8_2.1.2.2 ?_
  refine am_s_ic_ge dc8_2.2.1.1 rfl (fun c1 => ?_) (fun c1 => ?_)
  · exact q1 c1
  · refine am_s_aload_n rfl dc8_2.2.1.2 ?_
    refine am_s_getR (r := 119) dc8_2.2.2.1 rfl rfl rfl (hp _ _ _ rfl) ?_
    refine am_s_iload rfl dc8_2.2.2.2 ?_
    refine am_x_iaload (x := I 119 (Int32.toNatClampNeg x8)) dc8_3.1.1.1 rfl (q2 c1) rfl rfl ?_
    refine am_s_iconst am_ccm1 dc8_3.1.1.2 ?_
    refine am_s_ic_eq dc8_3.1.2.1 rfl (fun c2 => ?_) (fun c2 => ?_)
    · exact q3 c1 c2
    · refine am_s_iload rfl dc8_3.1.2.2 ?_
      refine am_s_iconst am_cc1 dc8_3.2.1.1 ?_
      refine am_s_iadd dc8_3.2.1.2 ?_
      refine am_s_sipush am_cs255 dc8_3.2.2.1 ?_
      refine am_s_iand dc8_3.2.2.2 ?_
      refine am_s_istore (ls' := [some (.ref 112), some (.long x1), l2, some (.long x3), l4, some (.long x5), l6, some (.int x7), some (.int ((x8 + 1) &&& 255)), some (.int x9)]) rfl rfl dc8_4.1.1.1 ?_
      refine am_s_iinc (ls' := [some (.ref 112), some (.long x1), l2, some (.long x3), l4, some (.long x5), l6, some (.int x7), some (.int ((x8 + 1) &&& 255)), some (.int (x9 + 1))]) am_cc1 rfl rfl dc8_4.1.1.2 ?_
      refine am_s_goto rfl dc8_4.1.2.1 ?_
      exact q4 c1 c2
theorem t8_70 {sc : Option (Nat × (Nat → Int32))} {d k n : Nat} {P : am_O → Prop} {I : am_I} {J : am_J} {Pf : am_R} (hp : am_PF Pf) {x1 : Int64} {l2 : Option Value} {x3 : Int64} {l4 : Option Value} {x5 : Int64} {l6 : Option Value} {x7 : Int32} {x8 : Int32} {l9 : Option Value} (q1 : am_in (x8 * 3) 768 = true) (q2 : am_in ((x8 * 3) + 1) 768 = true) (q3 : am_in ((x8 * 3) + 2) 768 = true) (q4 : am_in x8 256 = true) (q5 : P (.inl none, (am_SH, am_u (am_u I 119 (Int32.toNatClampNeg x8) x7) 112 9 ((I 112 9) + 1), am_u (am_u (am_u J 118 (Int32.toNatClampNeg (x8 * 3)) x1) 118 (Int32.toNatClampNeg ((x8 * 3) + 1)) x3) 118 (Int32.toNatClampNeg ((x8 * 3) + 2)) x5, Pf), k, n)) : am_go sc d 8 (70, [some (.ref 112), some (.long x1), l2, some (.long x3), l4, some (.long x5), l6, some (.int x7), some (.int x8), l9], [], (am_SH, I, J, Pf), k, n) P := by
  refine am_s_aload_n rfl dc8_4.1.2.2 ?_
  refine am_s_getR (r := 118) dc8_4.2.1.1 rfl rfl rfl (hp _ _ _ rfl) ?_
  refine am_s_iload rfl dc8_4.2.1.2 ?_
  refine am_s_iconst am_cc3 dc8_4.2.2.1 ?_
  refine am_s_imul dc8_4.2.2.2 ?_
  refine am_s_lload_n rfl dc8_5.1.1.1 ?_
  refine am_s_lastore dc8_5.1.1.2 rfl (q1) rfl ?_
  refine am_s_aload_n rfl dc8_5.1.2.1 ?_
  refine am_s_getR (r := 118) dc8_5.1.2.2 rfl rfl rfl (hp _ _ _ rfl) ?_
  refine am_s_iload rfl dc8_5.2.1.1 ?_
  refine am_s_iconst am_cc3 dc8_5.2.1.2 ?_
  refine am_s_imul dc8_5.2.2.1 ?_
  refine am_s_iconst am_cc1 dc8_5.2.2.2 ?_
  refine am_s_iadd dc8_6.1.1.1 ?_
  refine am_s_lload_n rfl dc8_6.1.1.2 ?_
  refine am_s_lastore dc8_6.1.2.1 rfl (q2) rfl ?_
  refine am_s_aload_n rfl dc8_6.1.2.2 ?_
  refine am_s_getR (r := 118) dc8_6.2.1.1 rfl rfl rfl (hp _ _ _ rfl) ?_
  refine am_s_iload rfl dc8_6.2.1.2 ?_
  refine am_s_iconst am_cc3 dc8_6.2.2.1 ?_
  refine am_s_imul dc8_6.2.2.2 ?_
  refine am_s_iconst am_cc2 dc8_7.1.1.1 ?_
  refine am_s_iadd dc8_7.1.1.2 ?_
  refine am_s_lload rfl dc8_7.1.2.1 ?_
  refine am_s_lastore dc8_7.1.2.2 rfl (q3) rfl ?_
  refine am_s_aload_n rfl dc8_7.2.1.1 ?_
  refine am_s_getR (r := 119) dc8_7.2.1.2 rfl rfl rfl (hp _ _ _ rfl) ?_
  refine am_s_iload rfl dc8_7.2.2.1 ?_
  refine am_s_iload rfl dc8_7.2.2.2 ?_
  refine am_s_iastore dc8_8.1.1.1 rfl (q4) rfl ?_
  refine am_s_aload_n rfl dc8_8.1.1.2 ?_
  refine am_s_dup rfl dc8_8.1.2.1 ?_
  refine am_x_getI (x := I 112 9) dc8_8.1.2.2 rfl rfl (Or.inl rfl) rfl ?_
  refine am_s_iconst am_cc1 dc8_8.2.1.1 ?_
  refine am_s_iadd dc8_8.2.1.2 ?_
  refine am_s_putI dc8_8.2.2.1 rfl rfl rfl rfl ?_
  exact am_s_return dc8_8.2.2.2 rfl (q5)
theorem t8_18 {sc : Option (Nat × (Nat → Int32))} {d k n : Nat} {P : am_O → Prop} {I : am_I} {J : am_J} {Pf : am_R} (hp : am_PF Pf) {x1 : Int64} {l2 : Option Value} {x3 : Int64} {l4 : Option Value} {x5 : Int64} {l6 : Option Value} {x7 : Int32} {l8 : Option Value} {l9 : Option Value} (q1 : am_go sc d 8 (23, [some (.ref 112), some (.long x1), l2, some (.long x3), l4, some (.long x5), l6, some (.int x7), l8, l9], [], (am_SH, am_u I 112 9 0, J, Pf), k, n) P) : am_go sc d 8 (18, [some (.ref 112), some (.long x1), l2, some (.long x3), l4, some (.long x5), l6, some (.int x7), l8, l9], [], (am_SH, I, J, Pf), k, n) P := by
  refine am_s_aload_n rfl dc8_1.1.1.1 ?_
  refine am_s_iconst am_cc0 dc8_1.1.1.2 ?_
  refine am_s_putI dc8_1.1.2.1 rfl rfl rfl rfl ?_
  exact q1
theorem t8_30 {sc : Option (Nat × (Nat → Int32))} {d k n : Nat} {P : am_O → Prop} {I : am_I} {J : am_J} {Pf : am_R} (hp : am_PF Pf) {x1 : Int64} {l2 : Option Value} {x3 : Int64} {l4 : Option Value} {x5 : Int64} {l6 : Option Value} {x7 : Int32} {l8 : Option Value} {l9 : Option Value} {s0 : Int32} (q1 : am_go sc d 8 (35, [some (.ref 112), some (.long x1), l2, some (.long x3), l4, some (.long x5), l6, some (.int x7), some (.int s0), some (.int 0)], [], (am_SH, I, J, Pf), k, n) P) : am_go sc d 8 (30, [some (.ref 112), some (.long x1), l2, some (.long x3), l4, some (.long x5), l6, some (.int x7), l8, l9], [.int s0], (am_SH, I, J, Pf), k, n) P := by
  refine am_s_istore (ls' := [some (.ref 112), some (.long x1), l2, some (.long x3), l4, some (.long x5), l6, some (.int x7), some (.int s0), l9]) rfl rfl dc8_1.2.2.2 ?_
  refine am_s_iconst am_cc0 dc8_2.1.1.1 ?_
  refine am_s_istore (ls' := [some (.ref 112), some (.long x1), l2, some (.long x3), l4, some (.long x5), l6, some (.int x7), some (.int s0), some (.int 0)]) rfl rfl dc8_2.1.1.2 ?_
  exact q1
-- findBarred (LPrunedParses$Table;)V
theorem dc9_0 : (((decode (am_by 9) 0 = .ok (.aload_n 0, 1)) ∧ (decode (am_by 9) 1 = .ok (.getfield 17, 3))) ∧ ((decode (am_by 9) 4 = .ok (.iconst 0, 1)) ∧ (decode (am_by 9) 5 = .ok (.invokestatic 53, 3)))) ∧ (((decode (am_by 9) 8 = .ok (.iconst 0, 1)) ∧ (decode (am_by 9) 9 = .ok (.istore_n 2, 1))) ∧ ((decode (am_by 9) 10 = .ok (.iload_n 2, 1)) ∧ (decode (am_by 9) 11 = .ok (.aload_n 0, 1)))) := by decide +kernel
theorem dc9_1 : (((decode (am_by 9) 12 = .ok (.getfield 42, 3)) ∧ (decode (am_by 9) 15 = .ok (.getfield 128, 3))) ∧ ((decode (am_by 9) 18 = .ok (.if_icmp .ge 74, 3)) ∧ (decode (am_by 9) 21 = .ok (.iconst 0, 1)))) ∧ (((decode (am_by 9) 22 = .ok (.istore_n 3, 1)) ∧ (decode (am_by 9) 23 = .ok (.iload_n 3, 1))) ∧ ((decode (am_by 9) 24 = .ok (.aload_n 1, 1)) ∧ (decode (am_by 9) 25 = .ok (.getfield 104, 3)))) := by decide +kernel
theorem dc9_2 : (((decode (am_by 9) 28 = .ok (.if_icmp .ge 58, 3)) ∧ (decode (am_by 9) 31 = .ok (.aload_n 0, 1))) ∧ ((decode (am_by 9) 32 = .ok (.getfield 42, 3)) ∧ (decode (am_by 9) 35 = .ok (.getfield 131, 3)))) ∧ (((decode (am_by 9) 38 = .ok (.aload_n 0, 1)) ∧ (decode (am_by 9) 39 = .ok (.getfield 42, 3))) ∧ ((decode (am_by 9) 42 = .ok (.getfield 135, 3)) ∧ (decode (am_by 9) 45 = .ok (.iload_n 2, 1)))) := by decide +kernel
theorem dc9_3 : (((decode (am_by 9) 46 = .ok (.iaload, 1)) ∧ (decode (am_by 9) 47 = .ok (.aaload, 1))) ∧ ((decode (am_by 9) 48 = .ok (.aload_n 1, 1)) ∧ (decode (am_by 9) 49 = .ok (.getfield 121, 3)))) ∧ (((decode (am_by 9) 52 = .ok (.iload_n 3, 1)) ∧ (decode (am_by 9) 53 = .ok (.iaload, 1))) ∧ ((decode (am_by 9) 54 = .ok (.invokevirtual 138, 3)) ∧ (decode (am_by 9) 57 = .ok (.ifCond .eq 23, 3)))) := by decide +kernel
theorem dc9_4 : (((decode (am_by 9) 60 = .ok (.aload_n 0, 1)) ∧ (decode (am_by 9) 61 = .ok (.getfield 17, 3))) ∧ ((decode (am_by 9) 64 = .ok (.aload_n 0, 1)) ∧ (decode (am_by 9) 65 = .ok (.getfield 42, 3)))) ∧ (((decode (am_by 9) 68 = .ok (.getfield 142, 3)) ∧ (decode (am_by 9) 71 = .ok (.iload_n 2, 1))) ∧ ((decode (am_by 9) 72 = .ok (.iaload, 1)) ∧ (decode (am_by 9) 73 = .ok (.dup2, 1)))) := by decide +kernel
theorem dc9_5 : (((decode (am_by 9) 74 = .ok (.iaload, 1)) ∧ (decode (am_by 9) 75 = .ok (.iconst 1, 1))) ∧ ((decode (am_by 9) 76 = .ok (.iload_n 3, 1)) ∧ (decode (am_by 9) 77 = .ok (.ishl, 1)))) ∧ (((decode (am_by 9) 78 = .ok (.ior, 1)) ∧ (decode (am_by 9) 79 = .ok (.iastore, 1))) ∧ ((decode (am_by 9) 80 = .ok (.iinc 3 1, 3)) ∧ (decode (am_by 9) 83 = .ok (.goto (-60), 3)))) := by decide +kernel
theorem dc9_6 : (decode (am_by 9) 86 = .ok (.iinc 2 1, 3)) ∧ ((decode (am_by 9) 89 = .ok (.goto (-79), 3)) ∧ (decode (am_by 9) 92 = .ok (.return_, 1))) := by decide +kernel
theorem t9_0 {sc : Option (Nat × (Nat → Int32))} {d k n : Nat} {P : am_O → Prop} {I : am_I} {J : am_J} {Pf : am_R} (hp : am_PF Pf) {x1 : Nat} (hx1 : am_SH[x1]? = some (.inl 9)) {l2 : Option Value} {l3 : Option Value} (q1 : am_mth d 341 [.ref 114, .int 0] (am_SH, I, J, Pf) (am_af sc d 9 5 [some (.ref 112), some (.ref x1), l2, l3] [.int 0, .ref 114] [] (am_SH, I, J, Pf) k n false P)) : am_go sc d 9 (0, [some (.ref 112), some (.ref x1), l2, l3], [], (am_SH, I, J, Pf), k, n) P := by
  refine am_s_aload_n rfl dc9_0.1.1.1 ?_
  refine am_s_getR (r := 114) dc9_0.1.1.2 rfl rfl rfl (hp _ _ _ rfl) ?_
  refine am_s_iconst am_cc0 dc9_0.1.2.1 ?_
  exact am_s_static dc9_0.1.2.2 rfl rfl rfl (q1)
theorem t9_10 {sc : Option (Nat × (Nat → Int32))} {d k n : Nat} {P : am_O → Prop} {I : am_I} {J : am_J} {Pf : am_R} (hp : am_PF Pf) {x1 : Nat} (hx1 : am_SH[x1]? = some (.inl 9)) {x2 : Int32} {l3 : Option Value} {r112_0 : Nat} (q1 : Pf 112 0 = some r112_0) (q2 : am_SH[r112_0]? = some (.inl 4)) (q3 : ((I r112_0 13) ≤ x2) → P (.inl none, (am_SH, I, J, Pf), k, n)) (q4 : (¬ ((I r112_0 13) ≤ x2)) → am_go sc d 9 (23, [some (.ref 112), some (.ref x1), some (.int x2), some (.int 0)], [], (am_SH, I, J, Pf), k, n) P) : am_go sc d 9 (10, [some (.ref 112), some (.ref x1), some (.int x2), l3], [], (am_SH, I, J, Pf), k, n) P := by
  refine am_s_iload_n rfl dc9_0.2.2.1 ?_
  refine am_s_aload_n rfl dc9_0.2.2.2 ?_
  refine am_s_getR (r := r112_0) dc9_1.1.1.1 rfl rfl rfl (q1) ?_
  refine am_x_getI (x := I r112_0 13) dc9_1.1.1.2 rfl (q2) (Or.inl rfl) rfl ?_
  refine am_s_ic_ge dc9_1.1.2.1 rfl (fun c1 => ?_) (fun c1 => ?_)
  · exact am_s_return dc9_6.2.2 rfl (q3 c1)
  · refine am_s_iconst am_cc0 dc9_1.1.2.2 ?_
    refine am_s_istore_n (ls' := [some (.ref 112), some (.ref x1), some (.int x2), some (.int 0)]) rfl rfl dc9_1.2.1.1 ?_
    exact q4 c1
theorem t9_23 {sc : Option (Nat × (Nat → Int32))} {d k n : Nat} {P : am_O → Prop} {I : am_I} {J : am_J} {Pf : am_R} (hp : am_PF Pf) {x1 : Nat} (hx1 : am_SH[x1]? = some (.inl 9)) {x2 : Int32} {x3 : Int32} {r112_0 : Nat} {r47 : Nat} (q1 : ((I x1 1) ≤ x3) → am_go sc d 9 (10, [some (.ref 112), some (.ref x1), some (.int (x2 + 1)), some (.int x3)], [], (am_SH, I, J, Pf), k, n) P) (q2 : (¬ ((I x1 1) ≤ x3)) → Pf 112 0 = some r112_0) (q3 : (¬ ((I x1 1) ≤ x3)) → am_SH[r112_0]? = some (.inl 4)) (q4 : (¬ ((I x1 1) ≤ x3)) → Pf 112 0 = some r112_0) (q5 : (¬ ((I x1 1) ≤ x3)) → am_SH[r112_0]? = some (.inl 4)) (q6 : (¬ ((I x1 1) ≤ x3)) → am_in x2 8 = true) (q7 : (¬ ((I x1 1) ≤ x3)) → am_in (I (r112_0 + 12) (Int32.toNatClampNeg x2)) 8 = true) (q8 : (¬ ((I x1 1) ≤ x3)) → Pf (r112_0 + 1) (Int32.toNatClampNeg (I (r112_0 + 12) (Int32.toNatClampNeg x2))) = some r47) (q9 : (¬ ((I x1 1) ≤ x3)) → am_SH[r47]? = some (.inl 6)) (q10 : (¬ ((I x1 1) ≤ x3)) → am_in x3 24 = true) (q11 : (¬ ((I x1 1) ≤ x3)) → am_mth d 78 [.ref r47, .int (I (x1 + 1) (Int32.toNatClampNeg x3))] (am_SH, I, J, Pf) (am_af sc d 9 54 [some (.ref 112), some (.ref x1), some (.int x2), some (.int x3)] [.int (I (x1 + 1) (Int32.toNatClampNeg x3)), .ref r47] [] (am_SH, I, J, Pf) k n false P)) : am_go sc d 9 (23, [some (.ref 112), some (.ref x1), some (.int x2), some (.int x3)], [], (am_SH, I, J, Pf), k, n) P := by
  refine am_s_iload_n rfl dc9_1.2.1.2 ?_
  refine am_s_aload_n rfl dc9_1.2.2.1 ?_
  refine am_x_getI (x := I x1 1) dc9_1.2.2.2 rfl hx1 (Or.inl rfl) rfl ?_
  refine am_s_ic_ge dc9_2.1.1.1 rfl (fun c1 => ?_) (fun c1 => ?_)
  · refine am_s_iinc (ls' := [some (.ref 112), some (.ref x1), some (.int (x2 + 1)), some (.int x3)]) am_cc1 rfl rfl dc9_6.1 ?_
    refine am_s_goto rfl dc9_6.2.1 ?_
    exact q1 c1
  · refine am_s_aload_n rfl dc9_2.1.1.2 ?_
    refine am_s_getR (r := r112_0) dc9_2.1.2.1 rfl rfl rfl (q2 c1) ?_
    refine am_s_getR (r := r112_0 + 1) dc9_2.1.2.2 rfl (q3 c1) rfl (am_r4_0 hp (q3 c1)) ?_
    refine am_s_aload_n rfl dc9_2.2.1.1 ?_
    refine am_s_getR (r := r112_0) dc9_2.2.1.2 rfl rfl rfl (q4 c1) ?_
    refine am_s_getR (r := r112_0 + 12) dc9_2.2.2.1 rfl (q5 c1) rfl (am_r4_15 hp (q5 c1)) ?_
    refine am_s_iload_n rfl dc9_2.2.2.2 ?_
    refine am_x_iaload (x := I (r112_0 + 12) (Int32.toNatClampNeg x2)) dc9_3.1.1.1 (am_h4_15 (q5 c1)) (q6 c1) rfl rfl ?_
    refine am_s_aaload (r := r47) dc9_3.1.1.2 (am_h4_0 (q3 c1)) rfl (q7 c1) (q8 c1) ?_
    refine am_s_aload_n rfl dc9_3.1.2.1 ?_
    refine am_s_getR (r := x1 + 1) dc9_3.1.2.2 rfl hx1 rfl (am_r9_0 hp hx1) ?_
    refine am_s_iload_n rfl dc9_3.2.1.1 ?_
    refine am_x_iaload (x := I (x1 + 1) (Int32.toNatClampNeg x3)) dc9_3.2.1.2 (am_h9_0 hx1) (q10 c1) rfl rfl ?_
    exact am_s_virtual false dc9_3.2.2.1 rfl (by decide) rfl (q9 c1) rfl (q11 c1)
theorem t9_8 {sc : Option (Nat × (Nat → Int32))} {d k n : Nat} {P : am_O → Prop} {I : am_I} {J : am_J} {Pf : am_R} (hp : am_PF Pf) {x1 : Nat} (hx1 : am_SH[x1]? = some (.inl 9)) {l2 : Option Value} {l3 : Option Value} (q1 : am_go sc d 9 (10, [some (.ref 112), some (.ref x1), some (.int 0), l3], [], (am_SH, I, J, Pf), k, n) P) : am_go sc d 9 (8, [some (.ref 112), some (.ref x1), l2, l3], [], (am_SH, I, J, Pf), k, n) P := by
  refine am_s_iconst am_cc0 dc9_0.2.1.1 ?_
  refine am_s_istore_n (ls' := [some (.ref 112), some (.ref x1), some (.int 0), l3]) rfl rfl dc9_0.2.1.2 ?_
  exact q1
theorem t9_57 {sc : Option (Nat × (Nat → Int32))} {d k n : Nat} {P : am_O → Prop} {I : am_I} {J : am_J} {Pf : am_R} (hp : am_PF Pf) {x1 : Nat} (hx1 : am_SH[x1]? = some (.inl 9)) {x2 : Int32} {x3 : Int32} {s0 : Int32} {r112_0 : Nat} (q1 : (s0 = 0) → am_go sc d 9 (23, [some (.ref 112), some (.ref x1), some (.int x2), some (.int (x3 + 1))], [], (am_SH, I, J, Pf), k, n) P) (q2 : (¬ (s0 = 0)) → Pf 112 0 = some r112_0) (q3 : (¬ (s0 = 0)) → am_SH[r112_0]? = some (.inl 4)) (q4 : (¬ (s0 = 0)) → am_in x2 8 = true) (q5 : (¬ (s0 = 0)) → am_in (I (r112_0 + 11) (Int32.toNatClampNeg x2)) 8 = true) (q6 : (¬ (s0 = 0)) → am_in (I (r112_0 + 11) (Int32.toNatClampNeg x2)) 8 = true) (q7 : (¬ (s0 = 0)) → am_go sc d 9 (23, [some (.ref 112), some (.ref x1), some (.int x2), some (.int (x3 + 1))], [], (am_SH, am_u I 114 (Int32.toNatClampNeg (I (r112_0 + 11) (Int32.toNatClampNeg x2))) ((I 114 (Int32.toNatClampNeg (I (r112_0 + 11) (Int32.toNatClampNeg x2)))) ||| (1 <<< (x3 &&& 31))), J, Pf), k, n) P) : am_go sc d 9 (57, [some (.ref 112), some (.ref x1), some (.int x2), some (.int x3)], [.int s0], (am_SH, I, J, Pf), k, n) P := by
  refine am_s_if_eq dc9_3.2.2.2 rfl (fun c1 => ?_) (fun c1 => ?_)
  · refine am_s_iinc (ls' := [some (.ref 112), some (.ref x1), some (.int x2), some (.int (x3 + 1))]) am_cc1 rfl rfl dc9_5.2.2.1 ?_
    refine am_s_goto rfl dc9_5.2.2.2 ?_
    exact q1 c1
  · refine am_s_aload_n rfl dc9_4.1.1.1 ?_
    refine am_s_getR (r := 114) dc9_4.1.1.2 rfl rfl rfl (hp _ _ _ rfl) ?_
    refine am_s_aload_n rfl dc9_4.1.2.1 ?_
    refine am_s_getR (r := r112_0) dc9_4.1.2.2 rfl rfl rfl (q2 c1) ?_
    refine am_s_getR (r := r112_0 + 11) dc9_4.2.1.1 rfl (q3 c1) rfl (am_r4_14 hp (q3 c1)) ?_
    refine am_s_iload_n rfl dc9_4.2.1.2 ?_
    refine am_x_iaload (x := I (r112_0 + 11) (Int32.toNatClampNeg x2)) dc9_4.2.2.1 (am_h4_14 (q3 c1)) (q4 c1) rfl rfl ?_
    refine am_s_dup2 rfl rfl dc9_4.2.2.2 ?_
    refine am_x_iaload (x := I 114 (Int32.toNatClampNeg (I (r112_0 + 11) (Int32.toNatClampNeg x2)))) dc9_5.1.1.1 rfl (q5 c1) rfl rfl ?_
    refine am_s_iconst am_cc1 dc9_5.1.1.2 ?_
    refine am_s_iload_n rfl dc9_5.1.2.1 ?_
    refine am_s_ishl dc9_5.1.2.2 ?_
    refine am_s_ior dc9_5.2.1.1 ?_
    refine am_s_iastore dc9_5.2.1.2 rfl (q6 c1) rfl ?_
    refine am_s_iinc (ls' := [some (.ref 112), some (.ref x1), some (.int x2), some (.int (x3 + 1))]) am_cc1 rfl rfl dc9_5.2.2.1 ?_
    refine am_s_goto rfl dc9_5.2.2.2 ?_
    exact q7 c1
-- fillPlace (LPrunedParses$Table;I)V
theorem dc10_0 : (((decode (am_by 10) 0 = .ok (.iconst 0, 1)) ∧ (decode (am_by 10) 1 = .ok (.istore_n 3, 1))) ∧ ((decode (am_by 10) 2 = .ok (.iload_n 3, 1)) ∧ (decode (am_by 10) 3 = .ok (.bipush 8, 2)))) ∧ (((decode (am_by 10) 5 = .ok (.if_icmp .ge 21, 3)) ∧ (decode (am_by 10) 8 = .ok (.aload_n 1, 1))) ∧ ((decode (am_by 10) 9 = .ok (.getfield 145, 3)) ∧ (decode (am_by 10) 12 = .ok (.iload_n 3, 1)))) := by decide +kernel
theorem dc10_1 : (((decode (am_by 10) 13 = .ok (.bipush 25, 2)) ∧ (decode (am_by 10) 15 = .ok (.imul, 1))) ∧ ((decode (am_by 10) 16 = .ok (.iload_n 2, 1)) ∧ (decode (am_by 10) 17 = .ok (.iadd, 1)))) ∧ (((decode (am_by 10) 18 = .ok (.iconst 0, 1)) ∧ (decode (am_by 10) 19 = .ok (.iastore, 1))) ∧ ((decode (am_by 10) 20 = .ok (.iinc 3 1, 3)) ∧ (decode (am_by 10) 23 = .ok (.goto (-21), 3)))) := by decide +kernel
theorem dc10_2 : (((decode (am_by 10) 26 = .ok (.iconst 0, 1)) ∧ (decode (am_by 10) 27 = .ok (.istore_n 3, 1))) ∧ ((decode (am_by 10) 28 = .ok (.iload_n 3, 1)) ∧ (decode (am_by 10) 29 = .ok (.aload_n 0, 1)))) ∧ (((decode (am_by 10) 30 = .ok (.getfield 52, 3)) ∧ (decode (am_by 10) 33 = .ok (.getfield 148, 3))) ∧ ((decode (am_by 10) 36 = .ok (.if_icmp .gt 78, 3)) ∧ (decode (am_by 10) 39 = .ok (.iconst 0, 1)))) := by decide +kernel
theorem dc10_3 : (((decode (am_by 10) 40 = .ok (.istore 4, 2)) ∧ (decode (am_by 10) 42 = .ok (.iload 4, 2))) ∧ ((decode (am_by 10) 44 = .ok (.bipush 8, 2)) ∧ (decode (am_by 10) 46 = .ok (.if_icmp .ge 48, 3)))) ∧ (((decode (am_by 10) 49 = .ok (.aload_n 0, 1)) ∧ (decode (am_by 10) 50 = .ok (.getfield 52, 3))) ∧ ((decode (am_by 10) 53 = .ok (.getfield 153, 3)) ∧ (decode (am_by 10) 56 = .ok (.iload 4, 2)))) := by decide +kernel
theorem dc10_4 : (((decode (am_by 10) 58 = .ok (.iaload, 1)) ∧ (decode (am_by 10) 59 = .ok (.iload_n 3, 1))) ∧ ((decode (am_by 10) 60 = .ok (.if_icmp .ne 28, 3)) ∧ (decode (am_by 10) 63 = .ok (.aload_n 0, 1)))) ∧ (((decode (am_by 10) 64 = .ok (.getfield 21, 3)) ∧ (decode (am_by 10) 67 = .ok (.iload 4, 2))) ∧ ((decode (am_by 10) 69 = .ok (.aload_n 0, 1)) ∧ (decode (am_by 10) 70 = .ok (.getfield 17, 3)))) := by decide +kernel
theorem dc10_5 : (((decode (am_by 10) 73 = .ok (.iload 4, 2)) ∧ (decode (am_by 10) 75 = .ok (.iaload, 1))) ∧ ((decode (am_by 10) 76 = .ok (.aload_n 0, 1)) ∧ (decode (am_by 10) 77 = .ok (.aload_n 1, 1)))) ∧ (((decode (am_by 10) 78 = .ok (.iload 4, 2)) ∧ (decode (am_by 10) 80 = .ok (.iload_n 2, 1))) ∧ ((decode (am_by 10) 81 = .ok (.invokevirtual 156, 3)) ∧ (decode (am_by 10) 84 = .ok (.ior, 1)))) := by decide +kernel
theorem dc10_6 : (((decode (am_by 10) 85 = .ok (.iconst (-1), 1)) ∧ (decode (am_by 10) 86 = .ok (.ixor, 1))) ∧ ((decode (am_by 10) 87 = .ok (.iastore, 1)) ∧ (decode (am_by 10) 88 = .ok (.iinc 4 1, 3)))) ∧ (((decode (am_by 10) 91 = .ok (.goto (-49), 3)) ∧ (decode (am_by 10) 94 = .ok (.aload_n 0, 1))) ∧ ((decode (am_by 10) 95 = .ok (.aload_n 1, 1)) ∧ (decode (am_by 10) 96 = .ok (.iload_n 2, 1)))) := by decide +kernel
theorem dc10_7 : (((decode (am_by 10) 97 = .ok (.iload_n 3, 1)) ∧ (decode (am_by 10) 98 = .ok (.invokevirtual 160, 3))) ∧ ((decode (am_by 10) 101 = .ok (.aload_n 0, 1)) ∧ (decode (am_by 10) 102 = .ok (.aload_n 1, 1)))) ∧ (((decode (am_by 10) 103 = .ok (.iload_n 2, 1)) ∧ (decode (am_by 10) 104 = .ok (.iload_n 3, 1))) ∧ ((decode (am_by 10) 105 = .ok (.invokevirtual 163, 3)) ∧ (decode (am_by 10) 108 = .ok (.iinc 3 1, 3)))) := by decide +kernel
theorem dc10_8 : (decode (am_by 10) 111 = .ok (.goto (-83), 3)) ∧ (decode (am_by 10) 114 = .ok (.return_, 1)) := by decide +kernel
theorem t10_0 {sc : Option (Nat × (Nat → Int32))} {d k n : Nat} {P : am_O → Prop} {I : am_I} {J : am_J} {Pf : am_R} (hp : am_PF Pf) {x1 : Nat} (hx1 : am_SH[x1]? = some (.inl 9)) {x2 : Int32} {l3 : Option Value} {l4 : Option Value} (q1 : am_go sc d 10 (2, [some (.ref 112), some (.ref x1), some (.int x2), some (.int 0), l4], [], (am_SH, I, J, Pf), k, n) P) : am_go sc d 10 (0, [some (.ref 112), some (.ref x1), some (.int x2), l3, l4], [], (am_SH, I, J, Pf), k, n) P := by
  refine am_s_iconst am_cc0 dc10_0.1.1.1 ?_
  refine am_s_istore_n (ls' := [some (.ref 112), some (.ref x1), some (.int x2), some (.int 0), l4]) rfl rfl dc10_0.1.1.2 ?_
  exact q1
theorem t10_2 {sc : Option (Nat × (Nat → Int32))} {d k n : Nat} {P : am_O → Prop} {I : am_I} {J : am_J} {Pf : am_R} (hp : am_PF Pf) {x1 : Nat} (hx1 : am_SH[x1]? = some (.inl 9)) {x2 : Int32} {x3 : Int32} {l4 : Option Value} (q1 : (8 ≤ x3) → am_go sc d 10 (28, [some (.ref 112), some (.ref x1), some (.int x2), some (.int 0), l4], [], (am_SH, I, J, Pf), k, n) P) (q2 : (¬ (8 ≤ x3)) → am_in ((x3 * 25) + x2) 200 = true) (q3 : (¬ (8 ≤ x3)) → am_go sc d 10 (2, [some (.ref 112), some (.ref x1), some (.int x2), some (.int (x3 + 1)), l4], [], (am_SH, am_u I (x1 + 3) (Int32.toNatClampNeg ((x3 * 25) + x2)) 0, J, Pf), k, n) P) : am_go sc d 10 (2, [some (.ref 112), some (.ref x1), some (.int x2), some (.int x3), l4], [], (am_SH, I, J, Pf), k, n) P := by
  refine am_s_iload_n rfl dc10_0.1.2.1 ?_
  refine am_s_bipush am_cb8 dc10_0.1.2.2 ?_
  refine am_s_ic_ge dc10_0.2.1.1 rfl (fun c1 => ?_) (fun c1 => ?_)
  · refine am_s_iconst am_cc0 dc10_2.1.1.1 ?_
    refine am_s_istore_n (ls' := [some (.ref 112), some (.ref x1), some (.int x2), some (.int 0), l4]) rfl rfl dc10_2.1.1.2 ?_
    exact q1 c1
  · refine am_s_aload_n rfl dc10_0.2.1.2 ?_
    refine am_s_getR (r := x1 + 3) dc10_0.2.2.1 rfl hx1 rfl (am_r9_3 hp hx1) ?_
    refine am_s_iload_n rfl dc10_0.2.2.2 ?_
    refine am_s_bipush am_cb25 dc10_1.1.1.1 ?_
    refine am_s_imul dc10_1.1.1.2 ?_
    refine am_s_iload_n rfl dc10_1.1.2.1 ?_
    refine am_s_iadd dc10_1.1.2.2 ?_
    refine am_s_iconst am_cc0 dc10_1.2.1.1 ?_
    refine am_s_iastore dc10_1.2.1.2 (am_h9_3 hx1) (q2 c1) rfl ?_
    refine am_s_iinc (ls' := [some (.ref 112), some (.ref x1), some (.int x2), some (.int (x3 + 1)), l4]) am_cc1 rfl rfl dc10_1.2.2.1 ?_
    refine am_s_goto rfl dc10_1.2.2.2 ?_
    exact q3 c1
theorem t10_28 {sc : Option (Nat × (Nat → Int32))} {d k n : Nat} {P : am_O → Prop} {I : am_I} {J : am_J} {Pf : am_R} (hp : am_PF Pf) {x1 : Nat} (hx1 : am_SH[x1]? = some (.inl 9)) {x2 : Int32} {x3 : Int32} {l4 : Option Value} {r112_1 : Nat} (q1 : Pf 112 1 = some r112_1) (q2 : am_SH[r112_1]? = some (.inl 7)) (q3 : ((I r112_1 4) < x3) → P (.inl none, (am_SH, I, J, Pf), k, n)) (q4 : (¬ ((I r112_1 4) < x3)) → am_go sc d 10 (42, [some (.ref 112), some (.ref x1), some (.int x2), some (.int x3), some (.int 0)], [], (am_SH, I, J, Pf), k, n) P) : am_go sc d 10 (28, [some (.ref 112), some (.ref x1), some (.int x2), some (.int x3), l4], [], (am_SH, I, J, Pf), k, n) P := by
  refine am_s_iload_n rfl dc10_2.1.2.1 ?_
  refine am_s_aload_n rfl dc10_2.1.2.2 ?_
  refine am_s_getR (r := r112_1) dc10_2.2.1.1 rfl rfl rfl (q1) ?_
  refine am_x_getI (x := I r112_1 4) dc10_2.2.1.2 rfl (q2) (Or.inl rfl) rfl ?_
  refine am_s_ic_gt dc10_2.2.2.1 rfl (fun c1 => ?_) (fun c1 => ?_)
  · exact am_s_return dc10_8.2 rfl (q3 c1)
  · refine am_s_iconst am_cc0 dc10_2.2.2.2 ?_
    refine am_s_istore (ls' := [some (.ref 112), some (.ref x1), some (.int x2), some (.int x3), some (.int 0)]) rfl rfl dc10_3.1.1.1 ?_
    exact q4 c1
theorem t10_42 {sc : Option (Nat × (Nat → Int32))} {d k n : Nat} {P : am_O → Prop} {I : am_I} {J : am_J} {Pf : am_R} (hp : am_PF Pf) {x1 : Nat} (hx1 : am_SH[x1]? = some (.inl 9)) {x2 : Int32} {x3 : Int32} {x4 : Int32} {r112_1 : Nat} (q1 : (8 ≤ x4) → am_mth d 12 [.ref 112, .ref x1, .int x2, .int x3] (am_SH, I, J, Pf) (am_af sc d 10 98 [some (.ref 112), some (.ref x1), some (.int x2), some (.int x3), some (.int x4)] [.int x3, .int x2, .ref x1, .ref 112] [] (am_SH, I, J, Pf) k n true P)) (q2 : (¬ (8 ≤ x4)) → Pf 112 1 = some r112_1) (q3 : (¬ (8 ≤ x4)) → am_SH[r112_1]? = some (.inl 7)) (q4 : (¬ (8 ≤ x4)) → am_in x4 8 = true) (q5 : (¬ (8 ≤ x4)) → (¬ (I (r112_1 + 4) (Int32.toNatClampNeg x4)) = x3) → am_go sc d 10 (42, [some (.ref 112), some (.ref x1), some (.int x2), some (.int x3), some (.int (x4 + 1))], [], (am_SH, I, J, Pf), k, n) P) (q6 : (¬ (8 ≤ x4)) → (¬ (¬ (I (r112_1 + 4) (Int32.toNatClampNeg x4)) = x3)) → am_in x4 8 = true) (q7 : (¬ (8 ≤ x4)) → (¬ (¬ (I (r112_1 + 4) (Int32.toNatClampNeg x4)) = x3)) → am_mth d 11 [.ref 112, .ref x1, .int x4, .int x2] (am_SH, I, J, Pf) (am_af sc d 10 81 [some (.ref 112), some (.ref x1), some (.int x2), some (.int x3), some (.int x4)] [.int x2, .int x4, .ref x1, .ref 112, .int (I 114 (Int32.toNatClampNeg x4)), .int x4, .ref 115] [.int (I 114 (Int32.toNatClampNeg x4)), .int x4, .ref 115] (am_SH, I, J, Pf) k n true P)) : am_go sc d 10 (42, [some (.ref 112), some (.ref x1), some (.int x2), some (.int x3), some (.int x4)], [], (am_SH, I, J, Pf), k, n) P := by
  refine am_s_iload rfl dc10_3.1.1.2 ?_
  refine am_s_bipush am_cb8 dc10_3.1.2.1 ?_
  refine am_s_ic_ge dc10_3.1.2.2 rfl (fun c1 => ?_) (fun c1 => ?_)
  · refine am_s_aload_n rfl dc10_6.2.1.2 ?_
    refine am_s_aload_n rfl dc10_6.2.2.1 ?_
    refine am_s_iload_n rfl dc10_6.2.2.2 ?_
    refine am_s_iload_n rfl dc10_7.1.1.1 ?_
    exact am_s_virtual true dc10_7.1.1.2 rfl (by decide) rfl rfl rfl (q1 c1)
  · refine am_s_aload_n rfl dc10_3.2.1.1 ?_
    refine am_s_getR (r := r112_1) dc10_3.2.1.2 rfl rfl rfl (q2 c1) ?_
    refine am_s_getR (r := r112_1 + 4) dc10_3.2.2.1 rfl (q3 c1) rfl (am_r7_3 hp (q3 c1)) ?_
    refine am_s_iload rfl dc10_3.2.2.2 ?_
    refine am_x_iaload (x := I (r112_1 + 4) (Int32.toNatClampNeg x4)) dc10_4.1.1.1 (am_h7_3 (q3 c1)) (q4 c1) rfl rfl ?_
    refine am_s_iload_n rfl dc10_4.1.1.2 ?_
    refine am_s_ic_ne dc10_4.1.2.1 rfl (fun c2 => ?_) (fun c2 => ?_)
    · refine am_s_iinc (ls' := [some (.ref 112), some (.ref x1), some (.int x2), some (.int x3), some (.int (x4 + 1))]) am_cc1 rfl rfl dc10_6.1.2.2 ?_
      refine am_s_goto rfl dc10_6.2.1.1 ?_
      exact q5 c1 c2
    · refine am_s_aload_n rfl dc10_4.1.2.2 ?_
      refine am_s_getR (r := 115) dc10_4.2.1.1 rfl rfl rfl (hp _ _ _ rfl) ?_
      refine am_s_iload rfl dc10_4.2.1.2 ?_
      refine am_s_aload_n rfl dc10_4.2.2.1 ?_
      refine am_s_getR (r := 114) dc10_4.2.2.2 rfl rfl rfl (hp _ _ _ rfl) ?_
      refine am_s_iload rfl dc10_5.1.1.1 ?_
      refine am_x_iaload (x := I 114 (Int32.toNatClampNeg x4)) dc10_5.1.1.2 rfl (q6 c1 c2) rfl rfl ?_
      refine am_s_aload_n rfl dc10_5.1.2.1 ?_
      refine am_s_aload_n rfl dc10_5.1.2.2 ?_
      refine am_s_iload rfl dc10_5.2.1.1 ?_
      refine am_s_iload_n rfl dc10_5.2.1.2 ?_
      exact am_s_virtual true dc10_5.2.2.1 rfl (by decide) rfl rfl rfl (q7 c1 c2)
theorem t10_84 {sc : Option (Nat × (Nat → Int32))} {d k n : Nat} {P : am_O → Prop} {I : am_I} {J : am_J} {Pf : am_R} (hp : am_PF Pf) {x1 : Nat} (hx1 : am_SH[x1]? = some (.inl 9)) {x2 : Int32} {x3 : Int32} {x4 : Int32} {s1 : Int32} {s2 : Int32} {s3 : Int32} (q1 : am_in s1 8 = true) (q2 : am_go sc d 10 (42, [some (.ref 112), some (.ref x1), some (.int x2), some (.int x3), some (.int (x4 + 1))], [], (am_SH, am_u I 115 (Int32.toNatClampNeg s1) ((s2 ||| s3) ^^^ (-1)), J, Pf), k, n) P) : am_go sc d 10 (84, [some (.ref 112), some (.ref x1), some (.int x2), some (.int x3), some (.int x4)], [.int s3, .int s2, .int s1, .ref 115], (am_SH, I, J, Pf), k, n) P := by
  refine am_s_ior dc10_5.2.2.2 ?_
  refine am_s_iconst am_ccm1 dc10_6.1.1.1 ?_
  refine am_s_ixor dc10_6.1.1.2 ?_
  refine am_s_iastore dc10_6.1.2.1 rfl (q1) rfl ?_
  refine am_s_iinc (ls' := [some (.ref 112), some (.ref x1), some (.int x2), some (.int x3), some (.int (x4 + 1))]) am_cc1 rfl rfl dc10_6.1.2.2 ?_
  refine am_s_goto rfl dc10_6.2.1.1 ?_
  exact q2
theorem t10_101 {sc : Option (Nat × (Nat → Int32))} {d k n : Nat} {P : am_O → Prop} {I : am_I} {J : am_J} {Pf : am_R} (hp : am_PF Pf) {x1 : Nat} (hx1 : am_SH[x1]? = some (.inl 9)) {x2 : Int32} {x3 : Int32} {l4 : Option Value} (q1 : am_mth d 13 [.ref 112, .ref x1, .int x2, .int x3] (am_SH, I, J, Pf) (am_af sc d 10 105 [some (.ref 112), some (.ref x1), some (.int x2), some (.int x3), l4] [.int x3, .int x2, .ref x1, .ref 112] [] (am_SH, I, J, Pf) k n true P)) : am_go sc d 10 (101, [some (.ref 112), some (.ref x1), some (.int x2), some (.int x3), l4], [], (am_SH, I, J, Pf), k, n) P := by
  refine am_s_aload_n rfl dc10_7.1.2.1 ?_
  refine am_s_aload_n rfl dc10_7.1.2.2 ?_
  refine am_s_iload_n rfl dc10_7.2.1.1 ?_
  refine am_s_iload_n rfl dc10_7.2.1.2 ?_
  exact am_s_virtual true dc10_7.2.2.1 rfl (by decide) rfl rfl rfl (q1)
theorem t10_108 {sc : Option (Nat × (Nat → Int32))} {d k n : Nat} {P : am_O → Prop} {I : am_I} {J : am_J} {Pf : am_R} (hp : am_PF Pf) {x1 : Nat} (hx1 : am_SH[x1]? = some (.inl 9)) {x2 : Int32} {x3 : Int32} {l4 : Option Value} (q1 : am_go sc d 10 (28, [some (.ref 112), some (.ref x1), some (.int x2), some (.int (x3 + 1)), l4], [], (am_SH, I, J, Pf), k, n) P) : am_go sc d 10 (108, [some (.ref 112), some (.ref x1), some (.int x2), some (.int x3), l4], [], (am_SH, I, J, Pf), k, n) P := by
  refine am_s_iinc (ls' := [some (.ref 112), some (.ref x1), some (.int x2), some (.int (x3 + 1)), l4]) am_cc1 rfl rfl dc10_7.2.2.2 ?_
  refine am_s_goto rfl dc10_8.1 ?_
  exact q1
-- dropped (LPrunedParses$Table;II)I
theorem dc11_0 : (((decode (am_by 11) 0 = .ok (.iconst 0, 1)) ∧ (decode (am_by 11) 1 = .ok (.istore 4, 2))) ∧ ((decode (am_by 11) 3 = .ok (.iconst 0, 1)) ∧ (decode (am_by 11) 4 = .ok (.istore 5, 2)))) ∧ (((decode (am_by 11) 6 = .ok (.iload 5, 2)) ∧ (decode (am_by 11) 8 = .ok (.bipush 8, 2))) ∧ ((decode (am_by 11) 10 = .ok (.if_icmp .ge 43, 3)) ∧ (decode (am_by 11) 13 = .ok (.aload_n 0, 1)))) := by decide +kernel
theorem dc11_1 : (((decode (am_by 11) 14 = .ok (.getfield 52, 3)) ∧ (decode (am_by 11) 17 = .ok (.getfield 166, 3))) ∧ ((decode (am_by 11) 20 = .ok (.iload_n 2, 1)) ∧ (decode (am_by 11) 21 = .ok (.iaload, 1)))) ∧ (((decode (am_by 11) 22 = .ok (.iload 5, 2)) ∧ (decode (am_by 11) 24 = .ok (.iushr, 1))) ∧ ((decode (am_by 11) 25 = .ok (.iconst 1, 1)) ∧ (decode (am_by 11) 26 = .ok (.iand, 1)))) := by decide +kernel
theorem dc11_2 : (((decode (am_by 11) 27 = .ok (.ifCond .eq 20, 3)) ∧ (decode (am_by 11) 30 = .ok (.iload 4, 2))) ∧ ((decode (am_by 11) 32 = .ok (.aload_n 1, 1)) ∧ (decode (am_by 11) 33 = .ok (.getfield 145, 3)))) ∧ (((decode (am_by 11) 36 = .ok (.iload 5, 2)) ∧ (decode (am_by 11) 38 = .ok (.bipush 25, 2))) ∧ ((decode (am_by 11) 40 = .ok (.imul, 1)) ∧ (decode (am_by 11) 41 = .ok (.iload_n 3, 1)))) := by decide +kernel
theorem dc11_3 : (((decode (am_by 11) 42 = .ok (.iadd, 1)) ∧ (decode (am_by 11) 43 = .ok (.iaload, 1))) ∧ ((decode (am_by 11) 44 = .ok (.ior, 1)) ∧ (decode (am_by 11) 45 = .ok (.istore 4, 2)))) ∧ (((decode (am_by 11) 47 = .ok (.iinc 5 1, 3)) ∧ (decode (am_by 11) 50 = .ok (.goto (-44), 3))) ∧ ((decode (am_by 11) 53 = .ok (.iload 4, 2)) ∧ (decode (am_by 11) 55 = .ok (.ireturn, 1)))) := by decide +kernel
theorem t11_0 {sc : Option (Nat × (Nat → Int32))} {d k n : Nat} {P : am_O → Prop} {I : am_I} {J : am_J} {Pf : am_R} (hp : am_PF Pf) {x1 : Nat} (hx1 : am_SH[x1]? = some (.inl 9)) {x2 : Int32} {x3 : Int32} {l4 : Option Value} {l5 : Option Value} (q1 : am_go sc d 11 (6, [some (.ref 112), some (.ref x1), some (.int x2), some (.int x3), some (.int 0), some (.int 0)], [], (am_SH, I, J, Pf), k, n) P) : am_go sc d 11 (0, [some (.ref 112), some (.ref x1), some (.int x2), some (.int x3), l4, l5], [], (am_SH, I, J, Pf), k, n) P := by
  refine am_s_iconst am_cc0 dc11_0.1.1.1 ?_
  refine am_s_istore (ls' := [some (.ref 112), some (.ref x1), some (.int x2), some (.int x3), some (.int 0), l5]) rfl rfl dc11_0.1.1.2 ?_
  refine am_s_iconst am_cc0 dc11_0.1.2.1 ?_
  refine am_s_istore (ls' := [some (.ref 112), some (.ref x1), some (.int x2), some (.int x3), some (.int 0), some (.int 0)]) rfl rfl dc11_0.1.2.2 ?_
  exact q1
theorem t11_6 {sc : Option (Nat × (Nat → Int32))} {d k n : Nat} {P : am_O → Prop} {I : am_I} {J : am_J} {Pf : am_R} (hp : am_PF Pf) {x1 : Nat} (hx1 : am_SH[x1]? = some (.inl 9)) {x2 : Int32} {x3 : Int32} {x4 : Int32} {x5 : Int32} {r112_1 : Nat} (q1 : (8 ≤ x5) → P (.inl (some (.int x4)), (am_SH, I, J, Pf), k, n)) (q2 : (¬ (8 ≤ x5)) → Pf 112 1 = some r112_1) (q3 : (¬ (8 ≤ x5)) → am_SH[r112_1]? = some (.inl 7)) (q4 : (¬ (8 ≤ x5)) → am_in x2 8 = true) (q5 : (¬ (8 ≤ x5)) → (((UInt32.toInt32 (Int32.toUInt32 (I (r112_1 + 2) (Int32.toNatClampNeg x2)) >>> (Int32.toUInt32 x5 &&& Int32.toUInt32 31))) &&& 1) = 0) → am_go sc d 11 (6, [some (.ref 112), some (.ref x1), some (.int x2), some (.int x3), some (.int x4), some (.int (x5 + 1))], [], (am_SH, I, J, Pf), k, n) P) (q6 : (¬ (8 ≤ x5)) → (¬ (((UInt32.toInt32 (Int32.toUInt32 (I (r112_1 + 2) (Int32.toNatClampNeg x2)) >>> (Int32.toUInt32 x5 &&& Int32.toUInt32 31))) &&& 1) = 0)) → am_in ((x5 * 25) + x3) 200 = true) (q7 : (¬ (8 ≤ x5)) → (¬ (((UInt32.toInt32 (Int32.toUInt32 (I (r112_1 + 2) (Int32.toNatClampNeg x2)) >>> (Int32.toUInt32 x5 &&& Int32.toUInt32 31))) &&& 1) = 0)) → am_go sc d 11 (6, [some (.ref 112), some (.ref x1), some (.int x2), some (.int x3), some (.int (x4 ||| (I (x1 + 3) (Int32.toNatClampNeg ((x5 * 25) + x3))))), some (.int (x5 + 1))], [], (am_SH, I, J, Pf), k, n) P) : am_go sc d 11 (6, [some (.ref 112), some (.ref x1), some (.int x2), some (.int x3), some (.int x4), some (.int x5)], [], (am_SH, I, J, Pf), k, n) P := by
  refine am_s_iload rfl dc11_0.2.1.1 ?_
  refine am_s_bipush am_cb8 dc11_0.2.1.2 ?_
  refine am_s_ic_ge dc11_0.2.2.1 rfl (fun c1 => ?_) (fun c1 => ?_)
  · refine am_s_iload rfl dc11_3.2.2.1 ?_
    exact am_s_ireturn dc11_3.2.2.2 rfl (q1 c1)
  · refine am_s_aload_n rfl dc11_0.2.2.2 ?_
    refine am_s_getR (r := r112_1) dc11_1.1.1.1 rfl rfl rfl (q2 c1) ?_
    refine am_s_getR (r := r112_1 + 2) dc11_1.1.1.2 rfl (q3 c1) rfl (am_r7_1 hp (q3 c1)) ?_
    refine am_s_iload_n rfl dc11_1.1.2.1 ?_
    refine am_x_iaload (x := I (r112_1 + 2) (Int32.toNatClampNeg x2)) dc11_1.1.2.2 (am_h7_1 (q3 c1)) (q4 c1) rfl rfl ?_
    refine am_s_iload rfl dc11_1.2.1.1 ?_
    refine am_s_iushr dc11_1.2.1.2 ?_
    refine am_s_iconst am_cc1 dc11_1.2.2.1 ?_
    refine am_s_iand dc11_1.2.2.2 ?_
    refine am_s_if_eq dc11_2.1.1.1 rfl (fun c2 => ?_) (fun c2 => ?_)
    · refine am_s_iinc (ls' := [some (.ref 112), some (.ref x1), some (.int x2), some (.int x3), some (.int x4), some (.int (x5 + 1))]) am_cc1 rfl rfl dc11_3.2.1.1 ?_
      refine am_s_goto rfl dc11_3.2.1.2 ?_
      exact q5 c1 c2
    · refine am_s_iload rfl dc11_2.1.1.2 ?_
      refine am_s_aload_n rfl dc11_2.1.2.1 ?_
      refine am_s_getR (r := x1 + 3) dc11_2.1.2.2 rfl hx1 rfl (am_r9_3 hp hx1) ?_
      refine am_s_iload rfl dc11_2.2.1.1 ?_
      refine am_s_bipush am_cb25 dc11_2.2.1.2 ?_
      refine am_s_imul dc11_2.2.2.1 ?_
      refine am_s_iload_n rfl dc11_2.2.2.2 ?_
      refine am_s_iadd dc11_3.1.1.1 ?_
      refine am_x_iaload (x := I (x1 + 3) (Int32.toNatClampNeg ((x5 * 25) + x3))) dc11_3.1.1.2 (am_h9_3 hx1) (q6 c1 c2) rfl rfl ?_
      refine am_s_ior dc11_3.1.2.1 ?_
      refine am_s_istore (ls' := [some (.ref 112), some (.ref x1), some (.int x2), some (.int x3), some (.int (x4 ||| (I (x1 + 3) (Int32.toNatClampNeg ((x5 * 25) + x3))))), some (.int x5)]) rfl rfl dc11_3.1.2.2 ?_
      refine am_s_iinc (ls' := [some (.ref 112), some (.ref x1), some (.int x2), some (.int x3), some (.int (x4 ||| (I (x1 + 3) (Int32.toNatClampNeg ((x5 * 25) + x3))))), some (.int (x5 + 1))]) am_cc1 rfl rfl dc11_3.2.1.1 ?_
      refine am_s_goto rfl dc11_3.2.1.2 ?_
      exact q7 c1 c2
-- addQuotes (LPrunedParses$Table;II)V
theorem dc12_0 : (((decode (am_by 12) 0 = .ok (.iconst 0, 1)) ∧ (decode (am_by 12) 1 = .ok (.istore 4, 2))) ∧ ((decode (am_by 12) 3 = .ok (.iload 4, 2)) ∧ (decode (am_by 12) 5 = .ok (.aload_n 0, 1)))) ∧ (((decode (am_by 12) 6 = .ok (.getfield 42, 3)) ∧ (decode (am_by 12) 9 = .ok (.getfield 79, 3))) ∧ ((decode (am_by 12) 12 = .ok (.if_icmp .ge 82, 3)) ∧ (decode (am_by 12) 15 = .ok (.aload_n 0, 1)))) := by decide +kernel
theorem dc12_1 : (((decode (am_by 12) 16 = .ok (.getfield 42, 3)) ∧ (decode (am_by 12) 19 = .ok (.getfield 169, 3))) ∧ ((decode (am_by 12) 22 = .ok (.iload 4, 2)) ∧ (decode (am_by 12) 24 = .ok (.iaload, 1)))) ∧ (((decode (am_by 12) 25 = .ok (.istore 5, 2)) ∧ (decode (am_by 12) 27 = .ok (.aload_n 1, 1))) ∧ ((decode (am_by 12) 28 = .ok (.getfield 82, 3)) ∧ (decode (am_by 12) 31 = .ok (.iload 4, 2)))) := by decide +kernel
theorem dc12_2 : (((decode (am_by 12) 33 = .ok (.bipush 25, 2)) ∧ (decode (am_by 12) 35 = .ok (.imul, 1))) ∧ ((decode (am_by 12) 36 = .ok (.iload_n 2, 1)) ∧ (decode (am_by 12) 37 = .ok (.iadd, 1)))) ∧ (((decode (am_by 12) 38 = .ok (.iaload, 1)) ∧ (decode (am_by 12) 39 = .ok (.istore 6, 2))) ∧ ((decode (am_by 12) 41 = .ok (.aload_n 0, 1)) ∧ (decode (am_by 12) 42 = .ok (.getfield 52, 3)))) := by decide +kernel
theorem dc12_3 : (((decode (am_by 12) 45 = .ok (.getfield 153, 3)) ∧ (decode (am_by 12) 48 = .ok (.iload 5, 2))) ∧ ((decode (am_by 12) 50 = .ok (.iaload, 1)) ∧ (decode (am_by 12) 51 = .ok (.iload_n 3, 1)))) ∧ (((decode (am_by 12) 52 = .ok (.if_icmp .ne 36, 3)) ∧ (decode (am_by 12) 55 = .ok (.iload 6, 2))) ∧ ((decode (am_by 12) 57 = .ok (.iconst (-1), 1)) ∧ (decode (am_by 12) 58 = .ok (.if_icmp .eq 30, 3)))) := by decide +kernel
theorem dc12_4 : (((decode (am_by 12) 61 = .ok (.aload_n 1, 1)) ∧ (decode (am_by 12) 62 = .ok (.getfield 145, 3))) ∧ ((decode (am_by 12) 65 = .ok (.iload 5, 2)) ∧ (decode (am_by 12) 67 = .ok (.bipush 25, 2)))) ∧ (((decode (am_by 12) 69 = .ok (.imul, 1)) ∧ (decode (am_by 12) 70 = .ok (.iload_n 2, 1))) ∧ ((decode (am_by 12) 71 = .ok (.iadd, 1)) ∧ (decode (am_by 12) 72 = .ok (.dup2, 1)))) := by decide +kernel
theorem dc12_5 : (((decode (am_by 12) 73 = .ok (.iaload, 1)) ∧ (decode (am_by 12) 74 = .ok (.iconst 1, 1))) ∧ ((decode (am_by 12) 75 = .ok (.iload 6, 2)) ∧ (decode (am_by 12) 77 = .ok (.ishl, 1)))) ∧ (((decode (am_by 12) 78 = .ok (.aload_n 0, 1)) ∧ (decode (am_by 12) 79 = .ok (.getfield 21, 3))) ∧ ((decode (am_by 12) 82 = .ok (.iload 5, 2)) ∧ (decode (am_by 12) 84 = .ok (.iaload, 1)))) := by decide +kernel
theorem dc12_6 : ((decode (am_by 12) 85 = .ok (.iand, 1)) ∧ ((decode (am_by 12) 86 = .ok (.ior, 1)) ∧ (decode (am_by 12) 87 = .ok (.iastore, 1)))) ∧ ((decode (am_by 12) 88 = .ok (.iinc 4 1, 3)) ∧ ((decode (am_by 12) 91 = .ok (.goto (-88), 3)) ∧ (decode (am_by 12) 94 = .ok (.return_, 1)))) := by decide +kernel
theorem t12_0 {sc : Option (Nat × (Nat → Int32))} {d k n : Nat} {P : am_O → Prop} {I : am_I} {J : am_J} {Pf : am_R} (hp : am_PF Pf) {x1 : Nat} (hx1 : am_SH[x1]? = some (.inl 9)) {x2 : Int32} {x3 : Int32} {l4 : Option Value} {l5 : Option Value} {l6 : Option Value} (q1 : am_go sc d 12 (3, [some (.ref 112), some (.ref x1), some (.int x2), some (.int x3), some (.int 0), l5, l6], [], (am_SH, I, J, Pf), k, n) P) : am_go sc d 12 (0, [some (.ref 112), some (.ref x1), some (.int x2), some (.int x3), l4, l5, l6], [], (am_SH, I, J, Pf), k, n) P := by
  refine am_s_iconst am_cc0 dc12_0.1.1.1 ?_
  refine am_s_istore (ls' := [some (.ref 112), some (.ref x1), some (.int x2), some (.int x3), some (.int 0), l5, l6]) rfl rfl dc12_0.1.1.2 ?_
  exact q1
theorem t12_3 {sc : Option (Nat × (Nat → Int32))} {d k n : Nat} {P : am_O → Prop} {I : am_I} {J : am_J} {Pf : am_R} (hp : am_PF Pf) {x1 : Nat} (hx1 : am_SH[x1]? = some (.inl 9)) {x2 : Int32} {x3 : Int32} {x4 : Int32} {l5 : Option Value} {l6 : Option Value} {r112_0 : Nat} {r112_1 : Nat} (q1 : Pf 112 0 = some r112_0) (q2 : am_SH[r112_0]? = some (.inl 4)) (q3 : ((I r112_0 9) ≤ x4) → P (.inl none, (am_SH, I, J, Pf), k, n)) (q4 : (¬ ((I r112_0 9) ≤ x4)) → Pf 112 0 = some r112_0) (q5 : (¬ ((I r112_0 9) ≤ x4)) → am_SH[r112_0]? = some (.inl 4)) (q6 : (¬ ((I r112_0 9) ≤ x4)) → am_in x4 4 = true) (q7 : (¬ ((I r112_0 9) ≤ x4)) → am_in ((x4 * 25) + x2) 100 = true) (q8 : (¬ ((I r112_0 9) ≤ x4)) → Pf 112 1 = some r112_1) (q9 : (¬ ((I r112_0 9) ≤ x4)) → am_SH[r112_1]? = some (.inl 7)) (q10 : (¬ ((I r112_0 9) ≤ x4)) → am_in (I (r112_0 + 8) (Int32.toNatClampNeg x4)) 8 = true) (q11 : (¬ ((I r112_0 9) ≤ x4)) → (¬ (I (r112_1 + 4) (Int32.toNatClampNeg (I (r112_0 + 8) (Int32.toNatClampNeg x4)))) = x3) → am_go sc d 12 (3, [some (.ref 112), some (.ref x1), some (.int x2), some (.int x3), some (.int (x4 + 1)), some (.int (I (r112_0 + 8) (Int32.toNatClampNeg x4))), some (.int (I (x1 + 4) (Int32.toNatClampNeg ((x4 * 25) + x2))))], [], (am_SH, I, J, Pf), k, n) P) (q12 : (¬ ((I r112_0 9) ≤ x4)) → (¬ (¬ (I (r112_1 + 4) (Int32.toNatClampNeg (I (r112_0 + 8) (Int32.toNatClampNeg x4)))) = x3)) → ((I (x1 + 4) (Int32.toNatClampNeg ((x4 * 25) + x2))) = (-1)) → am_go sc d 12 (3, [some (.ref 112), some (.ref x1), some (.int x2), some (.int x3), some (.int (x4 + 1)), some (.int (I (r112_0 + 8) (Int32.toNatClampNeg x4))), some (.int (I (x1 + 4) (Int32.toNatClampNeg ((x4 * 25) + x2))))], [], (am_SH, I, J, Pf), k, n) P) (q13 : (¬ ((I r112_0 9) ≤ x4)) → (¬ (¬ (I (r112_1 + 4) (Int32.toNatClampNeg (I (r112_0 + 8) (Int32.toNatClampNeg x4)))) = x3)) → (¬ ((I (x1 + 4) (Int32.toNatClampNeg ((x4 * 25) + x2))) = (-1))) → am_in (((I (r112_0 + 8) (Int32.toNatClampNeg x4)) * 25) + x2) 200 = true) (q14 : (¬ ((I r112_0 9) ≤ x4)) → (¬ (¬ (I (r112_1 + 4) (Int32.toNatClampNeg (I (r112_0 + 8) (Int32.toNatClampNeg x4)))) = x3)) → (¬ ((I (x1 + 4) (Int32.toNatClampNeg ((x4 * 25) + x2))) = (-1))) → am_in (I (r112_0 + 8) (Int32.toNatClampNeg x4)) 8 = true) (q15 : (¬ ((I r112_0 9) ≤ x4)) → (¬ (¬ (I (r112_1 + 4) (Int32.toNatClampNeg (I (r112_0 + 8) (Int32.toNatClampNeg x4)))) = x3)) → (¬ ((I (x1 + 4) (Int32.toNatClampNeg ((x4 * 25) + x2))) = (-1))) → am_in (((I (r112_0 + 8) (Int32.toNatClampNeg x4)) * 25) + x2) 200 = true) (q16 : (¬ ((I r112_0 9) ≤ x4)) → (¬ (¬ (I (r112_1 + 4) (Int32.toNatClampNeg (I (r112_0 + 8) (Int32.toNatClampNeg x4)))) = x3)) → (¬ ((I (x1 + 4) (Int32.toNatClampNeg ((x4 * 25) + x2))) = (-1))) → am_go sc d 12 (3, [some (.ref 112), some (.ref x1), some (.int x2), some (.int x3), some (.int (x4 + 1)), some (.int (I (r112_0 + 8) (Int32.toNatClampNeg x4))), some (.int (I (x1 + 4) (Int32.toNatClampNeg ((x4 * 25) + x2))))], [], (am_SH, am_u I (x1 + 3) (Int32.toNatClampNeg (((I (r112_0 + 8) (Int32.toNatClampNeg x4)) * 25) + x2)) ((I (x1 + 3) (Int32.toNatClampNeg (((I (r112_0 + 8) (Int32.toNatClampNeg x4)) * 25) + x2))) ||| ((1 <<< ((I (x1 + 4) (Int32.toNatClampNeg ((x4 * 25) + x2))) &&& 31)) &&& (I 115 (Int32.toNatClampNeg (I (r112_0 + 8) (Int32.toNatClampNeg x4)))))), J, Pf), k, n) P) : am_go sc d 12 (3, [some (.ref 112), some (.ref x1), some (.int x2), some (.int x3), some (.int x4), l5, l6], [], (am_SH, I, J, Pf), k, n) P := by
  refine am_s_iload rfl dc12_0.1.2.1 ?_
  refine am_s_aload_n rfl dc12_0.1.2.2 ?_
  refine am_s_getR (r := r112_0) dc12_0.2.1.1 rfl rfl rfl (q1) ?_
  refine am_x_getI (x := I r112_0 9) dc12_0.2.1.2 rfl (q2) (Or.inl rfl) rfl ?_
  refine am_s_ic_ge dc12_0.2.2.1 rfl (fun c1 => ?_) (fun c1 => ?_)
  · exact am_s_return dc12_6.2.2.2 rfl (q3 c1)
  · refine am_s_aload_n rfl dc12_0.2.2.2 ?_
    refine am_s_getR (r := r112_0) dc12_1.1.1.1 rfl rfl rfl (q4 c1) ?_
    refine am_s_getR (r := r112_0 + 8) dc12_1.1.1.2 rfl (q5 c1) rfl (am_r4_10 hp (q5 c1)) ?_
    refine am_s_iload rfl dc12_1.1.2.1 ?_
    refine am_x_iaload (x := I (r112_0 + 8) (Int32.toNatClampNeg x4)) dc12_1.1.2.2 (am_h4_10 (q5 c1)) (q6 c1) rfl rfl ?_
    refine am_s_istore (ls' := [some (.ref 112), some (.ref x1), some (.int x2), some (.int x3), some (.int x4), some (.int (I (r112_0 + 8) (Int32.toNatClampNeg x4))), l6]) rfl rfl dc12_1.2.1.1 ?_
    refine am_s_aload_n rfl dc12_1.2.1.2 ?_
    refine am_s_getR (r := x1 + 4) dc12_1.2.2.1 rfl hx1 rfl (am_r9_4 hp hx1) ?_
    refine am_s_iload rfl dc12_1.2.2.2 ?_
    refine am_s_bipush am_cb25 dc12_2.1.1.1 ?_
    refine am_s_imul dc12_2.1.1.2 ?_
    refine am_s_iload_n rfl dc12_2.1.2.1 ?_
    refine am_s_iadd dc12_2.1.2.2 ?_
    refine am_x_iaload (x := I (x1 + 4) (Int32.toNatClampNeg ((x4 * 25) + x2))) dc12_2.2.1.1 (am_h9_4 hx1) (q7 c1) rfl rfl ?_
    refine am_s_istore (ls' := [some (.ref 112), some (.ref x1), some (.int x2), some (.int x3), some (.int x4), some (.int (I (r112_0 + 8) (Int32.toNatClampNeg x4))), some (.int (I (x1 + 4) (Int32.toNatClampNeg ((x4 * 25) + x2))))]) rfl rfl dc12_2.2.1.2 ?_
    refine am_s_aload_n rfl dc12_2.2.2.1 ?_
    refine am_s_getR (r := r112_1) dc12_2.2.2.2 rfl rfl rfl (q8 c1) ?_
    refine am_s_getR (r := r112_1 + 4) dc12_3.1.1.1 rfl (q9 c1) rfl (am_r7_3 hp (q9 c1)) ?_
    refine am_s_iload rfl dc12_3.1.1.2 ?_
    refine am_x_iaload (x := I (r112_1 + 4) (Int32.toNatClampNeg (I (r112_0 + 8) (Int32.toNatClampNeg x4)))) dc12_3.1.2.1 (am_h7_3 (q9 c1)) (q10 c1) rfl rfl ?_
    refine am_s_iload_n rfl dc12_3.1.2.2 ?_
    refine am_s_ic_ne dc12_3.2.1.1 rfl (fun c2 => ?_) (fun c2 => ?_)
    · refine am_s_iinc (ls' := [some (.ref 112), some (.ref x1), some (.int x2), some (.int x3), some (.int (x4 + 1)), some (.int (I (r112_0 + 8) (Int32.toNatClampNeg x4))), some (.int (I (x1 + 4) (Int32.toNatClampNeg ((x4 * 25) + x2))))]) am_cc1 rfl rfl dc12_6.2.1 ?_
      refine am_s_goto rfl dc12_6.2.2.1 ?_
      exact q11 c1 c2
    · refine am_s_iload rfl dc12_3.2.1.2 ?_
      refine am_s_iconst am_ccm1 dc12_3.2.2.1 ?_
      refine am_s_ic_eq dc12_3.2.2.2 rfl (fun c3 => ?_) (fun c3 => ?_)
      · refine am_s_iinc (ls' := [some (.ref 112), some (.ref x1), some (.int x2), some (.int x3), some (.int (x4 + 1)), some (.int (I (r112_0 + 8) (Int32.toNatClampNeg x4))), some (.int (I (x1 + 4) (Int32.toNatClampNeg ((x4 * 25) + x2))))]) am_cc1 rfl rfl dc12_6.2.1 ?_
        refine am_s_goto rfl dc12_6.2.2.1 ?_
        exact q12 c1 c2 c3
      · refine am_s_aload_n rfl dc12_4.1.1.1 ?_
        refine am_s_getR (r := x1 + 3) dc12_4.1.1.2 rfl hx1 rfl (am_r9_3 hp hx1) ?_
        refine am_s_iload rfl dc12_4.1.2.1 ?_
        refine am_s_bipush am_cb25 dc12_4.1.2.2 ?_
        refine am_s_imul dc12_4.2.1.1 ?_
        refine am_s_iload_n rfl dc12_4.2.1.2 ?_
        refine am_s_iadd dc12_4.2.2.1 ?_
        refine am_s_dup2 rfl rfl dc12_4.2.2.2 ?_
        refine am_x_iaload (x := I (x1 + 3) (Int32.toNatClampNeg (((I (r112_0 + 8) (Int32.toNatClampNeg x4)) * 25) + x2))) dc12_5.1.1.1 (am_h9_3 hx1) (q13 c1 c2 c3) rfl rfl ?_
        refine am_s_iconst am_cc1 dc12_5.1.1.2 ?_
        refine am_s_iload rfl dc12_5.1.2.1 ?_
        refine am_s_ishl dc12_5.1.2.2 ?_
        refine am_s_aload_n rfl dc12_5.2.1.1 ?_
        refine am_s_getR (r := 115) dc12_5.2.1.2 rfl rfl rfl (hp _ _ _ rfl) ?_
        refine am_s_iload rfl dc12_5.2.2.1 ?_
        refine am_x_iaload (x := I 115 (Int32.toNatClampNeg (I (r112_0 + 8) (Int32.toNatClampNeg x4)))) dc12_5.2.2.2 rfl (q14 c1 c2 c3) rfl rfl ?_
        refine am_s_iand dc12_6.1.1 ?_
        refine am_s_ior dc12_6.1.2.1 ?_
        refine am_s_iastore dc12_6.1.2.2 (am_h9_3 hx1) (q15 c1 c2 c3) rfl ?_
        refine am_s_iinc (ls' := [some (.ref 112), some (.ref x1), some (.int x2), some (.int x3), some (.int (x4 + 1)), some (.int (I (r112_0 + 8) (Int32.toNatClampNeg x4))), some (.int (I (x1 + 4) (Int32.toNatClampNeg ((x4 * 25) + x2))))]) am_cc1 rfl rfl dc12_6.2.1 ?_
        refine am_s_goto rfl dc12_6.2.2.1 ?_
        exact q16 c1 c2 c3
-- addProductions (LPrunedParses$Table;II)V
theorem dc13_0 : (((decode (am_by 13) 0 = .ok (.iconst 1, 1)) ∧ (decode (am_by 13) 1 = .ok (.istore 4, 2))) ∧ ((decode (am_by 13) 3 = .ok (.iconst 0, 1)) ∧ (decode (am_by 13) 4 = .ok (.istore 5, 2)))) ∧ (((decode (am_by 13) 6 = .ok (.iload 5, 2)) ∧ (decode (am_by 13) 8 = .ok (.sipush 200, 3))) ∧ ((decode (am_by 13) 11 = .ok (.if_icmp .gt 142, 3)) ∧ (decode (am_by 13) 14 = .ok (.iload 4, 2)))) := by decide +kernel
theorem dc13_1 : (((decode (am_by 13) 16 = .ok (.ifCond .eq 137, 3)) ∧ (decode (am_by 13) 19 = .ok (.iconst 0, 1))) ∧ ((decode (am_by 13) 20 = .ok (.istore 4, 2)) ∧ (decode (am_by 13) 22 = .ok (.iconst 0, 1)))) ∧ (((decode (am_by 13) 23 = .ok (.istore 6, 2)) ∧ (decode (am_by 13) 25 = .ok (.iload 6, 2))) ∧ ((decode (am_by 13) 27 = .ok (.aload_n 0, 1)) ∧ (decode (am_by 13) 28 = .ok (.getfield 42, 3)))) := by decide +kernel
theorem dc13_2 : (((decode (am_by 13) 31 = .ok (.getfield 172, 3)) ∧ (decode (am_by 13) 34 = .ok (.if_icmp .ge 113, 3))) ∧ ((decode (am_by 13) 37 = .ok (.aload_n 0, 1)) ∧ (decode (am_by 13) 38 = .ok (.getfield 42, 3)))) ∧ (((decode (am_by 13) 41 = .ok (.getfield 175, 3)) ∧ (decode (am_by 13) 44 = .ok (.iload 6, 2))) ∧ ((decode (am_by 13) 46 = .ok (.iaload, 1)) ∧ (decode (am_by 13) 47 = .ok (.istore 7, 2)))) := by decide +kernel
theorem dc13_3 : (((decode (am_by 13) 49 = .ok (.aload_n 0, 1)) ∧ (decode (am_by 13) 50 = .ok (.getfield 52, 3))) ∧ ((decode (am_by 13) 53 = .ok (.getfield 153, 3)) ∧ (decode (am_by 13) 56 = .ok (.iload 7, 2)))) ∧ (((decode (am_by 13) 58 = .ok (.iaload, 1)) ∧ (decode (am_by 13) 59 = .ok (.iload_n 3, 1))) ∧ ((decode (am_by 13) 60 = .ok (.if_icmp .ne 81, 3)) ∧ (decode (am_by 13) 63 = .ok (.iload 5, 2)))) := by decide +kernel
theorem dc13_4 : (((decode (am_by 13) 65 = .ok (.ifCond .le 15, 3)) ∧ (decode (am_by 13) 68 = .ok (.aload_n 0, 1))) ∧ ((decode (am_by 13) 69 = .ok (.iload 6, 2)) ∧ (decode (am_by 13) 71 = .ok (.invokevirtual 178, 3)))) ∧ (((decode (am_by 13) 74 = .ok (.ifCond .ne 6, 3)) ∧ (decode (am_by 13) 77 = .ok (.goto 64, 3))) ∧ ((decode (am_by 13) 80 = .ok (.iload 7, 2)) ∧ (decode (am_by 13) 82 = .ok (.bipush 25, 2)))) := by decide +kernel
theorem dc13_5 : (((decode (am_by 13) 84 = .ok (.imul, 1)) ∧ (decode (am_by 13) 85 = .ok (.iload_n 2, 1))) ∧ ((decode (am_by 13) 86 = .ok (.iadd, 1)) ∧ (decode (am_by 13) 87 = .ok (.istore 8, 2)))) ∧ (((decode (am_by 13) 89 = .ok (.aload_n 0, 1)) ∧ (decode (am_by 13) 90 = .ok (.aload_n 1, 1))) ∧ ((decode (am_by 13) 91 = .ok (.iload 6, 2)) ∧ (decode (am_by 13) 93 = .ok (.iload_n 2, 1)))) := by decide +kernel
theorem dc13_6 : (((decode (am_by 13) 94 = .ok (.aload_n 1, 1)) ∧ (decode (am_by 13) 95 = .ok (.getfield 145, 3))) ∧ ((decode (am_by 13) 98 = .ok (.invokevirtual 181, 3)) ∧ (decode (am_by 13) 101 = .ok (.aload_n 0, 1)))) ∧ (((decode (am_by 13) 102 = .ok (.getfield 21, 3)) ∧ (decode (am_by 13) 105 = .ok (.iload 7, 2))) ∧ ((decode (am_by 13) 107 = .ok (.iaload, 1)) ∧ (decode (am_by 13) 108 = .ok (.iand, 1)))) := by decide +kernel
theorem dc13_7 : (((decode (am_by 13) 109 = .ok (.aload_n 1, 1)) ∧ (decode (am_by 13) 110 = .ok (.getfield 145, 3))) ∧ ((decode (am_by 13) 113 = .ok (.iload 8, 2)) ∧ (decode (am_by 13) 115 = .ok (.iaload, 1)))) ∧ (((decode (am_by 13) 116 = .ok (.iconst (-1), 1)) ∧ (decode (am_by 13) 117 = .ok (.ixor, 1))) ∧ ((decode (am_by 13) 118 = .ok (.iand, 1)) ∧ (decode (am_by 13) 119 = .ok (.istore 9, 2)))) := by decide +kernel
theorem dc13_8 : (((decode (am_by 13) 121 = .ok (.aload_n 1, 1)) ∧ (decode (am_by 13) 122 = .ok (.getfield 145, 3))) ∧ ((decode (am_by 13) 125 = .ok (.iload 8, 2)) ∧ (decode (am_by 13) 127 = .ok (.dup2, 1)))) ∧ (((decode (am_by 13) 128 = .ok (.iaload, 1)) ∧ (decode (am_by 13) 129 = .ok (.iload 9, 2))) ∧ ((decode (am_by 13) 131 = .ok (.ior, 1)) ∧ (decode (am_by 13) 132 = .ok (.iastore, 1)))) := by decide +kernel
theorem dc13_9 : (((decode (am_by 13) 133 = .ok (.iload 9, 2)) ∧ (decode (am_by 13) 135 = .ok (.ifCond .eq 6, 3))) ∧ ((decode (am_by 13) 138 = .ok (.iconst 1, 1)) ∧ (decode (am_by 13) 139 = .ok (.istore 4, 2)))) ∧ (((decode (am_by 13) 141 = .ok (.iinc 6 1, 3)) ∧ (decode (am_by 13) 144 = .ok (.goto (-119), 3))) ∧ ((decode (am_by 13) 147 = .ok (.iinc 5 1, 3)) ∧ (decode (am_by 13) 150 = .ok (.goto (-144), 3)))) := by decide +kernel
theorem dc13_10 : decode (am_by 13) 153 = .ok (.return_, 1) := by decide +kernel
theorem t13_0 {sc : Option (Nat × (Nat → Int32))} {d k n : Nat} {P : am_O → Prop} {I : am_I} {J : am_J} {Pf : am_R} (hp : am_PF Pf) {x1 : Nat} (hx1 : am_SH[x1]? = some (.inl 9)) {x2 : Int32} {x3 : Int32} {l4 : Option Value} {l5 : Option Value} {l6 : Option Value} {l7 : Option Value} {l8 : Option Value} {l9 : Option Value} (q1 : am_go sc d 13 (6, [some (.ref 112), some (.ref x1), some (.int x2), some (.int x3), some (.int 1), some (.int 0), l6, l7, l8, l9], [], (am_SH, I, J, Pf), k, n) P) : am_go sc d 13 (0, [some (.ref 112), some (.ref x1), some (.int x2), some (.int x3), l4, l5, l6, l7, l8, l9], [], (am_SH, I, J, Pf), k, n) P := by
  refine am_s_iconst am_cc1 dc13_0.1.1.1 ?_
  refine am_s_istore (ls' := [some (.ref 112), some (.ref x1), some (.int x2), some (.int x3), some (.int 1), l5, l6, l7, l8, l9]) rfl rfl dc13_0.1.1.2 ?_
  refine am_s_iconst am_cc0 dc13_0.1.2.1 ?_
  refine am_s_istore (ls' := [some (.ref 112), some (.ref x1), some (.int x2), some (.int x3), some (.int 1), some (.int 0), l6, l7, l8, l9]) rfl rfl dc13_0.1.2.2 ?_
  exact q1
theorem t13_6 {sc : Option (Nat × (Nat → Int32))} {d k n : Nat} {P : am_O → Prop} {I : am_I} {J : am_J} {Pf : am_R} (hp : am_PF Pf) {x1 : Nat} (hx1 : am_SH[x1]? = some (.inl 9)) {x2 : Int32} {x3 : Int32} {x4 : Int32} {x5 : Int32} {l6 : Option Value} {l7 : Option Value} {l8 : Option Value} {l9 : Option Value} (q1 : (200 < x5) → P (.inl none, (am_SH, I, J, Pf), k, n)) (q2 : (¬ (200 < x5)) → (x4 = 0) → P (.inl none, (am_SH, I, J, Pf), k, n)) (q3 : (¬ (200 < x5)) → (¬ (x4 = 0)) → am_go sc d 13 (25, [some (.ref 112), some (.ref x1), some (.int x2), some (.int x3), some (.int 0), some (.int x5), some (.int 0), l7, l8, l9], [], (am_SH, I, J, Pf), k, n) P) : am_go sc d 13 (6, [some (.ref 112), some (.ref x1), some (.int x2), some (.int x3), some (.int x4), some (.int x5), l6, l7, l8, l9], [], (am_SH, I, J, Pf), k, n) P := by
  refine am_s_iload rfl dc13_0.2.1.1 ?_
  refine am_s_sipush am_cs200 dc13_0.2.1.2 ?_
  refine am_s_ic_gt dc13_0.2.2.1 rfl (fun c1 => ?_) (fun c1 => ?_)
  · exact am_s_return dc13_10 rfl (q1 c1)
  · refine am_s_iload rfl dc13_0.2.2.2 ?_
    refine am_s_if_eq dc13_1.1.1.1 rfl (fun c2 => ?_) (fun c2 => ?_)
    · exact am_s_return dc13_10 rfl (q2 c1 c2)
    · refine am_s_iconst am_cc0 dc13_1.1.1.2 ?_
      refine am_s_istore (ls' := [some (.ref 112), some (.ref x1), some (.int x2), some (.int x3), some (.int 0), some (.int x5), l6, l7, l8, l9]) rfl rfl dc13_1.1.2.1 ?_
      refine am_s_iconst am_cc0 dc13_1.1.2.2 ?_
      refine am_s_istore (ls' := [some (.ref 112), some (.ref x1), some (.int x2), some (.int x3), some (.int 0), some (.int x5), some (.int 0), l7, l8, l9]) rfl rfl dc13_1.2.1.1 ?_
      exact q3 c1 c2
theorem t13_25 {sc : Option (Nat × (Nat → Int32))} {d k n : Nat} {P : am_O → Prop} {I : am_I} {J : am_J} {Pf : am_R} (hp : am_PF Pf) {x1 : Nat} (hx1 : am_SH[x1]? = some (.inl 9)) {x2 : Int32} {x3 : Int32} {x4 : Int32} {x5 : Int32} {x6 : Int32} {l7 : Option Value} {l8 : Option Value} {l9 : Option Value} {r112_0 : Nat} {r112_1 : Nat} (q1 : Pf 112 0 = some r112_0) (q2 : am_SH[r112_0]? = some (.inl 4)) (q3 : ((I r112_0 2) ≤ x6) → am_go sc d 13 (6, [some (.ref 112), some (.ref x1), some (.int x2), some (.int x3), some (.int x4), some (.int (x5 + 1)), some (.int x6), l7, l8, l9], [], (am_SH, I, J, Pf), k, n) P) (q4 : (¬ ((I r112_0 2) ≤ x6)) → Pf 112 0 = some r112_0) (q5 : (¬ ((I r112_0 2) ≤ x6)) → am_SH[r112_0]? = some (.inl 4)) (q6 : (¬ ((I r112_0 2) ≤ x6)) → am_in x6 20 = true) (q7 : (¬ ((I r112_0 2) ≤ x6)) → Pf 112 1 = some r112_1) (q8 : (¬ ((I r112_0 2) ≤ x6)) → am_SH[r112_1]? = some (.inl 7)) (q9 : (¬ ((I r112_0 2) ≤ x6)) → am_in (I (r112_0 + 2) (Int32.toNatClampNeg x6)) 8 = true) (q10 : (¬ ((I r112_0 2) ≤ x6)) → (¬ (I (r112_1 + 4) (Int32.toNatClampNeg (I (r112_0 + 2) (Int32.toNatClampNeg x6)))) = x3) → am_go sc d 13 (25, [some (.ref 112), some (.ref x1), some (.int x2), some (.int x3), some (.int x4), some (.int x5), some (.int (x6 + 1)), some (.int (I (r112_0 + 2) (Int32.toNatClampNeg x6))), l8, l9], [], (am_SH, I, J, Pf), k, n) P) (q11 : (¬ ((I r112_0 2) ≤ x6)) → (¬ (¬ (I (r112_1 + 4) (Int32.toNatClampNeg (I (r112_0 + 2) (Int32.toNatClampNeg x6)))) = x3)) → (x5 ≤ 0) → am_go sc d 13 (80, [some (.ref 112), some (.ref x1), some (.int x2), some (.int x3), some (.int x4), some (.int x5), some (.int x6), some (.int (I (r112_0 + 2) (Int32.toNatClampNeg x6))), l8, l9], [], (am_SH, I, J, Pf), k, n) P) (q12 : (¬ ((I r112_0 2) ≤ x6)) → (¬ (¬ (I (r112_1 + 4) (Int32.toNatClampNeg (I (r112_0 + 2) (Int32.toNatClampNeg x6)))) = x3)) → (¬ (x5 ≤ 0)) → am_mth d 14 [.ref 112, .int x6] (am_SH, I, J, Pf) (am_af sc d 13 71 [some (.ref 112), some (.ref x1), some (.int x2), some (.int x3), some (.int x4), some (.int x5), some (.int x6), some (.int (I (r112_0 + 2) (Int32.toNatClampNeg x6))), l8, l9] [.int x6, .ref 112] [] (am_SH, I, J, Pf) k n true P)) : am_go sc d 13 (25, [some (.ref 112), some (.ref x1), some (.int x2), some (.int x3), some (.int x4), some (.int x5), some (.int x6), l7, l8, l9], [], (am_SH, I, J, Pf), k, n) P := by
  refine am_s_iload rfl dc13_1.2.1.2 ?_
  refine am_s_aload_n rfl dc13_1.2.2.1 ?_
  refine am_s_getR (r := r112_0) dc13_1.2.2.2 rfl rfl rfl (q1) ?_
  refine am_x_getI (x := I r112_0 2) dc13_2.1.1.1 rfl (q2) (Or.inl rfl) rfl ?_
  refine am_s_ic_ge dc13_2.1.1.2 rfl (fun c1 => ?_) (fun c1 => ?_)
  · refine am_s_iinc (ls' := [some (.ref 112), some (.ref x1), some (.int x2), some (.int x3), some (.int x4), some (.int (x5 + 1)), some (.int x6), l7, l8, l9]) am_cc1 rfl rfl dc13_9.2.2.1 ?_
    refine am_s_goto rfl dc13_9.2.2.2 ?_
    exact q3 c1
  · refine am_s_aload_n rfl dc13_2.1.2.1 ?_
    refine am_s_getR (r := r112_0) dc13_2.1.2.2 rfl rfl rfl (q4 c1) ?_
    refine am_s_getR (r := r112_0 + 2) dc13_2.2.1.1 rfl (q5 c1) rfl (am_r4_3 hp (q5 c1)) ?_
    refine am_s_iload rfl dc13_2.2.1.2 ?_
    refine am_x_iaload (x := I (r112_0 + 2) (Int32.toNatClampNeg x6)) dc13_2.2.2.1 (am_h4_3 (q5 c1)) (q6 c1) rfl rfl ?_
    refine am_s_istore (ls' := [some (.ref 112), some (.ref x1), some (.int x2), some (.int x3), some (.int x4), some (.int x5), some (.int x6), some (.int (I (r112_0 + 2) (Int32.toNatClampNeg x6))), l8, l9]) rfl rfl dc13_2.2.2.2 ?_
    refine am_s_aload_n rfl dc13_3.1.1.1 ?_
    refine am_s_getR (r := r112_1) dc13_3.1.1.2 rfl rfl rfl (q7 c1) ?_
    refine am_s_getR (r := r112_1 + 4) dc13_3.1.2.1 rfl (q8 c1) rfl (am_r7_3 hp (q8 c1)) ?_
    refine am_s_iload rfl dc13_3.1.2.2 ?_
    refine am_x_iaload (x := I (r112_1 + 4) (Int32.toNatClampNeg (I (r112_0 + 2) (Int32.toNatClampNeg x6)))) dc13_3.2.1.1 (am_h7_3 (q8 c1)) (q9 c1) rfl rfl ?_
    refine am_s_iload_n rfl dc13_3.2.1.2 ?_
    refine am_s_ic_ne dc13_3.2.2.1 rfl (fun c2 => ?_) (fun c2 => ?_)
    · refine am_s_iinc (ls' := [some (.ref 112), some (.ref x1), some (.int x2), some (.int x3), some (.int x4), some (.int x5), some (.int (x6 + 1)), some (.int (I (r112_0 + 2) (Int32.toNatClampNeg x6))), l8, l9]) am_cc1 rfl rfl dc13_9.2.1.1 ?_
      refine am_s_goto rfl dc13_9.2.1.2 ?_
      exact q10 c1 c2
    · refine am_s_iload rfl dc13_3.2.2.2 ?_
      refine am_s_if_le dc13_4.1.1.1 rfl (fun c3 => ?_) (fun c3 => ?_)
      · exact q11 c1 c2 c3
      · refine am_s_aload_n rfl dc13_4.1.1.2 ?_
        refine am_s_iload rfl dc13_4.1.2.1 ?_
        exact am_s_virtual true dc13_4.1.2.2 rfl (by decide) rfl rfl rfl (q12 c1 c2 c3)
theorem t13_80 {sc : Option (Nat × (Nat → Int32))} {d k n : Nat} {P : am_O → Prop} {I : am_I} {J : am_J} {Pf : am_R} (hp : am_PF Pf) {x1 : Nat} (hx1 : am_SH[x1]? = some (.inl 9)) {x2 : Int32} {x3 : Int32} {x4 : Int32} {x5 : Int32} {x6 : Int32} {x7 : Int32} {l8 : Option Value} {l9 : Option Value} (q1 : am_mth d 15 [.ref 112, .ref x1, .int x6, .int x2, .ref (x1 + 3)] (am_SH, I, J, Pf) (am_af sc d 13 98 [some (.ref 112), some (.ref x1), some (.int x2), some (.int x3), some (.int x4), some (.int x5), some (.int x6), some (.int x7), some (.int ((x7 * 25) + x2)), l9] [.ref (x1 + 3), .int x2, .int x6, .ref x1, .ref 112] [] (am_SH, I, J, Pf) k n true P)) : am_go sc d 13 (80, [some (.ref 112), some (.ref x1), some (.int x2), some (.int x3), some (.int x4), some (.int x5), some (.int x6), some (.int x7), l8, l9], [], (am_SH, I, J, Pf), k, n) P := by
  refine am_s_iload rfl dc13_4.2.2.1 ?_
  refine am_s_bipush am_cb25 dc13_4.2.2.2 ?_
  refine am_s_imul dc13_5.1.1.1 ?_
  refine am_s_iload_n rfl dc13_5.1.1.2 ?_
  refine am_s_iadd dc13_5.1.2.1 ?_
  refine am_s_istore (ls' := [some (.ref 112), some (.ref x1), some (.int x2), some (.int x3), some (.int x4), some (.int x5), some (.int x6), some (.int x7), some (.int ((x7 * 25) + x2)), l9]) rfl rfl dc13_5.1.2.2 ?_
  refine am_s_aload_n rfl dc13_5.2.1.1 ?_
  refine am_s_aload_n rfl dc13_5.2.1.2 ?_
  refine am_s_iload rfl dc13_5.2.2.1 ?_
  refine am_s_iload_n rfl dc13_5.2.2.2 ?_
  refine am_s_aload_n rfl dc13_6.1.1.1 ?_
  refine am_s_getR (r := x1 + 3) dc13_6.1.1.2 rfl hx1 rfl (am_r9_3 hp hx1) ?_
  exact am_s_virtual true dc13_6.1.2.1 rfl (by decide) rfl rfl rfl (q1)
theorem t13_74 {sc : Option (Nat × (Nat → Int32))} {d k n : Nat} {P : am_O → Prop} {I : am_I} {J : am_J} {Pf : am_R} (hp : am_PF Pf) {x1 : Nat} (hx1 : am_SH[x1]? = some (.inl 9)) {x2 : Int32} {x3 : Int32} {x4 : Int32} {x5 : Int32} {x6 : Int32} {x7 : Int32} {l8 : Option Value} {l9 : Option Value} {s0 : Int32} (q1 : (¬ s0 = 0) → am_go sc d 13 (80, [some (.ref 112), some (.ref x1), some (.int x2), some (.int x3), some (.int x4), some (.int x5), some (.int x6), some (.int x7), l8, l9], [], (am_SH, I, J, Pf), k, n) P) (q2 : (¬ (¬ s0 = 0)) → am_go sc d 13 (25, [some (.ref 112), some (.ref x1), some (.int x2), some (.int x3), some (.int x4), some (.int x5), some (.int (x6 + 1)), some (.int x7), l8, l9], [], (am_SH, I, J, Pf), k, n) P) : am_go sc d 13 (74, [some (.ref 112), some (.ref x1), some (.int x2), some (.int x3), some (.int x4), some (.int x5), some (.int x6), some (.int x7), l8, l9], [.int s0], (am_SH, I, J, Pf), k, n) P := by
  refine am_s_if_ne dc13_4.2.1.1 rfl (fun c1 => ?_) (fun c1 => ?_)
  · exact q1 c1
  · refine am_s_goto rfl dc13_4.2.1.2 ?_
    refine am_s_iinc (ls' := [some (.ref 112), some (.ref x1), some (.int x2), some (.int x3), some (.int x4), some (.int x5), some (.int (x6 + 1)), some (.int x7), l8, l9]) am_cc1 rfl rfl dc13_9.2.1.1 ?_
    refine am_s_goto rfl dc13_9.2.1.2 ?_
    exact q2 c1
theorem t13_101 {sc : Option (Nat × (Nat → Int32))} {d k n : Nat} {P : am_O → Prop} {I : am_I} {J : am_J} {Pf : am_R} (hp : am_PF Pf) {x1 : Nat} (hx1 : am_SH[x1]? = some (.inl 9)) {x2 : Int32} {x3 : Int32} {x4 : Int32} {x5 : Int32} {x6 : Int32} {x7 : Int32} {x8 : Int32} {l9 : Option Value} {s0 : Int32} (q1 : am_in x7 8 = true) (q2 : am_in x8 200 = true) (q3 : am_in x8 200 = true) (q4 : am_in x8 200 = true) (q5 : (((s0 &&& (I 115 (Int32.toNatClampNeg x7))) &&& ((I (x1 + 3) (Int32.toNatClampNeg x8)) ^^^ (-1))) = 0) → am_go sc d 13 (25, [some (.ref 112), some (.ref x1), some (.int x2), some (.int x3), some (.int x4), some (.int x5), some (.int (x6 + 1)), some (.int x7), some (.int x8), some (.int ((s0 &&& (I 115 (Int32.toNatClampNeg x7))) &&& ((I (x1 + 3) (Int32.toNatClampNeg x8)) ^^^ (-1))))], [], (am_SH, am_u I (x1 + 3) (Int32.toNatClampNeg x8) ((I (x1 + 3) (Int32.toNatClampNeg x8)) ||| ((s0 &&& (I 115 (Int32.toNatClampNeg x7))) &&& ((I (x1 + 3) (Int32.toNatClampNeg x8)) ^^^ (-1)))), J, Pf), k, n) P) (q6 : (¬ (((s0 &&& (I 115 (Int32.toNatClampNeg x7))) &&& ((I (x1 + 3) (Int32.toNatClampNeg x8)) ^^^ (-1))) = 0)) → am_go sc d 13 (25, [some (.ref 112), some (.ref x1), some (.int x2), some (.int x3), some (.int 1), some (.int x5), some (.int (x6 + 1)), some (.int x7), some (.int x8), some (.int ((s0 &&& (I 115 (Int32.toNatClampNeg x7))) &&& ((I (x1 + 3) (Int32.toNatClampNeg x8)) ^^^ (-1))))], [], (am_SH, am_u I (x1 + 3) (Int32.toNatClampNeg x8) ((I (x1 + 3) (Int32.toNatClampNeg x8)) ||| ((s0 &&& (I 115 (Int32.toNatClampNeg x7))) &&& ((I (x1 + 3) (Int32.toNatClampNeg x8)) ^^^ (-1)))), J, Pf), k, n) P) : am_go sc d 13 (101, [some (.ref 112), some (.ref x1), some (.int x2), some (.int x3), some (.int x4), some (.int x5), some (.int x6), some (.int x7), some (.int x8), l9], [.int s0], (am_SH, I, J, Pf), k, n) P := by
  refine am_s_aload_n rfl dc13_6.1.2.2 ?_
  refine am_s_getR (r := 115) dc13_6.2.1.1 rfl rfl rfl (hp _ _ _ rfl) ?_
  refine am_s_iload rfl dc13_6.2.1.2 ?_
  refine am_x_iaload (x := I 115 (Int32.toNatClampNeg x7)) dc13_6.2.2.1 rfl (q1) rfl rfl ?_
  refine am_s_iand dc13_6.2.2.2 ?_
  refine am_s_aload_n rfl dc13_7.1.1.1 ?_
  refine am_s_getR (r := x1 + 3) dc13_7.1.1.2 rfl hx1 rfl (am_r9_3 hp hx1) ?_
  refine am_s_iload rfl dc13_7.1.2.1 ?_
  refine am_x_iaload (x := I (x1 + 3) (Int32.toNatClampNeg x8)) dc13_7.1.2.2 (am_h9_3 hx1) (q2) rfl rfl ?_
  refine am_s_iconst am_ccm1 dc13_7.2.1.1 ?_
  refine am_s_ixor dc13_7.2.1.2 ?_
  refine am_s_iand dc13_7.2.2.1 ?_
  refine am_s_istore (ls' := [some (.ref 112), some (.ref x1), some (.int x2), some (.int x3), some (.int x4), some (.int x5), some (.int x6), some (.int x7), some (.int x8), some (.int ((s0 &&& (I 115 (Int32.toNatClampNeg x7))) &&& ((I (x1 + 3) (Int32.toNatClampNeg x8)) ^^^ (-1))))]) rfl rfl dc13_7.2.2.2 ?_
  refine am_s_aload_n rfl dc13_8.1.1.1 ?_
  refine am_s_getR (r := x1 + 3) dc13_8.1.1.2 rfl hx1 rfl (am_r9_3 hp hx1) ?_
  refine am_s_iload rfl dc13_8.1.2.1 ?_
  refine am_s_dup2 rfl rfl dc13_8.1.2.2 ?_
  refine am_x_iaload (x := I (x1 + 3) (Int32.toNatClampNeg x8)) dc13_8.2.1.1 (am_h9_3 hx1) (q3) rfl rfl ?_
  refine am_s_iload rfl dc13_8.2.1.2 ?_
  refine am_s_ior dc13_8.2.2.1 ?_
  refine am_s_iastore dc13_8.2.2.2 (am_h9_3 hx1) (q4) rfl ?_
  refine am_s_iload rfl dc13_9.1.1.1 ?_
  refine am_s_if_eq dc13_9.1.1.2 rfl (fun c1 => ?_) (fun c1 => ?_)
  · refine am_s_iinc (ls' := [some (.ref 112), some (.ref x1), some (.int x2), some (.int x3), some (.int x4), some (.int x5), some (.int (x6 + 1)), some (.int x7), some (.int x8), some (.int ((s0 &&& (I 115 (Int32.toNatClampNeg x7))) &&& ((I (x1 + 3) (Int32.toNatClampNeg x8)) ^^^ (-1))))]) am_cc1 rfl rfl dc13_9.2.1.1 ?_
    refine am_s_goto rfl dc13_9.2.1.2 ?_
    exact q5 c1
  · refine am_s_iconst am_cc1 dc13_9.1.2.1 ?_
    refine am_s_istore (ls' := [some (.ref 112), some (.ref x1), some (.int x2), some (.int x3), some (.int 1), some (.int x5), some (.int x6), some (.int x7), some (.int x8), some (.int ((s0 &&& (I 115 (Int32.toNatClampNeg x7))) &&& ((I (x1 + 3) (Int32.toNatClampNeg x8)) ^^^ (-1))))]) rfl rfl dc13_9.1.2.2 ?_
    refine am_s_iinc (ls' := [some (.ref 112), some (.ref x1), some (.int x2), some (.int x3), some (.int 1), some (.int x5), some (.int (x6 + 1)), some (.int x7), some (.int x8), some (.int ((s0 &&& (I 115 (Int32.toNatClampNeg x7))) &&& ((I (x1 + 3) (Int32.toNatClampNeg x8)) ^^^ (-1))))]) am_cc1 rfl rfl dc13_9.2.1.1 ?_
    refine am_s_goto rfl dc13_9.2.1.2 ?_
    exact q6 c1
-- leans (I)Z
theorem dc14_0 : (((decode (am_by 14) 0 = .ok (.aload_n 0, 1)) ∧ (decode (am_by 14) 1 = .ok (.getfield 42, 3))) ∧ ((decode (am_by 14) 4 = .ok (.getfield 185, 3)) ∧ (decode (am_by 14) 7 = .ok (.iload_n 1, 1)))) ∧ (((decode (am_by 14) 8 = .ok (.iaload, 1)) ∧ (decode (am_by 14) 9 = .ok (.ifCond .le 22, 3))) ∧ ((decode (am_by 14) 12 = .ok (.aload_n 0, 1)) ∧ (decode (am_by 14) 13 = .ok (.getfield 42, 3)))) := by decide +kernel
theorem dc14_1 : (((decode (am_by 14) 16 = .ok (.getfield 188, 3)) ∧ (decode (am_by 14) 19 = .ok (.iload_n 1, 1))) ∧ ((decode (am_by 14) 20 = .ok (.iconst 4, 1)) ∧ (decode (am_by 14) 21 = .ok (.imul, 1)))) ∧ (((decode (am_by 14) 22 = .ok (.iaload, 1)) ∧ (decode (am_by 14) 23 = .ok (.iconst 1, 1))) ∧ ((decode (am_by 14) 24 = .ok (.if_icmp .ne 7, 3)) ∧ (decode (am_by 14) 27 = .ok (.iconst 1, 1)))) := by decide +kernel
theorem dc14_2 : (decode (am_by 14) 28 = .ok (.goto 4, 3)) ∧ ((decode (am_by 14) 31 = .ok (.iconst 0, 1)) ∧ (decode (am_by 14) 32 = .ok (.ireturn, 1))) := by decide +kernel
theorem t14_0 {sc : Option (Nat × (Nat → Int32))} {d k n : Nat} {P : am_O → Prop} {I : am_I} {J : am_J} {Pf : am_R} (hp : am_PF Pf) {x1 : Int32} {r112_0 : Nat} (q1 : Pf 112 0 = some r112_0) (q2 : am_SH[r112_0]? = some (.inl 4)) (q3 : am_in x1 20 = true) (q4 : ((I (r112_0 + 4) (Int32.toNatClampNeg x1)) ≤ 0) → P (.inl (some (.int 0)), (am_SH, I, J, Pf), k, n)) (q5 : (¬ ((I (r112_0 + 4) (Int32.toNatClampNeg x1)) ≤ 0)) → Pf 112 0 = some r112_0) (q6 : (¬ ((I (r112_0 + 4) (Int32.toNatClampNeg x1)) ≤ 0)) → am_SH[r112_0]? = some (.inl 4)) (q7 : (¬ ((I (r112_0 + 4) (Int32.toNatClampNeg x1)) ≤ 0)) → am_in (x1 * 4) 80 = true) (q8 : (¬ ((I (r112_0 + 4) (Int32.toNatClampNeg x1)) ≤ 0)) → (¬ (I (r112_0 + 5) (Int32.toNatClampNeg (x1 * 4))) = 1) → P (.inl (some (.int 0)), (am_SH, I, J, Pf), k, n)) (q9 : (¬ ((I (r112_0 + 4) (Int32.toNatClampNeg x1)) ≤ 0)) → (¬ (¬ (I (r112_0 + 5) (Int32.toNatClampNeg (x1 * 4))) = 1)) → P (.inl (some (.int 1)), (am_SH, I, J, Pf), k, n)) : am_go sc d 14 (0, [some (.ref 112), some (.int x1)], [], (am_SH, I, J, Pf), k, n) P := by
  refine am_s_aload_n rfl dc14_0.1.1.1 ?_
  refine am_s_getR (r := r112_0) dc14_0.1.1.2 rfl rfl rfl (q1) ?_
  refine am_s_getR (r := r112_0 + 4) dc14_0.1.2.1 rfl (q2) rfl (am_r4_5 hp (q2)) ?_
  refine am_s_iload_n rfl dc14_0.1.2.2 ?_
  refine am_x_iaload (x := I (r112_0 + 4) (Int32.toNatClampNeg x1)) dc14_0.2.1.1 (am_h4_5 (q2)) (q3) rfl rfl ?_
  refine am_s_if_le dc14_0.2.1.2 rfl (fun c1 => ?_) (fun c1 => ?_)
  · refine am_s_iconst am_cc0 dc14_2.2.1 ?_
    exact am_s_zreturn dc14_2.2.2 rfl (by decide) (q4 c1)
  · refine am_s_aload_n rfl dc14_0.2.2.1 ?_
    refine am_s_getR (r := r112_0) dc14_0.2.2.2 rfl rfl rfl (q5 c1) ?_
    refine am_s_getR (r := r112_0 + 5) dc14_1.1.1.1 rfl (q6 c1) rfl (am_r4_6 hp (q6 c1)) ?_
    refine am_s_iload_n rfl dc14_1.1.1.2 ?_
    refine am_s_iconst am_cc4 dc14_1.1.2.1 ?_
    refine am_s_imul dc14_1.1.2.2 ?_
    refine am_x_iaload (x := I (r112_0 + 5) (Int32.toNatClampNeg (x1 * 4))) dc14_1.2.1.1 (am_h4_6 (q6 c1)) (q7 c1) rfl rfl ?_
    refine am_s_iconst am_cc1 dc14_1.2.1.2 ?_
    refine am_s_ic_ne dc14_1.2.2.1 rfl (fun c2 => ?_) (fun c2 => ?_)
    · refine am_s_iconst am_cc0 dc14_2.2.1 ?_
      exact am_s_zreturn dc14_2.2.2 rfl (by decide) (q8 c1 c2)
    · refine am_s_iconst am_cc1 dc14_1.2.2.2 ?_
      refine am_s_goto rfl dc14_2.1 ?_
      exact am_s_zreturn dc14_2.2.2 rfl (by decide) (q9 c1 c2)
-- reach (LPrunedParses$Table;II[I)I
theorem dc15_0 : (((decode (am_by 15) 0 = .ok (.iconst 1, 1)) ∧ (decode (am_by 15) 1 = .ok (.iload_n 3, 1))) ∧ ((decode (am_by 15) 2 = .ok (.ishl, 1)) ∧ (decode (am_by 15) 3 = .ok (.istore 5, 2)))) ∧ (((decode (am_by 15) 5 = .ok (.iconst 0, 1)) ∧ (decode (am_by 15) 6 = .ok (.istore 6, 2))) ∧ ((decode (am_by 15) 8 = .ok (.iload 6, 2)) ∧ (decode (am_by 15) 10 = .ok (.aload_n 0, 1)))) := by decide +kernel
theorem dc15_1 : (((decode (am_by 15) 11 = .ok (.getfield 42, 3)) ∧ (decode (am_by 15) 14 = .ok (.getfield 185, 3))) ∧ ((decode (am_by 15) 17 = .ok (.iload_n 2, 1)) ∧ (decode (am_by 15) 18 = .ok (.iaload, 1)))) ∧ (((decode (am_by 15) 19 = .ok (.if_icmp .ge 94, 3)) ∧ (decode (am_by 15) 22 = .ok (.iload 5, 2))) ∧ ((decode (am_by 15) 24 = .ok (.ifCond .eq 89, 3)) ∧ (decode (am_by 15) 27 = .ok (.iload 6, 2)))) := by decide +kernel
theorem dc15_2 : (((decode (am_by 15) 29 = .ok (.ifCond .le 23, 3)) ∧ (decode (am_by 15) 32 = .ok (.aload_n 0, 1))) ∧ ((decode (am_by 15) 33 = .ok (.getfield 42, 3)) ∧ (decode (am_by 15) 36 = .ok (.getfield 191, 3)))) ∧ (((decode (am_by 15) 39 = .ok (.iload_n 2, 1)) ∧ (decode (am_by 15) 40 = .ok (.baload, 1))) ∧ ((decode (am_by 15) 41 = .ok (.ifCond .eq 11, 3)) ∧ (decode (am_by 15) 44 = .ok (.aload_n 1, 1)))) := by decide +kernel
theorem dc15_3 : (((decode (am_by 15) 45 = .ok (.iload 5, 2)) ∧ (decode (am_by 15) 47 = .ok (.invokevirtual 195, 3))) ∧ ((decode (am_by 15) 50 = .ok (.istore 5, 2)) ∧ (decode (am_by 15) 52 = .ok (.iconst 0, 1)))) ∧ (((decode (am_by 15) 53 = .ok (.istore 7, 2)) ∧ (decode (am_by 15) 55 = .ok (.iload_n 3, 1))) ∧ ((decode (am_by 15) 56 = .ok (.istore 8, 2)) ∧ (decode (am_by 15) 58 = .ok (.iload 8, 2)))) := by decide +kernel
theorem dc15_4 : (((decode (am_by 15) 60 = .ok (.aload_n 1, 1)) ∧ (decode (am_by 15) 61 = .ok (.getfield 104, 3))) ∧ ((decode (am_by 15) 64 = .ok (.if_icmp .gt 39, 3)) ∧ (decode (am_by 15) 67 = .ok (.iload 5, 2)))) ∧ (((decode (am_by 15) 69 = .ok (.iload 8, 2)) ∧ (decode (am_by 15) 71 = .ok (.iushr, 1))) ∧ ((decode (am_by 15) 72 = .ok (.iconst 1, 1)) ∧ (decode (am_by 15) 73 = .ok (.iand, 1)))) := by decide +kernel
theorem dc15_5 : (((decode (am_by 15) 74 = .ok (.ifCond .eq 23, 3)) ∧ (decode (am_by 15) 77 = .ok (.iload 7, 2))) ∧ ((decode (am_by 15) 79 = .ok (.aload_n 0, 1)) ∧ (decode (am_by 15) 80 = .ok (.aload_n 1, 1)))) ∧ (((decode (am_by 15) 81 = .ok (.iload_n 2, 1)) ∧ (decode (am_by 15) 82 = .ok (.iconst 4, 1))) ∧ ((decode (am_by 15) 83 = .ok (.imul, 1)) ∧ (decode (am_by 15) 84 = .ok (.iload 6, 2)))) := by decide +kernel
theorem dc15_6 : (((decode (am_by 15) 86 = .ok (.iadd, 1)) ∧ (decode (am_by 15) 87 = .ok (.iload 8, 2))) ∧ ((decode (am_by 15) 89 = .ok (.aload 4, 2)) ∧ (decode (am_by 15) 91 = .ok (.invokevirtual 199, 3)))) ∧ (((decode (am_by 15) 94 = .ok (.ior, 1)) ∧ (decode (am_by 15) 95 = .ok (.istore 7, 2))) ∧ ((decode (am_by 15) 97 = .ok (.iinc 8 1, 3)) ∧ (decode (am_by 15) 100 = .ok (.goto (-42), 3)))) := by decide +kernel
theorem dc15_7 : ((decode (am_by 15) 103 = .ok (.iload 7, 2)) ∧ ((decode (am_by 15) 105 = .ok (.istore 5, 2)) ∧ (decode (am_by 15) 107 = .ok (.iinc 6 1, 3)))) ∧ ((decode (am_by 15) 110 = .ok (.goto (-102), 3)) ∧ ((decode (am_by 15) 113 = .ok (.iload 5, 2)) ∧ (decode (am_by 15) 115 = .ok (.ireturn, 1)))) := by decide +kernel
theorem t15_0 {sc : Option (Nat × (Nat → Int32))} {d k n : Nat} {P : am_O → Prop} {I : am_I} {J : am_J} {Pf : am_R} (hp : am_PF Pf) {x1 : Nat} (hx1 : am_SH[x1]? = some (.inl 9)) {x2 : Int32} {x3 : Int32} {x4 : Nat} {Lx4 : Nat} (hx4 : am_SH[x4]? = some (.inr (0, Lx4))) {l5 : Option Value} {l6 : Option Value} {l7 : Option Value} {l8 : Option Value} (q1 : am_go sc d 15 (8, [some (.ref 112), some (.ref x1), some (.int x2), some (.int x3), some (.ref x4), some (.int (1 <<< (x3 &&& 31))), some (.int 0), l7, l8], [], (am_SH, I, J, Pf), k, n) P) : am_go sc d 15 (0, [some (.ref 112), some (.ref x1), some (.int x2), some (.int x3), some (.ref x4), l5, l6, l7, l8], [], (am_SH, I, J, Pf), k, n) P := by
  refine am_s_iconst am_cc1 dc15_0.1.1.1 ?_
  refine am_s_iload_n rfl dc15_0.1.1.2 ?_
  refine am_s_ishl dc15_0.1.2.1 ?_
  refine am_s_istore (ls' := [some (.ref 112), some (.ref x1), some (.int x2), some (.int x3), some (.ref x4), some (.int (1 <<< (x3 &&& 31))), l6, l7, l8]) rfl rfl dc15_0.1.2.2 ?_
  refine am_s_iconst am_cc0 dc15_0.2.1.1 ?_
  refine am_s_istore (ls' := [some (.ref 112), some (.ref x1), some (.int x2), some (.int x3), some (.ref x4), some (.int (1 <<< (x3 &&& 31))), some (.int 0), l7, l8]) rfl rfl dc15_0.2.1.2 ?_
  exact q1
theorem t15_8 {sc : Option (Nat × (Nat → Int32))} {d k n : Nat} {P : am_O → Prop} {I : am_I} {J : am_J} {Pf : am_R} (hp : am_PF Pf) {x1 : Nat} (hx1 : am_SH[x1]? = some (.inl 9)) {x2 : Int32} {x3 : Int32} {x4 : Nat} {Lx4 : Nat} (hx4 : am_SH[x4]? = some (.inr (0, Lx4))) {x5 : Int32} {x6 : Int32} {l7 : Option Value} {l8 : Option Value} {r112_0 : Nat} (q1 : Pf 112 0 = some r112_0) (q2 : am_SH[r112_0]? = some (.inl 4)) (q3 : am_in x2 20 = true) (q4 : ((I (r112_0 + 4) (Int32.toNatClampNeg x2)) ≤ x6) → P (.inl (some (.int x5)), (am_SH, I, J, Pf), k, n)) (q5 : (¬ ((I (r112_0 + 4) (Int32.toNatClampNeg x2)) ≤ x6)) → (x5 = 0) → P (.inl (some (.int x5)), (am_SH, I, J, Pf), k, n)) (q6 : (¬ ((I (r112_0 + 4) (Int32.toNatClampNeg x2)) ≤ x6)) → (¬ (x5 = 0)) → (x6 ≤ 0) → am_go sc d 15 (52, [some (.ref 112), some (.ref x1), some (.int x2), some (.int x3), some (.ref x4), some (.int x5), some (.int x6), l7, l8], [], (am_SH, I, J, Pf), k, n) P) (q7 : (¬ ((I (r112_0 + 4) (Int32.toNatClampNeg x2)) ≤ x6)) → (¬ (x5 = 0)) → (¬ (x6 ≤ 0)) → Pf 112 0 = some r112_0) (q8 : (¬ ((I (r112_0 + 4) (Int32.toNatClampNeg x2)) ≤ x6)) → (¬ (x5 = 0)) → (¬ (x6 ≤ 0)) → am_SH[r112_0]? = some (.inl 4)) (q9 : (¬ ((I (r112_0 + 4) (Int32.toNatClampNeg x2)) ≤ x6)) → (¬ (x5 = 0)) → (¬ (x6 ≤ 0)) → am_in x2 20 = true) (q10 : (¬ ((I (r112_0 + 4) (Int32.toNatClampNeg x2)) ≤ x6)) → (¬ (x5 = 0)) → (¬ (x6 ≤ 0)) → ((I (r112_0 + 3) (Int32.toNatClampNeg x2)) = 0) → am_go sc d 15 (52, [some (.ref 112), some (.ref x1), some (.int x2), some (.int x3), some (.ref x4), some (.int x5), some (.int x6), l7, l8], [], (am_SH, I, J, Pf), k, n) P) (q11 : (¬ ((I (r112_0 + 4) (Int32.toNatClampNeg x2)) ≤ x6)) → (¬ (x5 = 0)) → (¬ (x6 ≤ 0)) → (¬ ((I (r112_0 + 3) (Int32.toNatClampNeg x2)) = 0)) → am_mth d 117 [.ref x1, .int x5] (am_SH, I, J, Pf) (am_af sc d 15 47 [some (.ref 112), some (.ref x1), some (.int x2), some (.int x3), some (.ref x4), some (.int x5), some (.int x6), l7, l8] [.int x5, .ref x1] [] (am_SH, I, J, Pf) k n false P)) : am_go sc d 15 (8, [some (.ref 112), some (.ref x1), some (.int x2), some (.int x3), some (.ref x4), some (.int x5), some (.int x6), l7, l8], [], (am_SH, I, J, Pf), k, n) P := by
  refine am_s_iload rfl dc15_0.2.2.1 ?_
  refine am_s_aload_n rfl dc15_0.2.2.2 ?_
  refine am_s_getR (r := r112_0) dc15_1.1.1.1 rfl rfl rfl (q1) ?_
  refine am_s_getR (r := r112_0 + 4) dc15_1.1.1.2 rfl (q2) rfl (am_r4_5 hp (q2)) ?_
  refine am_s_iload_n rfl dc15_1.1.2.1 ?_
  refine am_x_iaload (x := I (r112_0 + 4) (Int32.toNatClampNeg x2)) dc15_1.1.2.2 (am_h4_5 (q2)) (q3) rfl rfl ?_
  refine am_s_ic_ge dc15_1.2.1.1 rfl (fun c1 => ?_) (fun c1 => ?_)
  · refine am_s_iload rfl dc15_7.2.2.1 ?_
    exact am_s_ireturn dc15_7.2.2.2 rfl (q4 c1)
  · refine am_s_iload rfl dc15_1.2.1.2 ?_
    refine am_s_if_eq dc15_1.2.2.1 rfl (fun c2 => ?_) (fun c2 => ?_)
    · refine am_s_iload rfl dc15_7.2.2.1 ?_
      exact am_s_ireturn dc15_7.2.2.2 rfl (q5 c1 c2)
    · refine am_s_iload rfl dc15_1.2.2.2 ?_
      refine am_s_if_le dc15_2.1.1.1 rfl (fun c3 => ?_) (fun c3 => ?_)
      · exact q6 c1 c2 c3
      · refine am_s_aload_n rfl dc15_2.1.1.2 ?_
        refine am_s_getR (r := r112_0) dc15_2.1.2.1 rfl rfl rfl (q7 c1 c2 c3) ?_
        refine am_s_getR (r := r112_0 + 3) dc15_2.1.2.2 rfl (q8 c1 c2 c3) rfl (am_r4_4 hp (q8 c1 c2 c3)) ?_
        refine am_s_iload_n rfl dc15_2.2.1.1 ?_
        refine am_x_baload (x := I (r112_0 + 3) (Int32.toNatClampNeg x2)) dc15_2.2.1.2 (am_h4_4 (q8 c1 c2 c3)) (q9 c1 c2 c3) rfl rfl ?_
        refine am_s_if_eq dc15_2.2.2.1 rfl (fun c4 => ?_) (fun c4 => ?_)
        · exact q10 c1 c2 c3 c4
        · refine am_s_aload_n rfl dc15_2.2.2.2 ?_
          refine am_s_iload rfl dc15_3.1.1.1 ?_
          exact am_s_virtual false dc15_3.1.1.2 rfl (by decide) rfl hx1 rfl (q11 c1 c2 c3 c4)
theorem t15_52 {sc : Option (Nat × (Nat → Int32))} {d k n : Nat} {P : am_O → Prop} {I : am_I} {J : am_J} {Pf : am_R} (hp : am_PF Pf) {x1 : Nat} (hx1 : am_SH[x1]? = some (.inl 9)) {x2 : Int32} {x3 : Int32} {x4 : Nat} {Lx4 : Nat} (hx4 : am_SH[x4]? = some (.inr (0, Lx4))) {x5 : Int32} {x6 : Int32} {l7 : Option Value} {l8 : Option Value} (q1 : am_go sc d 15 (58, [some (.ref 112), some (.ref x1), some (.int x2), some (.int x3), some (.ref x4), some (.int x5), some (.int x6), some (.int 0), some (.int x3)], [], (am_SH, I, J, Pf), k, n) P) : am_go sc d 15 (52, [some (.ref 112), some (.ref x1), some (.int x2), some (.int x3), some (.ref x4), some (.int x5), some (.int x6), l7, l8], [], (am_SH, I, J, Pf), k, n) P := by
  refine am_s_iconst am_cc0 dc15_3.1.2.2 ?_
  refine am_s_istore (ls' := [some (.ref 112), some (.ref x1), some (.int x2), some (.int x3), some (.ref x4), some (.int x5), some (.int x6), some (.int 0), l8]) rfl rfl dc15_3.2.1.1 ?_
  refine am_s_iload_n rfl dc15_3.2.1.2 ?_
  refine am_s_istore (ls' := [some (.ref 112), some (.ref x1), some (.int x2), some (.int x3), some (.ref x4), some (.int x5), some (.int x6), some (.int 0), some (.int x3)]) rfl rfl dc15_3.2.2.1 ?_
  exact q1
theorem t15_58 {sc : Option (Nat × (Nat → Int32))} {d k n : Nat} {P : am_O → Prop} {I : am_I} {J : am_J} {Pf : am_R} (hp : am_PF Pf) {x1 : Nat} (hx1 : am_SH[x1]? = some (.inl 9)) {x2 : Int32} {x3 : Int32} {x4 : Nat} {Lx4 : Nat} (hx4 : am_SH[x4]? = some (.inr (0, Lx4))) {x5 : Int32} {x6 : Int32} {x7 : Int32} {x8 : Int32} (q1 : ((I x1 1) < x8) → am_go sc d 15 (8, [some (.ref 112), some (.ref x1), some (.int x2), some (.int x3), some (.ref x4), some (.int x7), some (.int (x6 + 1)), some (.int x7), some (.int x8)], [], (am_SH, I, J, Pf), k, n) P) (q2 : (¬ ((I x1 1) < x8)) → (((UInt32.toInt32 (Int32.toUInt32 x5 >>> (Int32.toUInt32 x8 &&& Int32.toUInt32 31))) &&& 1) = 0) → am_go sc d 15 (58, [some (.ref 112), some (.ref x1), some (.int x2), some (.int x3), some (.ref x4), some (.int x5), some (.int x6), some (.int x7), some (.int (x8 + 1))], [], (am_SH, I, J, Pf), k, n) P) (q3 : (¬ ((I x1 1) < x8)) → (¬ (((UInt32.toInt32 (Int32.toUInt32 x5 >>> (Int32.toUInt32 x8 &&& Int32.toUInt32 31))) &&& 1) = 0)) → am_mth d 16 [.ref 112, .ref x1, .int ((x2 * 4) + x6), .int x8, .ref x4] (am_SH, I, J, Pf) (am_af sc d 15 91 [some (.ref 112), some (.ref x1), some (.int x2), some (.int x3), some (.ref x4), some (.int x5), some (.int x6), some (.int x7), some (.int x8)] [.ref x4, .int x8, .int ((x2 * 4) + x6), .ref x1, .ref 112, .int x7] [.int x7] (am_SH, I, J, Pf) k n true P)) : am_go sc d 15 (58, [some (.ref 112), some (.ref x1), some (.int x2), some (.int x3), some (.ref x4), some (.int x5), some (.int x6), some (.int x7), some (.int x8)], [], (am_SH, I, J, Pf), k, n) P := by
  refine am_s_iload rfl dc15_3.2.2.2 ?_
  refine am_s_aload_n rfl dc15_4.1.1.1 ?_
  refine am_x_getI (x := I x1 1) dc15_4.1.1.2 rfl hx1 (Or.inl rfl) rfl ?_
  refine am_s_ic_gt dc15_4.1.2.1 rfl (fun c1 => ?_) (fun c1 => ?_)
  · refine am_s_iload rfl dc15_7.1.1 ?_
    refine am_s_istore (ls' := [some (.ref 112), some (.ref x1), some (.int x2), some (.int x3), some (.ref x4), some (.int x7), some (.int x6), some (.int x7), some (.int x8)]) rfl rfl dc15_7.1.2.1 ?_
    refine am_s_iinc (ls' := [some (.ref 112), some (.ref x1), some (.int x2), some (.int x3), some (.ref x4), some (.int x7), some (.int (x6 + 1)), some (.int x7), some (.int x8)]) am_cc1 rfl rfl dc15_7.1.2.2 ?_
    refine am_s_goto rfl dc15_7.2.1 ?_
    exact q1 c1
  · refine am_s_iload rfl dc15_4.1.2.2 ?_
    refine am_s_iload rfl dc15_4.2.1.1 ?_
    refine am_s_iushr dc15_4.2.1.2 ?_
    refine am_s_iconst am_cc1 dc15_4.2.2.1 ?_
    refine am_s_iand dc15_4.2.2.2 ?_
    refine am_s_if_eq dc15_5.1.1.1 rfl (fun c2 => ?_) (fun c2 => ?_)
    · refine am_s_iinc (ls' := [some (.ref 112), some (.ref x1), some (.int x2), some (.int x3), some (.ref x4), some (.int x5), some (.int x6), some (.int x7), some (.int (x8 + 1))]) am_cc1 rfl rfl dc15_6.2.2.1 ?_
      refine am_s_goto rfl dc15_6.2.2.2 ?_
      exact q2 c1 c2
    · refine am_s_iload rfl dc15_5.1.1.2 ?_
      refine am_s_aload_n rfl dc15_5.1.2.1 ?_
      refine am_s_aload_n rfl dc15_5.1.2.2 ?_
      refine am_s_iload_n rfl dc15_5.2.1.1 ?_
      refine am_s_iconst am_cc4 dc15_5.2.1.2 ?_
      refine am_s_imul dc15_5.2.2.1 ?_
      refine am_s_iload rfl dc15_5.2.2.2 ?_
      refine am_s_iadd dc15_6.1.1.1 ?_
      refine am_s_iload rfl dc15_6.1.1.2 ?_
      refine am_s_aload rfl dc15_6.1.2.1 ?_
      exact am_s_virtual true dc15_6.1.2.2 rfl (by decide) rfl rfl rfl (q3 c1 c2)
theorem t15_50 {sc : Option (Nat × (Nat → Int32))} {d k n : Nat} {P : am_O → Prop} {I : am_I} {J : am_J} {Pf : am_R} (hp : am_PF Pf) {x1 : Nat} (hx1 : am_SH[x1]? = some (.inl 9)) {x2 : Int32} {x3 : Int32} {x4 : Nat} {Lx4 : Nat} (hx4 : am_SH[x4]? = some (.inr (0, Lx4))) {l5 : Option Value} {x6 : Int32} {l7 : Option Value} {l8 : Option Value} {s0 : Int32} (q1 : am_go sc d 15 (52, [some (.ref 112), some (.ref x1), some (.int x2), some (.int x3), some (.ref x4), some (.int s0), some (.int x6), l7, l8], [], (am_SH, I, J, Pf), k, n) P) : am_go sc d 15 (50, [some (.ref 112), some (.ref x1), some (.int x2), some (.int x3), some (.ref x4), l5, some (.int x6), l7, l8], [.int s0], (am_SH, I, J, Pf), k, n) P := by
  refine am_s_istore (ls' := [some (.ref 112), some (.ref x1), some (.int x2), some (.int x3), some (.ref x4), some (.int s0), some (.int x6), l7, l8]) rfl rfl dc15_3.1.2.1 ?_
  exact q1
theorem t15_94 {sc : Option (Nat × (Nat → Int32))} {d k n : Nat} {P : am_O → Prop} {I : am_I} {J : am_J} {Pf : am_R} (hp : am_PF Pf) {x1 : Nat} (hx1 : am_SH[x1]? = some (.inl 9)) {x2 : Int32} {x3 : Int32} {x4 : Nat} {Lx4 : Nat} (hx4 : am_SH[x4]? = some (.inr (0, Lx4))) {x5 : Int32} {x6 : Int32} {l7 : Option Value} {x8 : Int32} {s0 : Int32} {s1 : Int32} (q1 : am_go sc d 15 (58, [some (.ref 112), some (.ref x1), some (.int x2), some (.int x3), some (.ref x4), some (.int x5), some (.int x6), some (.int (s0 ||| s1)), some (.int (x8 + 1))], [], (am_SH, I, J, Pf), k, n) P) : am_go sc d 15 (94, [some (.ref 112), some (.ref x1), some (.int x2), some (.int x3), some (.ref x4), some (.int x5), some (.int x6), l7, some (.int x8)], [.int s1, .int s0], (am_SH, I, J, Pf), k, n) P := by
  refine am_s_ior dc15_6.2.1.1 ?_
  refine am_s_istore (ls' := [some (.ref 112), some (.ref x1), some (.int x2), some (.int x3), some (.ref x4), some (.int x5), some (.int x6), some (.int (s0 ||| s1)), some (.int x8)]) rfl rfl dc15_6.2.1.2 ?_
  refine am_s_iinc (ls' := [some (.ref 112), some (.ref x1), some (.int x2), some (.int x3), some (.ref x4), some (.int x5), some (.int x6), some (.int (s0 ||| s1)), some (.int (x8 + 1))]) am_cc1 rfl rfl dc15_6.2.2.1 ?_
  refine am_s_goto rfl dc15_6.2.2.2 ?_
  exact q1
-- partEnds (LPrunedParses$Table;II[I)I
theorem dc16_0 : (((decode (am_by 16) 0 = .ok (.aload_n 0, 1)) ∧ (decode (am_by 16) 1 = .ok (.getfield 42, 3))) ∧ ((decode (am_by 16) 4 = .ok (.getfield 202, 3)) ∧ (decode (am_by 16) 7 = .ok (.iload_n 2, 1)))) ∧ (((decode (am_by 16) 8 = .ok (.iaload, 1)) ∧ (decode (am_by 16) 9 = .ok (.istore 5, 2))) ∧ ((decode (am_by 16) 11 = .ok (.aload_n 0, 1)) ∧ (decode (am_by 16) 12 = .ok (.getfield 42, 3)))) := by decide +kernel
theorem dc16_1 : (((decode (am_by 16) 15 = .ok (.getfield 188, 3)) ∧ (decode (am_by 16) 18 = .ok (.iload_n 2, 1))) ∧ ((decode (am_by 16) 19 = .ok (.iaload, 1)) ∧ (decode (am_by 16) 20 = .ok (.iconst 1, 1)))) ∧ (((decode (am_by 16) 21 = .ok (.if_icmp .ne 14, 3)) ∧ (decode (am_by 16) 24 = .ok (.aload 4, 2))) ∧ ((decode (am_by 16) 26 = .ok (.iload 5, 2)) ∧ (decode (am_by 16) 28 = .ok (.bipush 25, 2)))) := by decide +kernel
theorem dc16_2 : (((decode (am_by 16) 30 = .ok (.imul, 1)) ∧ (decode (am_by 16) 31 = .ok (.iload_n 3, 1))) ∧ ((decode (am_by 16) 32 = .ok (.iadd, 1)) ∧ (decode (am_by 16) 33 = .ok (.iaload, 1)))) ∧ (((decode (am_by 16) 34 = .ok (.ireturn, 1)) ∧ (decode (am_by 16) 35 = .ok (.aload_n 0, 1))) ∧ ((decode (am_by 16) 36 = .ok (.getfield 42, 3)) ∧ (decode (am_by 16) 39 = .ok (.getfield 188, 3)))) := by decide +kernel
theorem dc16_3 : (((decode (am_by 16) 42 = .ok (.iload_n 2, 1)) ∧ (decode (am_by 16) 43 = .ok (.iaload, 1))) ∧ ((decode (am_by 16) 44 = .ok (.ifCond .ne 37, 3)) ∧ (decode (am_by 16) 47 = .ok (.iload_n 3, 1)))) ∧ (((decode (am_by 16) 48 = .ok (.aload_n 1, 1)) ∧ (decode (am_by 16) 49 = .ok (.getfield 104, 3))) ∧ ((decode (am_by 16) 52 = .ok (.if_icmp .lt 5, 3)) ∧ (decode (am_by 16) 55 = .ok (.iconst 0, 1)))) := by decide +kernel
theorem dc16_4 : (((decode (am_by 16) 56 = .ok (.ireturn, 1)) ∧ (decode (am_by 16) 57 = .ok (.aload_n 0, 1))) ∧ ((decode (am_by 16) 58 = .ok (.getfield 52, 3)) ∧ (decode (am_by 16) 61 = .ok (.getfield 205, 3)))) ∧ (((decode (am_by 16) 64 = .ok (.aload_n 1, 1)) ∧ (decode (am_by 16) 65 = .ok (.getfield 121, 3))) ∧ ((decode (am_by 16) 68 = .ok (.iload_n 3, 1)) ∧ (decode (am_by 16) 69 = .ok (.iaload, 1)))) := by decide +kernel
theorem dc16_5 : (((decode (am_by 16) 70 = .ok (.iaload, 1)) ∧ (decode (am_by 16) 71 = .ok (.iload 5, 2))) ∧ ((decode (am_by 16) 73 = .ok (.iushr, 1)) ∧ (decode (am_by 16) 74 = .ok (.iconst 1, 1)))) ∧ (((decode (am_by 16) 75 = .ok (.iand, 1)) ∧ (decode (am_by 16) 76 = .ok (.iload_n 3, 1))) ∧ ((decode (am_by 16) 77 = .ok (.iconst 1, 1)) ∧ (decode (am_by 16) 78 = .ok (.iadd, 1)))) := by decide +kernel
theorem dc16_6 : (((decode (am_by 16) 79 = .ok (.ishl, 1)) ∧ (decode (am_by 16) 80 = .ok (.ireturn, 1))) ∧ ((decode (am_by 16) 81 = .ok (.iload_n 3, 1)) ∧ (decode (am_by 16) 82 = .ok (.iload 5, 2)))) ∧ (((decode (am_by 16) 84 = .ok (.iadd, 1)) ∧ (decode (am_by 16) 85 = .ok (.aload_n 1, 1))) ∧ ((decode (am_by 16) 86 = .ok (.getfield 104, 3)) ∧ (decode (am_by 16) 89 = .ok (.if_icmp .le 5, 3)))) := by decide +kernel
theorem dc16_7 : (((decode (am_by 16) 92 = .ok (.iconst 0, 1)) ∧ (decode (am_by 16) 93 = .ok (.ireturn, 1))) ∧ ((decode (am_by 16) 94 = .ok (.iconst 0, 1)) ∧ (decode (am_by 16) 95 = .ok (.istore 6, 2)))) ∧ (((decode (am_by 16) 97 = .ok (.iload 6, 2)) ∧ (decode (am_by 16) 99 = .ok (.iload 5, 2))) ∧ ((decode (am_by 16) 101 = .ok (.if_icmp .ge 38, 3)) ∧ (decode (am_by 16) 104 = .ok (.aload_n 1, 1)))) := by decide +kernel
theorem dc16_8 : (((decode (am_by 16) 105 = .ok (.getfield 121, 3)) ∧ (decode (am_by 16) 108 = .ok (.iload_n 3, 1))) ∧ ((decode (am_by 16) 109 = .ok (.iload 6, 2)) ∧ (decode (am_by 16) 111 = .ok (.iadd, 1)))) ∧ (((decode (am_by 16) 112 = .ok (.iaload, 1)) ∧ (decode (am_by 16) 113 = .ok (.aload_n 0, 1))) ∧ ((decode (am_by 16) 114 = .ok (.getfield 42, 3)) ∧ (decode (am_by 16) 117 = .ok (.getfield 208, 3)))) := by decide +kernel
theorem dc16_9 : (((decode (am_by 16) 120 = .ok (.iload_n 2, 1)) ∧ (decode (am_by 16) 121 = .ok (.bipush 8, 2))) ∧ ((decode (am_by 16) 123 = .ok (.imul, 1)) ∧ (decode (am_by 16) 124 = .ok (.iload 6, 2)))) ∧ (((decode (am_by 16) 126 = .ok (.iadd, 1)) ∧ (decode (am_by 16) 127 = .ok (.iaload, 1))) ∧ ((decode (am_by 16) 128 = .ok (.if_icmp .eq 5, 3)) ∧ (decode (am_by 16) 131 = .ok (.iconst 0, 1)))) := by decide +kernel
theorem dc16_10 : (((decode (am_by 16) 132 = .ok (.ireturn, 1)) ∧ (decode (am_by 16) 133 = .ok (.iinc 6 1, 3))) ∧ ((decode (am_by 16) 136 = .ok (.goto (-39), 3)) ∧ (decode (am_by 16) 139 = .ok (.iconst 1, 1)))) ∧ (((decode (am_by 16) 140 = .ok (.iload_n 3, 1)) ∧ (decode (am_by 16) 141 = .ok (.iload 5, 2))) ∧ ((decode (am_by 16) 143 = .ok (.iadd, 1)) ∧ (decode (am_by 16) 144 = .ok (.ishl, 1)))) := by decide +kernel
theorem dc16_11 : decode (am_by 16) 145 = .ok (.ireturn, 1) := by decide +kernel
theorem t16_0 {sc : Option (Nat × (Nat → Int32))} {d k n : Nat} {P : am_O → Prop} {I : am_I} {J : am_J} {Pf : am_R} (hp : am_PF Pf) {x1 : Nat} (hx1 : am_SH[x1]? = some (.inl 9)) {x2 : Int32} {x3 : Int32} {x4 : Nat} {Lx4 : Nat} (hx4 : am_SH[x4]? = some (.inr (0, Lx4))) {l5 : Option Value} {l6 : Option Value} {r112_0 : Nat} {r112_1 : Nat} (q1 : Pf 112 0 = some r112_0) (q2 : am_SH[r112_0]? = some (.inl 4)) (q3 : am_in x2 80 = true) (q4 : Pf 112 0 = some r112_0) (q5 : am_SH[r112_0]? = some (.inl 4)) (q6 : am_in x2 80 = true) (q7 : (¬ (I (r112_0 + 5) (Int32.toNatClampNeg x2)) = 1) → Pf 112 0 = some r112_0) (q8 : (¬ (I (r112_0 + 5) (Int32.toNatClampNeg x2)) = 1) → am_SH[r112_0]? = some (.inl 4)) (q9 : (¬ (I (r112_0 + 5) (Int32.toNatClampNeg x2)) = 1) → am_in x2 80 = true) (q10 : (¬ (I (r112_0 + 5) (Int32.toNatClampNeg x2)) = 1) → (¬ (I (r112_0 + 5) (Int32.toNatClampNeg x2)) = 0) → ((x3 + (I (r112_0 + 6) (Int32.toNatClampNeg x2))) ≤ (I x1 1)) → am_go sc d 16 (97, [some (.ref 112), some (.ref x1), some (.int x2), some (.int x3), some (.ref x4), some (.int (I (r112_0 + 6) (Int32.toNatClampNeg x2))), some (.int 0)], [], (am_SH, I, J, Pf), k, n) P) (q11 : (¬ (I (r112_0 + 5) (Int32.toNatClampNeg x2)) = 1) → (¬ (I (r112_0 + 5) (Int32.toNatClampNeg x2)) = 0) → (¬ ((x3 + (I (r112_0 + 6) (Int32.toNatClampNeg x2))) ≤ (I x1 1))) → P (.inl (some (.int 0)), (am_SH, I, J, Pf), k, n)) (q12 : (¬ (I (r112_0 + 5) (Int32.toNatClampNeg x2)) = 1) → (¬ (¬ (I (r112_0 + 5) (Int32.toNatClampNeg x2)) = 0)) → (x3 < (I x1 1)) → Pf 112 1 = some r112_1) (q13 : (¬ (I (r112_0 + 5) (Int32.toNatClampNeg x2)) = 1) → (¬ (¬ (I (r112_0 + 5) (Int32.toNatClampNeg x2)) = 0)) → (x3 < (I x1 1)) → am_SH[r112_1]? = some (.inl 7)) (q14 : (¬ (I (r112_0 + 5) (Int32.toNatClampNeg x2)) = 1) → (¬ (¬ (I (r112_0 + 5) (Int32.toNatClampNeg x2)) = 0)) → (x3 < (I x1 1)) → am_in x3 24 = true) (q15 : (¬ (I (r112_0 + 5) (Int32.toNatClampNeg x2)) = 1) → (¬ (¬ (I (r112_0 + 5) (Int32.toNatClampNeg x2)) = 0)) → (x3 < (I x1 1)) → am_in (I (x1 + 1) (Int32.toNatClampNeg x3)) 127 = true) (q16 : (¬ (I (r112_0 + 5) (Int32.toNatClampNeg x2)) = 1) → (¬ (¬ (I (r112_0 + 5) (Int32.toNatClampNeg x2)) = 0)) → (x3 < (I x1 1)) → P (.inl (some (.int (((UInt32.toInt32 (Int32.toUInt32 (I (r112_1 + 7) (Int32.toNatClampNeg (I (x1 + 1) (Int32.toNatClampNeg x3)))) >>> (Int32.toUInt32 (I (r112_0 + 6) (Int32.toNatClampNeg x2)) &&& Int32.toUInt32 31))) &&& 1) <<< ((x3 + 1) &&& 31)))), (am_SH, I, J, Pf), k, n)) (q17 : (¬ (I (r112_0 + 5) (Int32.toNatClampNeg x2)) = 1) → (¬ (¬ (I (r112_0 + 5) (Int32.toNatClampNeg x2)) = 0)) → (¬ (x3 < (I x1 1))) → P (.inl (some (.int 0)), (am_SH, I, J, Pf), k, n)) (q18 : (¬ (¬ (I (r112_0 + 5) (Int32.toNatClampNeg x2)) = 1)) → am_in (((I (r112_0 + 6) (Int32.toNatClampNeg x2)) * 25) + x3) Lx4 = true) (q19 : (¬ (¬ (I (r112_0 + 5) (Int32.toNatClampNeg x2)) = 1)) → P (.inl (some (.int (I x4 (Int32.toNatClampNeg (((I (r112_0 + 6) (Int32.toNatClampNeg x2)) * 25) + x3))))), (am_SH, I, J, Pf), k, n)) : am_go sc d 16 (0, [some (.ref 112), some (.ref x1), some (.int x2), some (.int x3), some (.ref x4), l5, l6], [], (am_SH, I, J, Pf), k, n) P := by
  refine am_s_aload_n rfl dc16_0.1.1.1 ?_
  refine am_s_getR (r := r112_0) dc16_0.1.1.2 rfl rfl rfl (q1) ?_
  refine am_s_getR (r := r112_0 + 6) dc16_0.1.2.1 rfl (q2) rfl (am_r4_7 hp (q2)) ?_
  refine am_s_iload_n rfl dc16_0.1.2.2 ?_
  refine am_x_iaload (x := I (r112_0 + 6) (Int32.toNatClampNeg x2)) dc16_0.2.1.1 (am_h4_7 (q2)) (q3) rfl rfl ?_
  refine am_s_istore (ls' := [some (.ref 112), some (.ref x1), some (.int x2), some (.int x3), some (.ref x4), some (.int (I (r112_0 + 6) (Int32.toNatClampNeg x2))), l6]) rfl rfl dc16_0.2.1.2 ?_
  refine am_s_aload_n rfl dc16_0.2.2.1 ?_
  refine am_s_getR (r := r112_0) dc16_0.2.2.2 rfl rfl rfl (q4) ?_
  refine am_s_getR (r := r112_0 + 5) dc16_1.1.1.1 rfl (q5) rfl (am_r4_6 hp (q5)) ?_
  refine am_s_iload_n rfl dc16_1.1.1.2 ?_
  refine am_x_iaload (x := I (r112_0 + 5) (Int32.toNatClampNeg x2)) dc16_1.1.2.1 (am_h4_6 (q5)) (q6) rfl rfl ?_
  refine am_s_iconst am_cc1 dc16_1.1.2.2 ?_
  refine am_s_ic_ne dc16_1.2.1.1 rfl (fun c1 => ?_) (fun c1 => ?_)
  · refine am_s_aload_n rfl dc16_2.2.1.2 ?_
    refine am_s_getR (r := r112_0) dc16_2.2.2.1 rfl rfl rfl (q7 c1) ?_
    refine am_s_getR (r := r112_0 + 5) dc16_2.2.2.2 rfl (q8 c1) rfl (am_r4_6 hp (q8 c1)) ?_
    refine am_s_iload_n rfl dc16_3.1.1.1 ?_
    refine am_x_iaload (x := I (r112_0 + 5) (Int32.toNatClampNeg x2)) dc16_3.1.1.2 (am_h4_6 (q8 c1)) (q9 c1) rfl rfl ?_
    refine am_s_if_ne dc16_3.1.2.1 rfl (fun c2 => ?_) (fun c2 => ?_)
    · refine am_s_iload_n rfl dc16_6.1.2.1 ?_
      refine am_s_iload rfl dc16_6.1.2.2 ?_
      refine am_s_iadd dc16_6.2.1.1 ?_
      refine am_s_aload_n rfl dc16_6.2.1.2 ?_
      refine am_x_getI (x := I x1 1) dc16_6.2.2.1 rfl hx1 (Or.inl rfl) rfl ?_
      refine am_s_ic_le dc16_6.2.2.2 rfl (fun c3 => ?_) (fun c3 => ?_)
      · refine am_s_iconst am_cc0 dc16_7.1.2.1 ?_
        refine am_s_istore (ls' := [some (.ref 112), some (.ref x1), some (.int x2), some (.int x3), some (.ref x4), some (.int (I (r112_0 + 6) (Int32.toNatClampNeg x2))), some (.int 0)]) rfl rfl dc16_7.1.2.2 ?_
        exact q10 c1 c2 c3
      · refine am_s_iconst am_cc0 dc16_7.1.1.1 ?_
        exact am_s_ireturn dc16_7.1.1.2 rfl (q11 c1 c2 c3)
    · refine am_s_iload_n rfl dc16_3.1.2.2 ?_
      refine am_s_aload_n rfl dc16_3.2.1.1 ?_
      refine am_x_getI (x := I x1 1) dc16_3.2.1.2 rfl hx1 (Or.inl rfl) rfl ?_
      refine am_s_ic_lt dc16_3.2.2.1 rfl (fun c3 => ?_) (fun c3 => ?_)
      · refine am_s_aload_n rfl dc16_4.1.1.2 ?_
        refine am_s_getR (r := r112_1) dc16_4.1.2.1 rfl rfl rfl (q12 c1 c2 c3) ?_
        refine am_s_getR (r := r112_1 + 7) dc16_4.1.2.2 rfl (q13 c1 c2 c3) rfl (am_r7_8 hp (q13 c1 c2 c3)) ?_
        refine am_s_aload_n rfl dc16_4.2.1.1 ?_
        refine am_s_getR (r := x1 + 1) dc16_4.2.1.2 rfl hx1 rfl (am_r9_0 hp hx1) ?_
        refine am_s_iload_n rfl dc16_4.2.2.1 ?_
        refine am_x_iaload (x := I (x1 + 1) (Int32.toNatClampNeg x3)) dc16_4.2.2.2 (am_h9_0 hx1) (q14 c1 c2 c3) rfl rfl ?_
        refine am_x_iaload (x := I (r112_1 + 7) (Int32.toNatClampNeg (I (x1 + 1) (Int32.toNatClampNeg x3)))) dc16_5.1.1.1 (am_h7_8 (q13 c1 c2 c3)) (q15 c1 c2 c3) rfl rfl ?_
        refine am_s_iload rfl dc16_5.1.1.2 ?_
        refine am_s_iushr dc16_5.1.2.1 ?_
        refine am_s_iconst am_cc1 dc16_5.1.2.2 ?_
        refine am_s_iand dc16_5.2.1.1 ?_
        refine am_s_iload_n rfl dc16_5.2.1.2 ?_
        refine am_s_iconst am_cc1 dc16_5.2.2.1 ?_
        refine am_s_iadd dc16_5.2.2.2 ?_
        refine am_s_ishl dc16_6.1.1.1 ?_
        exact am_s_ireturn dc16_6.1.1.2 rfl (q16 c1 c2 c3)
      · refine am_s_iconst am_cc0 dc16_3.2.2.2 ?_
        exact am_s_ireturn dc16_4.1.1.1 rfl (q17 c1 c2 c3)
  · refine am_s_aload rfl dc16_1.2.1.2 ?_
    refine am_s_iload rfl dc16_1.2.2.1 ?_
    refine am_s_bipush am_cb25 dc16_1.2.2.2 ?_
    refine am_s_imul dc16_2.1.1.1 ?_
    refine am_s_iload_n rfl dc16_2.1.1.2 ?_
    refine am_s_iadd dc16_2.1.2.1 ?_
    refine am_x_iaload (x := I x4 (Int32.toNatClampNeg (((I (r112_0 + 6) (Int32.toNatClampNeg x2)) * 25) + x3))) dc16_2.1.2.2 hx4 (q18 c1) rfl rfl ?_
    exact am_s_ireturn dc16_2.2.1.1 rfl (q19 c1)
theorem t16_97 {sc : Option (Nat × (Nat → Int32))} {d k n : Nat} {P : am_O → Prop} {I : am_I} {J : am_J} {Pf : am_R} (hp : am_PF Pf) {x1 : Nat} (hx1 : am_SH[x1]? = some (.inl 9)) {x2 : Int32} {x3 : Int32} {l4 : Option Value} {x5 : Int32} {x6 : Int32} {r112_0 : Nat} (q1 : (x5 ≤ x6) → P (.inl (some (.int (1 <<< ((x3 + x5) &&& 31)))), (am_SH, I, J, Pf), k, n)) (q2 : (¬ (x5 ≤ x6)) → am_in (x3 + x6) 24 = true) (q3 : (¬ (x5 ≤ x6)) → Pf 112 0 = some r112_0) (q4 : (¬ (x5 ≤ x6)) → am_SH[r112_0]? = some (.inl 4)) (q5 : (¬ (x5 ≤ x6)) → am_in ((x2 * 8) + x6) 640 = true) (q6 : (¬ (x5 ≤ x6)) → ((I (x1 + 1) (Int32.toNatClampNeg (x3 + x6))) = (I (r112_0 + 7) (Int32.toNatClampNeg ((x2 * 8) + x6)))) → am_go sc d 16 (97, [some (.ref 112), some (.ref x1), some (.int x2), some (.int x3), l4, some (.int x5), some (.int (x6 + 1))], [], (am_SH, I, J, Pf), k, n) P) (q7 : (¬ (x5 ≤ x6)) → (¬ ((I (x1 + 1) (Int32.toNatClampNeg (x3 + x6))) = (I (r112_0 + 7) (Int32.toNatClampNeg ((x2 * 8) + x6))))) → P (.inl (some (.int 0)), (am_SH, I, J, Pf), k, n)) : am_go sc d 16 (97, [some (.ref 112), some (.ref x1), some (.int x2), some (.int x3), l4, some (.int x5), some (.int x6)], [], (am_SH, I, J, Pf), k, n) P := by
  refine am_s_iload rfl dc16_7.2.1.1 ?_
  refine am_s_iload rfl dc16_7.2.1.2 ?_
  refine am_s_ic_ge dc16_7.2.2.1 rfl (fun c1 => ?_) (fun c1 => ?_)
  · refine am_s_iconst am_cc1 dc16_10.1.2.2 ?_
    refine am_s_iload_n rfl dc16_10.2.1.1 ?_
    refine am_s_iload rfl dc16_10.2.1.2 ?_
    refine am_s_iadd dc16_10.2.2.1 ?_
    refine am_s_ishl dc16_10.2.2.2 ?_
    exact am_s_ireturn dc16_11 rfl (q1 c1)
  · refine am_s_aload_n rfl dc16_7.2.2.2 ?_
    refine am_s_getR (r := x1 + 1) dc16_8.1.1.1 rfl hx1 rfl (am_r9_0 hp hx1) ?_
    refine am_s_iload_n rfl dc16_8.1.1.2 ?_
    refine am_s_iload rfl dc16_8.1.2.1 ?_
    refine am_s_iadd dc16_8.1.2.2 ?_
    refine am_x_iaload (x := I (x1 + 1) (Int32.toNatClampNeg (x3 + x6))) dc16_8.2.1.1 (am_h9_0 hx1) (q2 c1) rfl rfl ?_
    refine am_s_aload_n rfl dc16_8.2.1.2 ?_
    refine am_s_getR (r := r112_0) dc16_8.2.2.1 rfl rfl rfl (q3 c1) ?_
    refine am_s_getR (r := r112_0 + 7) dc16_8.2.2.2 rfl (q4 c1) rfl (am_r4_8 hp (q4 c1)) ?_
    refine am_s_iload_n rfl dc16_9.1.1.1 ?_
    refine am_s_bipush am_cb8 dc16_9.1.1.2 ?_
    refine am_s_imul dc16_9.1.2.1 ?_
    refine am_s_iload rfl dc16_9.1.2.2 ?_
    refine am_s_iadd dc16_9.2.1.1 ?_
    refine am_x_iaload (x := I (r112_0 + 7) (Int32.toNatClampNeg ((x2 * 8) + x6))) dc16_9.2.1.2 (am_h4_8 (q4 c1)) (q5 c1) rfl rfl ?_
    refine am_s_ic_eq dc16_9.2.2.1 rfl (fun c2 => ?_) (fun c2 => ?_)
    · refine am_s_iinc (ls' := [some (.ref 112), some (.ref x1), some (.int x2), some (.int x3), l4, some (.int x5), some (.int (x6 + 1))]) am_cc1 rfl rfl dc16_10.1.1.2 ?_
      refine am_s_goto rfl dc16_10.1.2.1 ?_
      exact q6 c1 c2
    · refine am_s_iconst am_cc0 dc16_9.2.2.2 ?_
      exact am_s_ireturn dc16_10.1.1.1 rfl (q7 c1 c2)
-- fittingSigns (LPrunedParses$Table;LPrunedParses$Table;II)LPrunedParses$Signs;
theorem dc17_0 : (((decode (am_by 17) 0 = .ok (.aload_n 2, 1)) ∧ (decode (am_by 17) 1 = .ok (.aload_n 1, 1))) ∧ ((decode (am_by 17) 2 = .ok (.invokevirtual 211, 3)) ∧ (decode (am_by 17) 5 = .ok (.aload_n 0, 1)))) ∧ (((decode (am_by 17) 6 = .ok (.getfield 30, 3)) ∧ (decode (am_by 17) 9 = .ok (.invokevirtual 214, 3))) ∧ ((decode (am_by 17) 12 = .ok (.bipush 32, 2)) ∧ (decode (am_by 17) 14 = .ok (.istore 5, 2)))) := by decide +kernel
theorem dc17_1 : (((decode (am_by 17) 16 = .ok (.iload 5, 2)) ∧ (decode (am_by 17) 18 = .ok (.bipush 126, 2))) ∧ ((decode (am_by 17) 20 = .ok (.if_icmp .gt 104, 3)) ∧ (decode (am_by 17) 23 = .ok (.aload_n 0, 1)))) ∧ (((decode (am_by 17) 24 = .ok (.getfield 52, 3)) ∧ (decode (am_by 17) 27 = .ok (.iload 5, 2))) ∧ ((decode (am_by 17) 29 = .ok (.invokevirtual 217, 3)) ∧ (decode (am_by 17) 32 = .ok (.istore 6, 2)))) := by decide +kernel
theorem dc17_2 : (((decode (am_by 17) 34 = .ok (.iload 6, 2)) ∧ (decode (am_by 17) 36 = .ok (.iload 5, 2))) ∧ ((decode (am_by 17) 38 = .ok (.if_icmp .ge 27, 3)) ∧ (decode (am_by 17) 41 = .ok (.aload_n 0, 1)))) ∧ (((decode (am_by 17) 42 = .ok (.getfield 30, 3)) ∧ (decode (am_by 17) 45 = .ok (.iload 6, 2))) ∧ ((decode (am_by 17) 47 = .ok (.invokevirtual 138, 3)) ∧ (decode (am_by 17) 50 = .ok (.ifCond .eq 68, 3)))) := by decide +kernel
theorem dc17_3 : (((decode (am_by 17) 53 = .ok (.aload_n 0, 1)) ∧ (decode (am_by 17) 54 = .ok (.getfield 30, 3))) ∧ ((decode (am_by 17) 57 = .ok (.iload 5, 2)) ∧ (decode (am_by 17) 59 = .ok (.invokevirtual 220, 3)))) ∧ (((decode (am_by 17) 62 = .ok (.goto 56, 3)) ∧ (decode (am_by 17) 65 = .ok (.aload_n 2, 1))) ∧ ((decode (am_by 17) 66 = .ok (.getfield 121, 3)) ∧ (decode (am_by 17) 69 = .ok (.iload 4, 2)))) := by decide +kernel
theorem dc17_4 : (((decode (am_by 17) 71 = .ok (.iload 5, 2)) ∧ (decode (am_by 17) 73 = .ok (.iastore, 1))) ∧ ((decode (am_by 17) 74 = .ok (.aload_n 0, 1)) ∧ (decode (am_by 17) 75 = .ok (.aload_n 2, 1)))) ∧ (((decode (am_by 17) 76 = .ok (.iconst 0, 1)) ∧ (decode (am_by 17) 77 = .ok (.iload 5, 2))) ∧ ((decode (am_by 17) 79 = .ok (.bipush 32, 2)) ∧ (decode (am_by 17) 81 = .ok (.if_icmp .ne 10, 3)))) := by decide +kernel
theorem dc17_5 : (((decode (am_by 17) 84 = .ok (.aload_n 2, 1)) ∧ (decode (am_by 17) 85 = .ok (.getfield 104, 3))) ∧ ((decode (am_by 17) 88 = .ok (.goto 5, 3)) ∧ (decode (am_by 17) 91 = .ok (.iload 4, 2)))) ∧ (((decode (am_by 17) 93 = .ok (.invokevirtual 111, 3)) ∧ (decode (am_by 17) 96 = .ok (.aload_n 2, 1))) ∧ ((decode (am_by 17) 97 = .ok (.iload_n 3, 1)) ∧ (decode (am_by 17) 98 = .ok (.iconst 0, 1)))) := by decide +kernel
theorem dc17_6 : (((decode (am_by 17) 99 = .ok (.aload_n 2, 1)) ∧ (decode (am_by 17) 100 = .ok (.getfield 104, 3))) ∧ ((decode (am_by 17) 103 = .ok (.invokevirtual 224, 3)) ∧ (decode (am_by 17) 106 = .ok (.ifCond .eq 12, 3)))) ∧ (((decode (am_by 17) 109 = .ok (.aload_n 0, 1)) ∧ (decode (am_by 17) 110 = .ok (.getfield 30, 3))) ∧ ((decode (am_by 17) 113 = .ok (.iload 5, 2)) ∧ (decode (am_by 17) 115 = .ok (.invokevirtual 220, 3)))) := by decide +kernel
theorem dc17_7 : ((decode (am_by 17) 118 = .ok (.iinc 5 1, 3)) ∧ (decode (am_by 17) 121 = .ok (.goto (-105), 3))) ∧ ((decode (am_by 17) 124 = .ok (.aload_n 0, 1)) ∧ ((decode (am_by 17) 125 = .ok (.getfield 30, 3)) ∧ (decode (am_by 17) 128 = .ok (.areturn, 1)))) := by decide +kernel
theorem t17_0 {sc : Option (Nat × (Nat → Int32))} {d k n : Nat} {P : am_O → Prop} {I : am_I} {J : am_J} {Pf : am_R} (hp : am_PF Pf) {x1 : Nat} (hx1 : am_SH[x1]? = some (.inl 9)) {x2 : Nat} (hx2 : am_SH[x2]? = some (.inl 9)) {x3 : Int32} {x4 : Int32} {l5 : Option Value} {l6 : Option Value} (q1 : am_mth d 109 [.ref x2, .ref x1] (am_SH, I, J, Pf) (am_af sc d 17 2 [some (.ref 112), some (.ref x1), some (.ref x2), some (.int x3), some (.int x4), l5, l6] [.ref x1, .ref x2] [] (am_SH, I, J, Pf) k n false P)) : am_go sc d 17 (0, [some (.ref 112), some (.ref x1), some (.ref x2), some (.int x3), some (.int x4), l5, l6], [], (am_SH, I, J, Pf), k, n) P := by
  refine am_s_aload_n rfl dc17_0.1.1.1 ?_
  refine am_s_aload_n rfl dc17_0.1.1.2 ?_
  exact am_s_virtual false dc17_0.1.2.1 rfl (by decide) rfl hx2 rfl (q1)
theorem t17_16 {sc : Option (Nat × (Nat → Int32))} {d k n : Nat} {P : am_O → Prop} {I : am_I} {J : am_J} {Pf : am_R} (hp : am_PF Pf) {l1 : Option Value} {x2 : Nat} (hx2 : am_SH[x2]? = some (.inl 9)) {x3 : Int32} {x4 : Int32} {x5 : Int32} {l6 : Option Value} {r112_1 : Nat} (q1 : (126 < x5) → P (.inl (some (.ref 117)), (am_SH, I, J, Pf), k, n)) (q2 : (¬ (126 < x5)) → Pf 112 1 = some r112_1) (q3 : (¬ (126 < x5)) → am_SH[r112_1]? = some (.inl 7)) (q4 : (¬ (126 < x5)) → am_mth d 98 [.ref r112_1, .int x5] (am_SH, I, J, Pf) (am_af sc d 17 29 [some (.ref 112), l1, some (.ref x2), some (.int x3), some (.int x4), some (.int x5), l6] [.int x5, .ref r112_1] [] (am_SH, I, J, Pf) k n false P)) : am_go sc d 17 (16, [some (.ref 112), l1, some (.ref x2), some (.int x3), some (.int x4), some (.int x5), l6], [], (am_SH, I, J, Pf), k, n) P := by
  refine am_s_iload rfl dc17_1.1.1.1 ?_
  refine am_s_bipush am_cb126 dc17_1.1.1.2 ?_
  refine am_s_ic_gt dc17_1.1.2.1 rfl (fun c1 => ?_) (fun c1 => ?_)
  · refine am_s_aload_n rfl dc17_7.2.1 ?_
    refine am_s_getR (r := 117) dc17_7.2.2.1 rfl rfl rfl (hp _ _ _ rfl) ?_
    exact am_s_areturn dc17_7.2.2.2 rfl (q1 c1)
  · refine am_s_aload_n rfl dc17_1.1.2.2 ?_
    refine am_s_getR (r := r112_1) dc17_1.2.1.1 rfl rfl rfl (q2 c1) ?_
    refine am_s_iload rfl dc17_1.2.1.2 ?_
    exact am_s_virtual false dc17_1.2.2.1 rfl (by decide) rfl (q3 c1) rfl (q4 c1)
theorem t17_5 {sc : Option (Nat × (Nat → Int32))} {d k n : Nat} {P : am_O → Prop} {I : am_I} {J : am_J} {Pf : am_R} (hp : am_PF Pf) {l1 : Option Value} {x2 : Nat} (hx2 : am_SH[x2]? = some (.inl 9)) {x3 : Int32} {x4 : Int32} {l5 : Option Value} {l6 : Option Value} (q1 : am_mth d 75 [.ref 117] (am_SH, I, J, Pf) (am_af sc d 17 9 [some (.ref 112), l1, some (.ref x2), some (.int x3), some (.int x4), l5, l6] [.ref 117] [] (am_SH, I, J, Pf) k n false P)) : am_go sc d 17 (5, [some (.ref 112), l1, some (.ref x2), some (.int x3), some (.int x4), l5, l6], [], (am_SH, I, J, Pf), k, n) P := by
  refine am_s_aload_n rfl dc17_0.1.2.2 ?_
  refine am_s_getR (r := 117) dc17_0.2.1.1 rfl rfl rfl (hp _ _ _ rfl) ?_
  exact am_s_virtual false dc17_0.2.1.2 rfl (by decide) rfl rfl rfl (q1)
theorem t17_32 {sc : Option (Nat × (Nat → Int32))} {d k n : Nat} {P : am_O → Prop} {I : am_I} {J : am_J} {Pf : am_R} (hp : am_PF Pf) {l1 : Option Value} {x2 : Nat} (hx2 : am_SH[x2]? = some (.inl 9)) {x3 : Int32} {x4 : Int32} {x5 : Int32} {l6 : Option Value} {s0 : Int32} (q1 : (x5 ≤ s0) → am_in x4 24 = true) (q2 : (x5 ≤ s0) → (¬ x5 = 32) → am_mth d 2 [.ref 112, .ref x2, .int 0, .int x4] (am_SH, am_u I (x2 + 1) (Int32.toNatClampNeg x4) x5, J, Pf) (am_af sc d 17 93 [some (.ref 112), l1, some (.ref x2), some (.int x3), some (.int x4), some (.int x5), some (.int s0)] [.int x4, .int 0, .ref x2, .ref 112] [] (am_SH, am_u I (x2 + 1) (Int32.toNatClampNeg x4) x5, J, Pf) k n true P)) (q3 : (x5 ≤ s0) → (¬ (¬ x5 = 32)) → am_mth d 2 [.ref 112, .ref x2, .int 0, .int ((am_u I (x2 + 1) (Int32.toNatClampNeg x4) x5) x2 1)] (am_SH, am_u I (x2 + 1) (Int32.toNatClampNeg x4) x5, J, Pf) (am_af sc d 17 93 [some (.ref 112), l1, some (.ref x2), some (.int x3), some (.int x4), some (.int x5), some (.int s0)] [.int ((am_u I (x2 + 1) (Int32.toNatClampNeg x4) x5) x2 1), .int 0, .ref x2, .ref 112] [] (am_SH, am_u I (x2 + 1) (Int32.toNatClampNeg x4) x5, J, Pf) k n true P)) (q4 : (¬ (x5 ≤ s0)) → am_mth d 78 [.ref 117, .int s0] (am_SH, I, J, Pf) (am_af sc d 17 47 [some (.ref 112), l1, some (.ref x2), some (.int x3), some (.int x4), some (.int x5), some (.int s0)] [.int s0, .ref 117] [] (am_SH, I, J, Pf) k n false P)) : am_go sc d 17 (32, [some (.ref 112), l1, some (.ref x2), some (.int x3), some (.int x4), some (.int x5), l6], [.int s0], (am_SH, I, J, Pf), k, n) P := by
  refine am_s_istore (ls' := [some (.ref 112), l1, some (.ref x2), some (.int x3), some (.int x4), some (.int x5), some (.int s0)]) rfl rfl dc17_1.2.2.2 ?_
  refine am_s_iload rfl dc17_2.1.1.1 ?_
  refine am_s_iload rfl dc17_2.1.1.2 ?_
  refine am_s_ic_ge dc17_2.1.2.1 rfl (fun c1 => ?_) (fun c1 => ?_)
  · refine am_s_aload_n rfl dc17_3.2.1.2 ?_
    refine am_s_getR (r := x2 + 1) dc17_3.2.2.1 rfl hx2 rfl (am_r9_0 hp hx2) ?_
    refine am_s_iload rfl dc17_3.2.2.2 ?_
    refine am_s_iload rfl dc17_4.1.1.1 ?_
    refine am_s_iastore dc17_4.1.1.2 (am_h9_0 hx2) (q1 c1) rfl ?_
    refine am_s_aload_n rfl dc17_4.1.2.1 ?_
    refine am_s_aload_n rfl dc17_4.1.2.2 ?_
    refine am_s_iconst am_cc0 dc17_4.2.1.1 ?_
    refine am_s_iload rfl dc17_4.2.1.2 ?_
    refine am_s_bipush am_cb32 dc17_4.2.2.1 ?_
    refine am_s_ic_ne dc17_4.2.2.2 rfl (fun c2 => ?_) (fun c2 => ?_)
    · refine am_s_iload rfl dc17_5.1.2.2 ?_
      exact am_s_virtual true dc17_5.2.1.1 rfl (by decide) rfl rfl rfl (q2 c1 c2)
    · refine am_s_aload_n rfl dc17_5.1.1.1 ?_
      refine am_x_getI (x := (am_u I (x2 + 1) (Int32.toNatClampNeg x4) x5) x2 1) dc17_5.1.1.2 rfl hx2 (Or.inl rfl) rfl ?_
      refine am_s_goto rfl dc17_5.1.2.1 ?_
      exact am_s_virtual true dc17_5.2.1.1 rfl (by decide) rfl rfl rfl (q3 c1 c2)
  · refine am_s_aload_n rfl dc17_2.1.2.2 ?_
    refine am_s_getR (r := 117) dc17_2.2.1.1 rfl rfl rfl (hp _ _ _ rfl) ?_
    refine am_s_iload rfl dc17_2.2.1.2 ?_
    exact am_s_virtual false dc17_2.2.2.1 rfl (by decide) rfl rfl rfl (q4 c1)
theorem t17_12 {sc : Option (Nat × (Nat → Int32))} {d k n : Nat} {P : am_O → Prop} {I : am_I} {J : am_J} {Pf : am_R} (hp : am_PF Pf) {l1 : Option Value} {x2 : Nat} (hx2 : am_SH[x2]? = some (.inl 9)) {x3 : Int32} {x4 : Int32} {l5 : Option Value} {l6 : Option Value} (q1 : am_go sc d 17 (16, [some (.ref 112), l1, some (.ref x2), some (.int x3), some (.int x4), some (.int 32), l6], [], (am_SH, I, J, Pf), k, n) P) : am_go sc d 17 (12, [some (.ref 112), l1, some (.ref x2), some (.int x3), some (.int x4), l5, l6], [], (am_SH, I, J, Pf), k, n) P := by
  refine am_s_bipush am_cb32 dc17_0.2.2.1 ?_
  refine am_s_istore (ls' := [some (.ref 112), l1, some (.ref x2), some (.int x3), some (.int x4), some (.int 32), l6]) rfl rfl dc17_0.2.2.2 ?_
  exact q1
theorem t17_50 {sc : Option (Nat × (Nat → Int32))} {d k n : Nat} {P : am_O → Prop} {I : am_I} {J : am_J} {Pf : am_R} (hp : am_PF Pf) {l1 : Option Value} {x2 : Nat} (hx2 : am_SH[x2]? = some (.inl 9)) {x3 : Int32} {x4 : Int32} {x5 : Int32} {l6 : Option Value} {s0 : Int32} (q1 : (s0 = 0) → am_go sc d 17 (16, [some (.ref 112), l1, some (.ref x2), some (.int x3), some (.int x4), some (.int (x5 + 1)), l6], [], (am_SH, I, J, Pf), k, n) P) (q2 : (¬ (s0 = 0)) → am_mth d 77 [.ref 117, .int x5] (am_SH, I, J, Pf) (am_af sc d 17 59 [some (.ref 112), l1, some (.ref x2), some (.int x3), some (.int x4), some (.int x5), l6] [.int x5, .ref 117] [] (am_SH, I, J, Pf) k n false P)) : am_go sc d 17 (50, [some (.ref 112), l1, some (.ref x2), some (.int x3), some (.int x4), some (.int x5), l6], [.int s0], (am_SH, I, J, Pf), k, n) P := by
  refine am_s_if_eq dc17_2.2.2.2 rfl (fun c1 => ?_) (fun c1 => ?_)
  · refine am_s_iinc (ls' := [some (.ref 112), l1, some (.ref x2), some (.int x3), some (.int x4), some (.int (x5 + 1)), l6]) am_cc1 rfl rfl dc17_7.1.1 ?_
    refine am_s_goto rfl dc17_7.1.2 ?_
    exact q1 c1
  · refine am_s_aload_n rfl dc17_3.1.1.1 ?_
    refine am_s_getR (r := 117) dc17_3.1.1.2 rfl rfl rfl (hp _ _ _ rfl) ?_
    refine am_s_iload rfl dc17_3.1.2.1 ?_
    exact am_s_virtual false dc17_3.1.2.2 rfl (by decide) rfl rfl rfl (q2 c1)
theorem t17_96 {sc : Option (Nat × (Nat → Int32))} {d k n : Nat} {P : am_O → Prop} {I : am_I} {J : am_J} {Pf : am_R} (hp : am_PF Pf) {l1 : Option Value} {x2 : Nat} (hx2 : am_SH[x2]? = some (.inl 9)) {x3 : Int32} {x4 : Int32} {x5 : Int32} {l6 : Option Value} (q1 : am_mth d 118 [.ref x2, .int x3, .int 0, .int (I x2 1)] (am_SH, I, J, Pf) (am_af sc d 17 103 [some (.ref 112), l1, some (.ref x2), some (.int x3), some (.int x4), some (.int x5), l6] [.int (I x2 1), .int 0, .int x3, .ref x2] [] (am_SH, I, J, Pf) k n false P)) : am_go sc d 17 (96, [some (.ref 112), l1, some (.ref x2), some (.int x3), some (.int x4), some (.int x5), l6], [], (am_SH, I, J, Pf), k, n) P := by
  refine am_s_aload_n rfl dc17_5.2.1.2 ?_
  refine am_s_iload_n rfl dc17_5.2.2.1 ?_
  refine am_s_iconst am_cc0 dc17_5.2.2.2 ?_
  refine am_s_aload_n rfl dc17_6.1.1.1 ?_
  refine am_x_getI (x := I x2 1) dc17_6.1.1.2 rfl hx2 (Or.inl rfl) rfl ?_
  exact am_s_virtual false dc17_6.1.2.1 rfl (by decide) rfl hx2 rfl (q1)
theorem t17_62 {sc : Option (Nat × (Nat → Int32))} {d k n : Nat} {P : am_O → Prop} {I : am_I} {J : am_J} {Pf : am_R} (hp : am_PF Pf) {l1 : Option Value} {x2 : Nat} (hx2 : am_SH[x2]? = some (.inl 9)) {x3 : Int32} {x4 : Int32} {x5 : Int32} {l6 : Option Value} (q1 : am_go sc d 17 (16, [some (.ref 112), l1, some (.ref x2), some (.int x3), some (.int x4), some (.int (x5 + 1)), l6], [], (am_SH, I, J, Pf), k, n) P) : am_go sc d 17 (62, [some (.ref 112), l1, some (.ref x2), some (.int x3), some (.int x4), some (.int x5), l6], [], (am_SH, I, J, Pf), k, n) P := by
  refine am_s_goto rfl dc17_3.2.1.1 ?_
  refine am_s_iinc (ls' := [some (.ref 112), l1, some (.ref x2), some (.int x3), some (.int x4), some (.int (x5 + 1)), l6]) am_cc1 rfl rfl dc17_7.1.1 ?_
  refine am_s_goto rfl dc17_7.1.2 ?_
  exact q1
theorem t17_106 {sc : Option (Nat × (Nat → Int32))} {d k n : Nat} {P : am_O → Prop} {I : am_I} {J : am_J} {Pf : am_R} (hp : am_PF Pf) {l1 : Option Value} {x2 : Nat} (hx2 : am_SH[x2]? = some (.inl 9)) {x3 : Int32} {x4 : Int32} {x5 : Int32} {l6 : Option Value} {s0 : Int32} (q1 : (s0 = 0) → am_go sc d 17 (16, [some (.ref 112), l1, some (.ref x2), some (.int x3), some (.int x4), some (.int (x5 + 1)), l6], [], (am_SH, I, J, Pf), k, n) P) (q2 : (¬ (s0 = 0)) → am_mth d 77 [.ref 117, .int x5] (am_SH, I, J, Pf) (am_af sc d 17 115 [some (.ref 112), l1, some (.ref x2), some (.int x3), some (.int x4), some (.int x5), l6] [.int x5, .ref 117] [] (am_SH, I, J, Pf) k n false P)) : am_go sc d 17 (106, [some (.ref 112), l1, some (.ref x2), some (.int x3), some (.int x4), some (.int x5), l6], [.int s0], (am_SH, I, J, Pf), k, n) P := by
  refine am_s_if_eq dc17_6.1.2.2 rfl (fun c1 => ?_) (fun c1 => ?_)
  · refine am_s_iinc (ls' := [some (.ref 112), l1, some (.ref x2), some (.int x3), some (.int x4), some (.int (x5 + 1)), l6]) am_cc1 rfl rfl dc17_7.1.1 ?_
    refine am_s_goto rfl dc17_7.1.2 ?_
    exact q1 c1
  · refine am_s_aload_n rfl dc17_6.2.1.1 ?_
    refine am_s_getR (r := 117) dc17_6.2.1.2 rfl rfl rfl (hp _ _ _ rfl) ?_
    refine am_s_iload rfl dc17_6.2.2.1 ?_
    exact am_s_virtual false dc17_6.2.2.2 rfl (by decide) rfl rfl rfl (q2 c1)
theorem t17_118 {sc : Option (Nat × (Nat → Int32))} {d k n : Nat} {P : am_O → Prop} {I : am_I} {J : am_J} {Pf : am_R} (hp : am_PF Pf) {l1 : Option Value} {x2 : Nat} (hx2 : am_SH[x2]? = some (.inl 9)) {x3 : Int32} {x4 : Int32} {x5 : Int32} {l6 : Option Value} (q1 : am_go sc d 17 (16, [some (.ref 112), l1, some (.ref x2), some (.int x3), some (.int x4), some (.int (x5 + 1)), l6], [], (am_SH, I, J, Pf), k, n) P) : am_go sc d 17 (118, [some (.ref 112), l1, some (.ref x2), some (.int x3), some (.int x4), some (.int x5), l6], [], (am_SH, I, J, Pf), k, n) P := by
  refine am_s_iinc (ls' := [some (.ref 112), l1, some (.ref x2), some (.int x3), some (.int x4), some (.int (x5 + 1)), l6]) am_cc1 rfl rfl dc17_7.1.1 ?_
  refine am_s_goto rfl dc17_7.1.2 ?_
  exact q1
-- explain (LPrunedParses$Table;I)I
theorem dc18_0 : (((decode (am_by 18) 0 = .ok (.aload_n 1, 1)) ∧ (decode (am_by 18) 1 = .ok (.iload_n 2, 1))) ∧ ((decode (am_by 18) 2 = .ok (.iconst 0, 1)) ∧ (decode (am_by 18) 3 = .ok (.aload_n 1, 1)))) ∧ (((decode (am_by 18) 4 = .ok (.getfield 104, 3)) ∧ (decode (am_by 18) 7 = .ok (.invokevirtual 224, 3))) ∧ ((decode (am_by 18) 10 = .ok (.ifCond .eq 5, 3)) ∧ (decode (am_by 18) 13 = .ok (.iconst 0, 1)))) := by decide +kernel
theorem dc18_1 : (((decode (am_by 18) 14 = .ok (.ireturn, 1)) ∧ (decode (am_by 18) 15 = .ok (.aload_n 1, 1))) ∧ ((decode (am_by 18) 16 = .ok (.astore_n 3, 1)) ∧ (decode (am_by 18) 17 = .ok (.iload_n 2, 1)))) ∧ (((decode (am_by 18) 18 = .ok (.istore 4, 2)) ∧ (decode (am_by 18) 20 = .ok (.iconst 0, 1))) ∧ ((decode (am_by 18) 21 = .ok (.istore 5, 2)) ∧ (decode (am_by 18) 23 = .ok (.iload 5, 2)))) := by decide +kernel
theorem dc18_2 : (((decode (am_by 18) 25 = .ok (.iconst 4, 1)) ∧ (decode (am_by 18) 26 = .ok (.if_icmp .ge 124, 3))) ∧ ((decode (am_by 18) 29 = .ok (.aload_n 0, 1)) ∧ (decode (am_by 18) 30 = .ok (.getfield 24, 3)))) ∧ (((decode (am_by 18) 33 = .ok (.iload 5, 2)) ∧ (decode (am_by 18) 35 = .ok (.iconst 3, 1))) ∧ ((decode (am_by 18) 36 = .ok (.imul, 1)) ∧ (decode (am_by 18) 37 = .ok (.aload_n 3, 1)))) := by decide +kernel
theorem dc18_3 : (((decode (am_by 18) 38 = .ok (.iload 4, 2)) ∧ (decode (am_by 18) 40 = .ok (.invokevirtual 228, 3))) ∧ ((decode (am_by 18) 43 = .ok (.iastore, 1)) ∧ (decode (am_by 18) 44 = .ok (.aload_n 0, 1)))) ∧ (((decode (am_by 18) 45 = .ok (.getfield 24, 3)) ∧ (decode (am_by 18) 48 = .ok (.iload 5, 2))) ∧ ((decode (am_by 18) 50 = .ok (.iconst 3, 1)) ∧ (decode (am_by 18) 51 = .ok (.imul, 1)))) := by decide +kernel
theorem dc18_4 : (((decode (am_by 18) 52 = .ok (.iconst 1, 1)) ∧ (decode (am_by 18) 53 = .ok (.iadd, 1))) ∧ ((decode (am_by 18) 54 = .ok (.iload 4, 2)) ∧ (decode (am_by 18) 56 = .ok (.iastore, 1)))) ∧ (((decode (am_by 18) 57 = .ok (.aload_n 0, 1)) ∧ (decode (am_by 18) 58 = .ok (.getfield 24, 3))) ∧ ((decode (am_by 18) 61 = .ok (.iload 5, 2)) ∧ (decode (am_by 18) 63 = .ok (.iconst 3, 1)))) := by decide +kernel
theorem dc18_5 : (((decode (am_by 18) 64 = .ok (.imul, 1)) ∧ (decode (am_by 18) 65 = .ok (.iconst 2, 1))) ∧ ((decode (am_by 18) 66 = .ok (.iadd, 1)) ∧ (decode (am_by 18) 67 = .ok (.aload_n 3, 1)))) ∧ (((decode (am_by 18) 68 = .ok (.getfield 104, 3)) ∧ (decode (am_by 18) 71 = .ok (.iastore, 1))) ∧ ((decode (am_by 18) 72 = .ok (.iload 5, 2)) ∧ (decode (am_by 18) 74 = .ok (.aload_n 0, 1)))) := by decide +kernel
theorem dc18_6 : (((decode (am_by 18) 75 = .ok (.getfield 11, 3)) ∧ (decode (am_by 18) 78 = .ok (.arraylength, 1))) ∧ ((decode (am_by 18) 79 = .ok (.if_icmp .ge 18, 3)) ∧ (decode (am_by 18) 82 = .ok (.aload_n 0, 1)))) ∧ (((decode (am_by 18) 83 = .ok (.aload_n 3, 1)) ∧ (decode (am_by 18) 84 = .ok (.aload_n 0, 1))) ∧ ((decode (am_by 18) 85 = .ok (.getfield 11, 3)) ∧ (decode (am_by 18) 88 = .ok (.iload 5, 2)))) := by decide +kernel
theorem dc18_7 : (((decode (am_by 18) 90 = .ok (.aaload, 1)) ∧ (decode (am_by 18) 91 = .ok (.invokevirtual 231, 3))) ∧ ((decode (am_by 18) 94 = .ok (.goto 4, 3)) ∧ (decode (am_by 18) 97 = .ok (.iconst (-1), 1)))) ∧ (((decode (am_by 18) 98 = .ok (.istore 6, 2)) ∧ (decode (am_by 18) 100 = .ok (.iload 6, 2))) ∧ ((decode (am_by 18) 102 = .ok (.iconst (-1), 1)) ∧ (decode (am_by 18) 103 = .ok (.if_icmp .ne 8, 3)))) := by decide +kernel
theorem dc18_8 : (((decode (am_by 18) 106 = .ok (.iload 5, 2)) ∧ (decode (am_by 18) 108 = .ok (.iconst 1, 1))) ∧ ((decode (am_by 18) 109 = .ok (.iadd, 1)) ∧ (decode (am_by 18) 110 = .ok (.ireturn, 1)))) ∧ (((decode (am_by 18) 111 = .ok (.aload_n 0, 1)) ∧ (decode (am_by 18) 112 = .ok (.getfield 11, 3))) ∧ ((decode (am_by 18) 115 = .ok (.iload 5, 2)) ∧ (decode (am_by 18) 117 = .ok (.aaload, 1)))) := by decide +kernel
theorem dc18_9 : (((decode (am_by 18) 118 = .ok (.astore_n 3, 1)) ∧ (decode (am_by 18) 119 = .ok (.aload_n 0, 1))) ∧ ((decode (am_by 18) 120 = .ok (.getfield 42, 3)) ∧ (decode (am_by 18) 123 = .ok (.getfield 97, 3)))) ∧ (((decode (am_by 18) 126 = .ok (.iload 6, 2)) ∧ (decode (am_by 18) 128 = .ok (.iaload, 1))) ∧ ((decode (am_by 18) 129 = .ok (.istore 4, 2)) ∧ (decode (am_by 18) 131 = .ok (.aload_n 0, 1)))) := by decide +kernel
theorem dc18_10 : (((decode (am_by 18) 132 = .ok (.aload_n 3, 1)) ∧ (decode (am_by 18) 133 = .ok (.iload 5, 2))) ∧ ((decode (am_by 18) 135 = .ok (.iconst 1, 1)) ∧ (decode (am_by 18) 136 = .ok (.iadd, 1)))) ∧ (((decode (am_by 18) 137 = .ok (.aload_n 3, 1)) ∧ (decode (am_by 18) 138 = .ok (.getfield 104, 3))) ∧ ((decode (am_by 18) 141 = .ok (.invokevirtual 111, 3)) ∧ (decode (am_by 18) 144 = .ok (.iinc 5 1, 3)))) := by decide +kernel
theorem dc18_11 : (decode (am_by 18) 147 = .ok (.goto (-124), 3)) ∧ ((decode (am_by 18) 150 = .ok (.iconst 4, 1)) ∧ (decode (am_by 18) 151 = .ok (.ireturn, 1))) := by decide +kernel
theorem t18_0 {sc : Option (Nat × (Nat → Int32))} {d k n : Nat} {P : am_O → Prop} {I : am_I} {J : am_J} {Pf : am_R} (hp : am_PF Pf) {x1 : Nat} (hx1 : am_SH[x1]? = some (.inl 9)) {x2 : Int32} {l3 : Option Value} {l4 : Option Value} {l5 : Option Value} {l6 : Option Value} (q1 : am_mth d 118 [.ref x1, .int x2, .int 0, .int (I x1 1)] (am_SH, I, J, Pf) (am_af sc d 18 7 [some (.ref 112), some (.ref x1), some (.int x2), l3, l4, l5, l6] [.int (I x1 1), .int 0, .int x2, .ref x1] [] (am_SH, I, J, Pf) k n false P)) : am_go sc d 18 (0, [some (.ref 112), some (.ref x1), some (.int x2), l3, l4, l5, l6], [], (am_SH, I, J, Pf), k, n) P := by
  refine am_s_aload_n rfl dc18_0.1.1.1 ?_
  refine am_s_iload_n rfl dc18_0.1.1.2 ?_
  refine am_s_iconst am_cc0 dc18_0.1.2.1 ?_
  refine am_s_aload_n rfl dc18_0.1.2.2 ?_
  refine am_x_getI (x := I x1 1) dc18_0.2.1.1 rfl hx1 (Or.inl rfl) rfl ?_
  exact am_s_virtual false dc18_0.2.1.2 rfl (by decide) rfl hx1 rfl (q1)
theorem t18_23 {sc : Option (Nat × (Nat → Int32))} {d k n : Nat} {P : am_O → Prop} {I : am_I} {J : am_J} {Pf : am_R} (hp : am_PF Pf) {l1 : Option Value} {l2 : Option Value} {x3 : Nat} (hx3 : am_SH[x3]? = some (.inl 9)) {x4 : Int32} {x5 : Int32} {l6 : Option Value} (q1 : (4 ≤ x5) → P (.inl (some (.int 4)), (am_SH, I, J, Pf), k, n)) (q2 : (¬ (4 ≤ x5)) → am_mth d 121 [.ref x3, .int x4] (am_SH, I, J, Pf) (am_af sc d 18 40 [some (.ref 112), l1, l2, some (.ref x3), some (.int x4), some (.int x5), l6] [.int x4, .ref x3, .int (x5 * 3), .ref 116] [.int (x5 * 3), .ref 116] (am_SH, I, J, Pf) k n false P)) : am_go sc d 18 (23, [some (.ref 112), l1, l2, some (.ref x3), some (.int x4), some (.int x5), l6], [], (am_SH, I, J, Pf), k, n) P := by
  refine am_s_iload rfl dc18_1.2.2.2 ?_
  refine am_s_iconst am_cc4 dc18_2.1.1.1 ?_
  refine am_s_ic_ge dc18_2.1.1.2 rfl (fun c1 => ?_) (fun c1 => ?_)
  · refine am_s_iconst am_cc4 dc18_11.2.1 ?_
    exact am_s_ireturn dc18_11.2.2 rfl (q1 c1)
  · refine am_s_aload_n rfl dc18_2.1.2.1 ?_
    refine am_s_getR (r := 116) dc18_2.1.2.2 rfl rfl rfl (hp _ _ _ rfl) ?_
    refine am_s_iload rfl dc18_2.2.1.1 ?_
    refine am_s_iconst am_cc3 dc18_2.2.1.2 ?_
    refine am_s_imul dc18_2.2.2.1 ?_
    refine am_s_aload_n rfl dc18_2.2.2.2 ?_
    refine am_s_iload rfl dc18_3.1.1.1 ?_
    exact am_s_virtual false dc18_3.1.1.2 rfl (by decide) rfl hx3 rfl (q2 c1)
theorem t18_10 {sc : Option (Nat × (Nat → Int32))} {d k n : Nat} {P : am_O → Prop} {I : am_I} {J : am_J} {Pf : am_R} (hp : am_PF Pf) {x1 : Nat} (hx1 : am_SH[x1]? = some (.inl 9)) {x2 : Int32} {l3 : Option Value} {l4 : Option Value} {l5 : Option Value} {l6 : Option Value} {s0 : Int32} (q1 : (s0 = 0) → am_go sc d 18 (23, [some (.ref 112), some (.ref x1), some (.int x2), some (.ref x1), some (.int x2), some (.int 0), l6], [], (am_SH, I, J, Pf), k, n) P) (q2 : (¬ (s0 = 0)) → P (.inl (some (.int 0)), (am_SH, I, J, Pf), k, n)) : am_go sc d 18 (10, [some (.ref 112), some (.ref x1), some (.int x2), l3, l4, l5, l6], [.int s0], (am_SH, I, J, Pf), k, n) P := by
  refine am_s_if_eq dc18_0.2.2.1 rfl (fun c1 => ?_) (fun c1 => ?_)
  · refine am_s_aload_n rfl dc18_1.1.1.2 ?_
    refine am_s_astore_n (ls' := [some (.ref 112), some (.ref x1), some (.int x2), some (.ref x1), l4, l5, l6]) rfl rfl dc18_1.1.2.1 ?_
    refine am_s_iload_n rfl dc18_1.1.2.2 ?_
    refine am_s_istore (ls' := [some (.ref 112), some (.ref x1), some (.int x2), some (.ref x1), some (.int x2), l5, l6]) rfl rfl dc18_1.2.1.1 ?_
    refine am_s_iconst am_cc0 dc18_1.2.1.2 ?_
    refine am_s_istore (ls' := [some (.ref 112), some (.ref x1), some (.int x2), some (.ref x1), some (.int x2), some (.int 0), l6]) rfl rfl dc18_1.2.2.1 ?_
    exact q1 c1
  · refine am_s_iconst am_cc0 dc18_0.2.2.2 ?_
    exact am_s_ireturn dc18_1.1.1.1 rfl (q2 c1)
theorem t18_43 {sc : Option (Nat × (Nat → Int32))} {d k n : Nat} {P : am_O → Prop} {I : am_I} {J : am_J} {Pf : am_R} (hp : am_PF Pf) {l1 : Option Value} {l2 : Option Value} {x3 : Nat} (hx3 : am_SH[x3]? = some (.inl 9)) {x4 : Int32} {x5 : Int32} {l6 : Option Value} {s1 : Int32} {s2 : Int32} {r90 : Nat} (q1 : am_in s1 12 = true) (q2 : am_in ((x5 * 3) + 1) 12 = true) (q3 : am_in ((x5 * 3) + 2) 12 = true) (q4 : (3 ≤ x5) → P (.inl (some (.int (x5 + 1))), (am_SH, am_u (am_u (am_u I 116 (Int32.toNatClampNeg s1) s2) 116 (Int32.toNatClampNeg ((x5 * 3) + 1)) x4) 116 (Int32.toNatClampNeg ((x5 * 3) + 2)) ((am_u (am_u I 116 (Int32.toNatClampNeg s1) s2) 116 (Int32.toNatClampNeg ((x5 * 3) + 1)) x4) x3 1), J, Pf), k, n)) (q5 : (¬ (3 ≤ x5)) → am_in x5 3 = true) (q6 : (¬ (3 ≤ x5)) → Pf 113 (Int32.toNatClampNeg x5) = some r90) (q7 : (¬ (3 ≤ x5)) → am_SH[r90]? = some (.inl 9)) (q8 : (¬ (3 ≤ x5)) → am_mth d 19 [.ref 112, .ref x3, .ref r90] (am_SH, am_u (am_u (am_u I 116 (Int32.toNatClampNeg s1) s2) 116 (Int32.toNatClampNeg ((x5 * 3) + 1)) x4) 116 (Int32.toNatClampNeg ((x5 * 3) + 2)) ((am_u (am_u I 116 (Int32.toNatClampNeg s1) s2) 116 (Int32.toNatClampNeg ((x5 * 3) + 1)) x4) x3 1), J, Pf) (am_af sc d 18 91 [some (.ref 112), l1, l2, some (.ref x3), some (.int x4), some (.int x5), l6] [.ref r90, .ref x3, .ref 112] [] (am_SH, am_u (am_u (am_u I 116 (Int32.toNatClampNeg s1) s2) 116 (Int32.toNatClampNeg ((x5 * 3) + 1)) x4) 116 (Int32.toNatClampNeg ((x5 * 3) + 2)) ((am_u (am_u I 116 (Int32.toNatClampNeg s1) s2) 116 (Int32.toNatClampNeg ((x5 * 3) + 1)) x4) x3 1), J, Pf) k n true P)) : am_go sc d 18 (43, [some (.ref 112), l1, l2, some (.ref x3), some (.int x4), some (.int x5), l6], [.int s2, .int s1, .ref 116], (am_SH, I, J, Pf), k, n) P := by
  refine am_s_iastore dc18_3.1.2.1 rfl (q1) rfl ?_
  refine am_s_aload_n rfl dc18_3.1.2.2 ?_
  refine am_s_getR (r := 116) dc18_3.2.1.1 rfl rfl rfl (hp _ _ _ rfl) ?_
  refine am_s_iload rfl dc18_3.2.1.2 ?_
  refine am_s_iconst am_cc3 dc18_3.2.2.1 ?_
  refine am_s_imul dc18_3.2.2.2 ?_
  refine am_s_iconst am_cc1 dc18_4.1.1.1 ?_
  refine am_s_iadd dc18_4.1.1.2 ?_
  refine am_s_iload rfl dc18_4.1.2.1 ?_
  refine am_s_iastore dc18_4.1.2.2 rfl (q2) rfl ?_
  refine am_s_aload_n rfl dc18_4.2.1.1 ?_
  refine am_s_getR (r := 116) dc18_4.2.1.2 rfl rfl rfl (hp _ _ _ rfl) ?_
  refine am_s_iload rfl dc18_4.2.2.1 ?_
  refine am_s_iconst am_cc3 dc18_4.2.2.2 ?_
  refine am_s_imul dc18_5.1.1.1 ?_
  refine am_s_iconst am_cc2 dc18_5.1.1.2 ?_
  refine am_s_iadd dc18_5.1.2.1 ?_
  refine am_s_aload_n rfl dc18_5.1.2.2 ?_
  refine am_x_getI (x := (am_u (am_u I 116 (Int32.toNatClampNeg s1) s2) 116 (Int32.toNatClampNeg ((x5 * 3) + 1)) x4) x3 1) dc18_5.2.1.1 rfl hx3 (Or.inl rfl) rfl ?_
  refine am_s_iastore dc18_5.2.1.2 rfl (q3) rfl ?_
  refine am_s_iload rfl dc18_5.2.2.1 ?_
  refine am_s_aload_n rfl dc18_5.2.2.2 ?_
  refine am_s_getR (r := 113) dc18_6.1.1.1 rfl rfl rfl (hp _ _ _ rfl) ?_
  refine am_s_lenq (x := 3) dc18_6.1.1.2 rfl rfl rfl (by decide +kernel) ?_
  refine am_s_ic_ge dc18_6.1.2.1 rfl (fun c1 => ?_) (fun c1 => ?_)
  · refine am_s_iconst am_ccm1 dc18_7.1.2.2 ?_
    refine am_s_istore (ls' := [some (.ref 112), l1, l2, some (.ref x3), some (.int x4), some (.int x5), some (.int (-1))]) rfl rfl dc18_7.2.1.1 ?_
    refine am_s_iload rfl dc18_7.2.1.2 ?_
    refine am_s_iconst am_ccm1 dc18_7.2.2.1 ?_
    refine am_s_ic_ne dc18_7.2.2.2 rfl (fun z => absurd z (by decide)) (fun _ => ?_)
    refine am_s_iload rfl dc18_8.1.1.1 ?_
    refine am_s_iconst am_cc1 dc18_8.1.1.2 ?_
    refine am_s_iadd dc18_8.1.2.1 ?_
    exact am_s_ireturn dc18_8.1.2.2 rfl (q4 c1)
  · refine am_s_aload_n rfl dc18_6.1.2.2 ?_
    refine am_s_aload_n rfl dc18_6.2.1.1 ?_
    refine am_s_aload_n rfl dc18_6.2.1.2 ?_
    refine am_s_getR (r := 113) dc18_6.2.2.1 rfl rfl rfl (hp _ _ _ rfl) ?_
    refine am_s_iload rfl dc18_6.2.2.2 ?_
    refine am_s_aaload (r := r90) dc18_7.1.1.1 rfl rfl (q5 c1) (q6 c1) ?_
    exact am_s_virtual true dc18_7.1.1.2 rfl (by decide) rfl rfl rfl (q8 c1)
theorem t18_94 {sc : Option (Nat × (Nat → Int32))} {d k n : Nat} {P : am_O → Prop} {I : am_I} {J : am_J} {Pf : am_R} (hp : am_PF Pf) {l1 : Option Value} {l2 : Option Value} {l3 : Option Value} {l4 : Option Value} {x5 : Int32} {l6 : Option Value} {s0 : Int32} {r117 : Nat} (hl2 : am_k1 l2 = true) {r112_0 : Nat} (q1 : (¬ s0 = (-1)) → am_in x5 3 = true) (q2 : (¬ s0 = (-1)) → Pf 113 (Int32.toNatClampNeg x5) = some r117) (q3 : (¬ s0 = (-1)) → am_SH[r117]? = some (.inl 9)) (q4 : (¬ s0 = (-1)) → Pf 112 0 = some r112_0) (q5 : (¬ s0 = (-1)) → am_SH[r112_0]? = some (.inl 4)) (q6 : (¬ s0 = (-1)) → am_in s0 4 = true) (q7 : (¬ s0 = (-1)) → am_mth d 2 [.ref 112, .ref r117, .int (x5 + 1), .int (I r117 1)] (am_SH, I, J, Pf) (am_af sc d 18 141 [some (.ref 112), l1, l2, some (.ref r117), some (.int (I (r112_0 + 9) (Int32.toNatClampNeg s0))), some (.int x5), some (.int s0)] [.int (I r117 1), .int (x5 + 1), .ref r117, .ref 112] [] (am_SH, I, J, Pf) k n true P)) (q8 : (¬ (¬ s0 = (-1))) → P (.inl (some (.int (x5 + 1))), (am_SH, I, J, Pf), k, n)) : am_go sc d 18 (94, [some (.ref 112), l1, l2, l3, l4, some (.int x5), l6], [.int s0], (am_SH, I, J, Pf), k, n) P := by
  refine am_s_goto rfl dc18_7.1.2.1 ?_
  refine am_s_istore (ls' := [some (.ref 112), l1, l2, l3, l4, some (.int x5), some (.int s0)]) rfl rfl dc18_7.2.1.1 ?_
  refine am_s_iload rfl dc18_7.2.1.2 ?_
  refine am_s_iconst am_ccm1 dc18_7.2.2.1 ?_
  refine am_s_ic_ne dc18_7.2.2.2 rfl (fun c1 => ?_) (fun c1 => ?_)
  · refine am_s_aload_n rfl dc18_8.2.1.1 ?_
    refine am_s_getR (r := 113) dc18_8.2.1.2 rfl rfl rfl (hp _ _ _ rfl) ?_
    refine am_s_iload rfl dc18_8.2.2.1 ?_
    refine am_s_aaload (r := r117) dc18_8.2.2.2 rfl rfl (q1 c1) (q2 c1) ?_
    refine am_s_astore_n (ls' := [some (.ref 112), l1, l2, some (.ref r117), l4, some (.int x5), some (.int s0)]) rfl (am_set1_k (am_kill_x (j := 2) rfl hl2) rfl) dc18_9.1.1.1 ?_
    refine am_s_aload_n rfl dc18_9.1.1.2 ?_
    refine am_s_getR (r := r112_0) dc18_9.1.2.1 rfl rfl rfl (q4 c1) ?_
    refine am_s_getR (r := r112_0 + 9) dc18_9.1.2.2 rfl (q5 c1) rfl (am_r4_11 hp (q5 c1)) ?_
    refine am_s_iload rfl dc18_9.2.1.1 ?_
    refine am_x_iaload (x := I (r112_0 + 9) (Int32.toNatClampNeg s0)) dc18_9.2.1.2 (am_h4_11 (q5 c1)) (q6 c1) rfl rfl ?_
    refine am_s_istore (ls' := [some (.ref 112), l1, l2, some (.ref r117), some (.int (I (r112_0 + 9) (Int32.toNatClampNeg s0))), some (.int x5), some (.int s0)]) rfl rfl dc18_9.2.2.1 ?_
    refine am_s_aload_n rfl dc18_9.2.2.2 ?_
    refine am_s_aload_n rfl dc18_10.1.1.1 ?_
    refine am_s_iload rfl dc18_10.1.1.2 ?_
    refine am_s_iconst am_cc1 dc18_10.1.2.1 ?_
    refine am_s_iadd dc18_10.1.2.2 ?_
    refine am_s_aload_n rfl dc18_10.2.1.1 ?_
    refine am_x_getI (x := I r117 1) dc18_10.2.1.2 rfl (q3 c1) (Or.inl rfl) rfl ?_
    exact am_s_virtual true dc18_10.2.2.1 rfl (by decide) rfl rfl rfl (q7 c1)
  · refine am_s_iload rfl dc18_8.1.1.1 ?_
    refine am_s_iconst am_cc1 dc18_8.1.1.2 ?_
    refine am_s_iadd dc18_8.1.2.1 ?_
    exact am_s_ireturn dc18_8.1.2.2 rfl (q8 c1)
theorem t18_144 {sc : Option (Nat × (Nat → Int32))} {d k n : Nat} {P : am_O → Prop} {I : am_I} {J : am_J} {Pf : am_R} (hp : am_PF Pf) {l1 : Option Value} {l2 : Option Value} {x3 : Nat} (hx3 : am_SH[x3]? = some (.inl 9)) {x4 : Int32} {x5 : Int32} {l6 : Option Value} (q1 : am_go sc d 18 (23, [some (.ref 112), l1, l2, some (.ref x3), some (.int x4), some (.int (x5 + 1)), l6], [], (am_SH, I, J, Pf), k, n) P) : am_go sc d 18 (144, [some (.ref 112), l1, l2, some (.ref x3), some (.int x4), some (.int x5), l6], [], (am_SH, I, J, Pf), k, n) P := by
  refine am_s_iinc (ls' := [some (.ref 112), l1, l2, some (.ref x3), some (.int x4), some (.int (x5 + 1)), l6]) am_cc1 rfl rfl dc18_10.2.2.2 ?_
  refine am_s_goto rfl dc18_11.1 ?_
  exact q1
-- wrongQuote (LPrunedParses$Table;LPrunedParses$Table;)I
theorem dc19_0 : (((decode (am_by 19) 0 = .ok (.iconst 0, 1)) ∧ (decode (am_by 19) 1 = .ok (.istore_n 3, 1))) ∧ ((decode (am_by 19) 2 = .ok (.iload_n 3, 1)) ∧ (decode (am_by 19) 3 = .ok (.aload_n 1, 1)))) ∧ (((decode (am_by 19) 4 = .ok (.getfield 104, 3)) ∧ (decode (am_by 19) 7 = .ok (.if_icmp .ge 65, 3))) ∧ ((decode (am_by 19) 10 = .ok (.iconst 0, 1)) ∧ (decode (am_by 19) 11 = .ok (.istore 4, 2)))) := by decide +kernel
theorem dc19_1 : (((decode (am_by 19) 13 = .ok (.iload 4, 2)) ∧ (decode (am_by 19) 15 = .ok (.aload_n 0, 1))) ∧ ((decode (am_by 19) 16 = .ok (.getfield 42, 3)) ∧ (decode (am_by 19) 19 = .ok (.getfield 79, 3)))) ∧ (((decode (am_by 19) 22 = .ok (.if_icmp .ge 44, 3)) ∧ (decode (am_by 19) 25 = .ok (.aload_n 1, 1))) ∧ ((decode (am_by 19) 26 = .ok (.getfield 82, 3)) ∧ (decode (am_by 19) 29 = .ok (.iload 4, 2)))) := by decide +kernel
theorem dc19_2 : (((decode (am_by 19) 31 = .ok (.bipush 25, 2)) ∧ (decode (am_by 19) 33 = .ok (.imul, 1))) ∧ ((decode (am_by 19) 34 = .ok (.iload_n 3, 1)) ∧ (decode (am_by 19) 35 = .ok (.iadd, 1)))) ∧ (((decode (am_by 19) 36 = .ok (.iaload, 1)) ∧ (decode (am_by 19) 37 = .ok (.iconst (-1), 1))) ∧ ((decode (am_by 19) 38 = .ok (.if_icmp .ne 22, 3)) ∧ (decode (am_by 19) 41 = .ok (.aload_n 1, 1)))) := by decide +kernel
theorem dc19_3 : (((decode (am_by 19) 42 = .ok (.aload_n 0, 1)) ∧ (decode (am_by 19) 43 = .ok (.getfield 42, 3))) ∧ ((decode (am_by 19) 46 = .ok (.iload 4, 2)) ∧ (decode (am_by 19) 48 = .ok (.iload_n 3, 1)))) ∧ (((decode (am_by 19) 49 = .ok (.aload_n 2, 1)) ∧ (decode (am_by 19) 50 = .ok (.invokevirtual 89, 3))) ∧ ((decode (am_by 19) 53 = .ok (.iconst (-1), 1)) ∧ (decode (am_by 19) 54 = .ok (.if_icmp .eq 6, 3)))) := by decide +kernel
theorem dc19_4 : (((decode (am_by 19) 57 = .ok (.iload 4, 2)) ∧ (decode (am_by 19) 59 = .ok (.ireturn, 1))) ∧ ((decode (am_by 19) 60 = .ok (.iinc 4 1, 3)) ∧ (decode (am_by 19) 63 = .ok (.goto (-50), 3)))) ∧ (((decode (am_by 19) 66 = .ok (.iinc 3 1, 3)) ∧ (decode (am_by 19) 69 = .ok (.goto (-67), 3))) ∧ ((decode (am_by 19) 72 = .ok (.iconst (-1), 1)) ∧ (decode (am_by 19) 73 = .ok (.ireturn, 1)))) := by decide +kernel
theorem t19_0 {sc : Option (Nat × (Nat → Int32))} {d k n : Nat} {P : am_O → Prop} {I : am_I} {J : am_J} {Pf : am_R} (hp : am_PF Pf) {x1 : Nat} (hx1 : am_SH[x1]? = some (.inl 9)) {x2 : Nat} (hx2 : am_SH[x2]? = some (.inl 9)) {l3 : Option Value} {l4 : Option Value} (q1 : am_go sc d 19 (2, [some (.ref 112), some (.ref x1), some (.ref x2), some (.int 0), l4], [], (am_SH, I, J, Pf), k, n) P) : am_go sc d 19 (0, [some (.ref 112), some (.ref x1), some (.ref x2), l3, l4], [], (am_SH, I, J, Pf), k, n) P := by
  refine am_s_iconst am_cc0 dc19_0.1.1.1 ?_
  refine am_s_istore_n (ls' := [some (.ref 112), some (.ref x1), some (.ref x2), some (.int 0), l4]) rfl rfl dc19_0.1.1.2 ?_
  exact q1
theorem t19_2 {sc : Option (Nat × (Nat → Int32))} {d k n : Nat} {P : am_O → Prop} {I : am_I} {J : am_J} {Pf : am_R} (hp : am_PF Pf) {x1 : Nat} (hx1 : am_SH[x1]? = some (.inl 9)) {x2 : Nat} (hx2 : am_SH[x2]? = some (.inl 9)) {x3 : Int32} {l4 : Option Value} (q1 : ((I x1 1) ≤ x3) → P (.inl (some (.int (-1))), (am_SH, I, J, Pf), k, n)) (q2 : (¬ ((I x1 1) ≤ x3)) → am_go sc d 19 (13, [some (.ref 112), some (.ref x1), some (.ref x2), some (.int x3), some (.int 0)], [], (am_SH, I, J, Pf), k, n) P) : am_go sc d 19 (2, [some (.ref 112), some (.ref x1), some (.ref x2), some (.int x3), l4], [], (am_SH, I, J, Pf), k, n) P := by
  refine am_s_iload_n rfl dc19_0.1.2.1 ?_
  refine am_s_aload_n rfl dc19_0.1.2.2 ?_
  refine am_x_getI (x := I x1 1) dc19_0.2.1.1 rfl hx1 (Or.inl rfl) rfl ?_
  refine am_s_ic_ge dc19_0.2.1.2 rfl (fun c1 => ?_) (fun c1 => ?_)
  · refine am_s_iconst am_ccm1 dc19_4.2.2.1 ?_
    exact am_s_ireturn dc19_4.2.2.2 rfl (q1 c1)
  · refine am_s_iconst am_cc0 dc19_0.2.2.1 ?_
    refine am_s_istore (ls' := [some (.ref 112), some (.ref x1), some (.ref x2), some (.int x3), some (.int 0)]) rfl rfl dc19_0.2.2.2 ?_
    exact q2 c1
theorem t19_13 {sc : Option (Nat × (Nat → Int32))} {d k n : Nat} {P : am_O → Prop} {I : am_I} {J : am_J} {Pf : am_R} (hp : am_PF Pf) {x1 : Nat} (hx1 : am_SH[x1]? = some (.inl 9)) {x2 : Nat} (hx2 : am_SH[x2]? = some (.inl 9)) {x3 : Int32} {x4 : Int32} {r112_0 : Nat} (q1 : Pf 112 0 = some r112_0) (q2 : am_SH[r112_0]? = some (.inl 4)) (q3 : ((I r112_0 9) ≤ x4) → am_go sc d 19 (2, [some (.ref 112), some (.ref x1), some (.ref x2), some (.int (x3 + 1)), some (.int x4)], [], (am_SH, I, J, Pf), k, n) P) (q4 : (¬ ((I r112_0 9) ≤ x4)) → am_in ((x4 * 25) + x3) 100 = true) (q5 : (¬ ((I r112_0 9) ≤ x4)) → (¬ (I (x1 + 4) (Int32.toNatClampNeg ((x4 * 25) + x3))) = (-1)) → am_go sc d 19 (13, [some (.ref 112), some (.ref x1), some (.ref x2), some (.int x3), some (.int (x4 + 1))], [], (am_SH, I, J, Pf), k, n) P) (q6 : (¬ ((I r112_0 9) ≤ x4)) → (¬ (¬ (I (x1 + 4) (Int32.toNatClampNeg ((x4 * 25) + x3))) = (-1))) → Pf 112 0 = some r112_0) (q7 : (¬ ((I r112_0 9) ≤ x4)) → (¬ (¬ (I (x1 + 4) (Int32.toNatClampNeg ((x4 * 25) + x3))) = (-1))) → am_SH[r112_0]? = some (.inl 4)) (q8 : (¬ ((I r112_0 9) ≤ x4)) → (¬ (¬ (I (x1 + 4) (Int32.toNatClampNeg ((x4 * 25) + x3))) = (-1))) → am_mth d 115 [.ref x1, .ref r112_0, .int x4, .int x3, .ref x2] (am_SH, I, J, Pf) (am_af sc d 19 50 [some (.ref 112), some (.ref x1), some (.ref x2), some (.int x3), some (.int x4)] [.ref x2, .int x3, .int x4, .ref r112_0, .ref x1] [] (am_SH, I, J, Pf) k n false P)) : am_go sc d 19 (13, [some (.ref 112), some (.ref x1), some (.ref x2), some (.int x3), some (.int x4)], [], (am_SH, I, J, Pf), k, n) P := by
  refine am_s_iload rfl dc19_1.1.1.1 ?_
  refine am_s_aload_n rfl dc19_1.1.1.2 ?_
  refine am_s_getR (r := r112_0) dc19_1.1.2.1 rfl rfl rfl (q1) ?_
  refine am_x_getI (x := I r112_0 9) dc19_1.1.2.2 rfl (q2) (Or.inl rfl) rfl ?_
  refine am_s_ic_ge dc19_1.2.1.1 rfl (fun c1 => ?_) (fun c1 => ?_)
  · refine am_s_iinc (ls' := [some (.ref 112), some (.ref x1), some (.ref x2), some (.int (x3 + 1)), some (.int x4)]) am_cc1 rfl rfl dc19_4.2.1.1 ?_
    refine am_s_goto rfl dc19_4.2.1.2 ?_
    exact q3 c1
  · refine am_s_aload_n rfl dc19_1.2.1.2 ?_
    refine am_s_getR (r := x1 + 4) dc19_1.2.2.1 rfl hx1 rfl (am_r9_4 hp hx1) ?_
    refine am_s_iload rfl dc19_1.2.2.2 ?_
    refine am_s_bipush am_cb25 dc19_2.1.1.1 ?_
    refine am_s_imul dc19_2.1.1.2 ?_
    refine am_s_iload_n rfl dc19_2.1.2.1 ?_
    refine am_s_iadd dc19_2.1.2.2 ?_
    refine am_x_iaload (x := I (x1 + 4) (Int32.toNatClampNeg ((x4 * 25) + x3))) dc19_2.2.1.1 (am_h9_4 hx1) (q4 c1) rfl rfl ?_
    refine am_s_iconst am_ccm1 dc19_2.2.1.2 ?_
    refine am_s_ic_ne dc19_2.2.2.1 rfl (fun c2 => ?_) (fun c2 => ?_)
    · refine am_s_iinc (ls' := [some (.ref 112), some (.ref x1), some (.ref x2), some (.int x3), some (.int (x4 + 1))]) am_cc1 rfl rfl dc19_4.1.2.1 ?_
      refine am_s_goto rfl dc19_4.1.2.2 ?_
      exact q5 c1 c2
    · refine am_s_aload_n rfl dc19_2.2.2.2 ?_
      refine am_s_aload_n rfl dc19_3.1.1.1 ?_
      refine am_s_getR (r := r112_0) dc19_3.1.1.2 rfl rfl rfl (q6 c1 c2) ?_
      refine am_s_iload rfl dc19_3.1.2.1 ?_
      refine am_s_iload_n rfl dc19_3.1.2.2 ?_
      refine am_s_aload_n rfl dc19_3.2.1.1 ?_
      exact am_s_virtual false dc19_3.2.1.2 rfl (by decide) rfl hx1 rfl (q8 c1 c2)
theorem t19_53 {sc : Option (Nat × (Nat → Int32))} {d k n : Nat} {P : am_O → Prop} {I : am_I} {J : am_J} {Pf : am_R} (hp : am_PF Pf) {x1 : Nat} (hx1 : am_SH[x1]? = some (.inl 9)) {x2 : Nat} (hx2 : am_SH[x2]? = some (.inl 9)) {x3 : Int32} {x4 : Int32} {s0 : Int32} (q1 : (s0 = (-1)) → am_go sc d 19 (13, [some (.ref 112), some (.ref x1), some (.ref x2), some (.int x3), some (.int (x4 + 1))], [], (am_SH, I, J, Pf), k, n) P) (q2 : (¬ (s0 = (-1))) → P (.inl (some (.int x4)), (am_SH, I, J, Pf), k, n)) : am_go sc d 19 (53, [some (.ref 112), some (.ref x1), some (.ref x2), some (.int x3), some (.int x4)], [.int s0], (am_SH, I, J, Pf), k, n) P := by
  refine am_s_iconst am_ccm1 dc19_3.2.2.1 ?_
  refine am_s_ic_eq dc19_3.2.2.2 rfl (fun c1 => ?_) (fun c1 => ?_)
  · refine am_s_iinc (ls' := [some (.ref 112), some (.ref x1), some (.ref x2), some (.int x3), some (.int (x4 + 1))]) am_cc1 rfl rfl dc19_4.1.2.1 ?_
    refine am_s_goto rfl dc19_4.1.2.2 ?_
    exact q1 c1
  · refine am_s_iload rfl dc19_4.1.1.1 ?_
    exact am_s_ireturn dc19_4.1.1.2 rfl (q2 c1)
