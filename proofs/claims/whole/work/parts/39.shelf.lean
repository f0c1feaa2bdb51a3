/-! Walks: shelf -/
-- keep (LPrunedParses$Table;)V
theorem dc71_0 : (((decode (am_by 71) 0 = .ok (.aload_n 0, 1)) ∧ (decode (am_by 71) 1 = .ok (.getfield 18, 3))) ∧ ((decode (am_by 71) 4 = .ok (.bipush 17, 2)) ∧ (decode (am_by 71) 6 = .ok (.if_icmp .lt 4, 3)))) ∧ (((decode (am_by 71) 9 = .ok (.return_, 1)) ∧ (decode (am_by 71) 10 = .ok (.aload_n 1, 1))) ∧ ((decode (am_by 71) 11 = .ok (.getfield 22, 3)) ∧ (decode (am_by 71) 14 = .ok (.iconst 0, 1)))) := by decide +kernel
theorem dc71_1 : (((decode (am_by 71) 15 = .ok (.aload_n 0, 1)) ∧ (decode (am_by 71) 16 = .ok (.getfield 11, 3))) ∧ ((decode (am_by 71) 19 = .ok (.aload_n 0, 1)) ∧ (decode (am_by 71) 20 = .ok (.getfield 18, 3)))) ∧ (((decode (am_by 71) 23 = .ok (.bipush 24, 2)) ∧ (decode (am_by 71) 25 = .ok (.imul, 1))) ∧ ((decode (am_by 71) 26 = .ok (.bipush 24, 2)) ∧ (decode (am_by 71) 28 = .ok (.invokestatic 27, 3)))) := by decide +kernel
theorem dc71_2 : (((decode (am_by 71) 31 = .ok (.aload_n 0, 1)) ∧ (decode (am_by 71) 32 = .ok (.getfield 15, 3))) ∧ ((decode (am_by 71) 35 = .ok (.aload_n 0, 1)) ∧ (decode (am_by 71) 36 = .ok (.getfield 18, 3)))) ∧ (((decode (am_by 71) 39 = .ok (.aload_n 1, 1)) ∧ (decode (am_by 71) 40 = .ok (.getfield 33, 3))) ∧ ((decode (am_by 71) 43 = .ok (.iastore, 1)) ∧ (decode (am_by 71) 44 = .ok (.aload_n 0, 1)))) := by decide +kernel
theorem dc71_3 : ((decode (am_by 71) 45 = .ok (.dup, 1)) ∧ ((decode (am_by 71) 46 = .ok (.getfield 18, 3)) ∧ (decode (am_by 71) 49 = .ok (.iconst 1, 1)))) ∧ ((decode (am_by 71) 50 = .ok (.iadd, 1)) ∧ ((decode (am_by 71) 51 = .ok (.putfield 18, 3)) ∧ (decode (am_by 71) 54 = .ok (.return_, 1)))) := by decide +kernel
theorem t71_0 {sc : Option (Nat × (Nat → Int32))} {d k n : Nat} {P : am_O → Prop} {I : am_I} {J : am_J} {Pf : am_R} (hp : am_PF Pf) {x0 : Nat} (hx0 : am_SH[x0]? = some (.inl 5)) {x1 : Nat} (hx1 : am_SH[x1]? = some (.inl 9)) (q1 : ((I x0 2) < 17) → am_go sc d 71 (28, [some (.ref x0), some (.ref x1)], [.int 24, .int ((I x0 2) * 24), .ref (x0 + 1), .int 0, .ref (x1 + 1)], (am_SH, I, J, Pf), k, n) P) (q2 : (¬ ((I x0 2) < 17)) → P (.inl none, (am_SH, I, J, Pf), k, n)) : am_go sc d 71 (0, [some (.ref x0), some (.ref x1)], [], (am_SH, I, J, Pf), k, n) P := by
  refine am_s_aload_n rfl dc71_0.1.1.1 ?_
  refine am_x_getI (x := I x0 2) dc71_0.1.1.2 rfl hx0 (Or.inl rfl) rfl ?_
  refine am_s_bipush am_cb17 dc71_0.1.2.1 ?_
  refine am_s_ic_lt dc71_0.1.2.2 rfl (fun c1 => ?_) (fun c1 => ?_)
  · refine am_s_aload_n rfl dc71_0.2.1.2 ?_
    refine am_s_getR (r := x1 + 1) dc71_0.2.2.1 rfl hx1 rfl (am_r9_0 hp hx1) ?_
    refine am_s_iconst am_cc0 dc71_0.2.2.2 ?_
    refine am_s_aload_n rfl dc71_1.1.1.1 ?_
    refine am_s_getR (r := x0 + 1) dc71_1.1.1.2 rfl hx0 rfl (am_r5_0 hp hx0) ?_
    refine am_s_aload_n rfl dc71_1.1.2.1 ?_
    refine am_x_getI (x := I x0 2) dc71_1.1.2.2 rfl hx0 (Or.inl rfl) rfl ?_
    refine am_s_bipush am_cb24 dc71_1.2.1.1 ?_
    refine am_s_imul dc71_1.2.1.2 ?_
    refine am_s_bipush am_cb24 dc71_1.2.2.1 ?_
    exact q1 c1
  · exact am_s_return dc71_0.2.1.1 rfl (q2 c1)
-- giveBack (LPrunedParses$Table;)V
theorem dc72_0 : (((decode (am_by 72) 0 = .ok (.aload_n 0, 1)) ∧ (decode (am_by 72) 1 = .ok (.getfield 18, 3))) ∧ ((decode (am_by 72) 4 = .ok (.iconst 1, 1)) ∧ (decode (am_by 72) 5 = .ok (.if_icmp .ge 4, 3)))) ∧ (((decode (am_by 72) 8 = .ok (.return_, 1)) ∧ (decode (am_by 72) 9 = .ok (.aload_n 0, 1))) ∧ ((decode (am_by 72) 10 = .ok (.dup, 1)) ∧ (decode (am_by 72) 11 = .ok (.getfield 18, 3)))) := by decide +kernel
theorem dc72_1 : (((decode (am_by 72) 14 = .ok (.iconst 1, 1)) ∧ (decode (am_by 72) 15 = .ok (.isub, 1))) ∧ ((decode (am_by 72) 16 = .ok (.putfield 18, 3)) ∧ (decode (am_by 72) 19 = .ok (.aload_n 0, 1)))) ∧ (((decode (am_by 72) 20 = .ok (.getfield 11, 3)) ∧ (decode (am_by 72) 23 = .ok (.aload_n 0, 1))) ∧ ((decode (am_by 72) 24 = .ok (.getfield 18, 3)) ∧ (decode (am_by 72) 27 = .ok (.bipush 24, 2)))) := by decide +kernel
theorem dc72_2 : (((decode (am_by 72) 29 = .ok (.imul, 1)) ∧ (decode (am_by 72) 30 = .ok (.aload_n 1, 1))) ∧ ((decode (am_by 72) 31 = .ok (.getfield 22, 3)) ∧ (decode (am_by 72) 34 = .ok (.iconst 0, 1)))) ∧ (((decode (am_by 72) 35 = .ok (.bipush 24, 2)) ∧ (decode (am_by 72) 37 = .ok (.invokestatic 27, 3))) ∧ ((decode (am_by 72) 40 = .ok (.aload_n 1, 1)) ∧ (decode (am_by 72) 41 = .ok (.aload_n 0, 1)))) := by decide +kernel
theorem dc72_3 : ((decode (am_by 72) 42 = .ok (.getfield 15, 3)) ∧ ((decode (am_by 72) 45 = .ok (.aload_n 0, 1)) ∧ (decode (am_by 72) 46 = .ok (.getfield 18, 3)))) ∧ ((decode (am_by 72) 49 = .ok (.iaload, 1)) ∧ ((decode (am_by 72) 50 = .ok (.putfield 33, 3)) ∧ (decode (am_by 72) 53 = .ok (.return_, 1)))) := by decide +kernel
theorem t72_0 {sc : Option (Nat × (Nat → Int32))} {d k n : Nat} {P : am_O → Prop} {I : am_I} {J : am_J} {Pf : am_R} (hp : am_PF Pf) {x0 : Nat} (hx0 : am_SH[x0]? = some (.inl 5)) {x1 : Nat} (hx1 : am_SH[x1]? = some (.inl 9)) (q1 : (1 ≤ (I x0 2)) → am_go sc d 72 (37, [some (.ref x0), some (.ref x1)], [.int 24, .int 0, .ref (x1 + 1), .int (((I x0 2) - 1) * 24), .ref (x0 + 1)], (am_SH, am_u I x0 2 ((I x0 2) - 1), J, Pf), k, n) P) (q2 : (¬ (1 ≤ (I x0 2))) → P (.inl none, (am_SH, I, J, Pf), k, n)) : am_go sc d 72 (0, [some (.ref x0), some (.ref x1)], [], (am_SH, I, J, Pf), k, n) P := by
  refine am_s_aload_n rfl dc72_0.1.1.1 ?_
  refine am_x_getI (x := I x0 2) dc72_0.1.1.2 rfl hx0 (Or.inl rfl) rfl ?_
  refine am_s_iconst am_cc1 dc72_0.1.2.1 ?_
  refine am_s_ic_ge dc72_0.1.2.2 rfl (fun c1 => ?_) (fun c1 => ?_)
  · refine am_s_aload_n rfl dc72_0.2.1.2 ?_
    refine am_s_dup rfl dc72_0.2.2.1 ?_
    refine am_x_getI (x := I x0 2) dc72_0.2.2.2 rfl hx0 (Or.inl rfl) rfl ?_
    refine am_s_iconst am_cc1 dc72_1.1.1.1 ?_
    refine am_s_isub dc72_1.1.1.2 ?_
    refine am_s_putI dc72_1.1.2.1 rfl hx0 rfl rfl ?_
    refine am_s_aload_n rfl dc72_1.1.2.2 ?_
    refine am_s_getR (r := x0 + 1) dc72_1.2.1.1 rfl hx0 rfl (am_r5_0 hp hx0) ?_
    refine am_s_aload_n rfl dc72_1.2.1.2 ?_
    refine am_x_getI (x := (I x0 2) - 1) dc72_1.2.2.1 rfl hx0 (Or.inl rfl) (by simp [am_u]) ?_
    refine am_s_bipush am_cb24 dc72_1.2.2.2 ?_
    refine am_s_imul dc72_2.1.1.1 ?_
    refine am_s_aload_n rfl dc72_2.1.1.2 ?_
    refine am_s_getR (r := x1 + 1) dc72_2.1.2.1 rfl hx1 rfl (am_r9_0 hp hx1) ?_
    refine am_s_iconst am_cc0 dc72_2.1.2.2 ?_
    refine am_s_bipush am_cb24 dc72_2.2.1.1 ?_
    exact q1 c1
  · exact am_s_return dc72_0.2.1.1 rfl (q2 c1)
-- copyFrom (LPrunedParses$Shelf;)V
theorem dc73_0 : (((decode (am_by 73) 0 = .ok (.aload_n 1, 1)) ∧ (decode (am_by 73) 1 = .ok (.getfield 11, 3))) ∧ ((decode (am_by 73) 4 = .ok (.iconst 0, 1)) ∧ (decode (am_by 73) 5 = .ok (.aload_n 0, 1)))) ∧ (((decode (am_by 73) 6 = .ok (.getfield 11, 3)) ∧ (decode (am_by 73) 9 = .ok (.iconst 0, 1))) ∧ ((decode (am_by 73) 10 = .ok (.aload_n 0, 1)) ∧ (decode (am_by 73) 11 = .ok (.getfield 11, 3)))) := by decide +kernel
theorem dc73_1 : (((decode (am_by 73) 14 = .ok (.arraylength, 1)) ∧ (decode (am_by 73) 15 = .ok (.invokestatic 27, 3))) ∧ ((decode (am_by 73) 18 = .ok (.aload_n 1, 1)) ∧ (decode (am_by 73) 19 = .ok (.getfield 15, 3)))) ∧ (((decode (am_by 73) 22 = .ok (.iconst 0, 1)) ∧ (decode (am_by 73) 23 = .ok (.aload_n 0, 1))) ∧ ((decode (am_by 73) 24 = .ok (.getfield 15, 3)) ∧ (decode (am_by 73) 27 = .ok (.iconst 0, 1)))) := by decide +kernel
theorem dc73_2 : ((decode (am_by 73) 28 = .ok (.bipush 17, 2)) ∧ ((decode (am_by 73) 30 = .ok (.invokestatic 27, 3)) ∧ (decode (am_by 73) 33 = .ok (.aload_n 0, 1)))) ∧ (((decode (am_by 73) 34 = .ok (.aload_n 1, 1)) ∧ (decode (am_by 73) 35 = .ok (.getfield 18, 3))) ∧ ((decode (am_by 73) 38 = .ok (.putfield 18, 3)) ∧ (decode (am_by 73) 41 = .ok (.return_, 1)))) := by decide +kernel
theorem t73_0 {sc : Option (Nat × (Nat → Int32))} {d k n : Nat} {P : am_O → Prop} {I : am_I} {J : am_J} {Pf : am_R} (hp : am_PF Pf) {x0 : Nat} (hx0 : am_SH[x0]? = some (.inl 5)) {x1 : Nat} (hx1 : am_SH[x1]? = some (.inl 5)) (q1 : am_go sc d 73 (15, [some (.ref x0), some (.ref x1)], [.int 408, .int 0, .ref (x0 + 1), .int 0, .ref (x1 + 1)], (am_SH, I, J, Pf), k, n) P) : am_go sc d 73 (0, [some (.ref x0), some (.ref x1)], [], (am_SH, I, J, Pf), k, n) P := by
  refine am_s_aload_n rfl dc73_0.1.1.1 ?_
  refine am_s_getR (r := x1 + 1) dc73_0.1.1.2 rfl hx1 rfl (am_r5_0 hp hx1) ?_
  refine am_s_iconst am_cc0 dc73_0.1.2.1 ?_
  refine am_s_aload_n rfl dc73_0.1.2.2 ?_
  refine am_s_getR (r := x0 + 1) dc73_0.2.1.1 rfl hx0 rfl (am_r5_0 hp hx0) ?_
  refine am_s_iconst am_cc0 dc73_0.2.1.2 ?_
  refine am_s_aload_n rfl dc73_0.2.2.1 ?_
  refine am_s_getR (r := x0 + 1) dc73_0.2.2.2 rfl hx0 rfl (am_r5_0 hp hx0) ?_
  refine am_s_len (x := 408) dc73_1.1.1.1 (am_h5_0 hx0) rfl (by decide +kernel) ?_
  exact q1
