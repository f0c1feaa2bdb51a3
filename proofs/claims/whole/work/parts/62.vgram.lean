/-! Walks, leaves inlined: the class: grammar, law, steps, rules, sorts -/
-- readAll (LPrunedParses$Reader;LPrunedParses$Rules;)Z
theorem v21_0 {sc : Option (Nat × (Nat → Int32))} {d k n : Nat} {P : am_O → Prop} {I : am_I} {J : am_J} {Pf : am_R} (hp : am_PF Pf) {x2 : Nat} (hx2 : am_SH[x2]? = some (.inl 4)) (q : ∃ r3_1x1 : Nat, ((am_u (am_u Pf 3 0 (some 1)) 3 1 (some x2)) 3 1 = some r3_1x1) ∧ (am_SH[r3_1x1]? = some (.inl 4)) ∧ (am_mth d 67 [.ref r3_1x1] (am_SH, I, J, am_u (am_u Pf 3 0 (some 1)) 3 1 (some x2)) (am_af sc d 21 14 [some (.ref 3), some (.ref 1), some (.ref x2)] [.ref r3_1x1] [] (am_SH, I, J, am_u (am_u Pf 3 0 (some 1)) 3 1 (some x2)) k n false P))) : am_go sc d 21 (0, [some (.ref 3), some (.ref 1), some (.ref x2)], [], (am_SH, I, J, Pf), k, n) P := by
  refine am_s_aload_n rfl dc21_0.1.1.1 ?_
  refine am_s_aload_n rfl dc21_0.1.1.2 ?_
  refine am_s_putR dc21_0.1.2.1 rfl rfl rfl rfl (am_bltc rfl) ?_
  refine am_s_aload_n rfl dc21_0.1.2.2 ?_
  refine am_s_aload_n rfl dc21_0.2.1.1 ?_
  refine am_s_putR dc21_0.2.1.2 rfl rfl rfl rfl (am_blt hx2) ?_
  refine am_s_aload_n rfl dc21_0.2.2.1 ?_
  obtain ⟨r3_1x1, qx1⟩ := q
  refine am_s_getR (r := r3_1x1) dc21_0.2.2.2 rfl rfl rfl (qx1.1) ?_
  exact am_s_virtual false dc21_1.1.1.1 rfl (by decide) rfl (qx1.2.1) rfl (qx1.2.2)
theorem v21_22 {sc : Option (Nat × (Nat → Int32))} {d k n : Nat} {P : am_O → Prop} {I : am_I} {J : am_J} {Pf : am_R} (hp : am_PF Pf) {l1 : Option Value} {l2 : Option Value} (q : (if 60 < (I 3 2) then (am_go sc d 21 (79, [some (.ref 3), l1, l2], [], (am_SH, I, J, Pf), k, n) P) else (Pf 3 0 = some 1) ∧ (am_mth d 55 [.ref 1] (am_SH, I, J, Pf) (am_af sc d 21 35 [some (.ref 3), l1, l2] [.ref 1] [] (am_SH, I, J, Pf) k n false P)))) : am_go sc d 21 (22, [some (.ref 3), l1, l2], [], (am_SH, I, J, Pf), k, n) P := by
  refine am_s_aload_n rfl dc21_1.2.1.1 ?_
  refine am_x_getI (x := I 3 2) dc21_1.2.1.2 rfl rfl (Or.inl rfl) rfl ?_
  refine am_s_bipush am_cb60 dc21_1.2.2.1 ?_
  refine am_s_ic_gt dc21_1.2.2.2 rfl (fun c1 => ?_) (fun c1 => ?_)
  · exact (vi_t q c1)
  · refine am_s_aload_n rfl dc21_2.1.1.1 ?_
    refine am_s_getR (r := 1) dc21_2.1.1.2 rfl rfl rfl ((vi_f q c1).1) ?_
    exact am_s_virtual false dc21_2.1.2.1 rfl (by decide) rfl rfl rfl ((vi_f q c1).2)
theorem v21_79 {sc : Option (Nat × (Nat → Int32))} {d k n : Nat} {P : am_O → Prop} {I : am_I} {J : am_J} {Pf : am_R} (hp : am_PF Pf) {l1 : Option Value} {l2 : Option Value} (q : ∃ r3_1x1 : Nat, (Pf 3 1 = some r3_1x1) ∧ (am_SH[r3_1x1]? = some (.inl 4)) ∧ (am_mth d 91 [.ref (r3_1x1 + 15), .ref r3_1x1] (am_SH, I, J, Pf) (am_af sc d 21 90 [some (.ref 3), l1, l2] [.ref r3_1x1, .ref (r3_1x1 + 15)] [] (am_SH, I, J, Pf) k n false P))) : am_go sc d 21 (79, [some (.ref 3), l1, l2], [], (am_SH, I, J, Pf), k, n) P := by
  refine am_s_aload_n rfl dc21_4.2.2.2 ?_
  obtain ⟨r3_1x1, qx1⟩ := q
  refine am_s_getR (r := r3_1x1) dc21_5.1.1.1 rfl rfl rfl (qx1.1) ?_
  refine am_s_getR (r := r3_1x1 + 15) dc21_5.1.1.2 rfl (qx1.2.1) rfl (am_r4_20 hp (qx1.2.1)) ?_
  refine am_s_aload_n rfl dc21_5.1.2.1 ?_
  refine am_s_getR (r := r3_1x1) dc21_5.1.2.2 rfl rfl rfl (qx1.1) ?_
  exact am_s_virtual false dc21_5.2.1.1 rfl (by decide) rfl (am_h4_20 (qx1.2.1)) rfl (qx1.2.2)
theorem v21_17 {sc : Option (Nat × (Nat → Int32))} {d k n : Nat} {P : am_O → Prop} {I : am_I} {J : am_J} {Pf : am_R} (hp : am_PF Pf) {l1 : Option Value} {l2 : Option Value} (q : (am_go sc d 21 (22, [some (.ref 3), l1, l2], [], (am_SH, am_u I 3 2 0, J, Pf), k, n) P)) : am_go sc d 21 (17, [some (.ref 3), l1, l2], [], (am_SH, I, J, Pf), k, n) P := by
  refine am_s_aload_n rfl dc21_1.1.1.2 ?_
  refine am_s_iconst am_cc0 dc21_1.1.2.1 ?_
  refine am_s_putI dc21_1.1.2.2 rfl rfl rfl rfl ?_
  exact q
theorem v21_38 {sc : Option (Nat × (Nat → Int32))} {d k n : Nat} {P : am_O → Prop} {I : am_I} {J : am_J} {Pf : am_R} (hp : am_PF Pf) {l1 : Option Value} {l2 : Option Value} {s0 : Int32} (q : (if s0 = (-1) then (am_go sc d 21 (79, [some (.ref 3), l1, l2], [], (am_SH, I, J, Pf), k, n) P) else (am_mth d 23 [.ref 3] (am_SH, I, J, Pf) (am_af sc d 21 46 [some (.ref 3), l1, l2] [.ref 3] [] (am_SH, I, J, Pf) k n true P)))) : am_go sc d 21 (38, [some (.ref 3), l1, l2], [.int s0], (am_SH, I, J, Pf), k, n) P := by
  refine am_s_iconst am_ccm1 dc21_2.1.2.2 ?_
  refine am_s_ic_ne dc21_2.2.1.1 rfl (fun c1 => ?_) (fun c1 => ?_)
  · refine am_s_aload_n rfl dc21_2.2.2.1 ?_
    exact am_s_virtual true dc21_2.2.2.2 rfl (by decide) rfl rfl rfl ((vi_f q c1))
  · refine am_s_goto rfl dc21_2.2.1.2 ?_
    exact (vi_t q (Decidable.not_not.mp c1))
theorem v21_93 {sc : Option (Nat × (Nat → Int32))} {d k n : Nat} {P : am_O → Prop} {I : am_I} {J : am_J} {Pf : am_R} (hp : am_PF Pf) {l1 : Option Value} {l2 : Option Value} (q : (am_mth d 22 [.ref 3] (am_SH, I, J, Pf) (am_af sc d 21 94 [some (.ref 3), l1, l2] [.ref 3] [] (am_SH, I, J, Pf) k n true P))) : am_go sc d 21 (93, [some (.ref 3), l1, l2], [], (am_SH, I, J, Pf), k, n) P := by
  refine am_s_aload_n rfl dc21_5.2.1.2 ?_
  exact am_s_virtual true dc21_5.2.2.1 rfl (by decide) rfl rfl rfl (q)
theorem v21_49 {sc : Option (Nat × (Nat → Int32))} {d k n : Nat} {P : am_O → Prop} {I : am_I} {J : am_J} {Pf : am_R} (hp : am_PF Pf) {l1 : Option Value} {l2 : Option Value} {s0 : Int32} (q : (if s0 = 0 then (P (.inl (some (.int 0)), (am_SH, I, J, Pf), k, n)) else (Pf 3 0 = some 1) ∧ (am_mth d 56 [.ref 1, .int 59] (am_SH, I, J, Pf) (am_af sc d 21 58 [some (.ref 3), l1, l2] [.int 59, .ref 1] [] (am_SH, I, J, Pf) k n false P)))) : am_go sc d 21 (49, [some (.ref 3), l1, l2], [.int s0], (am_SH, I, J, Pf), k, n) P := by
  refine am_s_if_eq dc21_3.1.1.1 rfl (fun c1 => ?_) (fun c1 => ?_)
  · refine am_s_iconst am_cc0 dc21_3.2.2.1 ?_
    exact am_s_zreturn dc21_3.2.2.2 rfl (by decide) ((vi_t q c1))
  · refine am_s_aload_n rfl dc21_3.1.1.2 ?_
    refine am_s_getR (r := 1) dc21_3.1.2.1 rfl rfl rfl ((vi_f q c1).1) ?_
    refine am_s_bipush am_cb59 dc21_3.1.2.2 ?_
    exact am_s_virtual false dc21_3.2.1.1 rfl (by decide) rfl rfl rfl ((vi_f q c1).2)
theorem v21_97 {sc : Option (Nat × (Nat → Int32))} {d k n : Nat} {P : am_O → Prop} {I : am_I} {J : am_J} {Pf : am_R} (hp : am_PF Pf) {l1 : Option Value} {l2 : Option Value} {s0 : Int32} (q : (if s0 = 0 then (P (.inl (some (.int 0)), (am_SH, I, J, Pf), k, n)) else ∃ r3_1x1 : Nat, (Pf 3 1 = some r3_1x1) ∧ (am_SH[r3_1x1]? = some (.inl 4)) ∧ (am_mth d 92 [.ref (r3_1x1 + 15), .ref r3_1x1] (am_SH, I, J, Pf) (am_af sc d 21 113 [some (.ref 3), l1, l2] [.ref r3_1x1, .ref (r3_1x1 + 15)] [] (am_SH, I, J, Pf) k n false P)))) : am_go sc d 21 (97, [some (.ref 3), l1, l2], [.int s0], (am_SH, I, J, Pf), k, n) P := by
  refine am_s_if_ne dc21_5.2.2.2 rfl (fun c1 => ?_) (fun c1 => ?_)
  · refine am_s_aload_n rfl dc21_6.1.2.1 ?_
    obtain ⟨r3_1x1, qx1⟩ := (vi_f q c1)
    refine am_s_getR (r := r3_1x1) dc21_6.1.2.2 rfl rfl rfl (qx1.1) ?_
    refine am_s_getR (r := r3_1x1 + 15) dc21_6.2.1.1 rfl (qx1.2.1) rfl (am_r4_20 hp (qx1.2.1)) ?_
    refine am_s_aload_n rfl dc21_6.2.1.2 ?_
    refine am_s_getR (r := r3_1x1) dc21_6.2.2.1 rfl rfl rfl (qx1.1) ?_
    exact am_s_virtual false dc21_6.2.2.2 rfl (by decide) rfl (am_h4_20 (qx1.2.1)) rfl (qx1.2.2)
  · refine am_s_iconst am_cc0 dc21_6.1.1.1 ?_
    exact am_s_zreturn dc21_6.1.1.2 rfl (by decide) ((vi_t q (Decidable.not_not.mp c1)))
theorem v21_61 {sc : Option (Nat × (Nat → Int32))} {d k n : Nat} {P : am_O → Prop} {I : am_I} {J : am_J} {Pf : am_R} (hp : am_PF Pf) {l1 : Option Value} {l2 : Option Value} {s0 : Int32} (q : (if s0 = 0 then (P (.inl (some (.int 0)), (am_SH, I, J, Pf), k, n)) else (am_go sc d 21 (22, [some (.ref 3), l1, l2], [], (am_SH, am_u I 3 2 ((I 3 2) + 1), J, Pf), k, n) P))) : am_go sc d 21 (61, [some (.ref 3), l1, l2], [.int s0], (am_SH, I, J, Pf), k, n) P := by
  refine am_s_if_ne dc21_3.2.1.2 rfl (fun c1 => ?_) (fun c1 => ?_)
  · refine am_s_aload_n rfl dc21_4.1.1.1 ?_
    refine am_s_dup rfl dc21_4.1.1.2 ?_
    refine am_x_getI (x := I 3 2) dc21_4.1.2.1 rfl rfl (Or.inl rfl) rfl ?_
    refine am_s_iconst am_cc1 dc21_4.1.2.2 ?_
    refine am_s_iadd dc21_4.2.1.1 ?_
    refine am_s_putI dc21_4.2.1.2 rfl rfl rfl rfl ?_
    refine am_s_goto rfl dc21_4.2.2.1 ?_
    exact (vi_f q c1)
  · refine am_s_iconst am_cc0 dc21_3.2.2.1 ?_
    exact am_s_zreturn dc21_3.2.2.2 rfl (by decide) ((vi_t q (Decidable.not_not.mp c1)))
theorem v21_116 {sc : Option (Nat × (Nat → Int32))} {d k n : Nat} {P : am_O → Prop} {I : am_I} {J : am_J} {Pf : am_R} (hp : am_PF Pf) {l0 : Option Value} {l1 : Option Value} {l2 : Option Value} (q : (P (.inl (some (.int 1)), (am_SH, I, J, Pf), k, n))) : am_go sc d 21 (116, [l0, l1, l2], [], (am_SH, I, J, Pf), k, n) P := by
  refine am_s_iconst am_cc1 dc21_7.1 ?_
  exact am_s_zreturn dc21_7.2 rfl (by decide) (q)
-- dropsAreSound ()Z
theorem v22_0 {sc : Option (Nat × (Nat → Int32))} {d k n : Nat} {P : am_O → Prop} {I : am_I} {J : am_J} {Pf : am_R} (hp : am_PF Pf) {l1 : Option Value} (q : (am_go sc d 22 (2, [some (.ref 3), some (.int 0)], [], (am_SH, I, J, Pf), k, n) P)) : am_go sc d 22 (0, [some (.ref 3), l1], [], (am_SH, I, J, Pf), k, n) P := by
  refine am_s_iconst am_cc0 dc22_0.1.1.1 ?_
  refine am_s_istore_n (ls' := [some (.ref 3), some (.int 0)]) rfl rfl dc22_0.1.1.2 ?_
  exact q
theorem v22_2 {sc : Option (Nat × (Nat → Int32))} {d k n : Nat} {P : am_O → Prop} {I : am_I} {J : am_J} {Pf : am_R} (hp : am_PF Pf) {x1 : Int32} (q : ∃ r3_1x1 : Nat, (Pf 3 1 = some r3_1x1) ∧ (am_SH[r3_1x1]? = some (.inl 4)) ∧ (if (I r3_1x1 16) ≤ x1 then (P (.inl (some (.int 1)), (am_SH, I, J, Pf), k, n)) else (am_in x1 8 = true) ∧ (am_in (I (r3_1x1 + 14) (Int32.toNatClampNeg x1)) 8 = true) ∧ (am_in x1 8 = true) ∧ (if ((UInt32.toInt32 (Int32.toUInt32 (I (r3_1x1 + 15 + 3) (Int32.toNatClampNeg (I (r3_1x1 + 14) (Int32.toNatClampNeg x1)))) >>> (Int32.toUInt32 (I (r3_1x1 + 13) (Int32.toNatClampNeg x1)) &&& Int32.toUInt32 31))) &&& 1) = 0 then (am_go sc (d + 1) 22 (2, [some (.ref 3), some (.int (x1 + 1))], [], (am_SH, I, J, Pf), k, n) P) else (am_in x1 8 = true) ∧ (Pf 3 0 = some 1) ∧ (am_in x1 8 = true) ∧ (if (I 1 5) = 0 then (P (.inl (some (.int 0)), (am_SH, am_u (am_u (am_u I 3 2 (I 6 (Int32.toNatClampNeg x1))) 1 5 4) 1 6 (I 5 (Int32.toNatClampNeg x1)), J, Pf), k, n)) else (P (.inl (some (.int 0)), (am_SH, am_u I 3 2 (I 6 (Int32.toNatClampNeg x1)), J, Pf), k, n)))))) : am_go sc (d + 1) 22 (2, [some (.ref 3), some (.int x1)], [], (am_SH, I, J, Pf), k, n) P := by
  refine am_s_iload_n rfl dc22_0.1.2.1 ?_
  refine am_s_aload_n rfl dc22_0.1.2.2 ?_
  obtain ⟨r3_1x1, qx1⟩ := q
  refine am_s_getR (r := r3_1x1) dc22_0.2.1.1 rfl rfl rfl (qx1.1) ?_
  refine am_x_getI (x := I r3_1x1 16) dc22_0.2.1.2 rfl (qx1.2.1) (Or.inl rfl) rfl ?_
  refine am_s_ic_ge dc22_0.2.2.1 rfl (fun c1 => ?_) (fun c1 => ?_)
  · refine am_s_iconst am_cc1 dc22_5.2.2.1 ?_
    exact am_s_zreturn dc22_5.2.2.2 rfl (by decide) ((vi_t qx1.2.2 c1))
  · refine am_s_aload_n rfl dc22_0.2.2.2 ?_
    refine am_s_getR (r := r3_1x1) dc22_1.1.1.1 rfl rfl rfl (qx1.1) ?_
    refine am_s_getR (r := r3_1x1 + 15) dc22_1.1.1.2 rfl (qx1.2.1) rfl (am_r4_20 hp (qx1.2.1)) ?_
    refine am_s_getR (r := r3_1x1 + 15 + 3) dc22_1.1.2.1 rfl (am_h4_20 (qx1.2.1)) rfl (am_r7_2 hp (am_h4_20 (qx1.2.1))) ?_
    refine am_s_aload_n rfl dc22_1.1.2.2 ?_
    refine am_s_getR (r := r3_1x1) dc22_1.2.1.1 rfl rfl rfl (qx1.1) ?_
    refine am_s_getR (r := r3_1x1 + 14) dc22_1.2.1.2 rfl (qx1.2.1) rfl (am_r4_18 hp (qx1.2.1)) ?_
    refine am_s_iload_n rfl dc22_1.2.2.1 ?_
    refine am_x_iaload (x := I (r3_1x1 + 14) (Int32.toNatClampNeg x1)) dc22_1.2.2.2 (am_h4_18 (qx1.2.1)) ((vi_f qx1.2.2 c1).1) rfl rfl ?_
    refine am_x_iaload (x := I (r3_1x1 + 15 + 3) (Int32.toNatClampNeg (I (r3_1x1 + 14) (Int32.toNatClampNeg x1)))) dc22_2.1.1.1 (am_h7_2 (am_h4_20 (qx1.2.1))) ((vi_f qx1.2.2 c1).2.1) rfl rfl ?_
    refine am_s_aload_n rfl dc22_2.1.1.2 ?_
    refine am_s_getR (r := r3_1x1) dc22_2.1.2.1 rfl rfl rfl (qx1.1) ?_
    refine am_s_getR (r := r3_1x1 + 13) dc22_2.1.2.2 rfl (qx1.2.1) rfl (am_r4_17 hp (qx1.2.1)) ?_
    refine am_s_iload_n rfl dc22_2.2.1.1 ?_
    refine am_x_iaload (x := I (r3_1x1 + 13) (Int32.toNatClampNeg x1)) dc22_2.2.1.2 (am_h4_17 (qx1.2.1)) ((vi_f qx1.2.2 c1).2.2.1) rfl rfl ?_
    refine am_s_iushr dc22_2.2.2.1 ?_
    refine am_s_iconst am_cc1 dc22_2.2.2.2 ?_
    refine am_s_iand dc22_3.1.1.1 ?_
    refine am_s_if_ne dc22_3.1.1.2 rfl (fun c2 => ?_) (fun c2 => ?_)
    · refine am_s_aload_n rfl dc22_3.1.2.2 ?_
      refine am_s_aload_n rfl dc22_3.2.1.1 ?_
      refine am_s_getR (r := 6) dc22_3.2.1.2 rfl rfl rfl (hp _ _ _ rfl) ?_
      refine am_s_iload_n rfl dc22_3.2.2.1 ?_
      refine am_x_iaload (x := I 6 (Int32.toNatClampNeg x1)) dc22_3.2.2.2 rfl ((vi_f (vi_f qx1.2.2 c1).2.2.2 c2).1) rfl rfl ?_
      refine am_s_putI dc22_4.1.1.1 rfl rfl rfl rfl ?_
      refine am_s_aload_n rfl dc22_4.1.1.2 ?_
      refine am_s_getR (r := 1) dc22_4.1.2.1 rfl rfl rfl ((vi_f (vi_f qx1.2.2 c1).2.2.2 c2).2.1) ?_
      refine am_s_iconst am_cc4 dc22_4.1.2.2 ?_
      refine am_s_aload_n rfl dc22_4.2.1.1 ?_
      refine am_s_getR (r := 5) dc22_4.2.1.2 rfl rfl rfl (hp _ _ _ rfl) ?_
      refine am_s_iload_n rfl dc22_4.2.2.1 ?_
      refine am_x_iaload (x := I 5 (Int32.toNatClampNeg x1)) dc22_4.2.2.2 rfl ((vi_f (vi_f qx1.2.2 c1).2.2.2 c2).2.2.1) rfl rfl ?_
      refine am_s_virtual false dc22_5.1.1 rfl (by decide) rfl rfl rfl (am_mth_of rfl rfl ?_)
      refine am_s_aload_n rfl dc53_0.1.1.1 ?_
      refine am_x_getI (x := I 1 5) dc53_0.1.1.2 rfl rfl (Or.inl rfl) rfl ?_
      refine am_s_if_ne dc53_0.1.2.1 rfl (fun c3 => ?_) (fun c3 => ?_)
      · refine am_s_iconst am_cc0 dc53_1.2.1 ?_
        refine am_s_zreturn dc53_1.2.2 rfl (by decide) (am_bkI ?_)
        exact am_s_zreturn dc22_5.1.2.1 rfl (by decide) ((vi_f (vi_f (vi_f qx1.2.2 c1).2.2.2 c2).2.2.2 c3))
      · refine am_s_aload_n rfl dc53_0.1.2.2 ?_
        refine am_s_iload_n rfl dc53_0.2.1.1 ?_
        refine am_s_putI dc53_0.2.1.2 rfl rfl rfl rfl ?_
        refine am_s_aload_n rfl dc53_0.2.2.1 ?_
        refine am_s_iload_n rfl dc53_0.2.2.2 ?_
        refine am_s_putI dc53_1.1 rfl rfl rfl rfl ?_
        refine am_s_iconst am_cc0 dc53_1.2.1 ?_
        refine am_s_zreturn dc53_1.2.2 rfl (by decide) (am_bkI ?_)
        exact am_s_zreturn dc22_5.1.2.1 rfl (by decide) ((vi_t (vi_f (vi_f qx1.2.2 c1).2.2.2 c2).2.2.2 (Decidable.not_not.mp c3)))
    · refine am_s_goto rfl dc22_3.1.2.1 ?_
      refine am_s_iinc (ls' := [some (.ref 3), some (.int (x1 + 1))]) am_cc1 rfl rfl dc22_5.1.2.2 ?_
      refine am_s_goto rfl dc22_5.2.1 ?_
      exact (vi_t (vi_f qx1.2.2 c1).2.2.2 (Decidable.not_not.mp c2))
-- readClause ()Z
theorem v23_0 {sc : Option (Nat × (Nat → Int32))} {d k n : Nat} {P : am_O → Prop} {I : am_I} {J : am_J} {Pf : am_R} (hp : am_PF Pf) {l1 : Option Value} (q : (Pf 3 0 = some 1) ∧ (am_mth d 59 [.ref 1] (am_SH, I, J, Pf) (am_af sc d 23 4 [some (.ref 3), l1] [.ref 1] [] (am_SH, I, J, Pf) k n false P))) : am_go sc d 23 (0, [some (.ref 3), l1], [], (am_SH, I, J, Pf), k, n) P := by
  refine am_s_aload_n rfl dc23_0.1.1.1 ?_
  refine am_s_getR (r := 1) dc23_0.1.1.2 rfl rfl rfl (q.1) ?_
  exact am_s_virtual false dc23_0.1.2.1 rfl (by decide) rfl rfl rfl (q.2)
theorem v23_54 {sc : Option (Nat × (Nat → Int32))} {d k n : Nat} {P : am_O → Prop} {I : am_I} {J : am_J} {Pf : am_R} (hp : am_PF Pf) {l1 : Option Value} (q : (Pf 3 0 = some 1) ∧ (if (I 1 5) = 0 then (P (.inl (some (.int 0)), (am_SH, am_u (am_u I 1 5 3) 1 6 (I 1 7), J, Pf), k, n)) else (P (.inl (some (.int 0)), (am_SH, I, J, Pf), k, n)))) : am_go sc (d + 1) 23 (54, [some (.ref 3), l1], [], (am_SH, I, J, Pf), k, n) P := by
  refine am_s_aload_n rfl dc23_3.1.2.2 ?_
  refine am_s_getR (r := 1) dc23_3.2.1.1 rfl rfl rfl (q.1) ?_
  refine am_s_iconst am_cc3 dc23_3.2.1.2 ?_
  refine am_s_aload_n rfl dc23_3.2.2.1 ?_
  refine am_s_getR (r := 1) dc23_3.2.2.2 rfl rfl rfl (q.1) ?_
  refine am_x_getI (x := I 1 7) dc23_4.1.1.1 rfl rfl (Or.inl rfl) rfl ?_
  refine am_s_virtual false dc23_4.1.1.2 rfl (by decide) rfl rfl rfl (am_mth_of rfl rfl ?_)
  refine am_s_aload_n rfl dc53_0.1.1.1 ?_
  refine am_x_getI (x := I 1 5) dc53_0.1.1.2 rfl rfl (Or.inl rfl) rfl ?_
  refine am_s_if_ne dc53_0.1.2.1 rfl (fun c1 => ?_) (fun c1 => ?_)
  · refine am_s_iconst am_cc0 dc53_1.2.1 ?_
    refine am_s_zreturn dc53_1.2.2 rfl (by decide) (am_bkI ?_)
    exact am_s_zreturn dc23_4.1.2.1 rfl (by decide) ((vi_f q.2 c1))
  · refine am_s_aload_n rfl dc53_0.1.2.2 ?_
    refine am_s_iload_n rfl dc53_0.2.1.1 ?_
    refine am_s_putI dc53_0.2.1.2 rfl rfl rfl rfl ?_
    refine am_s_aload_n rfl dc53_0.2.2.1 ?_
    refine am_s_iload_n rfl dc53_0.2.2.2 ?_
    refine am_s_putI dc53_1.1 rfl rfl rfl rfl ?_
    refine am_s_iconst am_cc0 dc53_1.2.1 ?_
    refine am_s_zreturn dc53_1.2.2 rfl (by decide) (am_bkI ?_)
    exact am_s_zreturn dc23_4.1.2.1 rfl (by decide) ((vi_t q.2 (Decidable.not_not.mp c1)))
theorem v23_7 {sc : Option (Nat × (Nat → Int32))} {d k n : Nat} {P : am_O → Prop} {I : am_I} {J : am_J} {Pf : am_R} (hp : am_PF Pf) {l1 : Option Value} {s0 : Int32} (q : (if s0 = 0 then (P (.inl (some (.int 0)), (am_SH, I, J, Pf), k, n)) else (am_mth d 24 [.ref 3] (am_SH, I, J, Pf) (am_af sc d 23 13 [some (.ref 3), l1] [.ref 3] [] (am_SH, I, J, Pf) k n true P)))) : am_go sc d 23 (7, [some (.ref 3), l1], [.int s0], (am_SH, I, J, Pf), k, n) P := by
  refine am_s_if_ne dc23_0.1.2.2 rfl (fun c1 => ?_) (fun c1 => ?_)
  · refine am_s_aload_n rfl dc23_0.2.2.1 ?_
    exact am_s_virtual true dc23_0.2.2.2 rfl (by decide) rfl rfl rfl ((vi_f q c1))
  · refine am_s_iconst am_cc0 dc23_0.2.1.1 ?_
    exact am_s_zreturn dc23_0.2.1.2 rfl (by decide) ((vi_t q (Decidable.not_not.mp c1)))
theorem v23_16 {sc : Option (Nat × (Nat → Int32))} {d k n : Nat} {P : am_O → Prop} {I : am_I} {J : am_J} {Pf : am_R} (hp : am_PF Pf) {l1 : Option Value} {s0 : Int32} (q : (if s0 = 0 then (Pf 3 0 = some 1) ∧ (if (I 1 5) = 0 then (P (.inl (some (.int 0)), (am_SH, am_u (am_u I 1 5 1) 1 6 (I 1 7), J, Pf), k, n)) else (P (.inl (some (.int 0)), (am_SH, I, J, Pf), k, n))) else (if 60 ≤ (I 3 2) then (am_go sc (d + 1) 23 (54, [some (.ref 3), some (.int s0)], [], (am_SH, I, J, Pf), k, n) P) else (am_mth (d + 1) 25 [.ref 3, .int s0] (am_SH, I, J, Pf) (am_af sc (d + 1) 23 48 [some (.ref 3), some (.int s0)] [.int s0, .ref 3] [] (am_SH, I, J, Pf) k n true P))))) : am_go sc (d + 1) 23 (16, [some (.ref 3), l1], [.int s0], (am_SH, I, J, Pf), k, n) P := by
  refine am_s_istore_n (ls' := [some (.ref 3), some (.int s0)]) rfl rfl dc23_1.1.1.1 ?_
  refine am_s_iload_n rfl dc23_1.1.1.2 ?_
  refine am_s_if_ne dc23_1.1.2.1 rfl (fun c1 => ?_) (fun c1 => ?_)
  · refine am_s_aload_n rfl dc23_2.1.2.2 ?_
    refine am_x_getI (x := I 3 2) dc23_2.2.1.1 rfl rfl (Or.inl rfl) rfl ?_
    refine am_s_bipush am_cb60 dc23_2.2.1.2 ?_
    refine am_s_ic_ge dc23_2.2.2.1 rfl (fun c2 => ?_) (fun c2 => ?_)
    · exact (vi_t (vi_f q c1) c2)
    · refine am_s_aload_n rfl dc23_2.2.2.2 ?_
      refine am_s_iload_n rfl dc23_3.1.1.1 ?_
      exact am_s_virtual true dc23_3.1.1.2 rfl (by decide) rfl rfl rfl ((vi_f (vi_f q c1) c2))
  · refine am_s_aload_n rfl dc23_1.1.2.2 ?_
    refine am_s_getR (r := 1) dc23_1.2.1.1 rfl rfl rfl ((vi_t q (Decidable.not_not.mp c1)).1) ?_
    refine am_s_iconst am_cc1 dc23_1.2.1.2 ?_
    refine am_s_aload_n rfl dc23_1.2.2.1 ?_
    refine am_s_getR (r := 1) dc23_1.2.2.2 rfl rfl rfl ((vi_t q (Decidable.not_not.mp c1)).1) ?_
    refine am_x_getI (x := I 1 7) dc23_2.1.1.1 rfl rfl (Or.inl rfl) rfl ?_
    refine am_s_virtual false dc23_2.1.1.2 rfl (by decide) rfl rfl rfl (am_mth_of rfl rfl ?_)
    refine am_s_aload_n rfl dc53_0.1.1.1 ?_
    refine am_x_getI (x := I 1 5) dc53_0.1.1.2 rfl rfl (Or.inl rfl) rfl ?_
    refine am_s_if_ne dc53_0.1.2.1 rfl (fun c2 => ?_) (fun c2 => ?_)
    · refine am_s_iconst am_cc0 dc53_1.2.1 ?_
      refine am_s_zreturn dc53_1.2.2 rfl (by decide) (am_bkI ?_)
      exact am_s_zreturn dc23_2.1.2.1 rfl (by decide) ((vi_f (vi_t q (Decidable.not_not.mp c1)).2 c2))
    · refine am_s_aload_n rfl dc53_0.1.2.2 ?_
      refine am_s_iload_n rfl dc53_0.2.1.1 ?_
      refine am_s_putI dc53_0.2.1.2 rfl rfl rfl rfl ?_
      refine am_s_aload_n rfl dc53_0.2.2.1 ?_
      refine am_s_iload_n rfl dc53_0.2.2.2 ?_
      refine am_s_putI dc53_1.1 rfl rfl rfl rfl ?_
      refine am_s_iconst am_cc0 dc53_1.2.1 ?_
      refine am_s_zreturn dc53_1.2.2 rfl (by decide) (am_bkI ?_)
      exact am_s_zreturn dc23_2.1.2.1 rfl (by decide) ((vi_t (vi_t q (Decidable.not_not.mp c1)).2 (Decidable.not_not.mp c2)))
theorem v23_51 {sc : Option (Nat × (Nat → Int32))} {d k n : Nat} {P : am_O → Prop} {I : am_I} {J : am_J} {Pf : am_R} (hp : am_PF Pf) {x1 : Int32} {s0 : Int32} (q : (if s0 = 0 then (if x1 = 1 then (am_mth d 29 [.ref 3, .int 0] (am_SH, I, J, Pf) (am_af sc d 23 110 [some (.ref 3), some (.int x1)] [.int 0, .ref 3] [] (am_SH, I, J, Pf) k n true P)) else (if x1 = 2 then (am_mth d 33 [.ref 3, .int 1] (am_SH, I, J, Pf) (am_af sc d 23 131 [some (.ref 3), some (.int x1)] [.int 1, .ref 3] [] (am_SH, I, J, Pf) k n true P)) else (if x1 = 3 then (am_mth d 33 [.ref 3, .int 0] (am_SH, I, J, Pf) (am_af sc d 23 137 [some (.ref 3), some (.int x1)] [.int 0, .ref 3] [] (am_SH, I, J, Pf) k n true P)) else (if x1 = 4 then (am_mth d 35 [.ref 3] (am_SH, I, J, Pf) (am_af sc d 23 142 [some (.ref 3), some (.int x1)] [.ref 3] [] (am_SH, I, J, Pf) k n true P)) else (if x1 = 5 then (am_mth d 36 [.ref 3] (am_SH, I, J, Pf) (am_af sc d 23 147 [some (.ref 3), some (.int x1)] [.ref 3] [] (am_SH, I, J, Pf) k n true P)) else (if x1 = 6 then (am_mth d 37 [.ref 3] (am_SH, I, J, Pf) (am_af sc d 23 152 [some (.ref 3), some (.int x1)] [.ref 3] [] (am_SH, I, J, Pf) k n true P)) else (am_mth d 38 [.ref 3] (am_SH, I, J, Pf) (am_af sc d 23 157 [some (.ref 3), some (.int x1)] [.ref 3] [] (am_SH, I, J, Pf) k n true P)))))))) else (am_go sc d 23 (54, [some (.ref 3), some (.int x1)], [], (am_SH, I, J, Pf), k, n) P))) : am_go sc d 23 (51, [some (.ref 3), some (.int x1)], [.int s0], (am_SH, I, J, Pf), k, n) P := by
  refine am_s_if_eq dc23_3.1.2.1 rfl (fun c1 => ?_) (fun c1 => ?_)
  · refine am_s_iload_n rfl dc23_4.1.2.2 ?_
    by_cases c2 : x1 = 1
    · refine am_s_tsw (v := 1) dc23_4.2.1.1 (by rw [c2]; decide) rfl rfl rfl ?_
      refine am_s_aload_n rfl dc23_4.2.1.2 ?_
      refine am_s_iconst am_cc0 dc23_4.2.2.1 ?_
      exact am_s_virtual true dc23_4.2.2.2 rfl (by decide) rfl rfl rfl ((vi_t (vi_t q c1) c2))
    by_cases c3 : x1 = 2
    · refine am_s_tsw (v := 2) dc23_4.2.1.1 (by rw [c3]; decide) rfl rfl rfl ?_
      refine am_s_aload_n rfl dc23_6.1.1.1 ?_
      refine am_s_iconst am_cc1 dc23_6.1.1.2 ?_
      exact am_s_virtual true dc23_6.1.2.1 rfl (by decide) rfl rfl rfl ((vi_t (vi_f (vi_t q c1) c2) c3))
    by_cases c4 : x1 = 3
    · refine am_s_tsw (v := 3) dc23_4.2.1.1 (by rw [c4]; decide) rfl rfl rfl ?_
      refine am_s_aload_n rfl dc23_6.2.1.1 ?_
      refine am_s_iconst am_cc0 dc23_6.2.1.2 ?_
      exact am_s_virtual true dc23_6.2.2.1 rfl (by decide) rfl rfl rfl ((vi_t (vi_f (vi_f (vi_t q c1) c2) c3) c4))
    by_cases c5 : x1 = 4
    · refine am_s_tsw (v := 4) dc23_4.2.1.1 (by rw [c5]; decide) rfl rfl rfl ?_
      refine am_s_aload_n rfl dc23_7.1.1.1 ?_
      exact am_s_virtual true dc23_7.1.1.2 rfl (by decide) rfl rfl rfl ((vi_t (vi_f (vi_f (vi_f (vi_t q c1) c2) c3) c4) c5))
    by_cases c6 : x1 = 5
    · refine am_s_tsw (v := 5) dc23_4.2.1.1 (by rw [c6]; decide) rfl rfl rfl ?_
      refine am_s_aload_n rfl dc23_7.1.2.2 ?_
      exact am_s_virtual true dc23_7.2.1.1 rfl (by decide) rfl rfl rfl ((vi_t (vi_f (vi_f (vi_f (vi_f (vi_t q c1) c2) c3) c4) c5) c6))
    by_cases c7 : x1 = 6
    · refine am_s_tsw (v := 6) dc23_4.2.1.1 (by rw [c7]; decide) rfl rfl rfl ?_
      refine am_s_aload_n rfl dc23_7.2.2.1 ?_
      exact am_s_virtual true dc23_7.2.2.2 rfl (by decide) rfl rfl rfl ((vi_t (vi_f (vi_f (vi_f (vi_f (vi_f (vi_t q c1) c2) c3) c4) c5) c6) c7))
    refine am_s_tswd dc23_4.2.1.1 (by have e2 := sw_n c2 (i := 1) (by decide); have e3 := sw_n c3 (i := 2) (by decide); have e4 := sw_n c4 (i := 3) (by decide); have e5 := sw_n c5 (i := 4) (by decide); have e6 := sw_n c6 (i := 5) (by decide); have e7 := sw_n c7 (i := 6) (by decide); simp only [Bool.or_eq_true, decide_eq_true_eq]; omega) rfl ?_
    refine am_s_aload_n rfl dc23_8.1.2 ?_
    exact am_s_virtual true dc23_8.2.1 rfl (by decide) rfl rfl rfl ((vi_f (vi_f (vi_f (vi_f (vi_f (vi_f (vi_t q c1) c2) c3) c4) c5) c6) c7))
  · exact (vi_f q c1)
theorem v23_113 {sc : Option (Nat × (Nat → Int32))} {d k n : Nat} {P : am_O → Prop} {I : am_I} {J : am_J} {Pf : am_R} (hp : am_PF Pf) {l1 : Option Value} {s0 : Int32} (q : (if s0 = 0 then (P (.inl (some (.int 0)), (am_SH, I, J, Pf), k, n)) else (am_mth d 28 [.ref 3] (am_SH, I, J, Pf) (am_af sc d 23 117 [some (.ref 3), l1] [.ref 3] [] (am_SH, I, J, Pf) k n true P)))) : am_go sc d 23 (113, [some (.ref 3), l1], [.int s0], (am_SH, I, J, Pf), k, n) P := by
  refine am_s_if_eq dc23_5.1.1.1 rfl (fun c1 => ?_) (fun c1 => ?_)
  · refine am_s_iconst am_cc0 dc23_5.2.2.1 ?_
    exact am_s_zreturn dc23_5.2.2.2 rfl (by decide) ((vi_t q c1))
  · refine am_s_aload_n rfl dc23_5.1.1.2 ?_
    exact am_s_virtual true dc23_5.1.2.1 rfl (by decide) rfl rfl rfl ((vi_f q c1))
theorem v23_134 {sc : Option (Nat × (Nat → Int32))} {d k n : Nat} {P : am_O → Prop} {I : am_I} {J : am_J} {Pf : am_R} (hp : am_PF Pf) {l0 : Option Value} {l1 : Option Value} {s0 : Int32} (q : (s0 = 0 ∨ s0 = 1) ∧ (P (.inl (some (.int s0)), (am_SH, I, J, Pf), k, n))) : am_go sc d 23 (134, [l0, l1], [.int s0], (am_SH, I, J, Pf), k, n) P := by
  exact am_s_zreturn dc23_6.1.2.2 rfl (q.1) (q.2)
theorem v23_140 {sc : Option (Nat × (Nat → Int32))} {d k n : Nat} {P : am_O → Prop} {I : am_I} {J : am_J} {Pf : am_R} (hp : am_PF Pf) {l0 : Option Value} {l1 : Option Value} {s0 : Int32} (q : (s0 = 0 ∨ s0 = 1) ∧ (P (.inl (some (.int s0)), (am_SH, I, J, Pf), k, n))) : am_go sc d 23 (140, [l0, l1], [.int s0], (am_SH, I, J, Pf), k, n) P := by
  exact am_s_zreturn dc23_6.2.2.2 rfl (q.1) (q.2)
theorem v23_145 {sc : Option (Nat × (Nat → Int32))} {d k n : Nat} {P : am_O → Prop} {I : am_I} {J : am_J} {Pf : am_R} (hp : am_PF Pf) {l0 : Option Value} {l1 : Option Value} {s0 : Int32} (q : (s0 = 0 ∨ s0 = 1) ∧ (P (.inl (some (.int s0)), (am_SH, I, J, Pf), k, n))) : am_go sc d 23 (145, [l0, l1], [.int s0], (am_SH, I, J, Pf), k, n) P := by
  exact am_s_zreturn dc23_7.1.2.1 rfl (q.1) (q.2)
theorem v23_150 {sc : Option (Nat × (Nat → Int32))} {d k n : Nat} {P : am_O → Prop} {I : am_I} {J : am_J} {Pf : am_R} (hp : am_PF Pf) {l0 : Option Value} {l1 : Option Value} {s0 : Int32} (q : (s0 = 0 ∨ s0 = 1) ∧ (P (.inl (some (.int s0)), (am_SH, I, J, Pf), k, n))) : am_go sc d 23 (150, [l0, l1], [.int s0], (am_SH, I, J, Pf), k, n) P := by
  exact am_s_zreturn dc23_7.2.1.2 rfl (q.1) (q.2)
theorem v23_155 {sc : Option (Nat × (Nat → Int32))} {d k n : Nat} {P : am_O → Prop} {I : am_I} {J : am_J} {Pf : am_R} (hp : am_PF Pf) {l0 : Option Value} {l1 : Option Value} {s0 : Int32} (q : (s0 = 0 ∨ s0 = 1) ∧ (P (.inl (some (.int s0)), (am_SH, I, J, Pf), k, n))) : am_go sc d 23 (155, [l0, l1], [.int s0], (am_SH, I, J, Pf), k, n) P := by
  exact am_s_zreturn dc23_8.1.1 rfl (q.1) (q.2)
theorem v23_160 {sc : Option (Nat × (Nat → Int32))} {d k n : Nat} {P : am_O → Prop} {I : am_I} {J : am_J} {Pf : am_R} (hp : am_PF Pf) {l0 : Option Value} {l1 : Option Value} {s0 : Int32} (q : (s0 = 0 ∨ s0 = 1) ∧ (P (.inl (some (.int s0)), (am_SH, I, J, Pf), k, n))) : am_go sc d 23 (160, [l0, l1], [.int s0], (am_SH, I, J, Pf), k, n) P := by
  exact am_s_zreturn dc23_8.2.2 rfl (q.1) (q.2)
theorem v23_120 {sc : Option (Nat × (Nat → Int32))} {d k n : Nat} {P : am_O → Prop} {I : am_I} {J : am_J} {Pf : am_R} (hp : am_PF Pf) {l0 : Option Value} {l1 : Option Value} {s0 : Int32} (q : (if s0 = 0 then (P (.inl (some (.int 0)), (am_SH, I, J, Pf), k, n)) else (P (.inl (some (.int 1)), (am_SH, I, J, Pf), k, n)))) : am_go sc d 23 (120, [l0, l1], [.int s0], (am_SH, I, J, Pf), k, n) P := by
  refine am_s_if_eq dc23_5.1.2.2 rfl (fun c1 => ?_) (fun c1 => ?_)
  · refine am_s_iconst am_cc0 dc23_5.2.2.1 ?_
    exact am_s_zreturn dc23_5.2.2.2 rfl (by decide) ((vi_t q c1))
  · refine am_s_iconst am_cc1 dc23_5.2.1.1 ?_
    refine am_s_goto rfl dc23_5.2.1.2 ?_
    exact am_s_zreturn dc23_5.2.2.2 rfl (by decide) ((vi_f q c1))
-- kindOfClause ()I
theorem v24_0 {sc : Option (Nat × (Nat → Int32))} {d k n : Nat} {P : am_O → Prop} {I : am_I} {J : am_J} {Pf : am_R} (hp : am_PF Pf)  (q : (Pf 3 0 = some 1) ∧ (am_mth d 60 [.ref 1, .retAddr 2] (am_SH, I, J, Pf) (am_af sc d 24 6 [some (.ref 3)] [.retAddr 2, .ref 1] [] (am_SH, I, J, Pf) k n false P))) : am_go sc d 24 (0, [some (.ref 3)], [], (am_SH, I, J, Pf), k, n) P := by
  refine am_s_aload_n rfl dc24_0.1.1.1 ?_
  refine am_s_getR (r := 1) dc24_0.1.1.2 rfl rfl rfl (q.1) ?_
  refine am_s_ldcT (x := 2) dc24_0.1.2.1 rfl rfl ?_
  exact am_s_virtual false dc24_0.1.2.2 rfl (by decide) rfl rfl rfl (q.2)
theorem v24_9 {sc : Option (Nat × (Nat → Int32))} {d k n : Nat} {P : am_O → Prop} {I : am_I} {J : am_J} {Pf : am_R} (hp : am_PF Pf) {s0 : Int32} (q : (if s0 = 0 then (Pf 3 0 = some 1) ∧ (am_mth d 60 [.ref 1, .retAddr 3] (am_SH, I, J, Pf) (am_af sc d 24 20 [some (.ref 3)] [.retAddr 3, .ref 1] [] (am_SH, I, J, Pf) k n false P)) else (P (.inl (some (.int 1)), (am_SH, I, J, Pf), k, n)))) : am_go sc d 24 (9, [some (.ref 3)], [.int s0], (am_SH, I, J, Pf), k, n) P := by
  refine am_s_if_eq dc24_0.2.1.1 rfl (fun c1 => ?_) (fun c1 => ?_)
  · refine am_s_aload_n rfl dc24_0.2.2.2 ?_
    refine am_s_getR (r := 1) dc24_1.1.1.1 rfl rfl rfl ((vi_t q c1).1) ?_
    refine am_s_ldcT (x := 3) dc24_1.1.1.2 rfl rfl ?_
    exact am_s_virtual false dc24_1.1.2.1 rfl (by decide) rfl rfl rfl ((vi_t q c1).2)
  · refine am_s_iconst am_cc1 dc24_0.2.1.2 ?_
    exact am_s_ireturn dc24_0.2.2.1 rfl ((vi_f q c1))
theorem v24_23 {sc : Option (Nat × (Nat → Int32))} {d k n : Nat} {P : am_O → Prop} {I : am_I} {J : am_J} {Pf : am_R} (hp : am_PF Pf) {s0 : Int32} (q : (if s0 = 0 then (Pf 3 0 = some 1) ∧ (am_mth d 60 [.ref 1, .retAddr 4] (am_SH, I, J, Pf) (am_af sc d 24 34 [some (.ref 3)] [.retAddr 4, .ref 1] [] (am_SH, I, J, Pf) k n false P)) else (P (.inl (some (.int 2)), (am_SH, I, J, Pf), k, n)))) : am_go sc d 24 (23, [some (.ref 3)], [.int s0], (am_SH, I, J, Pf), k, n) P := by
  refine am_s_if_eq dc24_1.1.2.2 rfl (fun c1 => ?_) (fun c1 => ?_)
  · refine am_s_aload_n rfl dc24_1.2.2.1 ?_
    refine am_s_getR (r := 1) dc24_1.2.2.2 rfl rfl rfl ((vi_t q c1).1) ?_
    refine am_s_ldcT (x := 4) dc24_2.1.1.1 rfl rfl ?_
    exact am_s_virtual false dc24_2.1.1.2 rfl (by decide) rfl rfl rfl ((vi_t q c1).2)
  · refine am_s_iconst am_cc2 dc24_1.2.1.1 ?_
    exact am_s_ireturn dc24_1.2.1.2 rfl ((vi_f q c1))
theorem v24_37 {sc : Option (Nat × (Nat → Int32))} {d k n : Nat} {P : am_O → Prop} {I : am_I} {J : am_J} {Pf : am_R} (hp : am_PF Pf) {s0 : Int32} (q : (if s0 = 0 then (Pf 3 0 = some 1) ∧ (am_mth d 60 [.ref 1, .retAddr 5] (am_SH, I, J, Pf) (am_af sc d 24 48 [some (.ref 3)] [.retAddr 5, .ref 1] [] (am_SH, I, J, Pf) k n false P)) else (P (.inl (some (.int 3)), (am_SH, I, J, Pf), k, n)))) : am_go sc d 24 (37, [some (.ref 3)], [.int s0], (am_SH, I, J, Pf), k, n) P := by
  refine am_s_if_eq dc24_2.1.2.1 rfl (fun c1 => ?_) (fun c1 => ?_)
  · refine am_s_aload_n rfl dc24_2.2.1.2 ?_
    refine am_s_getR (r := 1) dc24_2.2.2.1 rfl rfl rfl ((vi_t q c1).1) ?_
    refine am_s_ldcT (x := 5) dc24_2.2.2.2 rfl rfl ?_
    exact am_s_virtual false dc24_3.1.1.1 rfl (by decide) rfl rfl rfl ((vi_t q c1).2)
  · refine am_s_iconst am_cc3 dc24_2.1.2.2 ?_
    exact am_s_ireturn dc24_2.2.1.1 rfl ((vi_f q c1))
theorem v24_51 {sc : Option (Nat × (Nat → Int32))} {d k n : Nat} {P : am_O → Prop} {I : am_I} {J : am_J} {Pf : am_R} (hp : am_PF Pf) {s0 : Int32} (q : (if s0 = 0 then (Pf 3 0 = some 1) ∧ (am_mth d 60 [.ref 1, .retAddr 6] (am_SH, I, J, Pf) (am_af sc d 24 62 [some (.ref 3)] [.retAddr 6, .ref 1] [] (am_SH, I, J, Pf) k n false P)) else (P (.inl (some (.int 4)), (am_SH, I, J, Pf), k, n)))) : am_go sc d 24 (51, [some (.ref 3)], [.int s0], (am_SH, I, J, Pf), k, n) P := by
  refine am_s_if_eq dc24_3.1.1.2 rfl (fun c1 => ?_) (fun c1 => ?_)
  · refine am_s_aload_n rfl dc24_3.2.1.1 ?_
    refine am_s_getR (r := 1) dc24_3.2.1.2 rfl rfl rfl ((vi_t q c1).1) ?_
    refine am_s_ldcT (x := 6) dc24_3.2.2.1 rfl rfl ?_
    exact am_s_virtual false dc24_3.2.2.2 rfl (by decide) rfl rfl rfl ((vi_t q c1).2)
  · refine am_s_iconst am_cc4 dc24_3.1.2.1 ?_
    exact am_s_ireturn dc24_3.1.2.2 rfl ((vi_f q c1))
theorem v24_65 {sc : Option (Nat × (Nat → Int32))} {d k n : Nat} {P : am_O → Prop} {I : am_I} {J : am_J} {Pf : am_R} (hp : am_PF Pf) {s0 : Int32} (q : (if s0 = 0 then (Pf 3 0 = some 1) ∧ (am_mth d 60 [.ref 1, .retAddr 7] (am_SH, I, J, Pf) (am_af sc d 24 76 [some (.ref 3)] [.retAddr 7, .ref 1] [] (am_SH, I, J, Pf) k n false P)) else (P (.inl (some (.int 5)), (am_SH, I, J, Pf), k, n)))) : am_go sc d 24 (65, [some (.ref 3)], [.int s0], (am_SH, I, J, Pf), k, n) P := by
  refine am_s_if_eq dc24_4.1.1.1 rfl (fun c1 => ?_) (fun c1 => ?_)
  · refine am_s_aload_n rfl dc24_4.1.2.2 ?_
    refine am_s_getR (r := 1) dc24_4.2.1.1 rfl rfl rfl ((vi_t q c1).1) ?_
    refine am_s_ldcT (x := 7) dc24_4.2.1.2 rfl rfl ?_
    exact am_s_virtual false dc24_4.2.2.1 rfl (by decide) rfl rfl rfl ((vi_t q c1).2)
  · refine am_s_iconst am_cc5 dc24_4.1.1.2 ?_
    exact am_s_ireturn dc24_4.1.2.1 rfl ((vi_f q c1))
theorem v24_79 {sc : Option (Nat × (Nat → Int32))} {d k n : Nat} {P : am_O → Prop} {I : am_I} {J : am_J} {Pf : am_R} (hp : am_PF Pf) {s0 : Int32} (q : (if s0 = 0 then (Pf 3 0 = some 1) ∧ (am_mth d 60 [.ref 1, .retAddr 8] (am_SH, I, J, Pf) (am_af sc d 24 91 [some (.ref 3)] [.retAddr 8, .ref 1] [] (am_SH, I, J, Pf) k n false P)) else (P (.inl (some (.int 6)), (am_SH, I, J, Pf), k, n)))) : am_go sc d 24 (79, [some (.ref 3)], [.int s0], (am_SH, I, J, Pf), k, n) P := by
  refine am_s_if_eq dc24_4.2.2.2 rfl (fun c1 => ?_) (fun c1 => ?_)
  · refine am_s_aload_n rfl dc24_5.1.2.1 ?_
    refine am_s_getR (r := 1) dc24_5.1.2.2 rfl rfl rfl ((vi_t q c1).1) ?_
    refine am_s_ldcT (x := 8) dc24_5.2.1.1 rfl rfl ?_
    exact am_s_virtual false dc24_5.2.1.2 rfl (by decide) rfl rfl rfl ((vi_t q c1).2)
  · refine am_s_bipush am_cb6 dc24_5.1.1.1 ?_
    exact am_s_ireturn dc24_5.1.1.2 rfl ((vi_f q c1))
theorem v24_94 {sc : Option (Nat × (Nat → Int32))} {d k n : Nat} {P : am_O → Prop} {I : am_I} {J : am_J} {Pf : am_R} (hp : am_PF Pf) {l0 : Option Value} {s0 : Int32} (q : (if s0 = 0 then (P (.inl (some (.int 0)), (am_SH, I, J, Pf), k, n)) else (P (.inl (some (.int 7)), (am_SH, I, J, Pf), k, n)))) : am_go sc d 24 (94, [l0], [.int s0], (am_SH, I, J, Pf), k, n) P := by
  refine am_s_if_eq dc24_5.2.2.1 rfl (fun c1 => ?_) (fun c1 => ?_)
  · refine am_s_iconst am_cc0 dc24_6.2.1 ?_
    exact am_s_ireturn dc24_6.2.2 rfl ((vi_t q c1))
  · refine am_s_bipush am_cb7 dc24_5.2.2.2 ?_
    refine am_s_goto rfl dc24_6.1 ?_
    exact am_s_ireturn dc24_6.2.2 rfl ((vi_f q c1))
-- isFull (I)Z
theorem v25_0 {sc : Option (Nat × (Nat → Int32))} {d k n : Nat} {P : am_O → Prop} {I : am_I} {J : am_J} {Pf : am_R} (hp : am_PF Pf) {x1 : Int32} (q : (if x1 = 1 then ∃ r3_1x1 : Nat, (Pf 3 1 = some r3_1x1) ∧ (am_SH[r3_1x1]? = some (.inl 4)) ∧ (if (I r3_1x1 1) < 8 then (P (.inl (some (.int 0)), (am_SH, I, J, Pf), k, n)) else (P (.inl (some (.int 1)), (am_SH, I, J, Pf), k, n))) else (if x1 = 2 then ∃ r3_1x2 : Nat, (Pf 3 1 = some r3_1x2) ∧ (am_SH[r3_1x2]? = some (.inl 4)) ∧ (if (I r3_1x2 2) < 20 then (P (.inl (some (.int 0)), (am_SH, I, J, Pf), k, n)) else (P (.inl (some (.int 1)), (am_SH, I, J, Pf), k, n))) else (if x1 = 3 then ∃ r3_1x3 : Nat, (Pf 3 1 = some r3_1x3) ∧ (am_SH[r3_1x3]? = some (.inl 4)) ∧ (if (I r3_1x3 2) < 20 then (P (.inl (some (.int 0)), (am_SH, I, J, Pf), k, n)) else (P (.inl (some (.int 1)), (am_SH, I, J, Pf), k, n))) else (if x1 = 4 then ∃ r3_1x4 : Nat, (Pf 3 1 = some r3_1x4) ∧ (am_SH[r3_1x4]? = some (.inl 4)) ∧ (if (I r3_1x4 9) < 4 then (P (.inl (some (.int 0)), (am_SH, I, J, Pf), k, n)) else (P (.inl (some (.int 1)), (am_SH, I, J, Pf), k, n))) else (if x1 = 5 then ∃ r3_1x5 : Nat, (Pf 3 1 = some r3_1x5) ∧ (am_SH[r3_1x5]? = some (.inl 4)) ∧ (if (I r3_1x5 13) < 8 then (P (.inl (some (.int 0)), (am_SH, I, J, Pf), k, n)) else (P (.inl (some (.int 1)), (am_SH, I, J, Pf), k, n))) else (if x1 = 6 then ∃ r3_1x6 : Nat, (Pf 3 1 = some r3_1x6) ∧ (am_SH[r3_1x6]? = some (.inl 4)) ∧ (if (I r3_1x6 16) < 8 then (P (.inl (some (.int 0)), (am_SH, I, J, Pf), k, n)) else (P (.inl (some (.int 1)), (am_SH, I, J, Pf), k, n))) else (P (.inl (some (.int 0)), (am_SH, I, J, Pf), k, n))))))))) : am_go sc d 25 (0, [some (.ref 3), some (.int x1)], [], (am_SH, I, J, Pf), k, n) P := by
  refine am_s_iload_n rfl dc25_0.1.1.1 ?_
  by_cases c1 : x1 = 1
  · refine am_s_tsw (v := 1) dc25_0.1.1.2 (by rw [c1]; decide) rfl rfl rfl ?_
    refine am_s_aload_n rfl dc25_0.1.2.1 ?_
    obtain ⟨r3_1x1, qx1⟩ := (vi_t q c1)
    refine am_s_getR (r := r3_1x1) dc25_0.1.2.2 rfl rfl rfl (qx1.1) ?_
    refine am_x_getI (x := I r3_1x1 1) dc25_0.2.1.1 rfl (qx1.2.1) (Or.inl rfl) rfl ?_
    refine am_s_bipush am_cb8 dc25_0.2.1.2 ?_
    refine am_s_ic_lt dc25_0.2.2.1 rfl (fun c2 => ?_) (fun c2 => ?_)
    · refine am_s_iconst am_cc0 dc25_1.1.1.2 ?_
      exact am_s_zreturn dc25_1.1.2.1 rfl (by decide) ((vi_t qx1.2.2 c2))
    · refine am_s_iconst am_cc1 dc25_0.2.2.2 ?_
      refine am_s_goto rfl dc25_1.1.1.1 ?_
      exact am_s_zreturn dc25_1.1.2.1 rfl (by decide) ((vi_f qx1.2.2 c2))
  by_cases c2 : x1 = 2
  · refine am_s_tsw (v := 2) dc25_0.1.1.2 (by rw [c2]; decide) rfl rfl rfl ?_
    refine am_s_aload_n rfl dc25_1.1.2.2 ?_
    obtain ⟨r3_1x2, qx2⟩ := (vi_t (vi_f q c1) c2)
    refine am_s_getR (r := r3_1x2) dc25_1.2.1.1 rfl rfl rfl (qx2.1) ?_
    refine am_x_getI (x := I r3_1x2 2) dc25_1.2.1.2 rfl (qx2.2.1) (Or.inl rfl) rfl ?_
    refine am_s_bipush am_cb20 dc25_1.2.2.1 ?_
    refine am_s_ic_lt dc25_1.2.2.2 rfl (fun c3 => ?_) (fun c3 => ?_)
    · refine am_s_iconst am_cc0 dc25_2.1.2.1 ?_
      exact am_s_zreturn dc25_2.1.2.2 rfl (by decide) ((vi_t qx2.2.2 c3))
    · refine am_s_iconst am_cc1 dc25_2.1.1.1 ?_
      refine am_s_goto rfl dc25_2.1.1.2 ?_
      exact am_s_zreturn dc25_2.1.2.2 rfl (by decide) ((vi_f qx2.2.2 c3))
  by_cases c3 : x1 = 3
  · refine am_s_tsw (v := 3) dc25_0.1.1.2 (by rw [c3]; decide) rfl rfl rfl ?_
    refine am_s_aload_n rfl dc25_1.1.2.2 ?_
    obtain ⟨r3_1x3, qx3⟩ := (vi_t (vi_f (vi_f q c1) c2) c3)
    refine am_s_getR (r := r3_1x3) dc25_1.2.1.1 rfl rfl rfl (qx3.1) ?_
    refine am_x_getI (x := I r3_1x3 2) dc25_1.2.1.2 rfl (qx3.2.1) (Or.inl rfl) rfl ?_
    refine am_s_bipush am_cb20 dc25_1.2.2.1 ?_
    refine am_s_ic_lt dc25_1.2.2.2 rfl (fun c4 => ?_) (fun c4 => ?_)
    · refine am_s_iconst am_cc0 dc25_2.1.2.1 ?_
      exact am_s_zreturn dc25_2.1.2.2 rfl (by decide) ((vi_t qx3.2.2 c4))
    · refine am_s_iconst am_cc1 dc25_2.1.1.1 ?_
      refine am_s_goto rfl dc25_2.1.1.2 ?_
      exact am_s_zreturn dc25_2.1.2.2 rfl (by decide) ((vi_f qx3.2.2 c4))
  by_cases c4 : x1 = 4
  · refine am_s_tsw (v := 4) dc25_0.1.1.2 (by rw [c4]; decide) rfl rfl rfl ?_
    refine am_s_aload_n rfl dc25_2.2.1.1 ?_
    obtain ⟨r3_1x4, qx4⟩ := (vi_t (vi_f (vi_f (vi_f q c1) c2) c3) c4)
    refine am_s_getR (r := r3_1x4) dc25_2.2.1.2 rfl rfl rfl (qx4.1) ?_
    refine am_x_getI (x := I r3_1x4 9) dc25_2.2.2.1 rfl (qx4.2.1) (Or.inl rfl) rfl ?_
    refine am_s_iconst am_cc4 dc25_2.2.2.2 ?_
    refine am_s_ic_lt dc25_3.1.1.1 rfl (fun c5 => ?_) (fun c5 => ?_)
    · refine am_s_iconst am_cc0 dc25_3.1.2.2 ?_
      exact am_s_zreturn dc25_3.2.1.1 rfl (by decide) ((vi_t qx4.2.2 c5))
    · refine am_s_iconst am_cc1 dc25_3.1.1.2 ?_
      refine am_s_goto rfl dc25_3.1.2.1 ?_
      exact am_s_zreturn dc25_3.2.1.1 rfl (by decide) ((vi_f qx4.2.2 c5))
  by_cases c5 : x1 = 5
  · refine am_s_tsw (v := 5) dc25_0.1.1.2 (by rw [c5]; decide) rfl rfl rfl ?_
    refine am_s_aload_n rfl dc25_3.2.1.2 ?_
    obtain ⟨r3_1x5, qx5⟩ := (vi_t (vi_f (vi_f (vi_f (vi_f q c1) c2) c3) c4) c5)
    refine am_s_getR (r := r3_1x5) dc25_3.2.2.1 rfl rfl rfl (qx5.1) ?_
    refine am_x_getI (x := I r3_1x5 13) dc25_3.2.2.2 rfl (qx5.2.1) (Or.inl rfl) rfl ?_
    refine am_s_bipush am_cb8 dc25_4.1.1.1 ?_
    refine am_s_ic_lt dc25_4.1.1.2 rfl (fun c6 => ?_) (fun c6 => ?_)
    · refine am_s_iconst am_cc0 dc25_4.2.1.1 ?_
      exact am_s_zreturn dc25_4.2.1.2 rfl (by decide) ((vi_t qx5.2.2 c6))
    · refine am_s_iconst am_cc1 dc25_4.1.2.1 ?_
      refine am_s_goto rfl dc25_4.1.2.2 ?_
      exact am_s_zreturn dc25_4.2.1.2 rfl (by decide) ((vi_f qx5.2.2 c6))
  by_cases c6 : x1 = 6
  · refine am_s_tsw (v := 6) dc25_0.1.1.2 (by rw [c6]; decide) rfl rfl rfl ?_
    refine am_s_aload_n rfl dc25_4.2.2.1 ?_
    obtain ⟨r3_1x6, qx6⟩ := (vi_t (vi_f (vi_f (vi_f (vi_f (vi_f q c1) c2) c3) c4) c5) c6)
    refine am_s_getR (r := r3_1x6) dc25_4.2.2.2 rfl rfl rfl (qx6.1) ?_
    refine am_x_getI (x := I r3_1x6 16) dc25_5.1.1.1 rfl (qx6.2.1) (Or.inl rfl) rfl ?_
    refine am_s_bipush am_cb8 dc25_5.1.1.2 ?_
    refine am_s_ic_lt dc25_5.1.2.1 rfl (fun c7 => ?_) (fun c7 => ?_)
    · refine am_s_iconst am_cc0 dc25_5.2.1.2 ?_
      exact am_s_zreturn dc25_5.2.2.1 rfl (by decide) ((vi_t qx6.2.2 c7))
    · refine am_s_iconst am_cc1 dc25_5.1.2.2 ?_
      refine am_s_goto rfl dc25_5.2.1.1 ?_
      exact am_s_zreturn dc25_5.2.2.1 rfl (by decide) ((vi_f qx6.2.2 c7))
  refine am_s_tswd dc25_0.1.1.2 (by have e1 := sw_n c1 (i := 1) (by decide); have e2 := sw_n c2 (i := 2) (by decide); have e3 := sw_n c3 (i := 3) (by decide); have e4 := sw_n c4 (i := 4) (by decide); have e5 := sw_n c5 (i := 5) (by decide); have e6 := sw_n c6 (i := 6) (by decide); simp only [Bool.or_eq_true, decide_eq_true_eq]; omega) rfl ?_
  refine am_s_iconst am_cc0 dc25_5.2.2.2 ?_
  exact am_s_zreturn dc25_6 rfl (by decide) ((vi_f (vi_f (vi_f (vi_f (vi_f (vi_f q c1) c2) c3) c4) c5) c6))
-- takeSort ()I
theorem v26_0 {sc : Option (Nat × (Nat → Int32))} {d k n : Nat} {P : am_O → Prop} {I : am_I} {J : am_J} {Pf : am_R} (hp : am_PF Pf)  (q : (Pf 3 0 = some 1) ∧ (am_mth d 58 [.ref 1, .int 7] (am_SH, I, J, Pf) (am_af sc d 26 6 [some (.ref 3)] [.int 7, .ref 1] [] (am_SH, I, J, Pf) k n false P))) : am_go sc d 26 (0, [some (.ref 3)], [], (am_SH, I, J, Pf), k, n) P := by
  refine am_s_aload_n rfl dc26_0.1.1 ?_
  refine am_s_getR (r := 1) dc26_0.1.2 rfl rfl rfl (q.1) ?_
  refine am_s_bipush am_cb7 dc26_0.2.1 ?_
  exact am_s_virtual false dc26_0.2.2.1 rfl (by decide) rfl rfl rfl (q.2)
theorem v26_9 {sc : Option (Nat × (Nat → Int32))} {d k n : Nat} {P : am_O → Prop} {I : am_I} {J : am_J} {Pf : am_R} (hp : am_PF Pf) {l0 : Option Value} {s0 : Int32} (q : (P (.inl (some (.int s0)), (am_SH, I, J, Pf), k, n))) : am_go sc d 26 (9, [l0], [.int s0], (am_SH, I, J, Pf), k, n) P := by
  exact am_s_ireturn dc26_0.2.2.2 rfl (q)
-- takeClass ()I
theorem v27_0 {sc : Option (Nat × (Nat → Int32))} {d k n : Nat} {P : am_O → Prop} {I : am_I} {J : am_J} {Pf : am_R} (hp : am_PF Pf)  (q : (Pf 3 0 = some 1) ∧ (am_mth d 56 [.ref 1, .int 35] (am_SH, I, J, Pf) (am_af sc d 27 6 [some (.ref 3)] [.int 35, .ref 1] [] (am_SH, I, J, Pf) k n false P))) : am_go sc d 27 (0, [some (.ref 3)], [], (am_SH, I, J, Pf), k, n) P := by
  refine am_s_aload_n rfl dc27_0.1.1.1 ?_
  refine am_s_getR (r := 1) dc27_0.1.1.2 rfl rfl rfl (q.1) ?_
  refine am_s_bipush am_cb35 dc27_0.1.2.1 ?_
  exact am_s_virtual false dc27_0.1.2.2 rfl (by decide) rfl rfl rfl (q.2)
theorem v27_9 {sc : Option (Nat × (Nat → Int32))} {d k n : Nat} {P : am_O → Prop} {I : am_I} {J : am_J} {Pf : am_R} (hp : am_PF Pf) {s0 : Int32} (q : (if s0 = 0 then (P (.inl (some (.int (-1))), (am_SH, I, J, Pf), k, n)) else (Pf 3 0 = some 1) ∧ ∃ r3_1x1 : Nat, (Pf 3 1 = some r3_1x1) ∧ (am_SH[r3_1x1]? = some (.inl 4)) ∧ (am_mth d 58 [.ref 1, .int ((I r3_1x1 1) - 1)] (am_SH, I, J, Pf) (am_af sc d 27 25 [some (.ref 3)] [.int ((I r3_1x1 1) - 1), .ref 1] [] (am_SH, I, J, Pf) k n false P)))) : am_go sc d 27 (9, [some (.ref 3)], [.int s0], (am_SH, I, J, Pf), k, n) P := by
  refine am_s_if_eq dc27_0.2.1.1 rfl (fun c1 => ?_) (fun c1 => ?_)
  · refine am_s_iconst am_ccm1 dc27_1.2.2.1 ?_
    exact am_s_ireturn dc27_1.2.2.2 rfl ((vi_t q c1))
  · refine am_s_aload_n rfl dc27_0.2.1.2 ?_
    refine am_s_getR (r := 1) dc27_0.2.2.1 rfl rfl rfl ((vi_f q c1).1) ?_
    refine am_s_aload_n rfl dc27_0.2.2.2 ?_
    obtain ⟨r3_1x1, qx1⟩ := (vi_f q c1).2
    refine am_s_getR (r := r3_1x1) dc27_1.1.1.1 rfl rfl rfl (qx1.1) ?_
    refine am_x_getI (x := I r3_1x1 1) dc27_1.1.1.2 rfl (qx1.2.1) (Or.inl rfl) rfl ?_
    refine am_s_iconst am_cc1 dc27_1.1.2.1 ?_
    refine am_s_isub dc27_1.1.2.2 ?_
    exact am_s_virtual false dc27_1.2.1.1 rfl (by decide) rfl rfl rfl (qx1.2.2)
theorem v27_28 {sc : Option (Nat × (Nat → Int32))} {d k n : Nat} {P : am_O → Prop} {I : am_I} {J : am_J} {Pf : am_R} (hp : am_PF Pf) {l0 : Option Value} {s0 : Int32} (q : (P (.inl (some (.int s0)), (am_SH, I, J, Pf), k, n))) : am_go sc d 27 (28, [l0], [.int s0], (am_SH, I, J, Pf), k, n) P := by
  refine am_s_goto rfl dc27_1.2.1.2 ?_
  exact am_s_ireturn dc27_1.2.2.2 rfl (q)
-- addClass ()Z
theorem v28_0 {sc : Option (Nat × (Nat → Int32))} {d k n : Nat} {P : am_O → Prop} {I : am_I} {J : am_J} {Pf : am_R} (hp : am_PF Pf)  (q : ∃ r3_1x1 : Nat, (Pf 3 1 = some r3_1x1) ∧ (am_SH[r3_1x1]? = some (.inl 4)) ∧ (am_in (I r3_1x1 1) 8 = true) ∧ ∃ r14x2 : Nat, (Pf (r3_1x1 + 1) (Int32.toNatClampNeg (I r3_1x1 1)) = some r14x2) ∧ (am_SH[r14x2]? = some (.inl 6)) ∧ ∃ r20x3 : Nat, (Pf 4 (Int32.toNatClampNeg 0) = some r20x3) ∧ (am_SH[r20x3]? = some (.inl 6)) ∧ (am_mth d 76 [.ref r14x2, .ref r20x3] (am_SH, I, J, Pf) (am_af sc d 28 21 [some (.ref 3)] [.ref r20x3, .ref r14x2] [] (am_SH, I, J, Pf) k n false P))) : am_go sc d 28 (0, [some (.ref 3)], [], (am_SH, I, J, Pf), k, n) P := by
  refine am_s_aload_n rfl dc28_0.1.1.1 ?_
  obtain ⟨r3_1x1, qx1⟩ := q
  refine am_s_getR (r := r3_1x1) dc28_0.1.1.2 rfl rfl rfl (qx1.1) ?_
  refine am_s_getR (r := r3_1x1 + 1) dc28_0.1.2.1 rfl (qx1.2.1) rfl (am_r4_0 hp (qx1.2.1)) ?_
  refine am_s_aload_n rfl dc28_0.1.2.2 ?_
  refine am_s_getR (r := r3_1x1) dc28_0.2.1.1 rfl rfl rfl (qx1.1) ?_
  refine am_x_getI (x := I r3_1x1 1) dc28_0.2.1.2 rfl (qx1.2.1) (Or.inl rfl) rfl ?_
  obtain ⟨r14x2, qx2⟩ := qx1.2.2.2
  refine am_s_aaload (r := r14x2) dc28_0.2.2.1 (am_h4_0 (qx1.2.1)) rfl (qx1.2.2.1) (qx2.1) ?_
  refine am_s_aload_n rfl dc28_0.2.2.2 ?_
  refine am_s_getR (r := 4) dc28_1.1.1.1 rfl rfl rfl (hp _ _ _ rfl) ?_
  refine am_s_iconst am_cc0 dc28_1.1.1.2 ?_
  obtain ⟨r20x3, qx3⟩ := qx2.2.2
  refine am_s_aaload (r := r20x3) dc28_1.1.2.1 rfl rfl (by decide +kernel) (qx3.1) ?_
  exact am_s_virtual false dc28_1.1.2.2 rfl (by decide) rfl (qx2.2.1) rfl (qx3.2.2)
theorem v28_24 {sc : Option (Nat × (Nat → Int32))} {d k n : Nat} {P : am_O → Prop} {I : am_I} {J : am_J} {Pf : am_R} (hp : am_PF Pf)  (q : ∃ r3_1x1 : Nat, (Pf 3 1 = some r3_1x1) ∧ (am_SH[r3_1x1]? = some (.inl 4)) ∧ (P (.inl (some (.int 1)), (am_SH, am_u I r3_1x1 1 ((I r3_1x1 1) + 1), J, Pf), k, n))) : am_go sc d 28 (24, [some (.ref 3)], [], (am_SH, I, J, Pf), k, n) P := by
  refine am_s_aload_n rfl dc28_1.2.1.1 ?_
  obtain ⟨r3_1x1, qx1⟩ := q
  refine am_s_getR (r := r3_1x1) dc28_1.2.1.2 rfl rfl rfl (qx1.1) ?_
  refine am_s_dup rfl dc28_1.2.2.1 ?_
  refine am_x_getI (x := I r3_1x1 1) dc28_1.2.2.2 rfl (qx1.2.1) (Or.inl rfl) rfl ?_
  refine am_s_iconst am_cc1 dc28_2.1.1 ?_
  refine am_s_iadd dc28_2.1.2 ?_
  refine am_s_putI dc28_2.2.1 rfl (qx1.2.1) rfl rfl ?_
  refine am_s_iconst am_cc1 dc28_2.2.2.1 ?_
  exact am_s_zreturn dc28_2.2.2.2 rfl (by decide) (qx1.2.2)
-- readSet (I)Z
theorem v29_0 {sc : Option (Nat × (Nat → Int32))} {d k n : Nat} {P : am_O → Prop} {I : am_I} {J : am_J} {Pf : am_R} (hp : am_PF Pf) {x1 : Int32} {l2 : Option Value} {l3 : Option Value} (q : (am_mth d 30 [.ref 3, .int x1] (am_SH, I, J, Pf) (am_af sc d 29 2 [some (.ref 3), some (.int x1), l2, l3] [.int x1, .ref 3] [] (am_SH, I, J, Pf) k n true P))) : am_go sc d 29 (0, [some (.ref 3), some (.int x1), l2, l3], [], (am_SH, I, J, Pf), k, n) P := by
  refine am_s_aload_n rfl dc29_0.1.1.1 ?_
  refine am_s_iload_n rfl dc29_0.1.1.2 ?_
  exact am_s_virtual true dc29_0.1.2.1 rfl (by decide) rfl rfl rfl (q)
theorem v29_12 {sc : Option (Nat × (Nat → Int32))} {d k n : Nat} {P : am_O → Prop} {I : am_I} {J : am_J} {Pf : am_R} (hp : am_PF Pf) {x1 : Int32} {x2 : Int32} {l3 : Option Value} (q : (if 600 ≤ x2 then (P (.inl (some (.int 0)), (am_SH, I, J, Pf), k, n)) else (Pf 3 0 = some 1) ∧ (am_mth d 55 [.ref 1] (am_SH, I, J, Pf) (am_af sc d 29 23 [some (.ref 3), some (.int x1), some (.int x2), l3] [.ref 1] [] (am_SH, I, J, Pf) k n false P)))) : am_go sc d 29 (12, [some (.ref 3), some (.int x1), some (.int x2), l3], [], (am_SH, I, J, Pf), k, n) P := by
  refine am_s_iload_n rfl dc29_1.1.1.1 ?_
  refine am_s_sipush am_cs600 dc29_1.1.1.2 ?_
  refine am_s_ic_ge dc29_1.1.2.1 rfl (fun c1 => ?_) (fun c1 => ?_)
  · refine am_s_iconst am_cc0 dc29_10.2.2.1 ?_
    exact am_s_zreturn dc29_10.2.2.2 rfl (by decide) ((vi_t q c1))
  · refine am_s_aload_n rfl dc29_1.1.2.2 ?_
    refine am_s_getR (r := 1) dc29_1.2.1.1 rfl rfl rfl ((vi_f q c1).1) ?_
    exact am_s_virtual false dc29_1.2.1.2 rfl (by decide) rfl rfl rfl ((vi_f q c1).2)
theorem v29_47 {sc : Option (Nat × (Nat → Int32))} {d k n : Nat} {P : am_O → Prop} {I : am_I} {J : am_J} {Pf : am_R} (hp : am_PF Pf) {x1 : Int32} {x2 : Int32} {x3 : Int32} (q : (Pf 3 0 = some 1) ∧ (am_mth d 30 [.ref 3, .int (x1 + 1)] (am_SH, am_u I 1 3 ((I 1 3) + 1), J, Pf) (am_af sc d 29 64 [some (.ref 3), some (.int x1), some (.int x2), some (.int x3)] [.int (x1 + 1), .ref 3] [] (am_SH, am_u I 1 3 ((I 1 3) + 1), J, Pf) k n true P))) : am_go sc d 29 (47, [some (.ref 3), some (.int x1), some (.int x2), some (.int x3)], [], (am_SH, I, J, Pf), k, n) P := by
  refine am_s_aload_n rfl dc29_3.1.2.1 ?_
  refine am_s_getR (r := 1) dc29_3.1.2.2 rfl rfl rfl (q.1) ?_
  refine am_s_dup rfl dc29_3.2.1.1 ?_
  refine am_x_getI (x := I 1 3) dc29_3.2.1.2 rfl rfl (Or.inl rfl) rfl ?_
  refine am_s_iconst am_cc1 dc29_3.2.2.1 ?_
  refine am_s_iadd dc29_3.2.2.2 ?_
  refine am_s_putI dc29_4.1.1.1 rfl rfl rfl rfl ?_
  refine am_s_aload_n rfl dc29_4.1.1.2 ?_
  refine am_s_iload_n rfl dc29_4.1.2.1 ?_
  refine am_s_iconst am_cc1 dc29_4.1.2.2 ?_
  refine am_s_iadd dc29_4.2.1.1 ?_
  exact am_s_virtual true dc29_4.2.1.2 rfl (by decide) rfl rfl rfl (q.2)
theorem v29_5 {sc : Option (Nat × (Nat → Int32))} {d k n : Nat} {P : am_O → Prop} {I : am_I} {J : am_J} {Pf : am_R} (hp : am_PF Pf) {x1 : Int32} {l2 : Option Value} {l3 : Option Value} {s0 : Int32} (q : (if s0 = 0 then (P (.inl (some (.int 0)), (am_SH, I, J, Pf), k, n)) else (am_go sc d 29 (12, [some (.ref 3), some (.int x1), some (.int 0), l3], [], (am_SH, I, J, Pf), k, n) P))) : am_go sc d 29 (5, [some (.ref 3), some (.int x1), l2, l3], [.int s0], (am_SH, I, J, Pf), k, n) P := by
  refine am_s_if_ne dc29_0.1.2.2 rfl (fun c1 => ?_) (fun c1 => ?_)
  · refine am_s_iconst am_cc0 dc29_0.2.2.1 ?_
    refine am_s_istore_n (ls' := [some (.ref 3), some (.int x1), some (.int 0), l3]) rfl rfl dc29_0.2.2.2 ?_
    exact (vi_f q c1)
  · refine am_s_iconst am_cc0 dc29_0.2.1.1 ?_
    exact am_s_zreturn dc29_0.2.1.2 rfl (by decide) ((vi_t q (Decidable.not_not.mp c1)))
theorem v29_26 {sc : Option (Nat × (Nat → Int32))} {d k n : Nat} {P : am_O → Prop} {I : am_I} {J : am_J} {Pf : am_R} (hp : am_PF Pf) {x1 : Int32} {x2 : Int32} {l3 : Option Value} {s0 : Int32} (q : (if s0 = 124 then (am_go sc d 29 (47, [some (.ref 3), some (.int x1), some (.int x2), some (.int s0)], [], (am_SH, I, J, Pf), k, n) P) else (if s0 = 38 then (am_go sc d 29 (47, [some (.ref 3), some (.int x1), some (.int x2), some (.int s0)], [], (am_SH, I, J, Pf), k, n) P) else (if s0 = 45 then (am_go sc d 29 (47, [some (.ref 3), some (.int x1), some (.int x2), some (.int s0)], [], (am_SH, I, J, Pf), k, n) P) else (P (.inl (some (.int 1)), (am_SH, I, J, Pf), k, n)))))) : am_go sc d 29 (26, [some (.ref 3), some (.int x1), some (.int x2), l3], [.int s0], (am_SH, I, J, Pf), k, n) P := by
  refine am_s_istore_n (ls' := [some (.ref 3), some (.int x1), some (.int x2), some (.int s0)]) rfl rfl dc29_1.2.2.1 ?_
  refine am_s_iload_n rfl dc29_1.2.2.2 ?_
  refine am_s_bipush am_cb124 dc29_2.1.1.1 ?_
  refine am_s_ic_eq dc29_2.1.1.2 rfl (fun c1 => ?_) (fun c1 => ?_)
  · exact (vi_t q c1)
  · refine am_s_iload_n rfl dc29_2.1.2.1 ?_
    refine am_s_bipush am_cb38 dc29_2.1.2.2 ?_
    refine am_s_ic_eq dc29_2.2.1.1 rfl (fun c2 => ?_) (fun c2 => ?_)
    · exact (vi_t (vi_f q c1) c2)
    · refine am_s_iload_n rfl dc29_2.2.1.2 ?_
      refine am_s_bipush am_cb45 dc29_2.2.2.1 ?_
      refine am_s_ic_eq dc29_2.2.2.2 rfl (fun c3 => ?_) (fun c3 => ?_)
      · exact (vi_t (vi_f (vi_f q c1) c2) c3)
      · refine am_s_iconst am_cc1 dc29_3.1.1.1 ?_
        exact am_s_zreturn dc29_3.1.1.2 rfl (by decide) ((vi_f (vi_f (vi_f q c1) c2) c3))
theorem v29_67 {sc : Option (Nat × (Nat → Int32))} {d k n : Nat} {P : am_O → Prop} {I : am_I} {J : am_J} {Pf : am_R} (hp : am_PF Pf) {x1 : Int32} {x2 : Int32} {x3 : Int32} {s0 : Int32} (q : (if s0 = 0 then (P (.inl (some (.int 0)), (am_SH, I, J, Pf), k, n)) else (if x3 = 124 then (am_in x1 8 = true) ∧ ∃ r83x5 : Nat, (Pf 4 (Int32.toNatClampNeg x1) = some r83x5) ∧ (am_SH[r83x5]? = some (.inl 6)) ∧ (am_in (x1 + 1) 8 = true) ∧ ∃ r91x6 : Nat, (Pf 4 (Int32.toNatClampNeg (x1 + 1)) = some r91x6) ∧ (am_SH[r91x6]? = some (.inl 6)) ∧ (am_mth d 79 [.ref r83x5, .ref r91x6] (am_SH, I, J, Pf) (am_af sc d 29 92 [some (.ref 3), some (.int x1), some (.int x2), some (.int x3)] [.ref r91x6, .ref r83x5] [] (am_SH, I, J, Pf) k n false P)) else (if x3 = 38 then (am_in x1 8 = true) ∧ ∃ r109x3 : Nat, (Pf 4 (Int32.toNatClampNeg x1) = some r109x3) ∧ (am_SH[r109x3]? = some (.inl 6)) ∧ (am_in (x1 + 1) 8 = true) ∧ ∃ r117x4 : Nat, (Pf 4 (Int32.toNatClampNeg (x1 + 1)) = some r117x4) ∧ (am_SH[r117x4]? = some (.inl 6)) ∧ (am_mth d 80 [.ref r109x3, .ref r117x4] (am_SH, I, J, Pf) (am_af sc d 29 118 [some (.ref 3), some (.int x1), some (.int x2), some (.int x3)] [.ref r117x4, .ref r109x3] [] (am_SH, I, J, Pf) k n false P)) else (am_in x1 8 = true) ∧ ∃ r129x1 : Nat, (Pf 4 (Int32.toNatClampNeg x1) = some r129x1) ∧ (am_SH[r129x1]? = some (.inl 6)) ∧ (am_in (x1 + 1) 8 = true) ∧ ∃ r137x2 : Nat, (Pf 4 (Int32.toNatClampNeg (x1 + 1)) = some r137x2) ∧ (am_SH[r137x2]? = some (.inl 6)) ∧ (am_mth d 81 [.ref r129x1, .ref r137x2] (am_SH, I, J, Pf) (am_af sc d 29 138 [some (.ref 3), some (.int x1), some (.int x2), some (.int x3)] [.ref r137x2, .ref r129x1] [] (am_SH, I, J, Pf) k n false P)))))) : am_go sc d 29 (67, [some (.ref 3), some (.int x1), some (.int x2), some (.int x3)], [.int s0], (am_SH, I, J, Pf), k, n) P := by
  refine am_s_if_ne dc29_4.2.2.1 rfl (fun c1 => ?_) (fun c1 => ?_)
  · refine am_s_iload_n rfl dc29_5.1.1.2 ?_
    refine am_s_bipush am_cb124 dc29_5.1.2.1 ?_
    refine am_s_ic_ne dc29_5.1.2.2 rfl (fun c2 => ?_) (fun c2 => ?_)
    · refine am_s_iload_n rfl dc29_7.1.1.1 ?_
      refine am_s_bipush am_cb38 dc29_7.1.1.2 ?_
      refine am_s_ic_ne dc29_7.1.2.1 rfl (fun c3 => ?_) (fun c3 => ?_)
      · refine am_s_aload_n rfl dc29_8.2.2.2 ?_
        refine am_s_getR (r := 4) dc29_9.1.1.1 rfl rfl rfl (hp _ _ _ rfl) ?_
        refine am_s_iload_n rfl dc29_9.1.1.2 ?_
        obtain ⟨r129x1, qx1⟩ := (vi_f (vi_f (vi_f q c1) c2) c3).2
        refine am_s_aaload (r := r129x1) dc29_9.1.2.1 rfl rfl ((vi_f (vi_f (vi_f q c1) c2) c3).1) (qx1.1) ?_
        refine am_s_aload_n rfl dc29_9.1.2.2 ?_
        refine am_s_getR (r := 4) dc29_9.2.1.1 rfl rfl rfl (hp _ _ _ rfl) ?_
        refine am_s_iload_n rfl dc29_9.2.1.2 ?_
        refine am_s_iconst am_cc1 dc29_9.2.2.1 ?_
        refine am_s_iadd dc29_9.2.2.2 ?_
        obtain ⟨r137x2, qx2⟩ := qx1.2.2.2
        refine am_s_aaload (r := r137x2) dc29_10.1.1 rfl rfl (qx1.2.2.1) (qx2.1) ?_
        exact am_s_virtual false dc29_10.1.2.1 rfl (by decide) rfl (qx1.2.1) rfl (qx2.2.2)
      · refine am_s_aload_n rfl dc29_7.1.2.2 ?_
        refine am_s_getR (r := 4) dc29_7.2.1.1 rfl rfl rfl (hp _ _ _ rfl) ?_
        refine am_s_iload_n rfl dc29_7.2.1.2 ?_
        obtain ⟨r109x3, qx3⟩ := (vi_t (vi_f (vi_f q c1) c2) (Decidable.not_not.mp c3)).2
        refine am_s_aaload (r := r109x3) dc29_7.2.2.1 rfl rfl ((vi_t (vi_f (vi_f q c1) c2) (Decidable.not_not.mp c3)).1) (qx3.1) ?_
        refine am_s_aload_n rfl dc29_7.2.2.2 ?_
        refine am_s_getR (r := 4) dc29_8.1.1.1 rfl rfl rfl (hp _ _ _ rfl) ?_
        refine am_s_iload_n rfl dc29_8.1.1.2 ?_
        refine am_s_iconst am_cc1 dc29_8.1.2.1 ?_
        refine am_s_iadd dc29_8.1.2.2 ?_
        obtain ⟨r117x4, qx4⟩ := qx3.2.2.2
        refine am_s_aaload (r := r117x4) dc29_8.2.1.1 rfl rfl (qx3.2.2.1) (qx4.1) ?_
        exact am_s_virtual false dc29_8.2.1.2 rfl (by decide) rfl (qx3.2.1) rfl (qx4.2.2)
    · refine am_s_aload_n rfl dc29_5.2.1.1 ?_
      refine am_s_getR (r := 4) dc29_5.2.1.2 rfl rfl rfl (hp _ _ _ rfl) ?_
      refine am_s_iload_n rfl dc29_5.2.2.1 ?_
      obtain ⟨r83x5, qx5⟩ := (vi_t (vi_f q c1) (Decidable.not_not.mp c2)).2
      refine am_s_aaload (r := r83x5) dc29_5.2.2.2 rfl rfl ((vi_t (vi_f q c1) (Decidable.not_not.mp c2)).1) (qx5.1) ?_
      refine am_s_aload_n rfl dc29_6.1.1.1 ?_
      refine am_s_getR (r := 4) dc29_6.1.1.2 rfl rfl rfl (hp _ _ _ rfl) ?_
      refine am_s_iload_n rfl dc29_6.1.2.1 ?_
      refine am_s_iconst am_cc1 dc29_6.1.2.2 ?_
      refine am_s_iadd dc29_6.2.1.1 ?_
      obtain ⟨r91x6, qx6⟩ := qx5.2.2.2
      refine am_s_aaload (r := r91x6) dc29_6.2.1.2 rfl rfl (qx5.2.2.1) (qx6.1) ?_
      exact am_s_virtual false dc29_6.2.2.1 rfl (by decide) rfl (qx5.2.1) rfl (qx6.2.2)
  · refine am_s_iconst am_cc0 dc29_4.2.2.2 ?_
    exact am_s_zreturn dc29_5.1.1.1 rfl (by decide) ((vi_t q (Decidable.not_not.mp c1)))
theorem v29_95 {sc : Option (Nat × (Nat → Int32))} {d k n : Nat} {P : am_O → Prop} {I : am_I} {J : am_J} {Pf : am_R} (hp : am_PF Pf) {x1 : Int32} {x2 : Int32} {l3 : Option Value} (q : (am_go sc d 29 (12, [some (.ref 3), some (.int x1), some (.int (x2 + 1)), l3], [], (am_SH, I, J, Pf), k, n) P)) : am_go sc d 29 (95, [some (.ref 3), some (.int x1), some (.int x2), l3], [], (am_SH, I, J, Pf), k, n) P := by
  refine am_s_goto rfl dc29_6.2.2.2 ?_
  refine am_s_iinc (ls' := [some (.ref 3), some (.int x1), some (.int (x2 + 1)), l3]) am_cc1 rfl rfl dc29_10.1.2.2 ?_
  refine am_s_goto rfl dc29_10.2.1 ?_
  exact q
theorem v29_121 {sc : Option (Nat × (Nat → Int32))} {d k n : Nat} {P : am_O → Prop} {I : am_I} {J : am_J} {Pf : am_R} (hp : am_PF Pf) {x1 : Int32} {x2 : Int32} {l3 : Option Value} (q : (am_go sc d 29 (12, [some (.ref 3), some (.int x1), some (.int (x2 + 1)), l3], [], (am_SH, I, J, Pf), k, n) P)) : am_go sc d 29 (121, [some (.ref 3), some (.int x1), some (.int x2), l3], [], (am_SH, I, J, Pf), k, n) P := by
  refine am_s_goto rfl dc29_8.2.2.1 ?_
  refine am_s_iinc (ls' := [some (.ref 3), some (.int x1), some (.int (x2 + 1)), l3]) am_cc1 rfl rfl dc29_10.1.2.2 ?_
  refine am_s_goto rfl dc29_10.2.1 ?_
  exact q
theorem v29_141 {sc : Option (Nat × (Nat → Int32))} {d k n : Nat} {P : am_O → Prop} {I : am_I} {J : am_J} {Pf : am_R} (hp : am_PF Pf) {x1 : Int32} {x2 : Int32} {l3 : Option Value} (q : (am_go sc d 29 (12, [some (.ref 3), some (.int x1), some (.int (x2 + 1)), l3], [], (am_SH, I, J, Pf), k, n) P)) : am_go sc d 29 (141, [some (.ref 3), some (.int x1), some (.int x2), l3], [], (am_SH, I, J, Pf), k, n) P := by
  refine am_s_iinc (ls' := [some (.ref 3), some (.int x1), some (.int (x2 + 1)), l3]) am_cc1 rfl rfl dc29_10.1.2.2 ?_
  refine am_s_goto rfl dc29_10.2.1 ?_
  exact q
-- readTerm (I)Z
theorem v30_0 {sc : Option (Nat × (Nat → Int32))} {d k n : Nat} {P : am_O → Prop} {I : am_I} {J : am_J} {Pf : am_R} (hp : am_PF Pf) {x1 : Int32} {l2 : Option Value} {l3 : Option Value} (q : (Pf 3 0 = some 1) ∧ (am_mth d 55 [.ref 1] (am_SH, I, J, Pf) (am_af sc d 30 4 [some (.ref 3), some (.int x1), l2, l3] [.ref 1] [] (am_SH, I, J, Pf) k n false P))) : am_go sc d 30 (0, [some (.ref 3), some (.int x1), l2, l3], [], (am_SH, I, J, Pf), k, n) P := by
  refine am_s_aload_n rfl dc30_0.1.1.1 ?_
  refine am_s_getR (r := 1) dc30_0.1.1.2 rfl rfl rfl (q.1) ?_
  exact am_s_virtual false dc30_0.1.2.1 rfl (by decide) rfl rfl rfl (q.2)
theorem v30_23 {sc : Option (Nat × (Nat → Int32))} {d k n : Nat} {P : am_O → Prop} {I : am_I} {J : am_J} {Pf : am_R} (hp : am_PF Pf) {l1 : Option Value} {l2 : Option Value} {l3 : Option Value} (q : (Pf 3 0 = some 1) ∧ (if (I 1 5) = 0 then (P (.inl (some (.int 0)), (am_SH, am_u (am_u I 1 5 3) 1 6 (I 1 3), J, Pf), k, n)) else (P (.inl (some (.int 0)), (am_SH, I, J, Pf), k, n)))) : am_go sc (d + 1) 30 (23, [some (.ref 3), l1, l2, l3], [], (am_SH, I, J, Pf), k, n) P := by
  refine am_s_aload_n rfl dc30_1.2.1.2 ?_
  refine am_s_getR (r := 1) dc30_1.2.2.1 rfl rfl rfl (q.1) ?_
  refine am_s_iconst am_cc3 dc30_1.2.2.2 ?_
  refine am_s_aload_n rfl dc30_2.1.1.1 ?_
  refine am_s_getR (r := 1) dc30_2.1.1.2 rfl rfl rfl (q.1) ?_
  refine am_x_getI (x := I 1 3) dc30_2.1.2.1 rfl rfl (Or.inl rfl) rfl ?_
  refine am_s_virtual false dc30_2.1.2.2 rfl (by decide) rfl rfl rfl (am_mth_of rfl rfl ?_)
  refine am_s_aload_n rfl dc53_0.1.1.1 ?_
  refine am_x_getI (x := I 1 5) dc53_0.1.1.2 rfl rfl (Or.inl rfl) rfl ?_
  refine am_s_if_ne dc53_0.1.2.1 rfl (fun c1 => ?_) (fun c1 => ?_)
  · refine am_s_iconst am_cc0 dc53_1.2.1 ?_
    refine am_s_zreturn dc53_1.2.2 rfl (by decide) (am_bkI ?_)
    exact am_s_zreturn dc30_2.2.1.1 rfl (by decide) ((vi_f q.2 c1))
  · refine am_s_aload_n rfl dc53_0.1.2.2 ?_
    refine am_s_iload_n rfl dc53_0.2.1.1 ?_
    refine am_s_putI dc53_0.2.1.2 rfl rfl rfl rfl ?_
    refine am_s_aload_n rfl dc53_0.2.2.1 ?_
    refine am_s_iload_n rfl dc53_0.2.2.2 ?_
    refine am_s_putI dc53_1.1 rfl rfl rfl rfl ?_
    refine am_s_iconst am_cc0 dc53_1.2.1 ?_
    refine am_s_zreturn dc53_1.2.2 rfl (by decide) (am_bkI ?_)
    exact am_s_zreturn dc30_2.2.1.1 rfl (by decide) ((vi_t q.2 (Decidable.not_not.mp c1)))
theorem v30_7 {sc : Option (Nat × (Nat → Int32))} {d k n : Nat} {P : am_O → Prop} {I : am_I} {J : am_J} {Pf : am_R} (hp : am_PF Pf) {x1 : Int32} {l2 : Option Value} {l3 : Option Value} {s0 : Int32} (q : (if x1 < 0 then (am_go sc (d + 1) 30 (23, [some (.ref 3), some (.int x1), some (.int s0), l3], [], (am_SH, I, J, Pf), k, n) P) else (if (x1 + 1) ≤ 8 then (if s0 = 35 then (am_mth (d + 1) 27 [.ref 3] (am_SH, I, J, Pf) (am_af sc (d + 1) 30 122 [some (.ref 3), some (.int x1), some (.int s0), l3] [.ref 3] [] (am_SH, I, J, Pf) k n true P)) else (if s0 = 40 then (am_mth (d + 1) 31 [.ref 3, .int s0, .int x1] (am_SH, I, J, Pf) (am_af sc (d + 1) 30 101 [some (.ref 3), some (.int x1), some (.int s0), l3] [.int x1, .int s0, .ref 3] [] (am_SH, I, J, Pf) k n true P)) else (if s0 = 91 then (am_in x1 8 = true) ∧ ∃ r93x1 : Nat, (Pf 4 (Int32.toNatClampNeg x1) = some r93x1) ∧ (am_SH[r93x1]? = some (.inl 6)) ∧ (am_mth (d + 1) 32 [.ref 3, .ref r93x1] (am_SH, I, J, Pf) (am_af sc (d + 1) 30 94 [some (.ref 3), some (.int x1), some (.int s0), l3] [.ref r93x1, .ref 3] [] (am_SH, I, J, Pf) k n true P)) else (if s0 = 126 then (am_mth (d + 1) 31 [.ref 3, .int s0, .int x1] (am_SH, I, J, Pf) (am_af sc (d + 1) 30 101 [some (.ref 3), some (.int x1), some (.int s0), l3] [.int x1, .int s0, .ref 3] [] (am_SH, I, J, Pf) k n true P)) else (Pf 3 0 = some 1) ∧ (if (I 1 5) = 0 then (P (.inl (some (.int 0)), (am_SH, am_u (am_u I 1 5 1) 1 6 (I 1 3), J, Pf), k, n)) else (P (.inl (some (.int 0)), (am_SH, I, J, Pf), k, n))))))) else (am_go sc (d + 1) 30 (23, [some (.ref 3), some (.int x1), some (.int s0), l3], [], (am_SH, I, J, Pf), k, n) P)))) : am_go sc (d + 1) 30 (7, [some (.ref 3), some (.int x1), l2, l3], [.int s0], (am_SH, I, J, Pf), k, n) P := by
  refine am_s_istore_n (ls' := [some (.ref 3), some (.int x1), some (.int s0), l3]) rfl rfl dc30_0.1.2.2 ?_
  refine am_s_iload_n rfl dc30_0.2.1.1 ?_
  refine am_s_if_lt dc30_0.2.1.2 rfl (fun c1 => ?_) (fun c1 => ?_)
  · exact (vi_t q c1)
  · refine am_s_iload_n rfl dc30_0.2.2.1 ?_
    refine am_s_iconst am_cc1 dc30_0.2.2.2 ?_
    refine am_s_iadd dc30_1.1.1.1 ?_
    refine am_s_aload_n rfl dc30_1.1.1.2 ?_
    refine am_s_getR (r := 4) dc30_1.1.2.1 rfl rfl rfl (hp _ _ _ rfl) ?_
    refine am_s_lenq (x := 8) dc30_1.1.2.2 rfl rfl rfl (by decide +kernel) ?_
    refine am_s_ic_le dc30_1.2.1.1 rfl (fun c2 => ?_) (fun c2 => ?_)
    · refine am_s_iload_n rfl dc30_2.2.1.2 ?_
      by_cases c3 : s0 = 35
      · refine am_s_lsw (o := 44) dc30_2.2.2.1 (by decide) (by simp only [c3]; decide) rfl ?_
        refine am_s_goto rfl dc30_2.2.2.2 ?_
        refine am_s_aload_n rfl dc30_5.2.1.1 ?_
        exact am_s_virtual true dc30_5.2.1.2 rfl (by decide) rfl rfl rfl ((vi_t (vi_t (vi_f q c1) c2) c3))
      by_cases c4 : s0 = 40
      · refine am_s_lsw (o := 58) dc30_2.2.2.1 (by decide) (by simp only [c4]; decide) rfl ?_
        refine am_s_aload_n rfl dc30_3.2.2.2 ?_
        refine am_s_iload_n rfl dc30_4.1.1.1 ?_
        refine am_s_iload_n rfl dc30_4.1.1.2 ?_
        exact am_s_virtual true dc30_4.1.2.1 rfl (by decide) rfl rfl rfl ((vi_t (vi_f (vi_t (vi_f q c1) c2) c3) c4))
      by_cases c5 : s0 = 91
      · refine am_s_lsw (o := 47) dc30_2.2.2.1 (by decide) (by simp only [c5]; decide) rfl ?_
        refine am_s_aload_n rfl dc30_3.1.1.1 ?_
        refine am_s_aload_n rfl dc30_3.1.1.2 ?_
        refine am_s_getR (r := 4) dc30_3.1.2.1 rfl rfl rfl (hp _ _ _ rfl) ?_
        refine am_s_iload_n rfl dc30_3.1.2.2 ?_
        obtain ⟨r93x1, qx1⟩ := (vi_t (vi_f (vi_f (vi_t (vi_f q c1) c2) c3) c4) c5).2
        refine am_s_aaload (r := r93x1) dc30_3.2.1.1 rfl rfl ((vi_t (vi_f (vi_f (vi_t (vi_f q c1) c2) c3) c4) c5).1) (qx1.1) ?_
        exact am_s_virtual true dc30_3.2.1.2 rfl (by decide) rfl rfl rfl (qx1.2.2)
      by_cases c6 : s0 = 126
      · refine am_s_lsw (o := 58) dc30_2.2.2.1 (by decide) (by simp only [c6]; decide) rfl ?_
        refine am_s_aload_n rfl dc30_3.2.2.2 ?_
        refine am_s_iload_n rfl dc30_4.1.1.1 ?_
        refine am_s_iload_n rfl dc30_4.1.1.2 ?_
        exact am_s_virtual true dc30_4.1.2.1 rfl (by decide) rfl rfl rfl ((vi_t (vi_f (vi_f (vi_f (vi_t (vi_f q c1) c2) c3) c4) c5) c6))
      refine am_s_lsw dc30_2.2.2.1 (by decide) (o := 65) (by have e3 := sw_n c3 (i := 35) (by decide); have e4 := sw_n c4 (i := 40) (by decide); have e5 := sw_n c5 (i := 91) (by decide); have e6 := sw_n c6 (i := 126) (by decide); show Op.lookupswitch.offset [(35, 44), (40, 58), (91, 47), (126, 58)] 65 _ = _; simp only [Op.lookupswitch.offset, if_neg (Ne.symm e3), if_neg (Ne.symm e4), if_neg (Ne.symm e5), if_neg (Ne.symm e6)]) rfl ?_
      refine am_s_aload_n rfl dc30_4.2.1.1 ?_
      refine am_s_getR (r := 1) dc30_4.2.1.2 rfl rfl rfl ((vi_f (vi_f (vi_f (vi_f (vi_t (vi_f q c1) c2) c3) c4) c5) c6).1) ?_
      refine am_s_iconst am_cc1 dc30_4.2.2.1 ?_
      refine am_s_aload_n rfl dc30_4.2.2.2 ?_
      refine am_s_getR (r := 1) dc30_5.1.1.1 rfl rfl rfl ((vi_f (vi_f (vi_f (vi_f (vi_t (vi_f q c1) c2) c3) c4) c5) c6).1) ?_
      refine am_x_getI (x := I 1 3) dc30_5.1.1.2 rfl rfl (Or.inl rfl) rfl ?_
      refine am_s_virtual false dc30_5.1.2.1 rfl (by decide) rfl rfl rfl (am_mth_of rfl rfl ?_)
      refine am_s_aload_n rfl dc53_0.1.1.1 ?_
      refine am_x_getI (x := I 1 5) dc53_0.1.1.2 rfl rfl (Or.inl rfl) rfl ?_
      refine am_s_if_ne dc53_0.1.2.1 rfl (fun c7 => ?_) (fun c7 => ?_)
      · refine am_s_iconst am_cc0 dc53_1.2.1 ?_
        refine am_s_zreturn dc53_1.2.2 rfl (by decide) (am_bkI ?_)
        exact am_s_zreturn dc30_5.1.2.2 rfl (by decide) ((vi_f (vi_f (vi_f (vi_f (vi_f (vi_t (vi_f q c1) c2) c3) c4) c5) c6).2 c7))
      · refine am_s_aload_n rfl dc53_0.1.2.2 ?_
        refine am_s_iload_n rfl dc53_0.2.1.1 ?_
        refine am_s_putI dc53_0.2.1.2 rfl rfl rfl rfl ?_
        refine am_s_aload_n rfl dc53_0.2.2.1 ?_
        refine am_s_iload_n rfl dc53_0.2.2.2 ?_
        refine am_s_putI dc53_1.1 rfl rfl rfl rfl ?_
        refine am_s_iconst am_cc0 dc53_1.2.1 ?_
        refine am_s_zreturn dc53_1.2.2 rfl (by decide) (am_bkI ?_)
        exact am_s_zreturn dc30_5.1.2.2 rfl (by decide) ((vi_t (vi_f (vi_f (vi_f (vi_f (vi_t (vi_f q c1) c2) c3) c4) c5) c6).2 (Decidable.not_not.mp c7)))
    · exact (vi_f (vi_f q c1) c2)
theorem v30_97 {sc : Option (Nat × (Nat → Int32))} {d k n : Nat} {P : am_O → Prop} {I : am_I} {J : am_J} {Pf : am_R} (hp : am_PF Pf) {l0 : Option Value} {l1 : Option Value} {l2 : Option Value} {l3 : Option Value} {s0 : Int32} (q : (s0 = 0 ∨ s0 = 1) ∧ (P (.inl (some (.int s0)), (am_SH, I, J, Pf), k, n))) : am_go sc d 30 (97, [l0, l1, l2, l3], [.int s0], (am_SH, I, J, Pf), k, n) P := by
  exact am_s_zreturn dc30_3.2.2.1 rfl (q.1) (q.2)
theorem v30_104 {sc : Option (Nat × (Nat → Int32))} {d k n : Nat} {P : am_O → Prop} {I : am_I} {J : am_J} {Pf : am_R} (hp : am_PF Pf) {l0 : Option Value} {l1 : Option Value} {l2 : Option Value} {l3 : Option Value} {s0 : Int32} (q : (s0 = 0 ∨ s0 = 1) ∧ (P (.inl (some (.int s0)), (am_SH, I, J, Pf), k, n))) : am_go sc d 30 (104, [l0, l1, l2, l3], [.int s0], (am_SH, I, J, Pf), k, n) P := by
  exact am_s_zreturn dc30_4.1.2.2 rfl (q.1) (q.2)
theorem v30_125 {sc : Option (Nat × (Nat → Int32))} {d k n : Nat} {P : am_O → Prop} {I : am_I} {J : am_J} {Pf : am_R} (hp : am_PF Pf) {x1 : Int32} {l2 : Option Value} {l3 : Option Value} {s0 : Int32} (hl2 : am_k1 l2 = true) (q : (if s0 = (-1) then (P (.inl (some (.int 0)), (am_SH, I, J, Pf), k, n)) else (am_in x1 8 = true) ∧ ∃ r138x1 : Nat, (Pf 4 (Int32.toNatClampNeg x1) = some r138x1) ∧ (am_SH[r138x1]? = some (.inl 6)) ∧ ∃ r3_1x2 : Nat, (Pf 3 1 = some r3_1x2) ∧ (am_SH[r3_1x2]? = some (.inl 4)) ∧ (am_in s0 8 = true) ∧ ∃ r147x3 : Nat, (Pf (r3_1x2 + 1) (Int32.toNatClampNeg s0) = some r147x3) ∧ (am_SH[r147x3]? = some (.inl 6)) ∧ (am_mth d 76 [.ref r138x1, .ref r147x3] (am_SH, I, J, Pf) (am_af sc d 30 148 [some (.ref 3), some (.int x1), l2, some (.int s0)] [.ref r147x3, .ref r138x1] [] (am_SH, I, J, Pf) k n false P)))) : am_go sc d 30 (125, [some (.ref 3), some (.int x1), l2, l3], [.int s0], (am_SH, I, J, Pf), k, n) P := by
  refine am_s_istore_n (ls' := [some (.ref 3), some (.int x1), l2, some (.int s0)]) rfl (am_set1_k (am_kill_x (j := 2) rfl hl2) rfl) dc30_5.2.2.1 ?_
  refine am_s_iload_n rfl dc30_5.2.2.2 ?_
  refine am_s_iconst am_ccm1 dc30_6.1.1.1 ?_
  refine am_s_ic_ne dc30_6.1.1.2 rfl (fun c1 => ?_) (fun c1 => ?_)
  · refine am_s_aload_n rfl dc30_6.2.1.1 ?_
    refine am_s_getR (r := 4) dc30_6.2.1.2 rfl rfl rfl (hp _ _ _ rfl) ?_
    refine am_s_iload_n rfl dc30_6.2.2.1 ?_
    obtain ⟨r138x1, qx1⟩ := (vi_f q c1).2
    refine am_s_aaload (r := r138x1) dc30_6.2.2.2 rfl rfl ((vi_f q c1).1) (qx1.1) ?_
    refine am_s_aload_n rfl dc30_7.1.1.1 ?_
    obtain ⟨r3_1x2, qx2⟩ := qx1.2.2
    refine am_s_getR (r := r3_1x2) dc30_7.1.1.2 rfl rfl rfl (qx2.1) ?_
    refine am_s_getR (r := r3_1x2 + 1) dc30_7.1.2.1 rfl (qx2.2.1) rfl (am_r4_0 hp (qx2.2.1)) ?_
    refine am_s_iload_n rfl dc30_7.1.2.2 ?_
    obtain ⟨r147x3, qx3⟩ := qx2.2.2.2
    refine am_s_aaload (r := r147x3) dc30_7.2.1.1 (am_h4_0 (qx2.2.1)) rfl (qx2.2.2.1) (qx3.1) ?_
    exact am_s_virtual false dc30_7.2.1.2 rfl (by decide) rfl (qx1.2.1) rfl (qx3.2.2)
  · refine am_s_iconst am_cc0 dc30_6.1.2.1 ?_
    exact am_s_zreturn dc30_6.1.2.2 rfl (by decide) ((vi_t q (Decidable.not_not.mp c1)))
theorem v30_151 {sc : Option (Nat × (Nat → Int32))} {d k n : Nat} {P : am_O → Prop} {I : am_I} {J : am_J} {Pf : am_R} (hp : am_PF Pf) {l0 : Option Value} {l1 : Option Value} {l2 : Option Value} {l3 : Option Value} (q : (P (.inl (some (.int 1)), (am_SH, I, J, Pf), k, n))) : am_go sc d 30 (151, [l0, l1, l2, l3], [], (am_SH, I, J, Pf), k, n) P := by
  refine am_s_iconst am_cc1 dc30_7.2.2.1 ?_
  exact am_s_zreturn dc30_7.2.2.2 rfl (by decide) (q)
-- readOpened (II)Z
theorem v31_0 {sc : Option (Nat × (Nat → Int32))} {d k n : Nat} {P : am_O → Prop} {I : am_I} {J : am_J} {Pf : am_R} (hp : am_PF Pf) {x1 : Int32} {x2 : Int32} {l3 : Option Value} (q : (Pf 3 0 = some 1) ∧ (if ((I 1 4) + 1) ≤ 6 then (if x1 = 126 then (am_mth (d + 2) 30 [.ref 3, .int x2] (am_SH, am_u (am_u I 1 4 ((I 1 4) + 1)) 1 3 ((I 1 3) + 1), J, Pf) (am_af sc (d + 2) 31 40 [some (.ref 3), some (.int x1), some (.int x2), l3] [.int x2, .ref 3] [] (am_SH, am_u (am_u I 1 4 ((I 1 4) + 1)) 1 3 ((I 1 3) + 1), J, Pf) k n true P)) else (am_mth (d + 2) 29 [.ref 3, .int x2] (am_SH, am_u (am_u I 1 4 ((I 1 4) + 1)) 1 3 ((I 1 3) + 1), J, Pf) (am_af sc (d + 2) 31 48 [some (.ref 3), some (.int x1), some (.int x2), l3] [.int x2, .ref 3] [] (am_SH, am_u (am_u I 1 4 ((I 1 4) + 1)) 1 3 ((I 1 3) + 1), J, Pf) k n true P))) else (if (I 1 5) = 0 then (P (.inl (some (.int 0)), (am_SH, am_u (am_u (am_u I 1 4 ((I 1 4) + 1)) 1 5 3) 1 6 (I 1 3), J, Pf), k, n)) else (P (.inl (some (.int 0)), (am_SH, am_u I 1 4 ((I 1 4) + 1), J, Pf), k, n))))) : am_go sc (d + 2) 31 (0, [some (.ref 3), some (.int x1), some (.int x2), l3], [], (am_SH, I, J, Pf), k, n) P := by
  refine am_s_aload_n rfl dc31_0.1.1.1 ?_
  refine am_s_getR (r := 1) dc31_0.1.1.2 rfl rfl rfl (q.1) ?_
  refine am_s_aload_n rfl dc31_0.1.2.1 ?_
  refine am_s_getR (r := 1) dc31_0.1.2.2 rfl rfl rfl (q.1) ?_
  refine am_x_getI (x := I 1 3) dc31_0.2.1.1 rfl rfl (Or.inl rfl) rfl ?_
  refine am_s_virtual false dc31_0.2.1.2 rfl (by decide) rfl rfl rfl (am_mth_of rfl rfl ?_)
  refine am_s_aload_n rfl dc61_0.1.1.1 ?_
  refine am_s_dup rfl dc61_0.1.1.2 ?_
  refine am_x_getI (x := I 1 4) dc61_0.1.2.1 rfl rfl (Or.inl rfl) rfl ?_
  refine am_s_iconst am_cc1 dc61_0.1.2.2 ?_
  refine am_s_iadd dc61_0.2.1.1 ?_
  refine am_s_putI dc61_0.2.1.2 rfl rfl rfl rfl ?_
  refine am_s_aload_n rfl dc61_0.2.2.1 ?_
  refine am_x_getI (x := (I 1 4) + 1) dc61_0.2.2.2 rfl rfl (Or.inl rfl) rfl ?_
  refine am_s_bipush am_cb6 dc61_1.1.1.1 ?_
  refine am_s_ic_le dc61_1.1.1.2 rfl (fun c1 => ?_) (fun c1 => ?_)
  · refine am_s_iconst am_cc1 dc61_1.2.2.2 ?_
    refine am_s_goto rfl dc61_2.1 ?_
    refine am_s_zreturn dc61_2.2.2 rfl (by decide) (am_bkI ?_)
    refine am_s_if_ne dc31_0.2.2.1 rfl (fun _ => ?_) (fun z => absurd z (by decide))
    refine am_s_aload_n rfl dc31_1.1.1.2 ?_
    refine am_s_getR (r := 1) dc31_1.1.2.1 rfl rfl rfl (q.1) ?_
    refine am_s_dup rfl dc31_1.1.2.2 ?_
    refine am_x_getI (x := I 1 3) dc31_1.2.1.1 rfl rfl (Or.inl rfl) rfl ?_
    refine am_s_iconst am_cc1 dc31_1.2.1.2 ?_
    refine am_s_iadd dc31_1.2.2.1 ?_
    refine am_s_putI dc31_1.2.2.2 rfl rfl rfl rfl ?_
    refine am_s_iload_n rfl dc31_2.1.1.1 ?_
    refine am_s_bipush am_cb126 dc31_2.1.1.2 ?_
    refine am_s_ic_ne dc31_2.1.2.1 rfl (fun c2 => ?_) (fun c2 => ?_)
    · refine am_s_aload_n rfl dc31_2.2.2.2 ?_
      refine am_s_iload_n rfl dc31_3.1.1.1 ?_
      exact am_s_virtual true dc31_3.1.1.2 rfl (by decide) rfl rfl rfl ((vi_f (vi_t q.2 c1) c2))
    · refine am_s_aload_n rfl dc31_2.1.2.2 ?_
      refine am_s_iload_n rfl dc31_2.2.1.1 ?_
      exact am_s_virtual true dc31_2.2.1.2 rfl (by decide) rfl rfl rfl ((vi_t (vi_t q.2 c1) (Decidable.not_not.mp c2)))
  · refine am_s_aload_n rfl dc61_1.1.2.1 ?_
    refine am_s_iconst am_cc3 dc61_1.1.2.2 ?_
    refine am_s_iload_n rfl dc61_1.2.1.1 ?_
    refine am_s_virtual true dc61_1.2.1.2 rfl (by decide) rfl rfl rfl (am_mth_of rfl rfl ?_)
    refine am_s_aload_n rfl dc53_0.1.1.1 ?_
    refine am_x_getI (x := I 1 5) dc53_0.1.1.2 rfl rfl (Or.inl rfl) rfl ?_
    refine am_s_if_ne dc53_0.1.2.1 rfl (fun c2 => ?_) (fun c2 => ?_)
    · refine am_s_iconst am_cc0 dc53_1.2.1 ?_
      refine am_s_zreturn dc53_1.2.2 rfl (by decide) (am_bkI ?_)
      refine am_s_if_eq dc61_1.2.2.1 rfl (fun _ => ?_) (fun z => absurd z (by decide))
      refine am_s_iconst am_cc0 dc61_2.2.1 ?_
      refine am_s_zreturn dc61_2.2.2 rfl (by decide) (am_bkI ?_)
      refine am_s_if_ne dc31_0.2.2.1 rfl (fun z => absurd z (by decide)) (fun _ => ?_)
      refine am_s_iconst am_cc0 dc31_0.2.2.2 ?_
      exact am_s_zreturn dc31_1.1.1.1 rfl (by decide) ((vi_f (vi_f q.2 c1) c2))
    · refine am_s_aload_n rfl dc53_0.1.2.2 ?_
      refine am_s_iload_n rfl dc53_0.2.1.1 ?_
      refine am_s_putI dc53_0.2.1.2 rfl rfl rfl rfl ?_
      refine am_s_aload_n rfl dc53_0.2.2.1 ?_
      refine am_s_iload_n rfl dc53_0.2.2.2 ?_
      refine am_s_putI dc53_1.1 rfl rfl rfl rfl ?_
      refine am_s_iconst am_cc0 dc53_1.2.1 ?_
      refine am_s_zreturn dc53_1.2.2 rfl (by decide) (am_bkI ?_)
      refine am_s_if_eq dc61_1.2.2.1 rfl (fun _ => ?_) (fun z => absurd z (by decide))
      refine am_s_iconst am_cc0 dc61_2.2.1 ?_
      refine am_s_zreturn dc61_2.2.2 rfl (by decide) (am_bkI ?_)
      refine am_s_if_ne dc31_0.2.2.1 rfl (fun z => absurd z (by decide)) (fun _ => ?_)
      refine am_s_iconst am_cc0 dc31_0.2.2.2 ?_
      exact am_s_zreturn dc31_1.1.1.1 rfl (by decide) ((vi_t (vi_f q.2 c1) (Decidable.not_not.mp c2)))
theorem v31_43 {sc : Option (Nat × (Nat → Int32))} {d k n : Nat} {P : am_O → Prop} {I : am_I} {J : am_J} {Pf : am_R} (hp : am_PF Pf) {x1 : Int32} {x2 : Int32} {l3 : Option Value} {s0 : Int32} (q : (if s0 = 0 then (P (.inl (some (.int 0)), (am_SH, I, J, Pf), k, n)) else (if x1 = 126 then (am_in x2 8 = true) ∧ ∃ r89x1 : Nat, (Pf 4 (Int32.toNatClampNeg x2) = some r89x1) ∧ (am_SH[r89x1]? = some (.inl 6)) ∧ (am_mth (d + 1) 82 [.ref r89x1] (am_SH, I, J, Pf) (am_af sc (d + 1) 31 90 [some (.ref 3), some (.int x1), some (.int x2), some (.int s0)] [.ref r89x1] [] (am_SH, I, J, Pf) k n false P)) else (Pf 3 0 = some 1) ∧ (P (.inl (some (.int 1)), (am_SH, am_u I 1 4 ((I 1 4) - 1), J, Pf), k, n))))) : am_go sc (d + 1) 31 (43, [some (.ref 3), some (.int x1), some (.int x2), l3], [.int s0], (am_SH, I, J, Pf), k, n) P := by
  refine am_s_goto rfl dc31_2.2.2.1 ?_
  refine am_s_istore_n (ls' := [some (.ref 3), some (.int x1), some (.int x2), some (.int s0)]) rfl rfl dc31_4.1.2.2 ?_
  refine am_s_iload_n rfl dc31_4.2.1.1 ?_
  refine am_s_if_ne dc31_4.2.1.2 rfl (fun c1 => ?_) (fun c1 => ?_)
  · refine am_s_iload_n rfl dc31_5.1.1.1 ?_
    refine am_s_bipush am_cb126 dc31_5.1.1.2 ?_
    refine am_s_ic_ne dc31_5.1.2.1 rfl (fun c2 => ?_) (fun c2 => ?_)
    · refine am_s_aload_n rfl dc31_6.1.1 ?_
      refine am_s_getR (r := 1) dc31_6.1.2 rfl rfl rfl ((vi_f (vi_f q c1) c2).1) ?_
      refine am_s_virtual false dc31_6.2.1 rfl (by decide) rfl rfl rfl (am_mth_of rfl rfl ?_)
      refine am_s_aload_n rfl dc62_0.1.1 ?_
      refine am_s_dup rfl dc62_0.1.2.1 ?_
      refine am_x_getI (x := I 1 4) dc62_0.1.2.2 rfl rfl (Or.inl rfl) rfl ?_
      refine am_s_iconst am_cc1 dc62_0.2.1.1 ?_
      refine am_s_isub dc62_0.2.1.2 ?_
      refine am_s_putI dc62_0.2.2.1 rfl rfl rfl rfl ?_
      refine am_s_return dc62_0.2.2.2 rfl (am_bkV ?_)
      refine am_s_iconst am_cc1 dc31_6.2.2.1 ?_
      exact am_s_zreturn dc31_6.2.2.2 rfl (by decide) ((vi_f (vi_f q c1) c2).2)
    · refine am_s_aload_n rfl dc31_5.1.2.2 ?_
      refine am_s_getR (r := 4) dc31_5.2.1.1 rfl rfl rfl (hp _ _ _ rfl) ?_
      refine am_s_iload_n rfl dc31_5.2.1.2 ?_
      obtain ⟨r89x1, qx1⟩ := (vi_t (vi_f q c1) (Decidable.not_not.mp c2)).2
      refine am_s_aaload (r := r89x1) dc31_5.2.2.1 rfl rfl ((vi_t (vi_f q c1) (Decidable.not_not.mp c2)).1) (qx1.1) ?_
      exact am_s_virtual false dc31_5.2.2.2 rfl (by decide) rfl (qx1.2.1) rfl (qx1.2.2)
  · refine am_s_iconst am_cc0 dc31_4.2.2.1 ?_
    exact am_s_zreturn dc31_4.2.2.2 rfl (by decide) ((vi_t q (Decidable.not_not.mp c1)))
theorem v31_51 {sc : Option (Nat × (Nat → Int32))} {d k n : Nat} {P : am_O → Prop} {I : am_I} {J : am_J} {Pf : am_R} (hp : am_PF Pf) {x1 : Int32} {x2 : Int32} {l3 : Option Value} {s0 : Int32} (q : (if s0 = 0 then (P (.inl (some (.int 0)), (am_SH, I, J, Pf), k, n)) else (Pf 3 0 = some 1) ∧ (am_mth d 56 [.ref 1, .int 41] (am_SH, I, J, Pf) (am_af sc d 31 60 [some (.ref 3), some (.int x1), some (.int x2), l3] [.int 41, .ref 1] [] (am_SH, I, J, Pf) k n false P)))) : am_go sc d 31 (51, [some (.ref 3), some (.int x1), some (.int x2), l3], [.int s0], (am_SH, I, J, Pf), k, n) P := by
  refine am_s_if_eq dc31_3.1.2.1 rfl (fun c1 => ?_) (fun c1 => ?_)
  · refine am_s_iconst am_cc0 dc31_4.1.2.1 ?_
    refine am_s_istore_n (ls' := [some (.ref 3), some (.int x1), some (.int x2), some (.int 0)]) rfl rfl dc31_4.1.2.2 ?_
    refine am_s_iload_n rfl dc31_4.2.1.1 ?_
    refine am_s_if_ne dc31_4.2.1.2 rfl (fun z => absurd z (by decide)) (fun _ => ?_)
    refine am_s_iconst am_cc0 dc31_4.2.2.1 ?_
    exact am_s_zreturn dc31_4.2.2.2 rfl (by decide) ((vi_t q c1))
  · refine am_s_aload_n rfl dc31_3.1.2.2 ?_
    refine am_s_getR (r := 1) dc31_3.2.1.1 rfl rfl rfl ((vi_f q c1).1) ?_
    refine am_s_bipush am_cb41 dc31_3.2.1.2 ?_
    exact am_s_virtual false dc31_3.2.2.1 rfl (by decide) rfl rfl rfl ((vi_f q c1).2)
theorem v31_93 {sc : Option (Nat × (Nat → Int32))} {d k n : Nat} {P : am_O → Prop} {I : am_I} {J : am_J} {Pf : am_R} (hp : am_PF Pf) {l1 : Option Value} {l2 : Option Value} {l3 : Option Value} (q : (Pf 3 0 = some 1) ∧ (P (.inl (some (.int 1)), (am_SH, am_u I 1 4 ((I 1 4) - 1), J, Pf), k, n))) : am_go sc (d + 1) 31 (93, [some (.ref 3), l1, l2, l3], [], (am_SH, I, J, Pf), k, n) P := by
  refine am_s_aload_n rfl dc31_6.1.1 ?_
  refine am_s_getR (r := 1) dc31_6.1.2 rfl rfl rfl (q.1) ?_
  refine am_s_virtual false dc31_6.2.1 rfl (by decide) rfl rfl rfl (am_mth_of rfl rfl ?_)
  refine am_s_aload_n rfl dc62_0.1.1 ?_
  refine am_s_dup rfl dc62_0.1.2.1 ?_
  refine am_x_getI (x := I 1 4) dc62_0.1.2.2 rfl rfl (Or.inl rfl) rfl ?_
  refine am_s_iconst am_cc1 dc62_0.2.1.1 ?_
  refine am_s_isub dc62_0.2.1.2 ?_
  refine am_s_putI dc62_0.2.2.1 rfl rfl rfl rfl ?_
  refine am_s_return dc62_0.2.2.2 rfl (am_bkV ?_)
  refine am_s_iconst am_cc1 dc31_6.2.2.1 ?_
  exact am_s_zreturn dc31_6.2.2.2 rfl (by decide) (q.2)
theorem v31_63 {sc : Option (Nat × (Nat → Int32))} {d k n : Nat} {P : am_O → Prop} {I : am_I} {J : am_J} {Pf : am_R} (hp : am_PF Pf) {x1 : Int32} {x2 : Int32} {l3 : Option Value} {s0 : Int32} (q : (if s0 = 0 then (P (.inl (some (.int 0)), (am_SH, I, J, Pf), k, n)) else (if x1 = 126 then (am_in x2 8 = true) ∧ ∃ r89x1 : Nat, (Pf 4 (Int32.toNatClampNeg x2) = some r89x1) ∧ (am_SH[r89x1]? = some (.inl 6)) ∧ (am_mth (d + 1) 82 [.ref r89x1] (am_SH, I, J, Pf) (am_af sc (d + 1) 31 90 [some (.ref 3), some (.int x1), some (.int x2), some (.int 1)] [.ref r89x1] [] (am_SH, I, J, Pf) k n false P)) else (Pf 3 0 = some 1) ∧ (P (.inl (some (.int 1)), (am_SH, am_u I 1 4 ((I 1 4) - 1), J, Pf), k, n))))) : am_go sc (d + 1) 31 (63, [some (.ref 3), some (.int x1), some (.int x2), l3], [.int s0], (am_SH, I, J, Pf), k, n) P := by
  refine am_s_if_eq dc31_3.2.2.2 rfl (fun c1 => ?_) (fun c1 => ?_)
  · refine am_s_iconst am_cc0 dc31_4.1.2.1 ?_
    refine am_s_istore_n (ls' := [some (.ref 3), some (.int x1), some (.int x2), some (.int 0)]) rfl rfl dc31_4.1.2.2 ?_
    refine am_s_iload_n rfl dc31_4.2.1.1 ?_
    refine am_s_if_ne dc31_4.2.1.2 rfl (fun z => absurd z (by decide)) (fun _ => ?_)
    refine am_s_iconst am_cc0 dc31_4.2.2.1 ?_
    exact am_s_zreturn dc31_4.2.2.2 rfl (by decide) ((vi_t q c1))
  · refine am_s_iconst am_cc1 dc31_4.1.1.1 ?_
    refine am_s_goto rfl dc31_4.1.1.2 ?_
    refine am_s_istore_n (ls' := [some (.ref 3), some (.int x1), some (.int x2), some (.int 1)]) rfl rfl dc31_4.1.2.2 ?_
    refine am_s_iload_n rfl dc31_4.2.1.1 ?_
    refine am_s_if_ne dc31_4.2.1.2 rfl (fun _ => ?_) (fun z => absurd z (by decide))
    refine am_s_iload_n rfl dc31_5.1.1.1 ?_
    refine am_s_bipush am_cb126 dc31_5.1.1.2 ?_
    refine am_s_ic_ne dc31_5.1.2.1 rfl (fun c2 => ?_) (fun c2 => ?_)
    · refine am_s_aload_n rfl dc31_6.1.1 ?_
      refine am_s_getR (r := 1) dc31_6.1.2 rfl rfl rfl ((vi_f (vi_f q c1) c2).1) ?_
      refine am_s_virtual false dc31_6.2.1 rfl (by decide) rfl rfl rfl (am_mth_of rfl rfl ?_)
      refine am_s_aload_n rfl dc62_0.1.1 ?_
      refine am_s_dup rfl dc62_0.1.2.1 ?_
      refine am_x_getI (x := I 1 4) dc62_0.1.2.2 rfl rfl (Or.inl rfl) rfl ?_
      refine am_s_iconst am_cc1 dc62_0.2.1.1 ?_
      refine am_s_isub dc62_0.2.1.2 ?_
      refine am_s_putI dc62_0.2.2.1 rfl rfl rfl rfl ?_
      refine am_s_return dc62_0.2.2.2 rfl (am_bkV ?_)
      refine am_s_iconst am_cc1 dc31_6.2.2.1 ?_
      exact am_s_zreturn dc31_6.2.2.2 rfl (by decide) ((vi_f (vi_f q c1) c2).2)
    · refine am_s_aload_n rfl dc31_5.1.2.2 ?_
      refine am_s_getR (r := 4) dc31_5.2.1.1 rfl rfl rfl (hp _ _ _ rfl) ?_
      refine am_s_iload_n rfl dc31_5.2.1.2 ?_
      obtain ⟨r89x1, qx1⟩ := (vi_t (vi_f q c1) (Decidable.not_not.mp c2)).2
      refine am_s_aaload (r := r89x1) dc31_5.2.2.1 rfl rfl ((vi_t (vi_f q c1) (Decidable.not_not.mp c2)).1) (qx1.1) ?_
      exact am_s_virtual false dc31_5.2.2.2 rfl (by decide) rfl (qx1.2.1) rfl (qx1.2.2)
-- readBrackets (LPrunedParses$Signs;)Z
theorem v32_0 {sc : Option (Nat × (Nat → Int32))} {d k n : Nat} {P : am_O → Prop} {I : am_I} {J : am_J} {Pf : am_R} (hp : am_PF Pf) {x1 : Nat} (hx1 : am_SH[x1]? = some (.inl 6)) {l2 : Option Value} {l3 : Option Value} {l4 : Option Value} {l5 : Option Value} (q : (Pf 3 0 = some 1) ∧ (am_mth d 75 [.ref x1] (am_SH, am_u I 1 3 ((I 1 3) + 1), J, Pf) (am_af sc d 32 14 [some (.ref 3), some (.ref x1), l2, l3, l4, l5] [.ref x1] [] (am_SH, am_u I 1 3 ((I 1 3) + 1), J, Pf) k n false P))) : am_go sc d 32 (0, [some (.ref 3), some (.ref x1), l2, l3, l4, l5], [], (am_SH, I, J, Pf), k, n) P := by
  refine am_s_aload_n rfl dc32_0.1.1.1 ?_
  refine am_s_getR (r := 1) dc32_0.1.1.2 rfl rfl rfl (q.1) ?_
  refine am_s_dup rfl dc32_0.1.2.1 ?_
  refine am_x_getI (x := I 1 3) dc32_0.1.2.2 rfl rfl (Or.inl rfl) rfl ?_
  refine am_s_iconst am_cc1 dc32_0.2.1.1 ?_
  refine am_s_iadd dc32_0.2.1.2 ?_
  refine am_s_putI dc32_0.2.2.1 rfl rfl rfl rfl ?_
  refine am_s_aload_n rfl dc32_0.2.2.2 ?_
  exact am_s_virtual false dc32_1.1.1.1 rfl (by decide) rfl hx1 rfl (q.2)
theorem v32_19 {sc : Option (Nat × (Nat → Int32))} {d k n : Nat} {P : am_O → Prop} {I : am_I} {J : am_J} {Pf : am_R} (hp : am_PF Pf) {x1 : Nat} (hx1 : am_SH[x1]? = some (.inl 6)) {x2 : Int32} {l3 : Option Value} {l4 : Option Value} {l5 : Option Value} (q : (if 600 ≤ x2 then (am_go sc (d + 1) 32 (154, [some (.ref 3), some (.ref x1), some (.int x2), l3, l4, l5], [], (am_SH, I, J, Pf), k, n) P) else (Pf 3 0 = some 1) ∧ (if (I 1 3) < 0 then (am_mth (d + 1) 63 [.ref 1, .int 0] (am_SH, I, J, Pf) (am_af sc (d + 1) 32 43 [some (.ref 3), some (.ref x1), some (.int x2), l3, l4, l5] [.int 0, .ref 1] [] (am_SH, I, J, Pf) k n false P)) else (if (I 1 2) ≤ (I 1 3) then (am_mth (d + 1) 63 [.ref 1, .int 0] (am_SH, I, J, Pf) (am_af sc (d + 1) 32 43 [some (.ref 3), some (.ref x1), some (.int x2), l3, l4, l5] [.int 0, .ref 1] [] (am_SH, I, J, Pf) k n false P)) else (if 600 ≤ (I 1 3) then (am_mth (d + 1) 63 [.ref 1, .int 0] (am_SH, I, J, Pf) (am_af sc (d + 1) 32 43 [some (.ref 3), some (.ref x1), some (.int x2), l3, l4, l5] [.int 0, .ref 1] [] (am_SH, I, J, Pf) k n false P)) else (am_in (I 1 3) 600 = true) ∧ (if (I 2 (Int32.toNatClampNeg (I 1 3))) = 93 then (am_go sc (d + 1) 32 (154, [some (.ref 3), some (.ref x1), some (.int x2), l3, l4, l5], [], (am_SH, I, J, Pf), k, n) P) else (am_mth (d + 1) 63 [.ref 1, .int 0] (am_SH, I, J, Pf) (am_af sc (d + 1) 32 43 [some (.ref 3), some (.ref x1), some (.int x2), l3, l4, l5] [.int 0, .ref 1] [] (am_SH, I, J, Pf) k n false P)))))))) : am_go sc (d + 1) 32 (19, [some (.ref 3), some (.ref x1), some (.int x2), l3, l4, l5], [], (am_SH, I, J, Pf), k, n) P := by
  refine am_s_iload_n rfl dc32_1.1.2.2 ?_
  refine am_s_sipush am_cs600 dc32_1.2.1.1 ?_
  refine am_s_ic_ge dc32_1.2.1.2 rfl (fun c1 => ?_) (fun c1 => ?_)
  · exact (vi_t q c1)
  · refine am_s_aload_n rfl dc32_1.2.2.1 ?_
    refine am_s_getR (r := 1) dc32_1.2.2.2 rfl rfl rfl ((vi_f q c1).1) ?_
    refine am_s_virtual false dc32_2.1.1.1 rfl (by decide) rfl rfl rfl (am_mth_of rfl rfl ?_)
    refine am_s_aload_n rfl dc54_0.1.1.1 ?_
    refine am_x_getI (x := I 1 3) dc54_0.1.1.2 rfl rfl (Or.inl rfl) rfl ?_
    refine am_s_if_lt dc54_0.1.2.1 rfl (fun c2 => ?_) (fun c2 => ?_)
    · refine am_s_iconst am_ccm1 dc54_2.2.1 ?_
      refine am_s_ireturn dc54_2.2.2 rfl (am_bkI ?_)
      refine am_s_bipush am_cb93 dc32_2.1.1.2 ?_
      refine am_s_ic_eq dc32_2.1.2.1 rfl (fun z => absurd z (by decide)) (fun _ => ?_)
      refine am_s_aload_n rfl dc32_2.1.2.2 ?_
      refine am_s_getR (r := 1) dc32_2.2.1.1 rfl rfl rfl ((vi_f q c1).1) ?_
      refine am_s_iconst am_cc0 dc32_2.2.1.2 ?_
      exact am_s_virtual false dc32_2.2.2.1 rfl (by decide) rfl rfl rfl ((vi_t (vi_f q c1).2 c2))
    · refine am_s_aload_n rfl dc54_0.1.2.2 ?_
      refine am_x_getI (x := I 1 3) dc54_0.2.1.1 rfl rfl (Or.inl rfl) rfl ?_
      refine am_s_aload_n rfl dc54_0.2.1.2 ?_
      refine am_x_getI (x := I 1 2) dc54_0.2.2.1 rfl rfl (Or.inl rfl) rfl ?_
      refine am_s_ic_ge dc54_0.2.2.2 rfl (fun c3 => ?_) (fun c3 => ?_)
      · refine am_s_iconst am_ccm1 dc54_2.2.1 ?_
        refine am_s_ireturn dc54_2.2.2 rfl (am_bkI ?_)
        refine am_s_bipush am_cb93 dc32_2.1.1.2 ?_
        refine am_s_ic_eq dc32_2.1.2.1 rfl (fun z => absurd z (by decide)) (fun _ => ?_)
        refine am_s_aload_n rfl dc32_2.1.2.2 ?_
        refine am_s_getR (r := 1) dc32_2.2.1.1 rfl rfl rfl ((vi_f q c1).1) ?_
        refine am_s_iconst am_cc0 dc32_2.2.1.2 ?_
        exact am_s_virtual false dc32_2.2.2.1 rfl (by decide) rfl rfl rfl ((vi_t (vi_f (vi_f q c1).2 c2) c3))
      · refine am_s_aload_n rfl dc54_1.1.1.1 ?_
        refine am_x_getI (x := I 1 3) dc54_1.1.1.2 rfl rfl (Or.inl rfl) rfl ?_
        refine am_s_sipush am_cs600 dc54_1.1.2.1 ?_
        refine am_s_ic_ge dc54_1.1.2.2 rfl (fun c4 => ?_) (fun c4 => ?_)
        · refine am_s_iconst am_ccm1 dc54_2.2.1 ?_
          refine am_s_ireturn dc54_2.2.2 rfl (am_bkI ?_)
          refine am_s_bipush am_cb93 dc32_2.1.1.2 ?_
          refine am_s_ic_eq dc32_2.1.2.1 rfl (fun z => absurd z (by decide)) (fun _ => ?_)
          refine am_s_aload_n rfl dc32_2.1.2.2 ?_
          refine am_s_getR (r := 1) dc32_2.2.1.1 rfl rfl rfl ((vi_f q c1).1) ?_
          refine am_s_iconst am_cc0 dc32_2.2.1.2 ?_
          exact am_s_virtual false dc32_2.2.2.1 rfl (by decide) rfl rfl rfl ((vi_t (vi_f (vi_f (vi_f q c1).2 c2) c3) c4))
        · refine am_s_aload_n rfl dc54_1.2.1.1 ?_
          refine am_s_getR (r := 2) dc54_1.2.1.2 rfl rfl rfl (hp _ _ _ rfl) ?_
          refine am_s_aload_n rfl dc54_1.2.2.1 ?_
          refine am_x_getI (x := I 1 3) dc54_1.2.2.2 rfl rfl (Or.inl rfl) rfl ?_
          refine am_x_iaload (x := I 2 (Int32.toNatClampNeg (I 1 3))) dc54_2.1.1 rfl ((vi_f (vi_f (vi_f (vi_f q c1).2 c2) c3) c4).1) rfl rfl ?_
          refine am_s_goto rfl dc54_2.1.2 ?_
          refine am_s_ireturn dc54_2.2.2 rfl (am_bkI ?_)
          refine am_s_bipush am_cb93 dc32_2.1.1.2 ?_
          refine am_s_ic_eq dc32_2.1.2.1 rfl (fun c5 => ?_) (fun c5 => ?_)
          · exact (vi_t (vi_f (vi_f (vi_f (vi_f q c1).2 c2) c3) c4).2 c5)
          · refine am_s_aload_n rfl dc32_2.1.2.2 ?_
            refine am_s_getR (r := 1) dc32_2.2.1.1 rfl rfl rfl ((vi_f q c1).1) ?_
            refine am_s_iconst am_cc0 dc32_2.2.1.2 ?_
            exact am_s_virtual false dc32_2.2.2.1 rfl (by decide) rfl rfl rfl ((vi_f (vi_f (vi_f (vi_f (vi_f q c1).2 c2) c3) c4).2 c5))
theorem v32_126 {sc : Option (Nat × (Nat → Int32))} {d k n : Nat} {P : am_O → Prop} {I : am_I} {J : am_J} {Pf : am_R} (hp : am_PF Pf) {x1 : Nat} (hx1 : am_SH[x1]? = some (.inl 6)) {x2 : Int32} {x3 : Int32} {x4 : Int32} {l5 : Option Value} (q : (am_go sc d 32 (129, [some (.ref 3), some (.ref x1), some (.int x2), some (.int x3), some (.int x4), some (.int x3)], [], (am_SH, I, J, Pf), k, n) P)) : am_go sc d 32 (126, [some (.ref 3), some (.ref x1), some (.int x2), some (.int x3), some (.int x4), l5], [], (am_SH, I, J, Pf), k, n) P := by
  refine am_s_iload_n rfl dc32_8.1.2.1 ?_
  refine am_s_istore (ls' := [some (.ref 3), some (.ref x1), some (.int x2), some (.int x3), some (.int x4), some (.int x3)]) rfl rfl dc32_8.1.2.2 ?_
  exact q
theorem v32_129 {sc : Option (Nat × (Nat → Int32))} {d k n : Nat} {P : am_O → Prop} {I : am_I} {J : am_J} {Pf : am_R} (hp : am_PF Pf) {x1 : Nat} (hx1 : am_SH[x1]? = some (.inl 6)) {x2 : Int32} {l3 : Option Value} {x4 : Int32} {x5 : Int32} (q : (if x4 < x5 then (am_go sc d 32 (19, [some (.ref 3), some (.ref x1), some (.int (x2 + 1)), l3, some (.int x4), some (.int x5)], [], (am_SH, I, J, Pf), k, n) P) else (am_mth d 77 [.ref x1, .int x5] (am_SH, I, J, Pf) (am_af sc d 32 139 [some (.ref 3), some (.ref x1), some (.int x2), l3, some (.int x4), some (.int x5)] [.int x5, .ref x1] [] (am_SH, I, J, Pf) k n false P)))) : am_go sc d 32 (129, [some (.ref 3), some (.ref x1), some (.int x2), l3, some (.int x4), some (.int x5)], [], (am_SH, I, J, Pf), k, n) P := by
  refine am_s_iload rfl dc32_8.2.1.1 ?_
  refine am_s_iload rfl dc32_8.2.1.2 ?_
  refine am_s_ic_gt dc32_8.2.2.1 rfl (fun c1 => ?_) (fun c1 => ?_)
  · refine am_s_iinc (ls' := [some (.ref 3), some (.ref x1), some (.int (x2 + 1)), l3, some (.int x4), some (.int x5)]) am_cc1 rfl rfl dc32_9.2.1.1 ?_
    refine am_s_goto rfl dc32_9.2.1.2 ?_
    exact (vi_t q c1)
  · refine am_s_aload_n rfl dc32_8.2.2.2 ?_
    refine am_s_iload rfl dc32_9.1.1.1 ?_
    exact am_s_virtual false dc32_9.1.1.2 rfl (by decide) rfl hx1 rfl ((vi_f q c1))
theorem v32_154 {sc : Option (Nat × (Nat → Int32))} {d k n : Nat} {P : am_O → Prop} {I : am_I} {J : am_J} {Pf : am_R} (hp : am_PF Pf) {l1 : Option Value} {l2 : Option Value} {l3 : Option Value} {l4 : Option Value} {l5 : Option Value} (q : (Pf 3 0 = some 1) ∧ (P (.inl (some (.int 1)), (am_SH, am_u I 1 3 ((I 1 3) + 1), J, Pf), k, n))) : am_go sc d 32 (154, [some (.ref 3), l1, l2, l3, l4, l5], [], (am_SH, I, J, Pf), k, n) P := by
  refine am_s_aload_n rfl dc32_9.2.2.1 ?_
  refine am_s_getR (r := 1) dc32_9.2.2.2 rfl rfl rfl (q.1) ?_
  refine am_s_dup rfl dc32_10.1.1 ?_
  refine am_x_getI (x := I 1 3) dc32_10.1.2.1 rfl rfl (Or.inl rfl) rfl ?_
  refine am_s_iconst am_cc1 dc32_10.1.2.2 ?_
  refine am_s_iadd dc32_10.2.1.1 ?_
  refine am_s_putI dc32_10.2.1.2 rfl rfl rfl rfl ?_
  refine am_s_iconst am_cc1 dc32_10.2.2.1 ?_
  exact am_s_zreturn dc32_10.2.2.2 rfl (by decide) (q.2)
theorem v32_17 {sc : Option (Nat × (Nat → Int32))} {d k n : Nat} {P : am_O → Prop} {I : am_I} {J : am_J} {Pf : am_R} (hp : am_PF Pf) {x1 : Nat} (hx1 : am_SH[x1]? = some (.inl 6)) {l2 : Option Value} {l3 : Option Value} {l4 : Option Value} {l5 : Option Value} (q : (am_go sc d 32 (19, [some (.ref 3), some (.ref x1), some (.int 0), l3, l4, l5], [], (am_SH, I, J, Pf), k, n) P)) : am_go sc d 32 (17, [some (.ref 3), some (.ref x1), l2, l3, l4, l5], [], (am_SH, I, J, Pf), k, n) P := by
  refine am_s_iconst am_cc0 dc32_1.1.1.2 ?_
  refine am_s_istore_n (ls' := [some (.ref 3), some (.ref x1), some (.int 0), l3, l4, l5]) rfl rfl dc32_1.1.2.1 ?_
  exact q
theorem v32_46 {sc : Option (Nat × (Nat → Int32))} {d k n : Nat} {P : am_O → Prop} {I : am_I} {J : am_J} {Pf : am_R} (hp : am_PF Pf) {x1 : Nat} (hx1 : am_SH[x1]? = some (.inl 6)) {x2 : Int32} {l3 : Option Value} {l4 : Option Value} {l5 : Option Value} {s0 : Int32} (q : (if s0 = (-1) then (P (.inl (some (.int 0)), (am_SH, I, J, Pf), k, n)) else (Pf 3 0 = some 1) ∧ (if (I 1 3) < 0 then (am_go sc (d + 1) 32 (126, [some (.ref 3), some (.ref x1), some (.int x2), some (.int s0), some (.int s0), l5], [], (am_SH, I, J, Pf), k, n) P) else (if (I 1 2) ≤ (I 1 3) then (am_go sc (d + 1) 32 (126, [some (.ref 3), some (.ref x1), some (.int x2), some (.int s0), some (.int s0), l5], [], (am_SH, I, J, Pf), k, n) P) else (if 600 ≤ (I 1 3) then (am_go sc (d + 1) 32 (126, [some (.ref 3), some (.ref x1), some (.int x2), some (.int s0), some (.int s0), l5], [], (am_SH, I, J, Pf), k, n) P) else (am_in (I 1 3) 600 = true) ∧ (if (I 2 (Int32.toNatClampNeg (I 1 3))) = 45 then (am_mth (d + 1) 63 [.ref 1, .int 0] (am_SH, am_u I 1 3 ((I 1 3) + 1), J, Pf) (am_af sc (d + 1) 32 96 [some (.ref 3), some (.ref x1), some (.int x2), some (.int s0), some (.int s0), some (.int ((I 1 3) + 1))] [.int 0, .ref 1] [] (am_SH, am_u I 1 3 ((I 1 3) + 1), J, Pf) k n false P)) else (am_go sc (d + 1) 32 (126, [some (.ref 3), some (.ref x1), some (.int x2), some (.int s0), some (.int s0), l5], [], (am_SH, I, J, Pf), k, n) P))))))) : am_go sc (d + 1) 32 (46, [some (.ref 3), some (.ref x1), some (.int x2), l3, l4, l5], [.int s0], (am_SH, I, J, Pf), k, n) P := by
  refine am_s_istore_n (ls' := [some (.ref 3), some (.ref x1), some (.int x2), some (.int s0), l4, l5]) rfl rfl dc32_2.2.2.2 ?_
  refine am_s_iload_n rfl dc32_3.1.1.1 ?_
  refine am_s_iconst am_ccm1 dc32_3.1.1.2 ?_
  refine am_s_ic_ne dc32_3.1.2.1 rfl (fun c1 => ?_) (fun c1 => ?_)
  · refine am_s_iload_n rfl dc32_3.2.1.2 ?_
    refine am_s_istore (ls' := [some (.ref 3), some (.ref x1), some (.int x2), some (.int s0), some (.int s0), l5]) rfl rfl dc32_3.2.2.1 ?_
    refine am_s_aload_n rfl dc32_3.2.2.2 ?_
    refine am_s_getR (r := 1) dc32_4.1.1.1 rfl rfl rfl ((vi_f q c1).1) ?_
    refine am_s_virtual false dc32_4.1.1.2 rfl (by decide) rfl rfl rfl (am_mth_of rfl rfl ?_)
    refine am_s_aload_n rfl dc54_0.1.1.1 ?_
    refine am_x_getI (x := I 1 3) dc54_0.1.1.2 rfl rfl (Or.inl rfl) rfl ?_
    refine am_s_if_lt dc54_0.1.2.1 rfl (fun c2 => ?_) (fun c2 => ?_)
    · refine am_s_iconst am_ccm1 dc54_2.2.1 ?_
      refine am_s_ireturn dc54_2.2.2 rfl (am_bkI ?_)
      refine am_s_bipush am_cb45 dc32_4.1.2.1 ?_
      refine am_s_ic_ne dc32_4.1.2.2 rfl (fun _ => ?_) (fun z => absurd z (by decide))
      exact (vi_t (vi_f q c1).2 c2)
    · refine am_s_aload_n rfl dc54_0.1.2.2 ?_
      refine am_x_getI (x := I 1 3) dc54_0.2.1.1 rfl rfl (Or.inl rfl) rfl ?_
      refine am_s_aload_n rfl dc54_0.2.1.2 ?_
      refine am_x_getI (x := I 1 2) dc54_0.2.2.1 rfl rfl (Or.inl rfl) rfl ?_
      refine am_s_ic_ge dc54_0.2.2.2 rfl (fun c3 => ?_) (fun c3 => ?_)
      · refine am_s_iconst am_ccm1 dc54_2.2.1 ?_
        refine am_s_ireturn dc54_2.2.2 rfl (am_bkI ?_)
        refine am_s_bipush am_cb45 dc32_4.1.2.1 ?_
        refine am_s_ic_ne dc32_4.1.2.2 rfl (fun _ => ?_) (fun z => absurd z (by decide))
        exact (vi_t (vi_f (vi_f q c1).2 c2) c3)
      · refine am_s_aload_n rfl dc54_1.1.1.1 ?_
        refine am_x_getI (x := I 1 3) dc54_1.1.1.2 rfl rfl (Or.inl rfl) rfl ?_
        refine am_s_sipush am_cs600 dc54_1.1.2.1 ?_
        refine am_s_ic_ge dc54_1.1.2.2 rfl (fun c4 => ?_) (fun c4 => ?_)
        · refine am_s_iconst am_ccm1 dc54_2.2.1 ?_
          refine am_s_ireturn dc54_2.2.2 rfl (am_bkI ?_)
          refine am_s_bipush am_cb45 dc32_4.1.2.1 ?_
          refine am_s_ic_ne dc32_4.1.2.2 rfl (fun _ => ?_) (fun z => absurd z (by decide))
          exact (vi_t (vi_f (vi_f (vi_f q c1).2 c2) c3) c4)
        · refine am_s_aload_n rfl dc54_1.2.1.1 ?_
          refine am_s_getR (r := 2) dc54_1.2.1.2 rfl rfl rfl (hp _ _ _ rfl) ?_
          refine am_s_aload_n rfl dc54_1.2.2.1 ?_
          refine am_x_getI (x := I 1 3) dc54_1.2.2.2 rfl rfl (Or.inl rfl) rfl ?_
          refine am_x_iaload (x := I 2 (Int32.toNatClampNeg (I 1 3))) dc54_2.1.1 rfl ((vi_f (vi_f (vi_f (vi_f q c1).2 c2) c3) c4).1) rfl rfl ?_
          refine am_s_goto rfl dc54_2.1.2 ?_
          refine am_s_ireturn dc54_2.2.2 rfl (am_bkI ?_)
          refine am_s_bipush am_cb45 dc32_4.1.2.1 ?_
          refine am_s_ic_ne dc32_4.1.2.2 rfl (fun c5 => ?_) (fun c5 => ?_)
          · exact (vi_f (vi_f (vi_f (vi_f (vi_f q c1).2 c2) c3) c4).2 c5)
          · refine am_s_aload_n rfl dc32_4.2.1.1 ?_
            refine am_s_getR (r := 1) dc32_4.2.1.2 rfl rfl rfl ((vi_f q c1).1) ?_
            refine am_s_dup rfl dc32_4.2.2.1 ?_
            refine am_x_getI (x := I 1 3) dc32_4.2.2.2 rfl rfl (Or.inl rfl) rfl ?_
            refine am_s_iconst am_cc1 dc32_5.1.1.1 ?_
            refine am_s_iadd dc32_5.1.1.2 ?_
            refine am_s_putI dc32_5.1.2.1 rfl rfl rfl rfl ?_
            refine am_s_aload_n rfl dc32_5.1.2.2 ?_
            refine am_s_getR (r := 1) dc32_5.2.1.1 rfl rfl rfl ((vi_f q c1).1) ?_
            refine am_x_getI (x := (I 1 3) + 1) dc32_5.2.1.2 rfl rfl (Or.inl rfl) rfl ?_
            refine am_s_istore (ls' := [some (.ref 3), some (.ref x1), some (.int x2), some (.int s0), some (.int s0), some (.int ((I 1 3) + 1))]) rfl rfl dc32_5.2.2.1 ?_
            refine am_s_aload_n rfl dc32_5.2.2.2 ?_
            refine am_s_getR (r := 1) dc32_6.1.1.1 rfl rfl rfl ((vi_f q c1).1) ?_
            refine am_s_iconst am_cc0 dc32_6.1.1.2 ?_
            exact am_s_virtual false dc32_6.1.2.1 rfl (by decide) rfl rfl rfl ((vi_t (vi_f (vi_f (vi_f (vi_f q c1).2 c2) c3) c4).2 (Decidable.not_not.mp c5)))
  · refine am_s_iconst am_cc0 dc32_3.1.2.2 ?_
    exact am_s_zreturn dc32_3.2.1.1 rfl (by decide) ((vi_t q (Decidable.not_not.mp c1)))
theorem v32_142 {sc : Option (Nat × (Nat → Int32))} {d k n : Nat} {P : am_O → Prop} {I : am_I} {J : am_J} {Pf : am_R} (hp : am_PF Pf) {x1 : Nat} (hx1 : am_SH[x1]? = some (.inl 6)) {x2 : Int32} {l3 : Option Value} {x4 : Int32} {x5 : Int32} (q : (am_go sc d 32 (129, [some (.ref 3), some (.ref x1), some (.int x2), l3, some (.int x4), some (.int (x5 + 1))], [], (am_SH, I, J, Pf), k, n) P)) : am_go sc d 32 (142, [some (.ref 3), some (.ref x1), some (.int x2), l3, some (.int x4), some (.int x5)], [], (am_SH, I, J, Pf), k, n) P := by
  refine am_s_iinc (ls' := [some (.ref 3), some (.ref x1), some (.int x2), l3, some (.int x4), some (.int (x5 + 1))]) am_cc1 rfl rfl dc32_9.1.2.1 ?_
  refine am_s_goto rfl dc32_9.1.2.2 ?_
  exact q
theorem v32_99 {sc : Option (Nat × (Nat → Int32))} {d k n : Nat} {P : am_O → Prop} {I : am_I} {J : am_J} {Pf : am_R} (hp : am_PF Pf) {x1 : Nat} (hx1 : am_SH[x1]? = some (.inl 6)) {x2 : Int32} {x3 : Int32} {l4 : Option Value} {x5 : Int32} {s0 : Int32} (q : (if s0 = (-1) then (P (.inl (some (.int 0)), (am_SH, I, J, Pf), k, n)) else (if x3 ≤ s0 then (am_go sc (d + 1) 32 (126, [some (.ref 3), some (.ref x1), some (.int x2), some (.int x3), some (.int s0), some (.int x5)], [], (am_SH, I, J, Pf), k, n) P) else (Pf 3 0 = some 1) ∧ (if (I 1 5) = 0 then (P (.inl (some (.int 0)), (am_SH, am_u (am_u I 1 5 2) 1 6 x5, J, Pf), k, n)) else (P (.inl (some (.int 0)), (am_SH, I, J, Pf), k, n)))))) : am_go sc (d + 1) 32 (99, [some (.ref 3), some (.ref x1), some (.int x2), some (.int x3), l4, some (.int x5)], [.int s0], (am_SH, I, J, Pf), k, n) P := by
  refine am_s_istore (ls' := [some (.ref 3), some (.ref x1), some (.int x2), some (.int x3), some (.int s0), some (.int x5)]) rfl rfl dc32_6.1.2.2 ?_
  refine am_s_iload rfl dc32_6.2.1.1 ?_
  refine am_s_iconst am_ccm1 dc32_6.2.1.2 ?_
  refine am_s_ic_ne dc32_6.2.2.1 rfl (fun c1 => ?_) (fun c1 => ?_)
  · refine am_s_iload rfl dc32_7.1.1.2 ?_
    refine am_s_iload_n rfl dc32_7.1.2.1 ?_
    refine am_s_ic_ge dc32_7.1.2.2 rfl (fun c2 => ?_) (fun c2 => ?_)
    · exact (vi_t (vi_f q c1) c2)
    · refine am_s_aload_n rfl dc32_7.2.1.1 ?_
      refine am_s_getR (r := 1) dc32_7.2.1.2 rfl rfl rfl ((vi_f (vi_f q c1) c2).1) ?_
      refine am_s_iconst am_cc2 dc32_7.2.2.1 ?_
      refine am_s_iload rfl dc32_7.2.2.2 ?_
      refine am_s_virtual false dc32_8.1.1.1 rfl (by decide) rfl rfl rfl (am_mth_of rfl rfl ?_)
      refine am_s_aload_n rfl dc53_0.1.1.1 ?_
      refine am_x_getI (x := I 1 5) dc53_0.1.1.2 rfl rfl (Or.inl rfl) rfl ?_
      refine am_s_if_ne dc53_0.1.2.1 rfl (fun c3 => ?_) (fun c3 => ?_)
      · refine am_s_iconst am_cc0 dc53_1.2.1 ?_
        refine am_s_zreturn dc53_1.2.2 rfl (by decide) (am_bkI ?_)
        exact am_s_zreturn dc32_8.1.1.2 rfl (by decide) ((vi_f (vi_f (vi_f q c1) c2).2 c3))
      · refine am_s_aload_n rfl dc53_0.1.2.2 ?_
        refine am_s_iload_n rfl dc53_0.2.1.1 ?_
        refine am_s_putI dc53_0.2.1.2 rfl rfl rfl rfl ?_
        refine am_s_aload_n rfl dc53_0.2.2.1 ?_
        refine am_s_iload_n rfl dc53_0.2.2.2 ?_
        refine am_s_putI dc53_1.1 rfl rfl rfl rfl ?_
        refine am_s_iconst am_cc0 dc53_1.2.1 ?_
        refine am_s_zreturn dc53_1.2.2 rfl (by decide) (am_bkI ?_)
        exact am_s_zreturn dc32_8.1.1.2 rfl (by decide) ((vi_t (vi_f (vi_f q c1) c2).2 (Decidable.not_not.mp c3)))
  · refine am_s_iconst am_cc0 dc32_6.2.2.2 ?_
    exact am_s_zreturn dc32_7.1.1.1 rfl (by decide) ((vi_t q (Decidable.not_not.mp c1)))
-- readProduction (Z)Z
theorem v33_0 {sc : Option (Nat × (Nat → Int32))} {d k n : Nat} {P : am_O → Prop} {I : am_I} {J : am_J} {Pf : am_R} (hp : am_PF Pf) {x1 : Int32} {l2 : Option Value} {l3 : Option Value} {l4 : Option Value} {l5 : Option Value} (q : (am_mth d 26 [.ref 3] (am_SH, I, J, Pf) (am_af sc d 33 1 [some (.ref 3), some (.int x1), l2, l3, l4, l5] [.ref 3] [] (am_SH, I, J, Pf) k n true P))) : am_go sc d 33 (0, [some (.ref 3), some (.int x1), l2, l3, l4, l5], [], (am_SH, I, J, Pf), k, n) P := by
  refine am_s_aload_n rfl dc33_0.1.1.1 ?_
  exact am_s_virtual true dc33_0.1.1.2 rfl (by decide) rfl rfl rfl (q)
theorem v33_43 {sc : Option (Nat × (Nat → Int32))} {d k n : Nat} {P : am_O → Prop} {I : am_I} {J : am_J} {Pf : am_R} (hp : am_PF Pf) {l1 : Option Value} {l2 : Option Value} {x3 : Int32} {x4 : Int32} {l5 : Option Value} (q : (if 4 < x4 then (am_go sc d 33 (138, [some (.ref 3), l1, l2, some (.int x3), some (.int x4), l5], [], (am_SH, I, J, Pf), k, n) P) else ∃ r3_1x1 : Nat, (Pf 3 1 = some r3_1x1) ∧ (am_SH[r3_1x1]? = some (.inl 4)) ∧ (am_in x3 20 = true) ∧ (Pf 3 0 = some 1) ∧ (am_mth d 55 [.ref 1] (am_SH, am_u I (r3_1x1 + 4) (Int32.toNatClampNeg x3) x4, J, Pf) (am_af sc d 33 64 [some (.ref 3), l1, l2, some (.int x3), some (.int x4), l5] [.ref 1] [] (am_SH, am_u I (r3_1x1 + 4) (Int32.toNatClampNeg x3) x4, J, Pf) k n false P)))) : am_go sc d 33 (43, [some (.ref 3), l1, l2, some (.int x3), some (.int x4), l5], [], (am_SH, I, J, Pf), k, n) P := by
  refine am_s_iload rfl dc33_3.1.2.1 ?_
  refine am_s_iconst am_cc4 dc33_3.1.2.2 ?_
  refine am_s_ic_gt dc33_3.2.1.1 rfl (fun c1 => ?_) (fun c1 => ?_)
  · exact (vi_t q c1)
  · refine am_s_aload_n rfl dc33_3.2.1.2 ?_
    obtain ⟨r3_1x1, qx1⟩ := (vi_f q c1)
    refine am_s_getR (r := r3_1x1) dc33_3.2.2.1 rfl rfl rfl (qx1.1) ?_
    refine am_s_getR (r := r3_1x1 + 4) dc33_3.2.2.2 rfl (qx1.2.1) rfl (am_r4_5 hp (qx1.2.1)) ?_
    refine am_s_iload_n rfl dc33_4.1.1.1 ?_
    refine am_s_iload rfl dc33_4.1.1.2 ?_
    refine am_s_iastore dc33_4.1.2.1 (am_h4_5 (qx1.2.1)) (qx1.2.2.1) rfl ?_
    refine am_s_aload_n rfl dc33_4.1.2.2 ?_
    refine am_s_getR (r := 1) dc33_4.2.1.1 rfl rfl rfl (qx1.2.2.2.1) ?_
    exact am_s_virtual false dc33_4.2.1.2 rfl (by decide) rfl rfl rfl (qx1.2.2.2.2)
theorem v33_93 {sc : Option (Nat × (Nat → Int32))} {d k n : Nat} {P : am_O → Prop} {I : am_I} {J : am_J} {Pf : am_R} (hp : am_PF Pf) {l1 : Option Value} {l2 : Option Value} {x3 : Int32} {x4 : Int32} {x5 : Int32} (q : (if x4 = 4 then (Pf 3 0 = some 1) ∧ (if (I 1 5) = 0 then (P (.inl (some (.int 0)), (am_SH, am_u (am_u I 1 5 3) 1 6 (I 1 3), J, Pf), k, n)) else (P (.inl (some (.int 0)), (am_SH, I, J, Pf), k, n))) else (am_mth (d + 1) 34 [.ref 3, .int ((x3 * 4) + x4), .int x5] (am_SH, I, J, Pf) (am_af sc (d + 1) 33 124 [some (.ref 3), l1, l2, some (.int x3), some (.int x4), some (.int x5)] [.int x5, .int ((x3 * 4) + x4), .ref 3] [] (am_SH, I, J, Pf) k n true P)))) : am_go sc (d + 1) 33 (93, [some (.ref 3), l1, l2, some (.int x3), some (.int x4), some (.int x5)], [], (am_SH, I, J, Pf), k, n) P := by
  refine am_s_iload rfl dc33_6.1.1.2 ?_
  refine am_s_iconst am_cc4 dc33_6.1.2.1 ?_
  refine am_s_ic_ne dc33_6.1.2.2 rfl (fun c1 => ?_) (fun c1 => ?_)
  · refine am_s_aload_n rfl dc33_7.2.1.1 ?_
    refine am_s_iload_n rfl dc33_7.2.1.2 ?_
    refine am_s_iconst am_cc4 dc33_7.2.2.1 ?_
    refine am_s_imul dc33_7.2.2.2 ?_
    refine am_s_iload rfl dc33_8.1.1.1 ?_
    refine am_s_iadd dc33_8.1.1.2 ?_
    refine am_s_iload rfl dc33_8.1.2.1 ?_
    exact am_s_virtual true dc33_8.1.2.2 rfl (by decide) rfl rfl rfl ((vi_f q c1))
  · refine am_s_aload_n rfl dc33_6.2.1.1 ?_
    refine am_s_getR (r := 1) dc33_6.2.1.2 rfl rfl rfl ((vi_t q (Decidable.not_not.mp c1)).1) ?_
    refine am_s_iconst am_cc3 dc33_6.2.2.1 ?_
    refine am_s_aload_n rfl dc33_6.2.2.2 ?_
    refine am_s_getR (r := 1) dc33_7.1.1.1 rfl rfl rfl ((vi_t q (Decidable.not_not.mp c1)).1) ?_
    refine am_x_getI (x := I 1 3) dc33_7.1.1.2 rfl rfl (Or.inl rfl) rfl ?_
    refine am_s_virtual false dc33_7.1.2.1 rfl (by decide) rfl rfl rfl (am_mth_of rfl rfl ?_)
    refine am_s_aload_n rfl dc53_0.1.1.1 ?_
    refine am_x_getI (x := I 1 5) dc53_0.1.1.2 rfl rfl (Or.inl rfl) rfl ?_
    refine am_s_if_ne dc53_0.1.2.1 rfl (fun c2 => ?_) (fun c2 => ?_)
    · refine am_s_iconst am_cc0 dc53_1.2.1 ?_
      refine am_s_zreturn dc53_1.2.2 rfl (by decide) (am_bkI ?_)
      exact am_s_zreturn dc33_7.1.2.2 rfl (by decide) ((vi_f (vi_t q (Decidable.not_not.mp c1)).2 c2))
    · refine am_s_aload_n rfl dc53_0.1.2.2 ?_
      refine am_s_iload_n rfl dc53_0.2.1.1 ?_
      refine am_s_putI dc53_0.2.1.2 rfl rfl rfl rfl ?_
      refine am_s_aload_n rfl dc53_0.2.2.1 ?_
      refine am_s_iload_n rfl dc53_0.2.2.2 ?_
      refine am_s_putI dc53_1.1 rfl rfl rfl rfl ?_
      refine am_s_iconst am_cc0 dc53_1.2.1 ?_
      refine am_s_zreturn dc53_1.2.2 rfl (by decide) (am_bkI ?_)
      exact am_s_zreturn dc33_7.1.2.2 rfl (by decide) ((vi_t (vi_t q (Decidable.not_not.mp c1)).2 (Decidable.not_not.mp c2)))
theorem v33_138 {sc : Option (Nat × (Nat → Int32))} {d k n : Nat} {P : am_O → Prop} {I : am_I} {J : am_J} {Pf : am_R} (hp : am_PF Pf) {l1 : Option Value} {l2 : Option Value} {l3 : Option Value} {l4 : Option Value} {l5 : Option Value} (q : ∃ r3_1x1 : Nat, (Pf 3 1 = some r3_1x1) ∧ (am_SH[r3_1x1]? = some (.inl 4)) ∧ (P (.inl (some (.int 1)), (am_SH, am_u I r3_1x1 2 ((I r3_1x1 2) + 1), J, Pf), k, n))) : am_go sc d 33 (138, [some (.ref 3), l1, l2, l3, l4, l5], [], (am_SH, I, J, Pf), k, n) P := by
  refine am_s_aload_n rfl dc33_9.1.1.2 ?_
  obtain ⟨r3_1x1, qx1⟩ := q
  refine am_s_getR (r := r3_1x1) dc33_9.1.2.1 rfl rfl rfl (qx1.1) ?_
  refine am_s_dup rfl dc33_9.1.2.2 ?_
  refine am_x_getI (x := I r3_1x1 2) dc33_9.2.1.1 rfl (qx1.2.1) (Or.inl rfl) rfl ?_
  refine am_s_iconst am_cc1 dc33_9.2.1.2 ?_
  refine am_s_iadd dc33_9.2.2.1 ?_
  refine am_s_putI dc33_9.2.2.2 rfl (qx1.2.1) rfl rfl ?_
  refine am_s_iconst am_cc1 dc33_10.1 ?_
  exact am_s_zreturn dc33_10.2 rfl (by decide) (qx1.2.2)
theorem v33_4 {sc : Option (Nat × (Nat → Int32))} {d k n : Nat} {P : am_O → Prop} {I : am_I} {J : am_J} {Pf : am_R} (hp : am_PF Pf) {x1 : Int32} {l2 : Option Value} {l3 : Option Value} {l4 : Option Value} {l5 : Option Value} {s0 : Int32} (q : (if s0 = (-1) then (P (.inl (some (.int 0)), (am_SH, I, J, Pf), k, n)) else ∃ r3_1x1 : Nat, (Pf 3 1 = some r3_1x1) ∧ (am_SH[r3_1x1]? = some (.inl 4)) ∧ (am_in (I r3_1x1 2) 20 = true) ∧ (am_in (I r3_1x1 2) 20 = true) ∧ (x1 = 0 ∨ x1 = 1) ∧ (am_go sc d 33 (43, [some (.ref 3), some (.int x1), some (.int s0), some (.int (I r3_1x1 2)), some (.int 0), l5], [], (am_SH, am_u (am_u I (r3_1x1 + 2) (Int32.toNatClampNeg (I r3_1x1 2)) s0) (r3_1x1 + 3) (Int32.toNatClampNeg (I r3_1x1 2)) x1, J, Pf), k, n) P))) : am_go sc d 33 (4, [some (.ref 3), some (.int x1), l2, l3, l4, l5], [.int s0], (am_SH, I, J, Pf), k, n) P := by
  refine am_s_istore_n (ls' := [some (.ref 3), some (.int x1), some (.int s0), l3, l4, l5]) rfl rfl dc33_0.1.2.1 ?_
  refine am_s_iload_n rfl dc33_0.1.2.2 ?_
  refine am_s_iconst am_ccm1 dc33_0.2.1.1 ?_
  refine am_s_ic_ne dc33_0.2.1.2 rfl (fun c1 => ?_) (fun c1 => ?_)
  · refine am_s_aload_n rfl dc33_1.1.1.1 ?_
    obtain ⟨r3_1x1, qx1⟩ := (vi_f q c1)
    refine am_s_getR (r := r3_1x1) dc33_1.1.1.2 rfl rfl rfl (qx1.1) ?_
    refine am_x_getI (x := I r3_1x1 2) dc33_1.1.2.1 rfl (qx1.2.1) (Or.inl rfl) rfl ?_
    refine am_s_istore_n (ls' := [some (.ref 3), some (.int x1), some (.int s0), some (.int (I r3_1x1 2)), l4, l5]) rfl rfl dc33_1.1.2.2 ?_
    refine am_s_aload_n rfl dc33_1.2.1.1 ?_
    refine am_s_getR (r := r3_1x1) dc33_1.2.1.2 rfl rfl rfl (qx1.1) ?_
    refine am_s_getR (r := r3_1x1 + 2) dc33_1.2.2.1 rfl (qx1.2.1) rfl (am_r4_3 hp (qx1.2.1)) ?_
    refine am_s_iload_n rfl dc33_1.2.2.2 ?_
    refine am_s_iload_n rfl dc33_2.1.1.1 ?_
    refine am_s_iastore dc33_2.1.1.2 (am_h4_3 (qx1.2.1)) (qx1.2.2.1) rfl ?_
    refine am_s_aload_n rfl dc33_2.1.2.1 ?_
    refine am_s_getR (r := r3_1x1) dc33_2.1.2.2 rfl rfl rfl (qx1.1) ?_
    refine am_s_getR (r := r3_1x1 + 3) dc33_2.2.1.1 rfl (qx1.2.1) rfl (am_r4_4 hp (qx1.2.1)) ?_
    refine am_s_iload_n rfl dc33_2.2.1.2 ?_
    refine am_s_iload_n rfl dc33_2.2.2.1 ?_
    refine am_s_bastore dc33_2.2.2.2 (am_h4_4 (qx1.2.1)) (qx1.2.2.2.1) (qx1.2.2.2.2.1) rfl ?_
    refine am_s_iconst am_cc0 dc33_3.1.1.1 ?_
    refine am_s_istore (ls' := [some (.ref 3), some (.int x1), some (.int s0), some (.int (I r3_1x1 2)), some (.int 0), l5]) rfl rfl dc33_3.1.1.2 ?_
    exact qx1.2.2.2.2.2
  · refine am_s_iconst am_cc0 dc33_0.2.2.1 ?_
    exact am_s_zreturn dc33_0.2.2.2 rfl (by decide) ((vi_t q (Decidable.not_not.mp c1)))
theorem v33_67 {sc : Option (Nat × (Nat → Int32))} {d k n : Nat} {P : am_O → Prop} {I : am_I} {J : am_J} {Pf : am_R} (hp : am_PF Pf) {l1 : Option Value} {l2 : Option Value} {x3 : Int32} {x4 : Int32} {l5 : Option Value} {s0 : Int32} (q : (if s0 = 35 then (am_go sc d 33 (93, [some (.ref 3), l1, l2, some (.int x3), some (.int x4), some (.int s0)], [], (am_SH, I, J, Pf), k, n) P) else (if s0 = 64 then (am_go sc d 33 (93, [some (.ref 3), l1, l2, some (.int x3), some (.int x4), some (.int s0)], [], (am_SH, I, J, Pf), k, n) P) else (if s0 = 39 then (am_go sc d 33 (93, [some (.ref 3), l1, l2, some (.int x3), some (.int x4), some (.int s0)], [], (am_SH, I, J, Pf), k, n) P) else (am_go sc d 33 (138, [some (.ref 3), l1, l2, some (.int x3), some (.int x4), some (.int s0)], [], (am_SH, I, J, Pf), k, n) P))))) : am_go sc d 33 (67, [some (.ref 3), l1, l2, some (.int x3), some (.int x4), l5], [.int s0], (am_SH, I, J, Pf), k, n) P := by
  refine am_s_istore (ls' := [some (.ref 3), l1, l2, some (.int x3), some (.int x4), some (.int s0)]) rfl rfl dc33_4.2.2.1 ?_
  refine am_s_iload rfl dc33_4.2.2.2 ?_
  refine am_s_bipush am_cb35 dc33_5.1.1.1 ?_
  refine am_s_ic_eq dc33_5.1.1.2 rfl (fun c1 => ?_) (fun c1 => ?_)
  · exact (vi_t q c1)
  · refine am_s_iload rfl dc33_5.1.2.1 ?_
    refine am_s_bipush am_cb64 dc33_5.1.2.2 ?_
    refine am_s_ic_eq dc33_5.2.1.1 rfl (fun c2 => ?_) (fun c2 => ?_)
    · exact (vi_t (vi_f q c1) c2)
    · refine am_s_iload rfl dc33_5.2.1.2 ?_
      refine am_s_bipush am_cb39 dc33_5.2.2.1 ?_
      refine am_s_ic_eq dc33_5.2.2.2 rfl (fun c3 => ?_) (fun c3 => ?_)
      · exact (vi_t (vi_f (vi_f q c1) c2) c3)
      · refine am_s_goto rfl dc33_6.1.1.1 ?_
        exact (vi_f (vi_f (vi_f q c1) c2) c3)
theorem v33_127 {sc : Option (Nat × (Nat → Int32))} {d k n : Nat} {P : am_O → Prop} {I : am_I} {J : am_J} {Pf : am_R} (hp : am_PF Pf) {l1 : Option Value} {l2 : Option Value} {x3 : Int32} {x4 : Int32} {l5 : Option Value} {s0 : Int32} (q : (if s0 = 0 then (P (.inl (some (.int 0)), (am_SH, I, J, Pf), k, n)) else (am_go sc d 33 (43, [some (.ref 3), l1, l2, some (.int x3), some (.int (x4 + 1)), l5], [], (am_SH, I, J, Pf), k, n) P))) : am_go sc d 33 (127, [some (.ref 3), l1, l2, some (.int x3), some (.int x4), l5], [.int s0], (am_SH, I, J, Pf), k, n) P := by
  refine am_s_if_ne dc33_8.2.1.1 rfl (fun c1 => ?_) (fun c1 => ?_)
  · refine am_s_iinc (ls' := [some (.ref 3), l1, l2, some (.int x3), some (.int (x4 + 1)), l5]) am_cc1 rfl rfl dc33_8.2.2.2 ?_
    refine am_s_goto rfl dc33_9.1.1.1 ?_
    exact (vi_f q c1)
  · refine am_s_iconst am_cc0 dc33_8.2.1.2 ?_
    exact am_s_zreturn dc33_8.2.2.1 rfl (by decide) ((vi_t q (Decidable.not_not.mp c1)))
-- readPart (II)Z
theorem v34_0 {sc : Option (Nat × (Nat → Int32))} {d k n : Nat} {P : am_O → Prop} {I : am_I} {J : am_J} {Pf : am_R} (hp : am_PF Pf) {x1 : Int32} {x2 : Int32} {l3 : Option Value} (q : (if x2 = 35 then ∃ r3_1x3 : Nat, (Pf 3 1 = some r3_1x3) ∧ (am_SH[r3_1x3]? = some (.inl 4)) ∧ (am_in x1 80 = true) ∧ (am_mth d 27 [.ref 3] (am_SH, am_u I (r3_1x3 + 5) (Int32.toNatClampNeg x1) 0, J, Pf) (am_af sc d 34 17 [some (.ref 3), some (.int x1), some (.int x2), l3] [.ref 3] [] (am_SH, am_u I (r3_1x3 + 5) (Int32.toNatClampNeg x1) 0, J, Pf) k n true P)) else (if x2 = 64 then ∃ r3_1x2 : Nat, (Pf 3 1 = some r3_1x2) ∧ (am_SH[r3_1x2]? = some (.inl 4)) ∧ (am_in x1 80 = true) ∧ (Pf 3 0 = some 1) ∧ (am_mth d 26 [.ref 3] (am_SH, am_u (am_u I (r3_1x2 + 5) (Int32.toNatClampNeg x1) 1) 1 3 (((am_u I (r3_1x2 + 5) (Int32.toNatClampNeg x1) 1) 1 3) + 1), J, Pf) (am_af sc d 34 54 [some (.ref 3), some (.int x1), some (.int x2), l3] [.ref 3] [] (am_SH, am_u (am_u I (r3_1x2 + 5) (Int32.toNatClampNeg x1) 1) 1 3 (((am_u I (r3_1x2 + 5) (Int32.toNatClampNeg x1) 1) 1 3) + 1), J, Pf) k n true P)) else ∃ r3_1x1 : Nat, (Pf 3 1 = some r3_1x1) ∧ (am_SH[r3_1x1]? = some (.inl 4)) ∧ (am_in x1 80 = true) ∧ (Pf 3 0 = some 1) ∧ (am_mth d 65 [.ref 1, .ref (r3_1x1 + 7), .int (x1 * 8)] (am_SH, am_u I (r3_1x1 + 5) (Int32.toNatClampNeg x1) 2, J, Pf) (am_af sc d 34 86 [some (.ref 3), some (.int x1), some (.int x2), l3] [.int (x1 * 8), .ref (r3_1x1 + 7), .ref 1] [] (am_SH, am_u I (r3_1x1 + 5) (Int32.toNatClampNeg x1) 2, J, Pf) k n false P))))) : am_go sc d 34 (0, [some (.ref 3), some (.int x1), some (.int x2), l3], [], (am_SH, I, J, Pf), k, n) P := by
  refine am_s_iload_n rfl dc34_0.1.1.1 ?_
  refine am_s_bipush am_cb35 dc34_0.1.1.2 ?_
  refine am_s_ic_ne dc34_0.1.2.1 rfl (fun c1 => ?_) (fun c1 => ?_)
  · refine am_s_iload_n rfl dc34_1.2.1.2 ?_
    refine am_s_bipush am_cb64 dc34_1.2.2.1 ?_
    refine am_s_ic_ne dc34_1.2.2.2 rfl (fun c2 => ?_) (fun c2 => ?_)
    · refine am_s_aload_n rfl dc34_4.1.1.2 ?_
      obtain ⟨r3_1x1, qx1⟩ := (vi_f (vi_f q c1) c2)
      refine am_s_getR (r := r3_1x1) dc34_4.1.2.1 rfl rfl rfl (qx1.1) ?_
      refine am_s_getR (r := r3_1x1 + 5) dc34_4.1.2.2 rfl (qx1.2.1) rfl (am_r4_6 hp (qx1.2.1)) ?_
      refine am_s_iload_n rfl dc34_4.2.1.1 ?_
      refine am_s_iconst am_cc2 dc34_4.2.1.2 ?_
      refine am_s_iastore dc34_4.2.2.1 (am_h4_6 (qx1.2.1)) (qx1.2.2.1) rfl ?_
      refine am_s_aload_n rfl dc34_4.2.2.2 ?_
      refine am_s_getR (r := 1) dc34_5.1.1.1 rfl rfl rfl (qx1.2.2.2.1) ?_
      refine am_s_aload_n rfl dc34_5.1.1.2 ?_
      refine am_s_getR (r := r3_1x1) dc34_5.1.2.1 rfl rfl rfl (qx1.1) ?_
      refine am_s_getR (r := r3_1x1 + 7) dc34_5.1.2.2 rfl (qx1.2.1) rfl (am_r4_8 hp (qx1.2.1)) ?_
      refine am_s_iload_n rfl dc34_5.2.1.1 ?_
      refine am_s_bipush am_cb8 dc34_5.2.1.2 ?_
      refine am_s_imul dc34_5.2.2.1 ?_
      exact am_s_virtual false dc34_5.2.2.2 rfl (by decide) rfl rfl rfl (qx1.2.2.2.2)
    · refine am_s_aload_n rfl dc34_2.1.1.1 ?_
      obtain ⟨r3_1x2, qx2⟩ := (vi_t (vi_f q c1) (Decidable.not_not.mp c2))
      refine am_s_getR (r := r3_1x2) dc34_2.1.1.2 rfl rfl rfl (qx2.1) ?_
      refine am_s_getR (r := r3_1x2 + 5) dc34_2.1.2.1 rfl (qx2.2.1) rfl (am_r4_6 hp (qx2.2.1)) ?_
      refine am_s_iload_n rfl dc34_2.1.2.2 ?_
      refine am_s_iconst am_cc1 dc34_2.2.1.1 ?_
      refine am_s_iastore dc34_2.2.1.2 (am_h4_6 (qx2.2.1)) (qx2.2.2.1) rfl ?_
      refine am_s_aload_n rfl dc34_2.2.2.1 ?_
      refine am_s_getR (r := 1) dc34_2.2.2.2 rfl rfl rfl (qx2.2.2.2.1) ?_
      refine am_s_dup rfl dc34_3.1.1.1 ?_
      refine am_x_getI (x := (am_u I (r3_1x2 + 5) (Int32.toNatClampNeg x1) 1) 1 3) dc34_3.1.1.2 rfl rfl (Or.inl rfl) rfl ?_
      refine am_s_iconst am_cc1 dc34_3.1.2.1 ?_
      refine am_s_iadd dc34_3.1.2.2 ?_
      refine am_s_putI dc34_3.2.1.1 rfl rfl rfl rfl ?_
      refine am_s_aload_n rfl dc34_3.2.1.2 ?_
      exact am_s_virtual true dc34_3.2.2.1 rfl (by decide) rfl rfl rfl (qx2.2.2.2.2)
  · refine am_s_aload_n rfl dc34_0.1.2.2 ?_
    obtain ⟨r3_1x3, qx3⟩ := (vi_t q (Decidable.not_not.mp c1))
    refine am_s_getR (r := r3_1x3) dc34_0.2.1.1 rfl rfl rfl (qx3.1) ?_
    refine am_s_getR (r := r3_1x3 + 5) dc34_0.2.1.2 rfl (qx3.2.1) rfl (am_r4_6 hp (qx3.2.1)) ?_
    refine am_s_iload_n rfl dc34_0.2.2.1 ?_
    refine am_s_iconst am_cc0 dc34_0.2.2.2 ?_
    refine am_s_iastore dc34_1.1.1.1 (am_h4_6 (qx3.2.1)) (qx3.2.2.1) rfl ?_
    refine am_s_aload_n rfl dc34_1.1.1.2 ?_
    exact am_s_virtual true dc34_1.1.2.1 rfl (by decide) rfl rfl rfl (qx3.2.2.2)
theorem v34_90 {sc : Option (Nat × (Nat → Int32))} {d k n : Nat} {P : am_O → Prop} {I : am_I} {J : am_J} {Pf : am_R} (hp : am_PF Pf) {x1 : Int32} {l2 : Option Value} {x3 : Int32} (q : ∃ r3_1x1 : Nat, (Pf 3 1 = some r3_1x1) ∧ (am_SH[r3_1x1]? = some (.inl 4)) ∧ (am_in x1 80 = true) ∧ (if x3 = (-1) then (P (.inl (some (.int 0)), (am_SH, am_u I (r3_1x1 + 6) (Int32.toNatClampNeg x1) x3, J, Pf), k, n)) else (P (.inl (some (.int 1)), (am_SH, am_u I (r3_1x1 + 6) (Int32.toNatClampNeg x1) x3, J, Pf), k, n)))) : am_go sc d 34 (90, [some (.ref 3), some (.int x1), l2, some (.int x3)], [], (am_SH, I, J, Pf), k, n) P := by
  refine am_s_aload_n rfl dc34_6.1.1.2 ?_
  obtain ⟨r3_1x1, qx1⟩ := q
  refine am_s_getR (r := r3_1x1) dc34_6.1.2.1 rfl rfl rfl (qx1.1) ?_
  refine am_s_getR (r := r3_1x1 + 6) dc34_6.1.2.2 rfl (qx1.2.1) rfl (am_r4_7 hp (qx1.2.1)) ?_
  refine am_s_iload_n rfl dc34_6.2.1.1 ?_
  refine am_s_iload_n rfl dc34_6.2.1.2 ?_
  refine am_s_iastore dc34_6.2.2.1 (am_h4_7 (qx1.2.1)) (qx1.2.2.1) rfl ?_
  refine am_s_iload_n rfl dc34_6.2.2.2 ?_
  refine am_s_iconst am_ccm1 dc34_7.1.1 ?_
  refine am_s_ic_eq dc34_7.1.2.1 rfl (fun c1 => ?_) (fun c1 => ?_)
  · refine am_s_iconst am_cc0 dc34_7.2.2.1 ?_
    exact am_s_zreturn dc34_7.2.2.2 rfl (by decide) ((vi_t qx1.2.2.2 c1))
  · refine am_s_iconst am_cc1 dc34_7.1.2.2 ?_
    refine am_s_goto rfl dc34_7.2.1 ?_
    exact am_s_zreturn dc34_7.2.2.2 rfl (by decide) ((vi_f qx1.2.2.2 c1))
theorem v34_20 {sc : Option (Nat × (Nat → Int32))} {d k n : Nat} {P : am_O → Prop} {I : am_I} {J : am_J} {Pf : am_R} (hp : am_PF Pf) {x1 : Int32} {l2 : Option Value} {l3 : Option Value} {s0 : Int32} (hl2 : am_k1 l2 = true) (q : (am_go sc d 34 (90, [some (.ref 3), some (.int x1), l2, some (.int s0)], [], (am_SH, I, J, Pf), k, n) P)) : am_go sc d 34 (20, [some (.ref 3), some (.int x1), l2, l3], [.int s0], (am_SH, I, J, Pf), k, n) P := by
  refine am_s_istore_n (ls' := [some (.ref 3), some (.int x1), l2, some (.int s0)]) rfl (am_set1_k (am_kill_x (j := 2) rfl hl2) rfl) dc34_1.1.2.2 ?_
  refine am_s_goto rfl dc34_1.2.1.1 ?_
  exact q
theorem v34_57 {sc : Option (Nat × (Nat → Int32))} {d k n : Nat} {P : am_O → Prop} {I : am_I} {J : am_J} {Pf : am_R} (hp : am_PF Pf) {x1 : Int32} {l2 : Option Value} {l3 : Option Value} {s0 : Int32} (hl2 : am_k1 l2 = true) (q : (am_go sc d 34 (90, [some (.ref 3), some (.int x1), l2, some (.int s0)], [], (am_SH, I, J, Pf), k, n) P)) : am_go sc d 34 (57, [some (.ref 3), some (.int x1), l2, l3], [.int s0], (am_SH, I, J, Pf), k, n) P := by
  refine am_s_istore_n (ls' := [some (.ref 3), some (.int x1), l2, some (.int s0)]) rfl (am_set1_k (am_kill_x (j := 2) rfl hl2) rfl) dc34_3.2.2.2 ?_
  refine am_s_goto rfl dc34_4.1.1.1 ?_
  exact q
theorem v34_89 {sc : Option (Nat × (Nat → Int32))} {d k n : Nat} {P : am_O → Prop} {I : am_I} {J : am_J} {Pf : am_R} (hp : am_PF Pf) {x1 : Int32} {l2 : Option Value} {l3 : Option Value} {s0 : Int32} (hl2 : am_k1 l2 = true) (q : (am_go sc d 34 (90, [some (.ref 3), some (.int x1), l2, some (.int s0)], [], (am_SH, I, J, Pf), k, n) P)) : am_go sc d 34 (89, [some (.ref 3), some (.int x1), l2, l3], [.int s0], (am_SH, I, J, Pf), k, n) P := by
  refine am_s_istore_n (ls' := [some (.ref 3), some (.int x1), l2, some (.int s0)]) rfl (am_set1_k (am_kill_x (j := 2) rfl hl2) rfl) dc34_6.1.1.1 ?_
  exact q
-- readQuote ()Z
theorem v35_0 {sc : Option (Nat × (Nat → Int32))} {d k n : Nat} {P : am_O → Prop} {I : am_I} {J : am_J} {Pf : am_R} (hp : am_PF Pf) {l1 : Option Value} {l2 : Option Value} {l3 : Option Value} {l4 : Option Value} {l5 : Option Value} (q : (am_mth d 26 [.ref 3] (am_SH, I, J, Pf) (am_af sc d 35 1 [some (.ref 3), l1, l2, l3, l4, l5] [.ref 3] [] (am_SH, I, J, Pf) k n true P))) : am_go sc d 35 (0, [some (.ref 3), l1, l2, l3, l4, l5], [], (am_SH, I, J, Pf), k, n) P := by
  refine am_s_aload_n rfl dc35_0.1.1.1 ?_
  exact am_s_virtual true dc35_0.1.1.2 rfl (by decide) rfl rfl rfl (q)
theorem v35_97 {sc : Option (Nat × (Nat → Int32))} {d k n : Nat} {P : am_O → Prop} {I : am_I} {J : am_J} {Pf : am_R} (hp : am_PF Pf) {l1 : Option Value} {l2 : Option Value} {l3 : Option Value} {l4 : Option Value} {l5 : Option Value} (q : (Pf 3 0 = some 1) ∧ (if (I 1 5) = 0 then (P (.inl (some (.int 0)), (am_SH, am_u (am_u I 1 5 2) 1 6 (I 1 9), J, Pf), k, n)) else (P (.inl (some (.int 0)), (am_SH, I, J, Pf), k, n)))) : am_go sc (d + 1) 35 (97, [some (.ref 3), l1, l2, l3, l4, l5], [], (am_SH, I, J, Pf), k, n) P := by
  refine am_s_aload_n rfl dc35_7.1.2.2 ?_
  refine am_s_getR (r := 1) dc35_7.2.1.1 rfl rfl rfl (q.1) ?_
  refine am_s_iconst am_cc2 dc35_7.2.1.2 ?_
  refine am_s_aload_n rfl dc35_7.2.2.1 ?_
  refine am_s_getR (r := 1) dc35_7.2.2.2 rfl rfl rfl (q.1) ?_
  refine am_x_getI (x := I 1 9) dc35_8.1.1.1 rfl rfl (Or.inl rfl) rfl ?_
  refine am_s_virtual false dc35_8.1.1.2 rfl (by decide) rfl rfl rfl (am_mth_of rfl rfl ?_)
  refine am_s_aload_n rfl dc53_0.1.1.1 ?_
  refine am_x_getI (x := I 1 5) dc53_0.1.1.2 rfl rfl (Or.inl rfl) rfl ?_
  refine am_s_if_ne dc53_0.1.2.1 rfl (fun c1 => ?_) (fun c1 => ?_)
  · refine am_s_iconst am_cc0 dc53_1.2.1 ?_
    refine am_s_zreturn dc53_1.2.2 rfl (by decide) (am_bkI ?_)
    exact am_s_zreturn dc35_8.1.2.1 rfl (by decide) ((vi_f q.2 c1))
  · refine am_s_aload_n rfl dc53_0.1.2.2 ?_
    refine am_s_iload_n rfl dc53_0.2.1.1 ?_
    refine am_s_putI dc53_0.2.1.2 rfl rfl rfl rfl ?_
    refine am_s_aload_n rfl dc53_0.2.2.1 ?_
    refine am_s_iload_n rfl dc53_0.2.2.2 ?_
    refine am_s_putI dc53_1.1 rfl rfl rfl rfl ?_
    refine am_s_iconst am_cc0 dc53_1.2.1 ?_
    refine am_s_zreturn dc53_1.2.2 rfl (by decide) (am_bkI ?_)
    exact am_s_zreturn dc35_8.1.2.1 rfl (by decide) ((vi_t q.2 (Decidable.not_not.mp c1)))
theorem v35_147 {sc : Option (Nat × (Nat → Int32))} {d k n : Nat} {P : am_O → Prop} {I : am_I} {J : am_J} {Pf : am_R} (hp : am_PF Pf) {l1 : Option Value} {l2 : Option Value} {l3 : Option Value} {x4 : Int32} {x5 : Int32} (q : (if 3 ≤ x5 then ∃ r3_1x1 : Nat, (Pf 3 1 = some r3_1x1) ∧ (am_SH[r3_1x1]? = some (.inl 4)) ∧ (P (.inl (some (.int 1)), (am_SH, am_u I r3_1x1 9 ((I r3_1x1 9) + 1), J, Pf), k, n)) else ∃ r3_1x2 : Nat, (Pf 3 1 = some r3_1x2) ∧ (am_SH[r3_1x2]? = some (.inl 4)) ∧ (am_in x5 8 = true) ∧ (am_in ((x4 * 3) + x5) 12 = true) ∧ (am_go sc d 35 (147, [some (.ref 3), l1, l2, l3, some (.int x4), some (.int (x5 + 1))], [], (am_SH, am_u I (r3_1x2 + 10) (Int32.toNatClampNeg ((x4 * 3) + x5)) (I 7 (Int32.toNatClampNeg x5)), J, Pf), k, n) P))) : am_go sc d 35 (147, [some (.ref 3), l1, l2, l3, some (.int x4), some (.int x5)], [], (am_SH, I, J, Pf), k, n) P := by
  refine am_s_iload rfl dc35_10.2.1.2 ?_
  refine am_s_iconst am_cc3 dc35_10.2.2.1 ?_
  refine am_s_ic_ge dc35_10.2.2.2 rfl (fun c1 => ?_) (fun c1 => ?_)
  · refine am_s_aload_n rfl dc35_12.2.2.2 ?_
    obtain ⟨r3_1x1, qx1⟩ := (vi_t q c1)
    refine am_s_getR (r := r3_1x1) dc35_13.1.1.1 rfl rfl rfl (qx1.1) ?_
    refine am_s_dup rfl dc35_13.1.1.2 ?_
    refine am_x_getI (x := I r3_1x1 9) dc35_13.1.2.1 rfl (qx1.2.1) (Or.inl rfl) rfl ?_
    refine am_s_iconst am_cc1 dc35_13.1.2.2 ?_
    refine am_s_iadd dc35_13.2.1.1 ?_
    refine am_s_putI dc35_13.2.1.2 rfl (qx1.2.1) rfl rfl ?_
    refine am_s_iconst am_cc1 dc35_13.2.2.1 ?_
    exact am_s_zreturn dc35_13.2.2.2 rfl (by decide) (qx1.2.2)
  · refine am_s_aload_n rfl dc35_11.1.1.1 ?_
    obtain ⟨r3_1x2, qx2⟩ := (vi_f q c1)
    refine am_s_getR (r := r3_1x2) dc35_11.1.1.2 rfl rfl rfl (qx2.1) ?_
    refine am_s_getR (r := r3_1x2 + 10) dc35_11.1.2.1 rfl (qx2.2.1) rfl (am_r4_12 hp (qx2.2.1)) ?_
    refine am_s_iload rfl dc35_11.1.2.2 ?_
    refine am_s_iconst am_cc3 dc35_11.2.1.1 ?_
    refine am_s_imul dc35_11.2.1.2 ?_
    refine am_s_iload rfl dc35_11.2.2.1 ?_
    refine am_s_iadd dc35_11.2.2.2 ?_
    refine am_s_aload_n rfl dc35_12.1.1.1 ?_
    refine am_s_getR (r := 7) dc35_12.1.1.2 rfl rfl rfl (hp _ _ _ rfl) ?_
    refine am_s_iload rfl dc35_12.1.2.1 ?_
    refine am_x_iaload (x := I 7 (Int32.toNatClampNeg x5)) dc35_12.1.2.2 rfl (qx2.2.2.1) rfl rfl ?_
    refine am_s_iastore dc35_12.2.1.1 (am_h4_12 (qx2.2.1)) (qx2.2.2.2.1) rfl ?_
    refine am_s_iinc (ls' := [some (.ref 3), l1, l2, l3, some (.int x4), some (.int (x5 + 1))]) am_cc1 rfl rfl dc35_12.2.1.2 ?_
    refine am_s_goto rfl dc35_12.2.2.1 ?_
    exact qx2.2.2.2.2
theorem v35_4 {sc : Option (Nat × (Nat → Int32))} {d k n : Nat} {P : am_O → Prop} {I : am_I} {J : am_J} {Pf : am_R} (hp : am_PF Pf) {l1 : Option Value} {l2 : Option Value} {l3 : Option Value} {l4 : Option Value} {l5 : Option Value} {s0 : Int32} (q : (if s0 = (-1) then (P (.inl (some (.int 0)), (am_SH, I, J, Pf), k, n)) else (am_mth d 26 [.ref 3] (am_SH, I, J, Pf) (am_af sc d 35 13 [some (.ref 3), some (.int s0), l2, l3, l4, l5] [.ref 3] [] (am_SH, I, J, Pf) k n true P)))) : am_go sc d 35 (4, [some (.ref 3), l1, l2, l3, l4, l5], [.int s0], (am_SH, I, J, Pf), k, n) P := by
  refine am_s_istore_n (ls' := [some (.ref 3), some (.int s0), l2, l3, l4, l5]) rfl rfl dc35_0.1.2.1 ?_
  refine am_s_iload_n rfl dc35_0.1.2.2 ?_
  refine am_s_iconst am_ccm1 dc35_0.2.1.1 ?_
  refine am_s_ic_ne dc35_0.2.1.2 rfl (fun c1 => ?_) (fun c1 => ?_)
  · refine am_s_aload_n rfl dc35_1.1.1.1 ?_
    exact am_s_virtual true dc35_1.1.1.2 rfl (by decide) rfl rfl rfl ((vi_f q c1))
  · refine am_s_iconst am_cc0 dc35_0.2.2.1 ?_
    exact am_s_zreturn dc35_0.2.2.2 rfl (by decide) ((vi_t q (Decidable.not_not.mp c1)))
theorem v35_16 {sc : Option (Nat × (Nat → Int32))} {d k n : Nat} {P : am_O → Prop} {I : am_I} {J : am_J} {Pf : am_R} (hp : am_PF Pf) {x1 : Int32} {l2 : Option Value} {l3 : Option Value} {l4 : Option Value} {l5 : Option Value} {s0 : Int32} (q : (if s0 = (-1) then (P (.inl (some (.int 0)), (am_SH, I, J, Pf), k, n)) else (Pf 3 0 = some 1) ∧ (am_mth d 65 [.ref 1, .ref 7, .int 0] (am_SH, I, J, Pf) (am_af sc d 35 33 [some (.ref 3), some (.int x1), some (.int s0), l3, l4, l5] [.int 0, .ref 7, .ref 1] [] (am_SH, I, J, Pf) k n false P)))) : am_go sc d 35 (16, [some (.ref 3), some (.int x1), l2, l3, l4, l5], [.int s0], (am_SH, I, J, Pf), k, n) P := by
  refine am_s_istore_n (ls' := [some (.ref 3), some (.int x1), some (.int s0), l3, l4, l5]) rfl rfl dc35_1.1.2.1 ?_
  refine am_s_iload_n rfl dc35_1.1.2.2 ?_
  refine am_s_iconst am_ccm1 dc35_1.2.1.1 ?_
  refine am_s_ic_ne dc35_1.2.1.2 rfl (fun c1 => ?_) (fun c1 => ?_)
  · refine am_s_aload_n rfl dc35_2.1.1.1 ?_
    refine am_s_getR (r := 1) dc35_2.1.1.2 rfl rfl rfl ((vi_f q c1).1) ?_
    refine am_s_aload_n rfl dc35_2.1.2.1 ?_
    refine am_s_getR (r := 7) dc35_2.1.2.2 rfl rfl rfl (hp _ _ _ rfl) ?_
    refine am_s_iconst am_cc0 dc35_2.2.1.1 ?_
    exact am_s_virtual false dc35_2.2.1.2 rfl (by decide) rfl rfl rfl ((vi_f q c1).2)
  · refine am_s_iconst am_cc0 dc35_1.2.2.1 ?_
    exact am_s_zreturn dc35_1.2.2.2 rfl (by decide) ((vi_t q (Decidable.not_not.mp c1)))
theorem v35_36 {sc : Option (Nat × (Nat → Int32))} {d k n : Nat} {P : am_O → Prop} {I : am_I} {J : am_J} {Pf : am_R} (hp : am_PF Pf) {x1 : Int32} {x2 : Int32} {l3 : Option Value} {l4 : Option Value} {l5 : Option Value} {s0 : Int32} (q : (if s0 = (-1) then (P (.inl (some (.int 0)), (am_SH, I, J, Pf), k, n)) else (if s0 = 3 then (if (I 7 2) = (I 7 0) then (am_go sc (d + 1) 35 (97, [some (.ref 3), some (.int x1), some (.int x2), some (.int s0), l4, l5], [], (am_SH, I, J, Pf), k, n) P) else (if (I 7 2) = (I 7 1) then (am_go sc (d + 1) 35 (97, [some (.ref 3), some (.int x1), some (.int x2), some (.int s0), l4, l5], [], (am_SH, I, J, Pf), k, n) P) else ∃ r3_1x1 : Nat, (Pf 3 1 = some r3_1x1) ∧ (am_SH[r3_1x1]? = some (.inl 4)) ∧ (am_in (I r3_1x1 9) 4 = true) ∧ (am_in (I r3_1x1 9) 4 = true) ∧ (am_go sc (d + 1) 35 (147, [some (.ref 3), some (.int x1), some (.int x2), some (.int s0), some (.int (I r3_1x1 9)), some (.int 0)], [], (am_SH, am_u (am_u I (r3_1x1 + 8) (Int32.toNatClampNeg (I r3_1x1 9)) x1) (r3_1x1 + 9) (Int32.toNatClampNeg (I r3_1x1 9)) x2, J, Pf), k, n) P))) else (Pf 3 0 = some 1) ∧ (if (I 1 5) = 0 then (P (.inl (some (.int 0)), (am_SH, am_u (am_u I 1 5 2) 1 6 ((I 1 3) - 1), J, Pf), k, n)) else (P (.inl (some (.int 0)), (am_SH, I, J, Pf), k, n)))))) : am_go sc (d + 1) 35 (36, [some (.ref 3), some (.int x1), some (.int x2), l3, l4, l5], [.int s0], (am_SH, I, J, Pf), k, n) P := by
  refine am_s_istore_n (ls' := [some (.ref 3), some (.int x1), some (.int x2), some (.int s0), l4, l5]) rfl rfl dc35_2.2.2.1 ?_
  refine am_s_iload_n rfl dc35_2.2.2.2 ?_
  refine am_s_iconst am_ccm1 dc35_3.1.1.1 ?_
  refine am_s_ic_ne dc35_3.1.1.2 rfl (fun c1 => ?_) (fun c1 => ?_)
  · refine am_s_iload_n rfl dc35_3.2.1.1 ?_
    refine am_s_iconst am_cc3 dc35_3.2.1.2 ?_
    refine am_s_ic_eq dc35_3.2.2.1 rfl (fun c2 => ?_) (fun c2 => ?_)
    · refine am_s_aload_n rfl dc35_5.1.1.2 ?_
      refine am_s_getR (r := 7) dc35_5.1.2.1 rfl rfl rfl (hp _ _ _ rfl) ?_
      refine am_s_iconst am_cc2 dc35_5.1.2.2 ?_
      refine am_x_iaload (x := I 7 2) dc35_5.2.1.1 rfl (by decide +kernel) am_cN2 rfl ?_
      refine am_s_aload_n rfl dc35_5.2.1.2 ?_
      refine am_s_getR (r := 7) dc35_5.2.2.1 rfl rfl rfl (hp _ _ _ rfl) ?_
      refine am_s_iconst am_cc0 dc35_5.2.2.2 ?_
      refine am_x_iaload (x := I 7 0) dc35_6.1.1.1 rfl (by decide +kernel) am_cN0 rfl ?_
      refine am_s_ic_eq dc35_6.1.1.2 rfl (fun c3 => ?_) (fun c3 => ?_)
      · exact (vi_t (vi_t (vi_f q c1) c2) c3)
      · refine am_s_aload_n rfl dc35_6.1.2.1 ?_
        refine am_s_getR (r := 7) dc35_6.1.2.2 rfl rfl rfl (hp _ _ _ rfl) ?_
        refine am_s_iconst am_cc2 dc35_6.2.1.1 ?_
        refine am_x_iaload (x := I 7 2) dc35_6.2.1.2 rfl (by decide +kernel) am_cN2 rfl ?_
        refine am_s_aload_n rfl dc35_6.2.2.1 ?_
        refine am_s_getR (r := 7) dc35_6.2.2.2 rfl rfl rfl (hp _ _ _ rfl) ?_
        refine am_s_iconst am_cc1 dc35_7.1.1.1 ?_
        refine am_x_iaload (x := I 7 1) dc35_7.1.1.2 rfl (by decide +kernel) am_cN1 rfl ?_
        refine am_s_ic_ne dc35_7.1.2.1 rfl (fun c4 => ?_) (fun c4 => ?_)
        · refine am_s_aload_n rfl dc35_8.1.2.2 ?_
          obtain ⟨r3_1x1, qx1⟩ := (vi_f (vi_f (vi_t (vi_f q c1) c2) c3) c4)
          refine am_s_getR (r := r3_1x1) dc35_8.2.1.1 rfl rfl rfl (qx1.1) ?_
          refine am_x_getI (x := I r3_1x1 9) dc35_8.2.1.2 rfl (qx1.2.1) (Or.inl rfl) rfl ?_
          refine am_s_istore (ls' := [some (.ref 3), some (.int x1), some (.int x2), some (.int s0), some (.int (I r3_1x1 9)), l5]) rfl rfl dc35_8.2.2.1 ?_
          refine am_s_aload_n rfl dc35_8.2.2.2 ?_
          refine am_s_getR (r := r3_1x1) dc35_9.1.1.1 rfl rfl rfl (qx1.1) ?_
          refine am_s_getR (r := r3_1x1 + 8) dc35_9.1.1.2 rfl (qx1.2.1) rfl (am_r4_10 hp (qx1.2.1)) ?_
          refine am_s_iload rfl dc35_9.1.2.1 ?_
          refine am_s_iload_n rfl dc35_9.1.2.2 ?_
          refine am_s_iastore dc35_9.2.1.1 (am_h4_10 (qx1.2.1)) (qx1.2.2.1) rfl ?_
          refine am_s_aload_n rfl dc35_9.2.1.2 ?_
          refine am_s_getR (r := r3_1x1) dc35_9.2.2.1 rfl rfl rfl (qx1.1) ?_
          refine am_s_getR (r := r3_1x1 + 9) dc35_9.2.2.2 rfl (qx1.2.1) rfl (am_r4_11 hp (qx1.2.1)) ?_
          refine am_s_iload rfl dc35_10.1.1.1 ?_
          refine am_s_iload_n rfl dc35_10.1.1.2 ?_
          refine am_s_iastore dc35_10.1.2.1 (am_h4_11 (qx1.2.1)) (qx1.2.2.2.1) rfl ?_
          refine am_s_iconst am_cc0 dc35_10.1.2.2 ?_
          refine am_s_istore (ls' := [some (.ref 3), some (.int x1), some (.int x2), some (.int s0), some (.int (I r3_1x1 9)), some (.int 0)]) rfl rfl dc35_10.2.1.1 ?_
          exact qx1.2.2.2.2
        · exact (vi_t (vi_f (vi_t (vi_f q c1) c2) c3) (Decidable.not_not.mp c4))
    · refine am_s_aload_n rfl dc35_3.2.2.2 ?_
      refine am_s_getR (r := 1) dc35_4.1.1.1 rfl rfl rfl ((vi_f (vi_f q c1) c2).1) ?_
      refine am_s_iconst am_cc2 dc35_4.1.1.2 ?_
      refine am_s_aload_n rfl dc35_4.1.2.1 ?_
      refine am_s_getR (r := 1) dc35_4.1.2.2 rfl rfl rfl ((vi_f (vi_f q c1) c2).1) ?_
      refine am_x_getI (x := I 1 3) dc35_4.2.1.1 rfl rfl (Or.inl rfl) rfl ?_
      refine am_s_iconst am_cc1 dc35_4.2.1.2 ?_
      refine am_s_isub dc35_4.2.2.1 ?_
      refine am_s_virtual false dc35_4.2.2.2 rfl (by decide) rfl rfl rfl (am_mth_of rfl rfl ?_)
      refine am_s_aload_n rfl dc53_0.1.1.1 ?_
      refine am_x_getI (x := I 1 5) dc53_0.1.1.2 rfl rfl (Or.inl rfl) rfl ?_
      refine am_s_if_ne dc53_0.1.2.1 rfl (fun c3 => ?_) (fun c3 => ?_)
      · refine am_s_iconst am_cc0 dc53_1.2.1 ?_
        refine am_s_zreturn dc53_1.2.2 rfl (by decide) (am_bkI ?_)
        exact am_s_zreturn dc35_5.1.1.1 rfl (by decide) ((vi_f (vi_f (vi_f q c1) c2).2 c3))
      · refine am_s_aload_n rfl dc53_0.1.2.2 ?_
        refine am_s_iload_n rfl dc53_0.2.1.1 ?_
        refine am_s_putI dc53_0.2.1.2 rfl rfl rfl rfl ?_
        refine am_s_aload_n rfl dc53_0.2.2.1 ?_
        refine am_s_iload_n rfl dc53_0.2.2.2 ?_
        refine am_s_putI dc53_1.1 rfl rfl rfl rfl ?_
        refine am_s_iconst am_cc0 dc53_1.2.1 ?_
        refine am_s_zreturn dc53_1.2.2 rfl (by decide) (am_bkI ?_)
        exact am_s_zreturn dc35_5.1.1.1 rfl (by decide) ((vi_t (vi_f (vi_f q c1) c2).2 (Decidable.not_not.mp c3)))
  · refine am_s_iconst am_cc0 dc35_3.1.2.1 ?_
    exact am_s_zreturn dc35_3.1.2.2 rfl (by decide) ((vi_t q (Decidable.not_not.mp c1)))
-- readNot ()Z
theorem v36_0 {sc : Option (Nat × (Nat → Int32))} {d k n : Nat} {P : am_O → Prop} {I : am_I} {J : am_J} {Pf : am_R} (hp : am_PF Pf) {l1 : Option Value} {l2 : Option Value} (q : (am_mth d 26 [.ref 3] (am_SH, I, J, Pf) (am_af sc d 36 1 [some (.ref 3), l1, l2] [.ref 3] [] (am_SH, I, J, Pf) k n true P))) : am_go sc d 36 (0, [some (.ref 3), l1, l2], [], (am_SH, I, J, Pf), k, n) P := by
  refine am_s_aload_n rfl dc36_0.1.1.1 ?_
  exact am_s_virtual true dc36_0.1.1.2 rfl (by decide) rfl rfl rfl (q)
theorem v36_4 {sc : Option (Nat × (Nat → Int32))} {d k n : Nat} {P : am_O → Prop} {I : am_I} {J : am_J} {Pf : am_R} (hp : am_PF Pf) {l1 : Option Value} {l2 : Option Value} {s0 : Int32} (q : (if s0 = (-1) then (P (.inl (some (.int 0)), (am_SH, I, J, Pf), k, n)) else (am_mth d 27 [.ref 3] (am_SH, I, J, Pf) (am_af sc d 36 13 [some (.ref 3), some (.int s0), l2] [.ref 3] [] (am_SH, I, J, Pf) k n true P)))) : am_go sc d 36 (4, [some (.ref 3), l1, l2], [.int s0], (am_SH, I, J, Pf), k, n) P := by
  refine am_s_istore_n (ls' := [some (.ref 3), some (.int s0), l2]) rfl rfl dc36_0.1.2.1 ?_
  refine am_s_iload_n rfl dc36_0.1.2.2 ?_
  refine am_s_iconst am_ccm1 dc36_0.2.1.1 ?_
  refine am_s_ic_ne dc36_0.2.1.2 rfl (fun c1 => ?_) (fun c1 => ?_)
  · refine am_s_aload_n rfl dc36_1.1.1.1 ?_
    exact am_s_virtual true dc36_1.1.1.2 rfl (by decide) rfl rfl rfl ((vi_f q c1))
  · refine am_s_iconst am_cc0 dc36_0.2.2.1 ?_
    exact am_s_zreturn dc36_0.2.2.2 rfl (by decide) ((vi_t q (Decidable.not_not.mp c1)))
theorem v36_16 {sc : Option (Nat × (Nat → Int32))} {d k n : Nat} {P : am_O → Prop} {I : am_I} {J : am_J} {Pf : am_R} (hp : am_PF Pf) {x1 : Int32} {l2 : Option Value} {s0 : Int32} (q : (if s0 = (-1) then (P (.inl (some (.int 0)), (am_SH, I, J, Pf), k, n)) else ∃ r3_1x1 : Nat, (Pf 3 1 = some r3_1x1) ∧ (am_SH[r3_1x1]? = some (.inl 4)) ∧ (am_in (I r3_1x1 13) 8 = true) ∧ (am_in ((am_u I (r3_1x1 + 11) (Int32.toNatClampNeg (I r3_1x1 13)) x1) r3_1x1 13) 8 = true) ∧ (P (.inl (some (.int 1)), (am_SH, am_u (am_u (am_u I (r3_1x1 + 11) (Int32.toNatClampNeg (I r3_1x1 13)) x1) (r3_1x1 + 12) (Int32.toNatClampNeg ((am_u I (r3_1x1 + 11) (Int32.toNatClampNeg (I r3_1x1 13)) x1) r3_1x1 13)) s0) r3_1x1 13 (((am_u (am_u I (r3_1x1 + 11) (Int32.toNatClampNeg (I r3_1x1 13)) x1) (r3_1x1 + 12) (Int32.toNatClampNeg ((am_u I (r3_1x1 + 11) (Int32.toNatClampNeg (I r3_1x1 13)) x1) r3_1x1 13)) s0) r3_1x1 13) + 1), J, Pf), k, n)))) : am_go sc d 36 (16, [some (.ref 3), some (.int x1), l2], [.int s0], (am_SH, I, J, Pf), k, n) P := by
  refine am_s_istore_n (ls' := [some (.ref 3), some (.int x1), some (.int s0)]) rfl rfl dc36_1.1.2.1 ?_
  refine am_s_iload_n rfl dc36_1.1.2.2 ?_
  refine am_s_iconst am_ccm1 dc36_1.2.1.1 ?_
  refine am_s_ic_ne dc36_1.2.1.2 rfl (fun c1 => ?_) (fun c1 => ?_)
  · refine am_s_aload_n rfl dc36_2.1.1.1 ?_
    obtain ⟨r3_1x1, qx1⟩ := (vi_f q c1)
    refine am_s_getR (r := r3_1x1) dc36_2.1.1.2 rfl rfl rfl (qx1.1) ?_
    refine am_s_getR (r := r3_1x1 + 11) dc36_2.1.2.1 rfl (qx1.2.1) rfl (am_r4_14 hp (qx1.2.1)) ?_
    refine am_s_aload_n rfl dc36_2.1.2.2 ?_
    refine am_s_getR (r := r3_1x1) dc36_2.2.1.1 rfl rfl rfl (qx1.1) ?_
    refine am_x_getI (x := I r3_1x1 13) dc36_2.2.1.2 rfl (qx1.2.1) (Or.inl rfl) rfl ?_
    refine am_s_iload_n rfl dc36_2.2.2.1 ?_
    refine am_s_iastore dc36_2.2.2.2 (am_h4_14 (qx1.2.1)) (qx1.2.2.1) rfl ?_
    refine am_s_aload_n rfl dc36_3.1.1.1 ?_
    refine am_s_getR (r := r3_1x1) dc36_3.1.1.2 rfl rfl rfl (qx1.1) ?_
    refine am_s_getR (r := r3_1x1 + 12) dc36_3.1.2.1 rfl (qx1.2.1) rfl (am_r4_15 hp (qx1.2.1)) ?_
    refine am_s_aload_n rfl dc36_3.1.2.2 ?_
    refine am_s_getR (r := r3_1x1) dc36_3.2.1.1 rfl rfl rfl (qx1.1) ?_
    refine am_x_getI (x := (am_u I (r3_1x1 + 11) (Int32.toNatClampNeg (I r3_1x1 13)) x1) r3_1x1 13) dc36_3.2.1.2 rfl (qx1.2.1) (Or.inl rfl) rfl ?_
    refine am_s_iload_n rfl dc36_3.2.2.1 ?_
    refine am_s_iastore dc36_3.2.2.2 (am_h4_15 (qx1.2.1)) (qx1.2.2.2.1) rfl ?_
    refine am_s_aload_n rfl dc36_4.1.1.1 ?_
    refine am_s_getR (r := r3_1x1) dc36_4.1.1.2 rfl rfl rfl (qx1.1) ?_
    refine am_s_dup rfl dc36_4.1.2.1 ?_
    refine am_x_getI (x := (am_u (am_u I (r3_1x1 + 11) (Int32.toNatClampNeg (I r3_1x1 13)) x1) (r3_1x1 + 12) (Int32.toNatClampNeg ((am_u I (r3_1x1 + 11) (Int32.toNatClampNeg (I r3_1x1 13)) x1) r3_1x1 13)) s0) r3_1x1 13) dc36_4.1.2.2 rfl (qx1.2.1) (Or.inl rfl) rfl ?_
    refine am_s_iconst am_cc1 dc36_4.2.1.1 ?_
    refine am_s_iadd dc36_4.2.1.2 ?_
    refine am_s_putI dc36_4.2.2.1 rfl (qx1.2.1) rfl rfl ?_
    refine am_s_iconst am_cc1 dc36_4.2.2.2 ?_
    exact am_s_zreturn dc36_5 rfl (by decide) (qx1.2.2.2.2)
  · refine am_s_iconst am_cc0 dc36_1.2.2.1 ?_
    exact am_s_zreturn dc36_1.2.2.2 rfl (by decide) ((vi_t q (Decidable.not_not.mp c1)))
-- readDrop ()Z
theorem v37_0 {sc : Option (Nat × (Nat → Int32))} {d k n : Nat} {P : am_O → Prop} {I : am_I} {J : am_J} {Pf : am_R} (hp : am_PF Pf) {l1 : Option Value} {l2 : Option Value} {l3 : Option Value} (q : ∃ r3_1x1 : Nat, (Pf 3 1 = some r3_1x1) ∧ (am_SH[r3_1x1]? = some (.inl 4)) ∧ (Pf 3 0 = some 1) ∧ (am_in (I r3_1x1 16) 8 = true) ∧ (am_in (I r3_1x1 16) 8 = true) ∧ (am_mth d 26 [.ref 3] (am_SH, am_u (am_u I 5 (Int32.toNatClampNeg (I r3_1x1 16)) (I 1 7)) 6 (Int32.toNatClampNeg (I r3_1x1 16)) (I 3 2), J, Pf) (am_af sc d 37 32 [some (.ref 3), some (.int (I r3_1x1 16)), l2, l3] [.ref 3] [] (am_SH, am_u (am_u I 5 (Int32.toNatClampNeg (I r3_1x1 16)) (I 1 7)) 6 (Int32.toNatClampNeg (I r3_1x1 16)) (I 3 2), J, Pf) k n true P))) : am_go sc d 37 (0, [some (.ref 3), l1, l2, l3], [], (am_SH, I, J, Pf), k, n) P := by
  refine am_s_aload_n rfl dc37_0.1.1.1 ?_
  obtain ⟨r3_1x1, qx1⟩ := q
  refine am_s_getR (r := r3_1x1) dc37_0.1.1.2 rfl rfl rfl (qx1.1) ?_
  refine am_x_getI (x := I r3_1x1 16) dc37_0.1.2.1 rfl (qx1.2.1) (Or.inl rfl) rfl ?_
  refine am_s_istore_n (ls' := [some (.ref 3), some (.int (I r3_1x1 16)), l2, l3]) rfl rfl dc37_0.1.2.2 ?_
  refine am_s_aload_n rfl dc37_0.2.1.1 ?_
  refine am_s_getR (r := 5) dc37_0.2.1.2 rfl rfl rfl (hp _ _ _ rfl) ?_
  refine am_s_iload_n rfl dc37_0.2.2.1 ?_
  refine am_s_aload_n rfl dc37_0.2.2.2 ?_
  refine am_s_getR (r := 1) dc37_1.1.1.1 rfl rfl rfl (qx1.2.2.1) ?_
  refine am_x_getI (x := I 1 7) dc37_1.1.1.2 rfl rfl (Or.inl rfl) rfl ?_
  refine am_s_iastore dc37_1.1.2.1 rfl (qx1.2.2.2.1) rfl ?_
  refine am_s_aload_n rfl dc37_1.1.2.2 ?_
  refine am_s_getR (r := 6) dc37_1.2.1.1 rfl rfl rfl (hp _ _ _ rfl) ?_
  refine am_s_iload_n rfl dc37_1.2.1.2 ?_
  refine am_s_aload_n rfl dc37_1.2.2.1 ?_
  refine am_x_getI (x := I 3 2) dc37_1.2.2.2 rfl rfl (Or.inl rfl) rfl ?_
  refine am_s_iastore dc37_2.1.1.1 rfl (qx1.2.2.2.2.1) rfl ?_
  refine am_s_aload_n rfl dc37_2.1.1.2 ?_
  exact am_s_virtual true dc37_2.1.2.1 rfl (by decide) rfl rfl rfl (qx1.2.2.2.2.2)
theorem v37_35 {sc : Option (Nat × (Nat → Int32))} {d k n : Nat} {P : am_O → Prop} {I : am_I} {J : am_J} {Pf : am_R} (hp : am_PF Pf) {x1 : Int32} {l2 : Option Value} {l3 : Option Value} {s0 : Int32} (q : (if s0 = (-1) then (P (.inl (some (.int 0)), (am_SH, I, J, Pf), k, n)) else (am_mth d 26 [.ref 3] (am_SH, I, J, Pf) (am_af sc d 37 44 [some (.ref 3), some (.int x1), some (.int s0), l3] [.ref 3] [] (am_SH, I, J, Pf) k n true P)))) : am_go sc d 37 (35, [some (.ref 3), some (.int x1), l2, l3], [.int s0], (am_SH, I, J, Pf), k, n) P := by
  refine am_s_istore_n (ls' := [some (.ref 3), some (.int x1), some (.int s0), l3]) rfl rfl dc37_2.1.2.2 ?_
  refine am_s_iload_n rfl dc37_2.2.1.1 ?_
  refine am_s_iconst am_ccm1 dc37_2.2.1.2 ?_
  refine am_s_ic_ne dc37_2.2.2.1 rfl (fun c1 => ?_) (fun c1 => ?_)
  · refine am_s_aload_n rfl dc37_3.1.1.2 ?_
    exact am_s_virtual true dc37_3.1.2.1 rfl (by decide) rfl rfl rfl ((vi_f q c1))
  · refine am_s_iconst am_cc0 dc37_2.2.2.2 ?_
    exact am_s_zreturn dc37_3.1.1.1 rfl (by decide) ((vi_t q (Decidable.not_not.mp c1)))
theorem v37_47 {sc : Option (Nat × (Nat → Int32))} {d k n : Nat} {P : am_O → Prop} {I : am_I} {J : am_J} {Pf : am_R} (hp : am_PF Pf) {x1 : Int32} {x2 : Int32} {l3 : Option Value} {s0 : Int32} (q : (if s0 = (-1) then (P (.inl (some (.int 0)), (am_SH, I, J, Pf), k, n)) else (if s0 = x2 then (Pf 3 0 = some 1) ∧ (if (I 1 5) = 0 then (P (.inl (some (.int 0)), (am_SH, am_u (am_u I 1 5 2) 1 6 (I 1 8), J, Pf), k, n)) else (P (.inl (some (.int 0)), (am_SH, I, J, Pf), k, n))) else ∃ r3_1x1 : Nat, (Pf 3 1 = some r3_1x1) ∧ (am_SH[r3_1x1]? = some (.inl 4)) ∧ (am_in x1 8 = true) ∧ (am_in x1 8 = true) ∧ (P (.inl (some (.int 1)), (am_SH, am_u (am_u (am_u I (r3_1x1 + 13) (Int32.toNatClampNeg x1) x2) (r3_1x1 + 14) (Int32.toNatClampNeg x1) s0) r3_1x1 16 (((am_u (am_u I (r3_1x1 + 13) (Int32.toNatClampNeg x1) x2) (r3_1x1 + 14) (Int32.toNatClampNeg x1) s0) r3_1x1 16) + 1), J, Pf), k, n))))) : am_go sc (d + 1) 37 (47, [some (.ref 3), some (.int x1), some (.int x2), l3], [.int s0], (am_SH, I, J, Pf), k, n) P := by
  refine am_s_istore_n (ls' := [some (.ref 3), some (.int x1), some (.int x2), some (.int s0)]) rfl rfl dc37_3.1.2.2 ?_
  refine am_s_iload_n rfl dc37_3.2.1.1 ?_
  refine am_s_iconst am_ccm1 dc37_3.2.1.2 ?_
  refine am_s_ic_ne dc37_3.2.2.1 rfl (fun c1 => ?_) (fun c1 => ?_)
  · refine am_s_iload_n rfl dc37_4.1.1.2 ?_
    refine am_s_iload_n rfl dc37_4.1.2.1 ?_
    refine am_s_ic_ne dc37_4.1.2.2 rfl (fun c2 => ?_) (fun c2 => ?_)
    · refine am_s_aload_n rfl dc37_5.2.1.1 ?_
      obtain ⟨r3_1x1, qx1⟩ := (vi_f (vi_f q c1) c2)
      refine am_s_getR (r := r3_1x1) dc37_5.2.1.2 rfl rfl rfl (qx1.1) ?_
      refine am_s_getR (r := r3_1x1 + 13) dc37_5.2.2.1 rfl (qx1.2.1) rfl (am_r4_17 hp (qx1.2.1)) ?_
      refine am_s_iload_n rfl dc37_5.2.2.2 ?_
      refine am_s_iload_n rfl dc37_6.1.1.1 ?_
      refine am_s_iastore dc37_6.1.1.2 (am_h4_17 (qx1.2.1)) (qx1.2.2.1) rfl ?_
      refine am_s_aload_n rfl dc37_6.1.2.1 ?_
      refine am_s_getR (r := r3_1x1) dc37_6.1.2.2 rfl rfl rfl (qx1.1) ?_
      refine am_s_getR (r := r3_1x1 + 14) dc37_6.2.1.1 rfl (qx1.2.1) rfl (am_r4_18 hp (qx1.2.1)) ?_
      refine am_s_iload_n rfl dc37_6.2.1.2 ?_
      refine am_s_iload_n rfl dc37_6.2.2.1 ?_
      refine am_s_iastore dc37_6.2.2.2 (am_h4_18 (qx1.2.1)) (qx1.2.2.2.1) rfl ?_
      refine am_s_aload_n rfl dc37_7.1.1.1 ?_
      refine am_s_getR (r := r3_1x1) dc37_7.1.1.2 rfl rfl rfl (qx1.1) ?_
      refine am_s_dup rfl dc37_7.1.2.1 ?_
      refine am_x_getI (x := (am_u (am_u I (r3_1x1 + 13) (Int32.toNatClampNeg x1) x2) (r3_1x1 + 14) (Int32.toNatClampNeg x1) s0) r3_1x1 16) dc37_7.1.2.2 rfl (qx1.2.1) (Or.inl rfl) rfl ?_
      refine am_s_iconst am_cc1 dc37_7.2.1.1 ?_
      refine am_s_iadd dc37_7.2.1.2 ?_
      refine am_s_putI dc37_7.2.2.1 rfl (qx1.2.1) rfl rfl ?_
      refine am_s_iconst am_cc1 dc37_7.2.2.2 ?_
      exact am_s_zreturn dc37_8 rfl (by decide) (qx1.2.2.2.2)
    · refine am_s_aload_n rfl dc37_4.2.1.1 ?_
      refine am_s_getR (r := 1) dc37_4.2.1.2 rfl rfl rfl ((vi_t (vi_f q c1) (Decidable.not_not.mp c2)).1) ?_
      refine am_s_iconst am_cc2 dc37_4.2.2.1 ?_
      refine am_s_aload_n rfl dc37_4.2.2.2 ?_
      refine am_s_getR (r := 1) dc37_5.1.1.1 rfl rfl rfl ((vi_t (vi_f q c1) (Decidable.not_not.mp c2)).1) ?_
      refine am_x_getI (x := I 1 8) dc37_5.1.1.2 rfl rfl (Or.inl rfl) rfl ?_
      refine am_s_virtual false dc37_5.1.2.1 rfl (by decide) rfl rfl rfl (am_mth_of rfl rfl ?_)
      refine am_s_aload_n rfl dc53_0.1.1.1 ?_
      refine am_x_getI (x := I 1 5) dc53_0.1.1.2 rfl rfl (Or.inl rfl) rfl ?_
      refine am_s_if_ne dc53_0.1.2.1 rfl (fun c3 => ?_) (fun c3 => ?_)
      · refine am_s_iconst am_cc0 dc53_1.2.1 ?_
        refine am_s_zreturn dc53_1.2.2 rfl (by decide) (am_bkI ?_)
        exact am_s_zreturn dc37_5.1.2.2 rfl (by decide) ((vi_f (vi_t (vi_f q c1) (Decidable.not_not.mp c2)).2 c3))
      · refine am_s_aload_n rfl dc53_0.1.2.2 ?_
        refine am_s_iload_n rfl dc53_0.2.1.1 ?_
        refine am_s_putI dc53_0.2.1.2 rfl rfl rfl rfl ?_
        refine am_s_aload_n rfl dc53_0.2.2.1 ?_
        refine am_s_iload_n rfl dc53_0.2.2.2 ?_
        refine am_s_putI dc53_1.1 rfl rfl rfl rfl ?_
        refine am_s_iconst am_cc0 dc53_1.2.1 ?_
        refine am_s_zreturn dc53_1.2.2 rfl (by decide) (am_bkI ?_)
        exact am_s_zreturn dc37_5.1.2.2 rfl (by decide) ((vi_t (vi_t (vi_f q c1) (Decidable.not_not.mp c2)).2 (Decidable.not_not.mp c3)))
  · refine am_s_iconst am_cc0 dc37_3.2.2.2 ?_
    exact am_s_zreturn dc37_4.1.1.1 rfl (by decide) ((vi_t q (Decidable.not_not.mp c1)))
-- readLay ()Z
theorem v38_0 {sc : Option (Nat × (Nat → Int32))} {d k n : Nat} {P : am_O → Prop} {I : am_I} {J : am_J} {Pf : am_R} (hp : am_PF Pf) {l1 : Option Value} (q : (am_mth d 27 [.ref 3] (am_SH, I, J, Pf) (am_af sc d 38 1 [some (.ref 3), l1] [.ref 3] [] (am_SH, I, J, Pf) k n true P))) : am_go sc d 38 (0, [some (.ref 3), l1], [], (am_SH, I, J, Pf), k, n) P := by
  refine am_s_aload_n rfl dc38_0.1.1.1 ?_
  exact am_s_virtual true dc38_0.1.1.2 rfl (by decide) rfl rfl rfl (q)
theorem v38_4 {sc : Option (Nat × (Nat → Int32))} {d k n : Nat} {P : am_O → Prop} {I : am_I} {J : am_J} {Pf : am_R} (hp : am_PF Pf) {l1 : Option Value} {s0 : Int32} (q : (if s0 = (-1) then (P (.inl (some (.int 0)), (am_SH, I, J, Pf), k, n)) else ∃ r3_1x1 : Nat, (Pf 3 1 = some r3_1x1) ∧ (am_SH[r3_1x1]? = some (.inl 4)) ∧ (P (.inl (some (.int 1)), (am_SH, am_u I r3_1x1 19 s0, J, Pf), k, n)))) : am_go sc d 38 (4, [some (.ref 3), l1], [.int s0], (am_SH, I, J, Pf), k, n) P := by
  refine am_s_istore_n (ls' := [some (.ref 3), some (.int s0)]) rfl rfl dc38_0.1.2.1 ?_
  refine am_s_iload_n rfl dc38_0.1.2.2 ?_
  refine am_s_iconst am_ccm1 dc38_0.2.1.1 ?_
  refine am_s_ic_ne dc38_0.2.1.2 rfl (fun c1 => ?_) (fun c1 => ?_)
  · refine am_s_aload_n rfl dc38_1.1.1 ?_
    obtain ⟨r3_1x1, qx1⟩ := (vi_f q c1)
    refine am_s_getR (r := r3_1x1) dc38_1.1.2.1 rfl rfl rfl (qx1.1) ?_
    refine am_s_iload_n rfl dc38_1.1.2.2 ?_
    refine am_s_putI dc38_1.2.1 rfl (qx1.2.1) rfl rfl ?_
    refine am_s_iconst am_cc1 dc38_1.2.2.1 ?_
    exact am_s_zreturn dc38_1.2.2.2 rfl (by decide) (qx1.2.2)
  · refine am_s_iconst am_cc0 dc38_0.2.2.1 ?_
    exact am_s_zreturn dc38_0.2.2.2 rfl (by decide) ((vi_t q (Decidable.not_not.mp c1)))
-- clear ()V
theorem v40_0 {sc : Option (Nat × (Nat → Int32))} {d k n : Nat} {P : am_O → Prop} {I : am_I} {J : am_J} {Pf : am_R} (hp : am_PF Pf) {x0 : Nat} (hx0 : am_SH[x0]? = some (.inl 2)) (q : (am_in ((am_u (am_u I x0 2 0) (x0 + 1) 0 0) x0 2) 150 = true) ∧ (P (.inl none, (am_SH, am_u (am_u (am_u (am_u I x0 2 0) (x0 + 1) 0 0) (x0 + 2) (Int32.toNatClampNeg ((am_u (am_u I x0 2 0) (x0 + 1) 0 0) x0 2)) 1) x0 2 (((am_u (am_u (am_u I x0 2 0) (x0 + 1) 0 0) (x0 + 2) (Int32.toNatClampNeg ((am_u (am_u I x0 2 0) (x0 + 1) 0 0) x0 2)) 1) x0 2) + 1), J, Pf), k, n))) : am_go sc (d + 1) 40 (0, [some (.ref x0)], [], (am_SH, I, J, Pf), k, n) P := by
  refine am_s_aload_n rfl dc40_0.1.1.1 ?_
  refine am_s_iconst am_cc0 dc40_0.1.1.2 ?_
  refine am_s_putI dc40_0.1.2.1 rfl hx0 rfl rfl ?_
  refine am_s_aload_n rfl dc40_0.1.2.2 ?_
  refine am_s_iconst am_cc0 dc40_0.2.1.1 ?_
  refine am_s_iconst am_cc1 dc40_0.2.1.2 ?_
  refine am_s_virtual true dc40_0.2.2.1 rfl (by decide) rfl hx0 rfl (am_mth_of rfl rfl ?_)
  refine am_s_aload_n rfl dc41_0.1.1.1 ?_
  refine am_x_getI (x := 0) dc41_0.1.1.2 rfl hx0 (Or.inl rfl) (by simp [am_u]) ?_
  refine am_s_sipush am_cs150 dc41_0.1.2.1 ?_
  refine am_s_ic_lt dc41_0.1.2.2 rfl (fun _ => ?_) (fun z => absurd z (by decide))
  refine am_s_aload_n rfl dc41_0.2.1.2 ?_
  refine am_s_getR (r := x0 + 1) dc41_0.2.2.1 rfl hx0 rfl (am_r2_0 hp hx0) ?_
  refine am_s_aload_n rfl dc41_0.2.2.2 ?_
  refine am_x_getI (x := 0) dc41_1.1.1.1 rfl hx0 (Or.inl rfl) (by simp [am_u]) ?_
  refine am_s_iload_n rfl dc41_1.1.1.2 ?_
  refine am_s_iastore dc41_1.1.2.1 (am_h2_0 hx0) (by decide +kernel) am_cN0 ?_
  refine am_s_aload_n rfl dc41_1.1.2.2 ?_
  refine am_s_getR (r := x0 + 2) dc41_1.2.1.1 rfl hx0 rfl (am_r2_1 hp hx0) ?_
  refine am_s_aload_n rfl dc41_1.2.1.2 ?_
  refine am_x_getI (x := (am_u (am_u I x0 2 0) (x0 + 1) 0 0) x0 2) dc41_1.2.2.1 rfl hx0 (Or.inl rfl) rfl ?_
  refine am_s_iload_n rfl dc41_1.2.2.2 ?_
  refine am_s_iastore dc41_2.1.1.1 (am_h2_1 hx0) (q.1) rfl ?_
  refine am_s_aload_n rfl dc41_2.1.1.2 ?_
  refine am_s_dup rfl dc41_2.1.2.1 ?_
  refine am_x_getI (x := (am_u (am_u (am_u I x0 2 0) (x0 + 1) 0 0) (x0 + 2) (Int32.toNatClampNeg ((am_u (am_u I x0 2 0) (x0 + 1) 0 0) x0 2)) 1) x0 2) dc41_2.1.2.2 rfl hx0 (Or.inl rfl) rfl ?_
  refine am_s_iconst am_cc1 dc41_2.2.1.1 ?_
  refine am_s_iadd dc41_2.2.1.2 ?_
  refine am_s_putI dc41_2.2.2.1 rfl hx0 rfl rfl ?_
  refine am_s_return dc41_2.2.2.2 rfl (am_bkV ?_)
  exact am_s_return dc40_0.2.2.2 rfl (q.2)
-- add (II)V
theorem v41_0 {sc : Option (Nat × (Nat → Int32))} {d k n : Nat} {P : am_O → Prop} {I : am_I} {J : am_J} {Pf : am_R} (hp : am_PF Pf) {x0 : Nat} (hx0 : am_SH[x0]? = some (.inl 2)) {x1 : Int32} {x2 : Int32} (q : (if (I x0 2) < 150 then (am_in (I x0 2) 150 = true) ∧ (am_in ((am_u I (x0 + 1) (Int32.toNatClampNeg (I x0 2)) x1) x0 2) 150 = true) ∧ (P (.inl none, (am_SH, am_u (am_u (am_u I (x0 + 1) (Int32.toNatClampNeg (I x0 2)) x1) (x0 + 2) (Int32.toNatClampNeg ((am_u I (x0 + 1) (Int32.toNatClampNeg (I x0 2)) x1) x0 2)) x2) x0 2 (((am_u (am_u I (x0 + 1) (Int32.toNatClampNeg (I x0 2)) x1) (x0 + 2) (Int32.toNatClampNeg ((am_u I (x0 + 1) (Int32.toNatClampNeg (I x0 2)) x1) x0 2)) x2) x0 2) + 1), J, Pf), k, n)) else (P (.inl none, (am_SH, I, J, Pf), k, n)))) : am_go sc d 41 (0, [some (.ref x0), some (.int x1), some (.int x2)], [], (am_SH, I, J, Pf), k, n) P := by
  refine am_s_aload_n rfl dc41_0.1.1.1 ?_
  refine am_x_getI (x := I x0 2) dc41_0.1.1.2 rfl hx0 (Or.inl rfl) rfl ?_
  refine am_s_sipush am_cs150 dc41_0.1.2.1 ?_
  refine am_s_ic_lt dc41_0.1.2.2 rfl (fun c1 => ?_) (fun c1 => ?_)
  · refine am_s_aload_n rfl dc41_0.2.1.2 ?_
    refine am_s_getR (r := x0 + 1) dc41_0.2.2.1 rfl hx0 rfl (am_r2_0 hp hx0) ?_
    refine am_s_aload_n rfl dc41_0.2.2.2 ?_
    refine am_x_getI (x := I x0 2) dc41_1.1.1.1 rfl hx0 (Or.inl rfl) rfl ?_
    refine am_s_iload_n rfl dc41_1.1.1.2 ?_
    refine am_s_iastore dc41_1.1.2.1 (am_h2_0 hx0) ((vi_t q c1).1) rfl ?_
    refine am_s_aload_n rfl dc41_1.1.2.2 ?_
    refine am_s_getR (r := x0 + 2) dc41_1.2.1.1 rfl hx0 rfl (am_r2_1 hp hx0) ?_
    refine am_s_aload_n rfl dc41_1.2.1.2 ?_
    refine am_x_getI (x := (am_u I (x0 + 1) (Int32.toNatClampNeg (I x0 2)) x1) x0 2) dc41_1.2.2.1 rfl hx0 (Or.inl rfl) rfl ?_
    refine am_s_iload_n rfl dc41_1.2.2.2 ?_
    refine am_s_iastore dc41_2.1.1.1 (am_h2_1 hx0) ((vi_t q c1).2.1) rfl ?_
    refine am_s_aload_n rfl dc41_2.1.1.2 ?_
    refine am_s_dup rfl dc41_2.1.2.1 ?_
    refine am_x_getI (x := (am_u (am_u I (x0 + 1) (Int32.toNatClampNeg (I x0 2)) x1) (x0 + 2) (Int32.toNatClampNeg ((am_u I (x0 + 1) (Int32.toNatClampNeg (I x0 2)) x1) x0 2)) x2) x0 2) dc41_2.1.2.2 rfl hx0 (Or.inl rfl) rfl ?_
    refine am_s_iconst am_cc1 dc41_2.2.1.1 ?_
    refine am_s_iadd dc41_2.2.1.2 ?_
    refine am_s_putI dc41_2.2.2.1 rfl hx0 rfl rfl ?_
    exact am_s_return dc41_2.2.2.2 rfl ((vi_t q c1).2.2)
  · exact am_s_return dc41_0.2.1.1 rfl ((vi_f q c1))
-- readAll (LPrunedParses$Reader;)Z
theorem v42_0 {sc : Option (Nat × (Nat → Int32))} {d k n : Nat} {P : am_O → Prop} {I : am_I} {J : am_J} {Pf : am_R} (hp : am_PF Pf) {x0 : Nat} (hx0 : am_SH[x0]? = some (.inl 2)) (q : (am_mth d 43 [.ref x0, .int 0] (am_SH, am_u I x0 2 0, J, am_u Pf x0 4 (some 1)) (am_af sc d 42 12 [some (.ref x0), some (.ref 1)] [.int 0, .ref x0] [] (am_SH, am_u I x0 2 0, J, am_u Pf x0 4 (some 1)) k n true P))) : am_go sc d 42 (0, [some (.ref x0), some (.ref 1)], [], (am_SH, I, J, Pf), k, n) P := by
  refine am_s_aload_n rfl dc42_0.1.1.1 ?_
  refine am_s_aload_n rfl dc42_0.1.1.2 ?_
  refine am_s_putR dc42_0.1.2.1 rfl hx0 rfl rfl (am_bltc rfl) ?_
  refine am_s_aload_n rfl dc42_0.1.2.2 ?_
  refine am_s_iconst am_cc0 dc42_0.2.1.1 ?_
  refine am_s_putI dc42_0.2.1.2 rfl hx0 rfl rfl ?_
  refine am_s_aload_n rfl dc42_0.2.2.1 ?_
  refine am_s_iconst am_cc0 dc42_0.2.2.2 ?_
  exact am_s_virtual true dc42_1.1.1.1 rfl (by decide) rfl hx0 rfl (q)
theorem v42_15 {sc : Option (Nat × (Nat → Int32))} {d k n : Nat} {P : am_O → Prop} {I : am_I} {J : am_J} {Pf : am_R} (hp : am_PF Pf) {x0 : Nat} (hx0 : am_SH[x0]? = some (.inl 2)) {l1 : Option Value} {s0 : Int32} (q : (if s0 = 0 then (P (.inl (some (.int 0)), (am_SH, I, J, Pf), k, n)) else (Pf x0 4 = some 1) ∧ (am_mth d 57 [.ref 1] (am_SH, I, J, Pf) (am_af sc d 42 22 [some (.ref x0), l1] [.ref 1] [] (am_SH, I, J, Pf) k n false P)))) : am_go sc d 42 (15, [some (.ref x0), l1], [.int s0], (am_SH, I, J, Pf), k, n) P := by
  refine am_s_if_eq dc42_1.1.1.2 rfl (fun c1 => ?_) (fun c1 => ?_)
  · refine am_s_iconst am_cc0 dc42_2.1 ?_
    exact am_s_zreturn dc42_2.2 rfl (by decide) ((vi_t q c1))
  · refine am_s_aload_n rfl dc42_1.1.2.1 ?_
    refine am_s_getR (r := 1) dc42_1.1.2.2 rfl hx0 rfl ((vi_f q c1).1) ?_
    exact am_s_virtual false dc42_1.2.1.1 rfl (by decide) rfl rfl rfl ((vi_f q c1).2)
theorem v42_25 {sc : Option (Nat × (Nat → Int32))} {d k n : Nat} {P : am_O → Prop} {I : am_I} {J : am_J} {Pf : am_R} (hp : am_PF Pf) {l0 : Option Value} {l1 : Option Value} {s0 : Int32} (q : (if s0 = 0 then (P (.inl (some (.int 0)), (am_SH, I, J, Pf), k, n)) else (P (.inl (some (.int 1)), (am_SH, I, J, Pf), k, n)))) : am_go sc d 42 (25, [l0, l1], [.int s0], (am_SH, I, J, Pf), k, n) P := by
  refine am_s_if_eq dc42_1.2.1.2 rfl (fun c1 => ?_) (fun c1 => ?_)
  · refine am_s_iconst am_cc0 dc42_2.1 ?_
    exact am_s_zreturn dc42_2.2 rfl (by decide) ((vi_t q c1))
  · refine am_s_iconst am_cc1 dc42_1.2.2.1 ?_
    refine am_s_goto rfl dc42_1.2.2.2 ?_
    exact am_s_zreturn dc42_2.2 rfl (by decide) ((vi_f q c1))
-- readSum (I)Z
theorem v43_0 {sc : Option (Nat × (Nat → Int32))} {d k n : Nat} {P : am_O → Prop} {I : am_I} {J : am_J} {Pf : am_R} (hp : am_PF Pf) {x0 : Nat} (hx0 : am_SH[x0]? = some (.inl 2)) {x1 : Int32} {l2 : Option Value} {l3 : Option Value} (q : (if 6 < x1 then (P (.inl (some (.int 0)), (am_SH, I, J, Pf), k, n)) else (am_mth d 44 [.ref x0, .int x1] (am_SH, I, J, Pf) (am_af sc d 43 8 [some (.ref x0), some (.int x1), l2, l3] [.int x1, .ref x0] [] (am_SH, I, J, Pf) k n true P)))) : am_go sc d 43 (0, [some (.ref x0), some (.int x1), l2, l3], [], (am_SH, I, J, Pf), k, n) P := by
  refine am_s_iload_n rfl dc43_0.1.1.1 ?_
  refine am_s_bipush am_cb6 dc43_0.1.1.2 ?_
  refine am_s_ic_gt dc43_0.1.2.1 rfl (fun c1 => ?_) (fun c1 => ?_)
  · refine am_s_iconst am_cc0 dc43_0.2.2.2 ?_
    exact am_s_zreturn dc43_1.1.1.1 rfl (by decide) ((vi_t q c1))
  · refine am_s_aload_n rfl dc43_0.1.2.2 ?_
    refine am_s_iload_n rfl dc43_0.2.1.1 ?_
    exact am_s_virtual true dc43_0.2.1.2 rfl (by decide) rfl hx0 rfl ((vi_f q c1))
theorem v43_18 {sc : Option (Nat × (Nat → Int32))} {d k n : Nat} {P : am_O → Prop} {I : am_I} {J : am_J} {Pf : am_R} (hp : am_PF Pf) {x0 : Nat} (hx0 : am_SH[x0]? = some (.inl 2)) {x1 : Int32} {x2 : Int32} {l3 : Option Value} (q : (if 150 ≤ x2 then (P (.inl (some (.int 0)), (am_SH, I, J, Pf), k, n)) else (Pf x0 4 = some 1) ∧ (am_mth d 55 [.ref 1] (am_SH, I, J, Pf) (am_af sc d 43 29 [some (.ref x0), some (.int x1), some (.int x2), l3] [.ref 1] [] (am_SH, I, J, Pf) k n false P)))) : am_go sc d 43 (18, [some (.ref x0), some (.int x1), some (.int x2), l3], [], (am_SH, I, J, Pf), k, n) P := by
  refine am_s_iload_n rfl dc43_1.1.2.2 ?_
  refine am_s_sipush am_cs150 dc43_1.2.1.1 ?_
  refine am_s_ic_ge dc43_1.2.1.2 rfl (fun c1 => ?_) (fun c1 => ?_)
  · refine am_s_iconst am_cc0 dc43_5.2.2.1 ?_
    exact am_s_zreturn dc43_5.2.2.2 rfl (by decide) ((vi_t q c1))
  · refine am_s_aload_n rfl dc43_1.2.2.1 ?_
    refine am_s_getR (r := 1) dc43_1.2.2.2 rfl hx0 rfl ((vi_f q c1).1) ?_
    exact am_s_virtual false dc43_2.1.1.1 rfl (by decide) rfl rfl rfl ((vi_f q c1).2)
theorem v43_47 {sc : Option (Nat × (Nat → Int32))} {d k n : Nat} {P : am_O → Prop} {I : am_I} {J : am_J} {Pf : am_R} (hp : am_PF Pf) {x0 : Nat} (hx0 : am_SH[x0]? = some (.inl 2)) {x1 : Int32} {x2 : Int32} {x3 : Int32} (q : (Pf x0 4 = some 1) ∧ (am_mth d 44 [.ref x0, .int x1] (am_SH, am_u I 1 3 ((I 1 3) + 1), J, Pf) (am_af sc d 43 62 [some (.ref x0), some (.int x1), some (.int x2), some (.int x3)] [.int x1, .ref x0] [] (am_SH, am_u I 1 3 ((I 1 3) + 1), J, Pf) k n true P))) : am_go sc d 43 (47, [some (.ref x0), some (.int x1), some (.int x2), some (.int x3)], [], (am_SH, I, J, Pf), k, n) P := by
  refine am_s_aload_n rfl dc43_3.1.2.1 ?_
  refine am_s_getR (r := 1) dc43_3.1.2.2 rfl hx0 rfl (q.1) ?_
  refine am_s_dup rfl dc43_3.2.1.1 ?_
  refine am_x_getI (x := I 1 3) dc43_3.2.1.2 rfl rfl (Or.inl rfl) rfl ?_
  refine am_s_iconst am_cc1 dc43_3.2.2.1 ?_
  refine am_s_iadd dc43_3.2.2.2 ?_
  refine am_s_putI dc43_4.1.1.1 rfl rfl rfl rfl ?_
  refine am_s_aload_n rfl dc43_4.1.1.2 ?_
  refine am_s_iload_n rfl dc43_4.1.2.1 ?_
  exact am_s_virtual true dc43_4.1.2.2 rfl (by decide) rfl hx0 rfl (q.2)
theorem v43_11 {sc : Option (Nat × (Nat → Int32))} {d k n : Nat} {P : am_O → Prop} {I : am_I} {J : am_J} {Pf : am_R} (hp : am_PF Pf) {x0 : Nat} (hx0 : am_SH[x0]? = some (.inl 2)) {x1 : Int32} {l2 : Option Value} {l3 : Option Value} {s0 : Int32} (q : (if s0 = 0 then (P (.inl (some (.int 0)), (am_SH, I, J, Pf), k, n)) else (am_go sc d 43 (18, [some (.ref x0), some (.int x1), some (.int 0), l3], [], (am_SH, I, J, Pf), k, n) P))) : am_go sc d 43 (11, [some (.ref x0), some (.int x1), l2, l3], [.int s0], (am_SH, I, J, Pf), k, n) P := by
  refine am_s_if_ne dc43_0.2.2.1 rfl (fun c1 => ?_) (fun c1 => ?_)
  · refine am_s_iconst am_cc0 dc43_1.1.1.2 ?_
    refine am_s_istore_n (ls' := [some (.ref x0), some (.int x1), some (.int 0), l3]) rfl rfl dc43_1.1.2.1 ?_
    exact (vi_f q c1)
  · refine am_s_iconst am_cc0 dc43_0.2.2.2 ?_
    exact am_s_zreturn dc43_1.1.1.1 rfl (by decide) ((vi_t q (Decidable.not_not.mp c1)))
theorem v43_32 {sc : Option (Nat × (Nat → Int32))} {d k n : Nat} {P : am_O → Prop} {I : am_I} {J : am_J} {Pf : am_R} (hp : am_PF Pf) {x0 : Nat} (hx0 : am_SH[x0]? = some (.inl 2)) {x1 : Int32} {x2 : Int32} {l3 : Option Value} {s0 : Int32} (q : (if s0 = 43 then (am_go sc d 43 (47, [some (.ref x0), some (.int x1), some (.int x2), some (.int s0)], [], (am_SH, I, J, Pf), k, n) P) else (if s0 = 45 then (am_go sc d 43 (47, [some (.ref x0), some (.int x1), some (.int x2), some (.int s0)], [], (am_SH, I, J, Pf), k, n) P) else (P (.inl (some (.int 1)), (am_SH, I, J, Pf), k, n))))) : am_go sc d 43 (32, [some (.ref x0), some (.int x1), some (.int x2), l3], [.int s0], (am_SH, I, J, Pf), k, n) P := by
  refine am_s_istore_n (ls' := [some (.ref x0), some (.int x1), some (.int x2), some (.int s0)]) rfl rfl dc43_2.1.1.2 ?_
  refine am_s_iload_n rfl dc43_2.1.2.1 ?_
  refine am_s_bipush am_cb43 dc43_2.1.2.2 ?_
  refine am_s_ic_eq dc43_2.2.1.1 rfl (fun c1 => ?_) (fun c1 => ?_)
  · exact (vi_t q c1)
  · refine am_s_iload_n rfl dc43_2.2.1.2 ?_
    refine am_s_bipush am_cb45 dc43_2.2.2.1 ?_
    refine am_s_ic_eq dc43_2.2.2.2 rfl (fun c2 => ?_) (fun c2 => ?_)
    · exact (vi_t (vi_f q c1) c2)
    · refine am_s_iconst am_cc1 dc43_3.1.1.1 ?_
      exact am_s_zreturn dc43_3.1.1.2 rfl (by decide) ((vi_f (vi_f q c1) c2))
theorem v43_65 {sc : Option (Nat × (Nat → Int32))} {d k n : Nat} {P : am_O → Prop} {I : am_I} {J : am_J} {Pf : am_R} (hp : am_PF Pf) {x0 : Nat} (hx0 : am_SH[x0]? = some (.inl 2)) {x1 : Int32} {x2 : Int32} {x3 : Int32} {s0 : Int32} (q : (if s0 = 0 then (P (.inl (some (.int 0)), (am_SH, I, J, Pf), k, n)) else (if (I x0 2) < 150 then (am_in (I x0 2) 150 = true) ∧ (am_in ((am_u I (x0 + 1) (Int32.toNatClampNeg (I x0 2)) x3) x0 2) 150 = true) ∧ (am_go sc (d + 1) 43 (18, [some (.ref x0), some (.int x1), some (.int (x2 + 1)), some (.int x3)], [], (am_SH, am_u (am_u (am_u I (x0 + 1) (Int32.toNatClampNeg (I x0 2)) x3) (x0 + 2) (Int32.toNatClampNeg ((am_u I (x0 + 1) (Int32.toNatClampNeg (I x0 2)) x3) x0 2)) 0) x0 2 (((am_u (am_u I (x0 + 1) (Int32.toNatClampNeg (I x0 2)) x3) (x0 + 2) (Int32.toNatClampNeg ((am_u I (x0 + 1) (Int32.toNatClampNeg (I x0 2)) x3) x0 2)) 0) x0 2) + 1), J, Pf), k, n) P) else (am_go sc (d + 1) 43 (18, [some (.ref x0), some (.int x1), some (.int (x2 + 1)), some (.int x3)], [], (am_SH, I, J, Pf), k, n) P)))) : am_go sc (d + 1) 43 (65, [some (.ref x0), some (.int x1), some (.int x2), some (.int x3)], [.int s0], (am_SH, I, J, Pf), k, n) P := by
  refine am_s_if_ne dc43_4.2.1.1 rfl (fun c1 => ?_) (fun c1 => ?_)
  · refine am_s_aload_n rfl dc43_4.2.2.2 ?_
    refine am_s_iload_n rfl dc43_5.1.1 ?_
    refine am_s_iconst am_cc0 dc43_5.1.2.1 ?_
    refine am_s_virtual true dc43_5.1.2.2 rfl (by decide) rfl hx0 rfl (am_mth_of rfl rfl ?_)
    refine am_s_aload_n rfl dc41_0.1.1.1 ?_
    refine am_x_getI (x := I x0 2) dc41_0.1.1.2 rfl hx0 (Or.inl rfl) rfl ?_
    refine am_s_sipush am_cs150 dc41_0.1.2.1 ?_
    refine am_s_ic_lt dc41_0.1.2.2 rfl (fun c2 => ?_) (fun c2 => ?_)
    · refine am_s_aload_n rfl dc41_0.2.1.2 ?_
      refine am_s_getR (r := x0 + 1) dc41_0.2.2.1 rfl hx0 rfl (am_r2_0 hp hx0) ?_
      refine am_s_aload_n rfl dc41_0.2.2.2 ?_
      refine am_x_getI (x := I x0 2) dc41_1.1.1.1 rfl hx0 (Or.inl rfl) rfl ?_
      refine am_s_iload_n rfl dc41_1.1.1.2 ?_
      refine am_s_iastore dc41_1.1.2.1 (am_h2_0 hx0) ((vi_t (vi_f q c1) c2).1) rfl ?_
      refine am_s_aload_n rfl dc41_1.1.2.2 ?_
      refine am_s_getR (r := x0 + 2) dc41_1.2.1.1 rfl hx0 rfl (am_r2_1 hp hx0) ?_
      refine am_s_aload_n rfl dc41_1.2.1.2 ?_
      refine am_x_getI (x := (am_u I (x0 + 1) (Int32.toNatClampNeg (I x0 2)) x3) x0 2) dc41_1.2.2.1 rfl hx0 (Or.inl rfl) rfl ?_
      refine am_s_iload_n rfl dc41_1.2.2.2 ?_
      refine am_s_iastore dc41_2.1.1.1 (am_h2_1 hx0) ((vi_t (vi_f q c1) c2).2.1) rfl ?_
      refine am_s_aload_n rfl dc41_2.1.1.2 ?_
      refine am_s_dup rfl dc41_2.1.2.1 ?_
      refine am_x_getI (x := (am_u (am_u I (x0 + 1) (Int32.toNatClampNeg (I x0 2)) x3) (x0 + 2) (Int32.toNatClampNeg ((am_u I (x0 + 1) (Int32.toNatClampNeg (I x0 2)) x3) x0 2)) 0) x0 2) dc41_2.1.2.2 rfl hx0 (Or.inl rfl) rfl ?_
      refine am_s_iconst am_cc1 dc41_2.2.1.1 ?_
      refine am_s_iadd dc41_2.2.1.2 ?_
      refine am_s_putI dc41_2.2.2.1 rfl hx0 rfl rfl ?_
      refine am_s_return dc41_2.2.2.2 rfl (am_bkV ?_)
      refine am_s_iinc (ls' := [some (.ref x0), some (.int x1), some (.int (x2 + 1)), some (.int x3)]) am_cc1 rfl rfl dc43_5.2.1.1 ?_
      refine am_s_goto rfl dc43_5.2.1.2 ?_
      exact (vi_t (vi_f q c1) c2).2.2
    · refine am_s_return dc41_0.2.1.1 rfl (am_bkV ?_)
      refine am_s_iinc (ls' := [some (.ref x0), some (.int x1), some (.int (x2 + 1)), some (.int x3)]) am_cc1 rfl rfl dc43_5.2.1.1 ?_
      refine am_s_goto rfl dc43_5.2.1.2 ?_
      exact (vi_f (vi_f q c1) c2)
  · refine am_s_iconst am_cc0 dc43_4.2.1.2 ?_
    exact am_s_zreturn dc43_4.2.2.1 rfl (by decide) ((vi_t q (Decidable.not_not.mp c1)))
-- readProduct (I)Z
theorem v44_0 {sc : Option (Nat × (Nat → Int32))} {d k n : Nat} {P : am_O → Prop} {I : am_I} {J : am_J} {Pf : am_R} (hp : am_PF Pf) {x0 : Nat} (hx0 : am_SH[x0]? = some (.inl 2)) {x1 : Int32} {l2 : Option Value} {l3 : Option Value} (q : (am_mth d 45 [.ref x0, .int x1] (am_SH, I, J, Pf) (am_af sc d 44 2 [some (.ref x0), some (.int x1), l2, l3] [.int x1, .ref x0] [] (am_SH, I, J, Pf) k n true P))) : am_go sc d 44 (0, [some (.ref x0), some (.int x1), l2, l3], [], (am_SH, I, J, Pf), k, n) P := by
  refine am_s_aload_n rfl dc44_0.1.1.1 ?_
  refine am_s_iload_n rfl dc44_0.1.1.2 ?_
  exact am_s_virtual true dc44_0.1.2.1 rfl (by decide) rfl hx0 rfl (q)
theorem v44_12 {sc : Option (Nat × (Nat → Int32))} {d k n : Nat} {P : am_O → Prop} {I : am_I} {J : am_J} {Pf : am_R} (hp : am_PF Pf) {x0 : Nat} (hx0 : am_SH[x0]? = some (.inl 2)) {x1 : Int32} {x2 : Int32} {l3 : Option Value} (q : (if 150 ≤ x2 then (P (.inl (some (.int 0)), (am_SH, I, J, Pf), k, n)) else (Pf x0 4 = some 1) ∧ (am_mth d 55 [.ref 1] (am_SH, I, J, Pf) (am_af sc d 44 23 [some (.ref x0), some (.int x1), some (.int x2), l3] [.ref 1] [] (am_SH, I, J, Pf) k n false P)))) : am_go sc d 44 (12, [some (.ref x0), some (.int x1), some (.int x2), l3], [], (am_SH, I, J, Pf), k, n) P := by
  refine am_s_iload_n rfl dc44_1.1.1.1 ?_
  refine am_s_sipush am_cs150 dc44_1.1.1.2 ?_
  refine am_s_ic_ge dc44_1.1.2.1 rfl (fun c1 => ?_) (fun c1 => ?_)
  · refine am_s_iconst am_cc0 dc44_5.2.2.1 ?_
    exact am_s_zreturn dc44_5.2.2.2 rfl (by decide) ((vi_t q c1))
  · refine am_s_aload_n rfl dc44_1.1.2.2 ?_
    refine am_s_getR (r := 1) dc44_1.2.1.1 rfl hx0 rfl ((vi_f q c1).1) ?_
    exact am_s_virtual false dc44_1.2.1.2 rfl (by decide) rfl rfl rfl ((vi_f q c1).2)
theorem v44_47 {sc : Option (Nat × (Nat → Int32))} {d k n : Nat} {P : am_O → Prop} {I : am_I} {J : am_J} {Pf : am_R} (hp : am_PF Pf) {x0 : Nat} (hx0 : am_SH[x0]? = some (.inl 2)) {x1 : Int32} {x2 : Int32} {x3 : Int32} (q : (Pf x0 4 = some 1) ∧ (am_mth d 45 [.ref x0, .int x1] (am_SH, am_u I 1 3 ((I 1 3) + 1), J, Pf) (am_af sc d 44 62 [some (.ref x0), some (.int x1), some (.int x2), some (.int x3)] [.int x1, .ref x0] [] (am_SH, am_u I 1 3 ((I 1 3) + 1), J, Pf) k n true P))) : am_go sc d 44 (47, [some (.ref x0), some (.int x1), some (.int x2), some (.int x3)], [], (am_SH, I, J, Pf), k, n) P := by
  refine am_s_aload_n rfl dc44_3.1.2.1 ?_
  refine am_s_getR (r := 1) dc44_3.1.2.2 rfl hx0 rfl (q.1) ?_
  refine am_s_dup rfl dc44_3.2.1.1 ?_
  refine am_x_getI (x := I 1 3) dc44_3.2.1.2 rfl rfl (Or.inl rfl) rfl ?_
  refine am_s_iconst am_cc1 dc44_3.2.2.1 ?_
  refine am_s_iadd dc44_3.2.2.2 ?_
  refine am_s_putI dc44_4.1.1.1 rfl rfl rfl rfl ?_
  refine am_s_aload_n rfl dc44_4.1.1.2 ?_
  refine am_s_iload_n rfl dc44_4.1.2.1 ?_
  exact am_s_virtual true dc44_4.1.2.2 rfl (by decide) rfl hx0 rfl (q.2)
theorem v44_5 {sc : Option (Nat × (Nat → Int32))} {d k n : Nat} {P : am_O → Prop} {I : am_I} {J : am_J} {Pf : am_R} (hp : am_PF Pf) {x0 : Nat} (hx0 : am_SH[x0]? = some (.inl 2)) {x1 : Int32} {l2 : Option Value} {l3 : Option Value} {s0 : Int32} (q : (if s0 = 0 then (P (.inl (some (.int 0)), (am_SH, I, J, Pf), k, n)) else (am_go sc d 44 (12, [some (.ref x0), some (.int x1), some (.int 0), l3], [], (am_SH, I, J, Pf), k, n) P))) : am_go sc d 44 (5, [some (.ref x0), some (.int x1), l2, l3], [.int s0], (am_SH, I, J, Pf), k, n) P := by
  refine am_s_if_ne dc44_0.1.2.2 rfl (fun c1 => ?_) (fun c1 => ?_)
  · refine am_s_iconst am_cc0 dc44_0.2.2.1 ?_
    refine am_s_istore_n (ls' := [some (.ref x0), some (.int x1), some (.int 0), l3]) rfl rfl dc44_0.2.2.2 ?_
    exact (vi_f q c1)
  · refine am_s_iconst am_cc0 dc44_0.2.1.1 ?_
    exact am_s_zreturn dc44_0.2.1.2 rfl (by decide) ((vi_t q (Decidable.not_not.mp c1)))
theorem v44_26 {sc : Option (Nat × (Nat → Int32))} {d k n : Nat} {P : am_O → Prop} {I : am_I} {J : am_J} {Pf : am_R} (hp : am_PF Pf) {x0 : Nat} (hx0 : am_SH[x0]? = some (.inl 2)) {x1 : Int32} {x2 : Int32} {l3 : Option Value} {s0 : Int32} (q : (if s0 = 42 then (am_go sc d 44 (47, [some (.ref x0), some (.int x1), some (.int x2), some (.int s0)], [], (am_SH, I, J, Pf), k, n) P) else (if s0 = 47 then (am_go sc d 44 (47, [some (.ref x0), some (.int x1), some (.int x2), some (.int s0)], [], (am_SH, I, J, Pf), k, n) P) else (if s0 = 37 then (am_go sc d 44 (47, [some (.ref x0), some (.int x1), some (.int x2), some (.int s0)], [], (am_SH, I, J, Pf), k, n) P) else (P (.inl (some (.int 1)), (am_SH, I, J, Pf), k, n)))))) : am_go sc d 44 (26, [some (.ref x0), some (.int x1), some (.int x2), l3], [.int s0], (am_SH, I, J, Pf), k, n) P := by
  refine am_s_istore_n (ls' := [some (.ref x0), some (.int x1), some (.int x2), some (.int s0)]) rfl rfl dc44_1.2.2.1 ?_
  refine am_s_iload_n rfl dc44_1.2.2.2 ?_
  refine am_s_bipush am_cb42 dc44_2.1.1.1 ?_
  refine am_s_ic_eq dc44_2.1.1.2 rfl (fun c1 => ?_) (fun c1 => ?_)
  · exact (vi_t q c1)
  · refine am_s_iload_n rfl dc44_2.1.2.1 ?_
    refine am_s_bipush am_cb47 dc44_2.1.2.2 ?_
    refine am_s_ic_eq dc44_2.2.1.1 rfl (fun c2 => ?_) (fun c2 => ?_)
    · exact (vi_t (vi_f q c1) c2)
    · refine am_s_iload_n rfl dc44_2.2.1.2 ?_
      refine am_s_bipush am_cb37 dc44_2.2.2.1 ?_
      refine am_s_ic_eq dc44_2.2.2.2 rfl (fun c3 => ?_) (fun c3 => ?_)
      · exact (vi_t (vi_f (vi_f q c1) c2) c3)
      · refine am_s_iconst am_cc1 dc44_3.1.1.1 ?_
        exact am_s_zreturn dc44_3.1.1.2 rfl (by decide) ((vi_f (vi_f (vi_f q c1) c2) c3))
theorem v44_65 {sc : Option (Nat × (Nat → Int32))} {d k n : Nat} {P : am_O → Prop} {I : am_I} {J : am_J} {Pf : am_R} (hp : am_PF Pf) {x0 : Nat} (hx0 : am_SH[x0]? = some (.inl 2)) {x1 : Int32} {x2 : Int32} {x3 : Int32} {s0 : Int32} (q : (if s0 = 0 then (P (.inl (some (.int 0)), (am_SH, I, J, Pf), k, n)) else (if (I x0 2) < 150 then (am_in (I x0 2) 150 = true) ∧ (am_in ((am_u I (x0 + 1) (Int32.toNatClampNeg (I x0 2)) x3) x0 2) 150 = true) ∧ (am_go sc (d + 1) 44 (12, [some (.ref x0), some (.int x1), some (.int (x2 + 1)), some (.int x3)], [], (am_SH, am_u (am_u (am_u I (x0 + 1) (Int32.toNatClampNeg (I x0 2)) x3) (x0 + 2) (Int32.toNatClampNeg ((am_u I (x0 + 1) (Int32.toNatClampNeg (I x0 2)) x3) x0 2)) 0) x0 2 (((am_u (am_u I (x0 + 1) (Int32.toNatClampNeg (I x0 2)) x3) (x0 + 2) (Int32.toNatClampNeg ((am_u I (x0 + 1) (Int32.toNatClampNeg (I x0 2)) x3) x0 2)) 0) x0 2) + 1), J, Pf), k, n) P) else (am_go sc (d + 1) 44 (12, [some (.ref x0), some (.int x1), some (.int (x2 + 1)), some (.int x3)], [], (am_SH, I, J, Pf), k, n) P)))) : am_go sc (d + 1) 44 (65, [some (.ref x0), some (.int x1), some (.int x2), some (.int x3)], [.int s0], (am_SH, I, J, Pf), k, n) P := by
  refine am_s_if_ne dc44_4.2.1.1 rfl (fun c1 => ?_) (fun c1 => ?_)
  · refine am_s_aload_n rfl dc44_4.2.2.2 ?_
    refine am_s_iload_n rfl dc44_5.1.1 ?_
    refine am_s_iconst am_cc0 dc44_5.1.2.1 ?_
    refine am_s_virtual true dc44_5.1.2.2 rfl (by decide) rfl hx0 rfl (am_mth_of rfl rfl ?_)
    refine am_s_aload_n rfl dc41_0.1.1.1 ?_
    refine am_x_getI (x := I x0 2) dc41_0.1.1.2 rfl hx0 (Or.inl rfl) rfl ?_
    refine am_s_sipush am_cs150 dc41_0.1.2.1 ?_
    refine am_s_ic_lt dc41_0.1.2.2 rfl (fun c2 => ?_) (fun c2 => ?_)
    · refine am_s_aload_n rfl dc41_0.2.1.2 ?_
      refine am_s_getR (r := x0 + 1) dc41_0.2.2.1 rfl hx0 rfl (am_r2_0 hp hx0) ?_
      refine am_s_aload_n rfl dc41_0.2.2.2 ?_
      refine am_x_getI (x := I x0 2) dc41_1.1.1.1 rfl hx0 (Or.inl rfl) rfl ?_
      refine am_s_iload_n rfl dc41_1.1.1.2 ?_
      refine am_s_iastore dc41_1.1.2.1 (am_h2_0 hx0) ((vi_t (vi_f q c1) c2).1) rfl ?_
      refine am_s_aload_n rfl dc41_1.1.2.2 ?_
      refine am_s_getR (r := x0 + 2) dc41_1.2.1.1 rfl hx0 rfl (am_r2_1 hp hx0) ?_
      refine am_s_aload_n rfl dc41_1.2.1.2 ?_
      refine am_x_getI (x := (am_u I (x0 + 1) (Int32.toNatClampNeg (I x0 2)) x3) x0 2) dc41_1.2.2.1 rfl hx0 (Or.inl rfl) rfl ?_
      refine am_s_iload_n rfl dc41_1.2.2.2 ?_
      refine am_s_iastore dc41_2.1.1.1 (am_h2_1 hx0) ((vi_t (vi_f q c1) c2).2.1) rfl ?_
      refine am_s_aload_n rfl dc41_2.1.1.2 ?_
      refine am_s_dup rfl dc41_2.1.2.1 ?_
      refine am_x_getI (x := (am_u (am_u I (x0 + 1) (Int32.toNatClampNeg (I x0 2)) x3) (x0 + 2) (Int32.toNatClampNeg ((am_u I (x0 + 1) (Int32.toNatClampNeg (I x0 2)) x3) x0 2)) 0) x0 2) dc41_2.1.2.2 rfl hx0 (Or.inl rfl) rfl ?_
      refine am_s_iconst am_cc1 dc41_2.2.1.1 ?_
      refine am_s_iadd dc41_2.2.1.2 ?_
      refine am_s_putI dc41_2.2.2.1 rfl hx0 rfl rfl ?_
      refine am_s_return dc41_2.2.2.2 rfl (am_bkV ?_)
      refine am_s_iinc (ls' := [some (.ref x0), some (.int x1), some (.int (x2 + 1)), some (.int x3)]) am_cc1 rfl rfl dc44_5.2.1.1 ?_
      refine am_s_goto rfl dc44_5.2.1.2 ?_
      exact (vi_t (vi_f q c1) c2).2.2
    · refine am_s_return dc41_0.2.1.1 rfl (am_bkV ?_)
      refine am_s_iinc (ls' := [some (.ref x0), some (.int x1), some (.int (x2 + 1)), some (.int x3)]) am_cc1 rfl rfl dc44_5.2.1.1 ?_
      refine am_s_goto rfl dc44_5.2.1.2 ?_
      exact (vi_f (vi_f q c1) c2)
  · refine am_s_iconst am_cc0 dc44_4.2.1.2 ?_
    exact am_s_zreturn dc44_4.2.2.1 rfl (by decide) ((vi_t q (Decidable.not_not.mp c1)))
-- readUnit (I)Z
theorem v45_0 {sc : Option (Nat × (Nat → Int32))} {d k n : Nat} {P : am_O → Prop} {I : am_I} {J : am_J} {Pf : am_R} (hp : am_PF Pf) {x0 : Nat} (hx0 : am_SH[x0]? = some (.inl 2)) {x1 : Int32} {l2 : Option Value} {l3 : Option Value} (q : (Pf x0 4 = some 1) ∧ (am_mth d 55 [.ref 1] (am_SH, I, J, Pf) (am_af sc d 45 4 [some (.ref x0), some (.int x1), l2, l3] [.ref 1] [] (am_SH, I, J, Pf) k n false P))) : am_go sc d 45 (0, [some (.ref x0), some (.int x1), l2, l3], [], (am_SH, I, J, Pf), k, n) P := by
  refine am_s_aload_n rfl dc45_0.1.1.1 ?_
  refine am_s_getR (r := 1) dc45_0.1.1.2 rfl hx0 rfl (q.1) ?_
  exact am_s_virtual false dc45_0.1.2.1 rfl (by decide) rfl rfl rfl (q.2)
theorem v45_7 {sc : Option (Nat × (Nat → Int32))} {d k n : Nat} {P : am_O → Prop} {I : am_I} {J : am_J} {Pf : am_R} (hp : am_PF Pf) {x0 : Nat} (hx0 : am_SH[x0]? = some (.inl 2)) {x1 : Int32} {l2 : Option Value} {l3 : Option Value} {s0 : Int32} (q : (if s0 < 48 then (if s0 = 40 then (Pf x0 4 = some 1) ∧ (if ((I 1 4) + 1) ≤ 6 then (am_mth (d + 2) 43 [.ref x0, .int (x1 + 1)] (am_SH, am_u (am_u I 1 4 ((I 1 4) + 1)) 1 3 ((I 1 3) + 1), J, Pf) (am_af sc (d + 2) 45 85 [some (.ref x0), some (.int x1), some (.int s0), l3] [.int (x1 + 1), .ref x0] [] (am_SH, am_u (am_u I 1 4 ((I 1 4) + 1)) 1 3 ((I 1 3) + 1), J, Pf) k n true P)) else (if (I 1 5) = 0 then (P (.inl (some (.int 0)), (am_SH, am_u (am_u (am_u I 1 4 ((I 1 4) + 1)) 1 5 3) 1 6 (I 1 3), J, Pf), k, n)) else (P (.inl (some (.int 0)), (am_SH, am_u I 1 4 ((I 1 4) + 1), J, Pf), k, n)))) else (Pf x0 4 = some 1) ∧ (am_mth (d + 2) 59 [.ref 1] (am_SH, I, J, Pf) (am_af sc (d + 2) 45 118 [some (.ref x0), some (.int x1), some (.int s0), l3] [.ref 1] [] (am_SH, I, J, Pf) k n false P))) else (if 57 < s0 then (if s0 = 40 then (Pf x0 4 = some 1) ∧ (if ((I 1 4) + 1) ≤ 6 then (am_mth (d + 2) 43 [.ref x0, .int (x1 + 1)] (am_SH, am_u (am_u I 1 4 ((I 1 4) + 1)) 1 3 ((I 1 3) + 1), J, Pf) (am_af sc (d + 2) 45 85 [some (.ref x0), some (.int x1), some (.int s0), l3] [.int (x1 + 1), .ref x0] [] (am_SH, am_u (am_u I 1 4 ((I 1 4) + 1)) 1 3 ((I 1 3) + 1), J, Pf) k n true P)) else (if (I 1 5) = 0 then (P (.inl (some (.int 0)), (am_SH, am_u (am_u (am_u I 1 4 ((I 1 4) + 1)) 1 5 3) 1 6 (I 1 3), J, Pf), k, n)) else (P (.inl (some (.int 0)), (am_SH, am_u I 1 4 ((I 1 4) + 1), J, Pf), k, n)))) else (Pf x0 4 = some 1) ∧ (am_mth (d + 2) 59 [.ref 1] (am_SH, I, J, Pf) (am_af sc (d + 2) 45 118 [some (.ref x0), some (.int x1), some (.int s0), l3] [.ref 1] [] (am_SH, I, J, Pf) k n false P))) else (Pf x0 4 = some 1) ∧ (am_mth (d + 2) 58 [.ref 1, .int 999] (am_SH, I, J, Pf) (am_af sc (d + 2) 45 22 [some (.ref x0), some (.int x1), some (.int s0), l3] [.int 999, .ref 1] [] (am_SH, I, J, Pf) k n false P))))) : am_go sc (d + 2) 45 (7, [some (.ref x0), some (.int x1), l2, l3], [.int s0], (am_SH, I, J, Pf), k, n) P := by
  refine am_s_istore_n (ls' := [some (.ref x0), some (.int x1), some (.int s0), l3]) rfl rfl dc45_0.1.2.2 ?_
  refine am_s_iload_n rfl dc45_0.2.1.1 ?_
  refine am_s_static dc45_0.2.1.2 rfl rfl rfl (am_mth_of rfl rfl ?_)
  refine am_s_iload_n rfl dc186_0.1.1.1 ?_
  refine am_s_bipush am_cb48 dc186_0.1.1.2 ?_
  refine am_s_ic_lt dc186_0.1.2.1 rfl (fun c1 => ?_) (fun c1 => ?_)
  · refine am_s_iconst am_cc0 dc186_1.1 ?_
    refine am_s_zreturn dc186_1.2 rfl (by decide) (am_bkI ?_)
    refine am_s_if_eq dc45_0.2.2.1 rfl (fun _ => ?_) (fun z => absurd z (by decide))
    refine am_s_iload_n rfl dc45_2.2.2.2 ?_
    refine am_s_bipush am_cb40 dc45_3.1.1.1 ?_
    refine am_s_ic_ne dc45_3.1.1.2 rfl (fun c2 => ?_) (fun c2 => ?_)
    · refine am_s_aload_n rfl dc45_7.2.1.1 ?_
      refine am_s_getR (r := 1) dc45_7.2.1.2 rfl hx0 rfl ((vi_f (vi_t q c1) c2).1) ?_
      exact am_s_virtual false dc45_7.2.2.1 rfl (by decide) rfl rfl rfl ((vi_f (vi_t q c1) c2).2)
    · refine am_s_aload_n rfl dc45_3.1.2.1 ?_
      refine am_s_getR (r := 1) dc45_3.1.2.2 rfl hx0 rfl ((vi_t (vi_t q c1) (Decidable.not_not.mp c2)).1) ?_
      refine am_s_aload_n rfl dc45_3.2.1.1 ?_
      refine am_s_getR (r := 1) dc45_3.2.1.2 rfl hx0 rfl ((vi_t (vi_t q c1) (Decidable.not_not.mp c2)).1) ?_
      refine am_x_getI (x := I 1 3) dc45_3.2.2.1 rfl rfl (Or.inl rfl) rfl ?_
      refine am_s_virtual false dc45_3.2.2.2 rfl (by decide) rfl rfl rfl (am_mth_of rfl rfl ?_)
      refine am_s_aload_n rfl dc61_0.1.1.1 ?_
      refine am_s_dup rfl dc61_0.1.1.2 ?_
      refine am_x_getI (x := I 1 4) dc61_0.1.2.1 rfl rfl (Or.inl rfl) rfl ?_
      refine am_s_iconst am_cc1 dc61_0.1.2.2 ?_
      refine am_s_iadd dc61_0.2.1.1 ?_
      refine am_s_putI dc61_0.2.1.2 rfl rfl rfl rfl ?_
      refine am_s_aload_n rfl dc61_0.2.2.1 ?_
      refine am_x_getI (x := (I 1 4) + 1) dc61_0.2.2.2 rfl rfl (Or.inl rfl) rfl ?_
      refine am_s_bipush am_cb6 dc61_1.1.1.1 ?_
      refine am_s_ic_le dc61_1.1.1.2 rfl (fun c3 => ?_) (fun c3 => ?_)
      · refine am_s_iconst am_cc1 dc61_1.2.2.2 ?_
        refine am_s_goto rfl dc61_2.1 ?_
        refine am_s_zreturn dc61_2.2.2 rfl (by decide) (am_bkI ?_)
        refine am_s_if_ne dc45_4.1.1.1 rfl (fun _ => ?_) (fun z => absurd z (by decide))
        refine am_s_aload_n rfl dc45_4.1.2.2 ?_
        refine am_s_getR (r := 1) dc45_4.2.1.1 rfl hx0 rfl ((vi_t (vi_t q c1) (Decidable.not_not.mp c2)).1) ?_
        refine am_s_dup rfl dc45_4.2.1.2 ?_
        refine am_x_getI (x := I 1 3) dc45_4.2.2.1 rfl rfl (Or.inl rfl) rfl ?_
        refine am_s_iconst am_cc1 dc45_4.2.2.2 ?_
        refine am_s_iadd dc45_5.1.1.1 ?_
        refine am_s_putI dc45_5.1.1.2 rfl rfl rfl rfl ?_
        refine am_s_aload_n rfl dc45_5.1.2.1 ?_
        refine am_s_iload_n rfl dc45_5.1.2.2 ?_
        refine am_s_iconst am_cc1 dc45_5.2.1.1 ?_
        refine am_s_iadd dc45_5.2.1.2 ?_
        exact am_s_virtual true dc45_5.2.2.1 rfl (by decide) rfl hx0 rfl ((vi_t (vi_t (vi_t q c1) (Decidable.not_not.mp c2)).2 c3))
      · refine am_s_aload_n rfl dc61_1.1.2.1 ?_
        refine am_s_iconst am_cc3 dc61_1.1.2.2 ?_
        refine am_s_iload_n rfl dc61_1.2.1.1 ?_
        refine am_s_virtual true dc61_1.2.1.2 rfl (by decide) rfl rfl rfl (am_mth_of rfl rfl ?_)
        refine am_s_aload_n rfl dc53_0.1.1.1 ?_
        refine am_x_getI (x := I 1 5) dc53_0.1.1.2 rfl rfl (Or.inl rfl) rfl ?_
        refine am_s_if_ne dc53_0.1.2.1 rfl (fun c4 => ?_) (fun c4 => ?_)
        · refine am_s_iconst am_cc0 dc53_1.2.1 ?_
          refine am_s_zreturn dc53_1.2.2 rfl (by decide) (am_bkI ?_)
          refine am_s_if_eq dc61_1.2.2.1 rfl (fun _ => ?_) (fun z => absurd z (by decide))
          refine am_s_iconst am_cc0 dc61_2.2.1 ?_
          refine am_s_zreturn dc61_2.2.2 rfl (by decide) (am_bkI ?_)
          refine am_s_if_ne dc45_4.1.1.1 rfl (fun z => absurd z (by decide)) (fun _ => ?_)
          refine am_s_iconst am_cc0 dc45_4.1.1.2 ?_
          exact am_s_zreturn dc45_4.1.2.1 rfl (by decide) ((vi_f (vi_f (vi_t (vi_t q c1) (Decidable.not_not.mp c2)).2 c3) c4))
        · refine am_s_aload_n rfl dc53_0.1.2.2 ?_
          refine am_s_iload_n rfl dc53_0.2.1.1 ?_
          refine am_s_putI dc53_0.2.1.2 rfl rfl rfl rfl ?_
          refine am_s_aload_n rfl dc53_0.2.2.1 ?_
          refine am_s_iload_n rfl dc53_0.2.2.2 ?_
          refine am_s_putI dc53_1.1 rfl rfl rfl rfl ?_
          refine am_s_iconst am_cc0 dc53_1.2.1 ?_
          refine am_s_zreturn dc53_1.2.2 rfl (by decide) (am_bkI ?_)
          refine am_s_if_eq dc61_1.2.2.1 rfl (fun _ => ?_) (fun z => absurd z (by decide))
          refine am_s_iconst am_cc0 dc61_2.2.1 ?_
          refine am_s_zreturn dc61_2.2.2 rfl (by decide) (am_bkI ?_)
          refine am_s_if_ne dc45_4.1.1.1 rfl (fun z => absurd z (by decide)) (fun _ => ?_)
          refine am_s_iconst am_cc0 dc45_4.1.1.2 ?_
          exact am_s_zreturn dc45_4.1.2.1 rfl (by decide) ((vi_t (vi_f (vi_t (vi_t q c1) (Decidable.not_not.mp c2)).2 c3) (Decidable.not_not.mp c4)))
  · refine am_s_iload_n rfl dc186_0.1.2.2 ?_
    refine am_s_bipush am_cb57 dc186_0.2.1.1 ?_
    refine am_s_ic_gt dc186_0.2.1.2 rfl (fun c2 => ?_) (fun c2 => ?_)
    · refine am_s_iconst am_cc0 dc186_1.1 ?_
      refine am_s_zreturn dc186_1.2 rfl (by decide) (am_bkI ?_)
      refine am_s_if_eq dc45_0.2.2.1 rfl (fun _ => ?_) (fun z => absurd z (by decide))
      refine am_s_iload_n rfl dc45_2.2.2.2 ?_
      refine am_s_bipush am_cb40 dc45_3.1.1.1 ?_
      refine am_s_ic_ne dc45_3.1.1.2 rfl (fun c3 => ?_) (fun c3 => ?_)
      · refine am_s_aload_n rfl dc45_7.2.1.1 ?_
        refine am_s_getR (r := 1) dc45_7.2.1.2 rfl hx0 rfl ((vi_f (vi_t (vi_f q c1) c2) c3).1) ?_
        exact am_s_virtual false dc45_7.2.2.1 rfl (by decide) rfl rfl rfl ((vi_f (vi_t (vi_f q c1) c2) c3).2)
      · refine am_s_aload_n rfl dc45_3.1.2.1 ?_
        refine am_s_getR (r := 1) dc45_3.1.2.2 rfl hx0 rfl ((vi_t (vi_t (vi_f q c1) c2) (Decidable.not_not.mp c3)).1) ?_
        refine am_s_aload_n rfl dc45_3.2.1.1 ?_
        refine am_s_getR (r := 1) dc45_3.2.1.2 rfl hx0 rfl ((vi_t (vi_t (vi_f q c1) c2) (Decidable.not_not.mp c3)).1) ?_
        refine am_x_getI (x := I 1 3) dc45_3.2.2.1 rfl rfl (Or.inl rfl) rfl ?_
        refine am_s_virtual false dc45_3.2.2.2 rfl (by decide) rfl rfl rfl (am_mth_of rfl rfl ?_)
        refine am_s_aload_n rfl dc61_0.1.1.1 ?_
        refine am_s_dup rfl dc61_0.1.1.2 ?_
        refine am_x_getI (x := I 1 4) dc61_0.1.2.1 rfl rfl (Or.inl rfl) rfl ?_
        refine am_s_iconst am_cc1 dc61_0.1.2.2 ?_
        refine am_s_iadd dc61_0.2.1.1 ?_
        refine am_s_putI dc61_0.2.1.2 rfl rfl rfl rfl ?_
        refine am_s_aload_n rfl dc61_0.2.2.1 ?_
        refine am_x_getI (x := (I 1 4) + 1) dc61_0.2.2.2 rfl rfl (Or.inl rfl) rfl ?_
        refine am_s_bipush am_cb6 dc61_1.1.1.1 ?_
        refine am_s_ic_le dc61_1.1.1.2 rfl (fun c4 => ?_) (fun c4 => ?_)
        · refine am_s_iconst am_cc1 dc61_1.2.2.2 ?_
          refine am_s_goto rfl dc61_2.1 ?_
          refine am_s_zreturn dc61_2.2.2 rfl (by decide) (am_bkI ?_)
          refine am_s_if_ne dc45_4.1.1.1 rfl (fun _ => ?_) (fun z => absurd z (by decide))
          refine am_s_aload_n rfl dc45_4.1.2.2 ?_
          refine am_s_getR (r := 1) dc45_4.2.1.1 rfl hx0 rfl ((vi_t (vi_t (vi_f q c1) c2) (Decidable.not_not.mp c3)).1) ?_
          refine am_s_dup rfl dc45_4.2.1.2 ?_
          refine am_x_getI (x := I 1 3) dc45_4.2.2.1 rfl rfl (Or.inl rfl) rfl ?_
          refine am_s_iconst am_cc1 dc45_4.2.2.2 ?_
          refine am_s_iadd dc45_5.1.1.1 ?_
          refine am_s_putI dc45_5.1.1.2 rfl rfl rfl rfl ?_
          refine am_s_aload_n rfl dc45_5.1.2.1 ?_
          refine am_s_iload_n rfl dc45_5.1.2.2 ?_
          refine am_s_iconst am_cc1 dc45_5.2.1.1 ?_
          refine am_s_iadd dc45_5.2.1.2 ?_
          exact am_s_virtual true dc45_5.2.2.1 rfl (by decide) rfl hx0 rfl ((vi_t (vi_t (vi_t (vi_f q c1) c2) (Decidable.not_not.mp c3)).2 c4))
        · refine am_s_aload_n rfl dc61_1.1.2.1 ?_
          refine am_s_iconst am_cc3 dc61_1.1.2.2 ?_
          refine am_s_iload_n rfl dc61_1.2.1.1 ?_
          refine am_s_virtual true dc61_1.2.1.2 rfl (by decide) rfl rfl rfl (am_mth_of rfl rfl ?_)
          refine am_s_aload_n rfl dc53_0.1.1.1 ?_
          refine am_x_getI (x := I 1 5) dc53_0.1.1.2 rfl rfl (Or.inl rfl) rfl ?_
          refine am_s_if_ne dc53_0.1.2.1 rfl (fun c5 => ?_) (fun c5 => ?_)
          · refine am_s_iconst am_cc0 dc53_1.2.1 ?_
            refine am_s_zreturn dc53_1.2.2 rfl (by decide) (am_bkI ?_)
            refine am_s_if_eq dc61_1.2.2.1 rfl (fun _ => ?_) (fun z => absurd z (by decide))
            refine am_s_iconst am_cc0 dc61_2.2.1 ?_
            refine am_s_zreturn dc61_2.2.2 rfl (by decide) (am_bkI ?_)
            refine am_s_if_ne dc45_4.1.1.1 rfl (fun z => absurd z (by decide)) (fun _ => ?_)
            refine am_s_iconst am_cc0 dc45_4.1.1.2 ?_
            exact am_s_zreturn dc45_4.1.2.1 rfl (by decide) ((vi_f (vi_f (vi_t (vi_t (vi_f q c1) c2) (Decidable.not_not.mp c3)).2 c4) c5))
          · refine am_s_aload_n rfl dc53_0.1.2.2 ?_
            refine am_s_iload_n rfl dc53_0.2.1.1 ?_
            refine am_s_putI dc53_0.2.1.2 rfl rfl rfl rfl ?_
            refine am_s_aload_n rfl dc53_0.2.2.1 ?_
            refine am_s_iload_n rfl dc53_0.2.2.2 ?_
            refine am_s_putI dc53_1.1 rfl rfl rfl rfl ?_
            refine am_s_iconst am_cc0 dc53_1.2.1 ?_
            refine am_s_zreturn dc53_1.2.2 rfl (by decide) (am_bkI ?_)
            refine am_s_if_eq dc61_1.2.2.1 rfl (fun _ => ?_) (fun z => absurd z (by decide))
            refine am_s_iconst am_cc0 dc61_2.2.1 ?_
            refine am_s_zreturn dc61_2.2.2 rfl (by decide) (am_bkI ?_)
            refine am_s_if_ne dc45_4.1.1.1 rfl (fun z => absurd z (by decide)) (fun _ => ?_)
            refine am_s_iconst am_cc0 dc45_4.1.1.2 ?_
            exact am_s_zreturn dc45_4.1.2.1 rfl (by decide) ((vi_t (vi_f (vi_t (vi_t (vi_f q c1) c2) (Decidable.not_not.mp c3)).2 c4) (Decidable.not_not.mp c5)))
    · refine am_s_iconst am_cc1 dc186_0.2.2.1 ?_
      refine am_s_goto rfl dc186_0.2.2.2 ?_
      refine am_s_zreturn dc186_1.2 rfl (by decide) (am_bkI ?_)
      refine am_s_if_eq dc45_0.2.2.1 rfl (fun z => absurd z (by decide)) (fun _ => ?_)
      refine am_s_aload_n rfl dc45_0.2.2.2 ?_
      refine am_s_getR (r := 1) dc45_1.1.1.1 rfl hx0 rfl ((vi_f (vi_f q c1) c2).1) ?_
      refine am_s_sipush am_cs999 dc45_1.1.1.2 ?_
      exact am_s_virtual false dc45_1.1.2.1 rfl (by decide) rfl rfl rfl ((vi_f (vi_f q c1) c2).2)
theorem v45_25 {sc : Option (Nat × (Nat → Int32))} {d k n : Nat} {P : am_O → Prop} {I : am_I} {J : am_J} {Pf : am_R} (hp : am_PF Pf) {x0 : Nat} (hx0 : am_SH[x0]? = some (.inl 2)) {l1 : Option Value} {l2 : Option Value} {l3 : Option Value} {s0 : Int32} (hl2 : am_k1 l2 = true) (q : (if (I x0 2) < 150 then (am_in (I x0 2) 150 = true) ∧ (am_in ((am_u I (x0 + 1) (Int32.toNatClampNeg (I x0 2)) 0) x0 2) 150 = true) ∧ (if s0 = (-1) then (P (.inl (some (.int 0)), (am_SH, am_u (am_u (am_u I (x0 + 1) (Int32.toNatClampNeg (I x0 2)) 0) (x0 + 2) (Int32.toNatClampNeg ((am_u I (x0 + 1) (Int32.toNatClampNeg (I x0 2)) 0) x0 2)) s0) x0 2 (((am_u (am_u I (x0 + 1) (Int32.toNatClampNeg (I x0 2)) 0) (x0 + 2) (Int32.toNatClampNeg ((am_u I (x0 + 1) (Int32.toNatClampNeg (I x0 2)) 0) x0 2)) s0) x0 2) + 1), J, Pf), k, n)) else (P (.inl (some (.int 1)), (am_SH, am_u (am_u (am_u I (x0 + 1) (Int32.toNatClampNeg (I x0 2)) 0) (x0 + 2) (Int32.toNatClampNeg ((am_u I (x0 + 1) (Int32.toNatClampNeg (I x0 2)) 0) x0 2)) s0) x0 2 (((am_u (am_u I (x0 + 1) (Int32.toNatClampNeg (I x0 2)) 0) (x0 + 2) (Int32.toNatClampNeg ((am_u I (x0 + 1) (Int32.toNatClampNeg (I x0 2)) 0) x0 2)) s0) x0 2) + 1), J, Pf), k, n))) else (if s0 = (-1) then (P (.inl (some (.int 0)), (am_SH, I, J, Pf), k, n)) else (P (.inl (some (.int 1)), (am_SH, I, J, Pf), k, n))))) : am_go sc (d + 1) 45 (25, [some (.ref x0), l1, l2, l3], [.int s0], (am_SH, I, J, Pf), k, n) P := by
  refine am_s_istore_n (ls' := [some (.ref x0), l1, l2, some (.int s0)]) rfl (am_set1_k (am_kill_x (j := 2) rfl hl2) rfl) dc45_1.1.2.2 ?_
  refine am_s_aload_n rfl dc45_1.2.1.1 ?_
  refine am_s_iconst am_cc0 dc45_1.2.1.2 ?_
  refine am_s_iload_n rfl dc45_1.2.2.1 ?_
  refine am_s_virtual true dc45_1.2.2.2 rfl (by decide) rfl hx0 rfl (am_mth_of rfl rfl ?_)
  refine am_s_aload_n rfl dc41_0.1.1.1 ?_
  refine am_x_getI (x := I x0 2) dc41_0.1.1.2 rfl hx0 (Or.inl rfl) rfl ?_
  refine am_s_sipush am_cs150 dc41_0.1.2.1 ?_
  refine am_s_ic_lt dc41_0.1.2.2 rfl (fun c1 => ?_) (fun c1 => ?_)
  · refine am_s_aload_n rfl dc41_0.2.1.2 ?_
    refine am_s_getR (r := x0 + 1) dc41_0.2.2.1 rfl hx0 rfl (am_r2_0 hp hx0) ?_
    refine am_s_aload_n rfl dc41_0.2.2.2 ?_
    refine am_x_getI (x := I x0 2) dc41_1.1.1.1 rfl hx0 (Or.inl rfl) rfl ?_
    refine am_s_iload_n rfl dc41_1.1.1.2 ?_
    refine am_s_iastore dc41_1.1.2.1 (am_h2_0 hx0) ((vi_t q c1).1) rfl ?_
    refine am_s_aload_n rfl dc41_1.1.2.2 ?_
    refine am_s_getR (r := x0 + 2) dc41_1.2.1.1 rfl hx0 rfl (am_r2_1 hp hx0) ?_
    refine am_s_aload_n rfl dc41_1.2.1.2 ?_
    refine am_x_getI (x := (am_u I (x0 + 1) (Int32.toNatClampNeg (I x0 2)) 0) x0 2) dc41_1.2.2.1 rfl hx0 (Or.inl rfl) rfl ?_
    refine am_s_iload_n rfl dc41_1.2.2.2 ?_
    refine am_s_iastore dc41_2.1.1.1 (am_h2_1 hx0) ((vi_t q c1).2.1) rfl ?_
    refine am_s_aload_n rfl dc41_2.1.1.2 ?_
    refine am_s_dup rfl dc41_2.1.2.1 ?_
    refine am_x_getI (x := (am_u (am_u I (x0 + 1) (Int32.toNatClampNeg (I x0 2)) 0) (x0 + 2) (Int32.toNatClampNeg ((am_u I (x0 + 1) (Int32.toNatClampNeg (I x0 2)) 0) x0 2)) s0) x0 2) dc41_2.1.2.2 rfl hx0 (Or.inl rfl) rfl ?_
    refine am_s_iconst am_cc1 dc41_2.2.1.1 ?_
    refine am_s_iadd dc41_2.2.1.2 ?_
    refine am_s_putI dc41_2.2.2.1 rfl hx0 rfl rfl ?_
    refine am_s_return dc41_2.2.2.2 rfl (am_bkV ?_)
    refine am_s_iload_n rfl dc45_2.1.1.1 ?_
    refine am_s_iconst am_ccm1 dc45_2.1.1.2 ?_
    refine am_s_ic_eq dc45_2.1.2.1 rfl (fun c2 => ?_) (fun c2 => ?_)
    · refine am_s_iconst am_cc0 dc45_2.2.1.2 ?_
      exact am_s_zreturn dc45_2.2.2.1 rfl (by decide) ((vi_t (vi_t q c1).2.2 c2))
    · refine am_s_iconst am_cc1 dc45_2.1.2.2 ?_
      refine am_s_goto rfl dc45_2.2.1.1 ?_
      exact am_s_zreturn dc45_2.2.2.1 rfl (by decide) ((vi_f (vi_t q c1).2.2 c2))
  · refine am_s_return dc41_0.2.1.1 rfl (am_bkV ?_)
    refine am_s_iload_n rfl dc45_2.1.1.1 ?_
    refine am_s_iconst am_ccm1 dc45_2.1.1.2 ?_
    refine am_s_ic_eq dc45_2.1.2.1 rfl (fun c2 => ?_) (fun c2 => ?_)
    · refine am_s_iconst am_cc0 dc45_2.2.1.2 ?_
      exact am_s_zreturn dc45_2.2.2.1 rfl (by decide) ((vi_t (vi_f q c1) c2))
    · refine am_s_iconst am_cc1 dc45_2.1.2.2 ?_
      refine am_s_goto rfl dc45_2.2.1.1 ?_
      exact am_s_zreturn dc45_2.2.2.1 rfl (by decide) ((vi_f (vi_f q c1) c2))
theorem v45_88 {sc : Option (Nat × (Nat → Int32))} {d k n : Nat} {P : am_O → Prop} {I : am_I} {J : am_J} {Pf : am_R} (hp : am_PF Pf) {x0 : Nat} (hx0 : am_SH[x0]? = some (.inl 2)) {l1 : Option Value} {l2 : Option Value} {l3 : Option Value} {s0 : Int32} (q : (if s0 = 0 then (P (.inl (some (.int 0)), (am_SH, I, J, Pf), k, n)) else (Pf x0 4 = some 1) ∧ (am_mth d 56 [.ref 1, .int 41] (am_SH, I, J, Pf) (am_af sc d 45 97 [some (.ref x0), l1, l2, l3] [.int 41, .ref 1] [] (am_SH, I, J, Pf) k n false P)))) : am_go sc d 45 (88, [some (.ref x0), l1, l2, l3], [.int s0], (am_SH, I, J, Pf), k, n) P := by
  refine am_s_if_eq dc45_5.2.2.2 rfl (fun c1 => ?_) (fun c1 => ?_)
  · refine am_s_iconst am_cc0 dc45_6.2.1.2 ?_
    exact am_s_zreturn dc45_6.2.2.1 rfl (by decide) ((vi_t q c1))
  · refine am_s_aload_n rfl dc45_6.1.1.1 ?_
    refine am_s_getR (r := 1) dc45_6.1.1.2 rfl hx0 rfl ((vi_f q c1).1) ?_
    refine am_s_bipush am_cb41 dc45_6.1.2.1 ?_
    exact am_s_virtual false dc45_6.1.2.2 rfl (by decide) rfl rfl rfl ((vi_f q c1).2)
theorem v45_121 {sc : Option (Nat × (Nat → Int32))} {d k n : Nat} {P : am_O → Prop} {I : am_I} {J : am_J} {Pf : am_R} (hp : am_PF Pf) {x0 : Nat} (hx0 : am_SH[x0]? = some (.inl 2)) {x1 : Int32} {l2 : Option Value} {l3 : Option Value} {s0 : Int32} (q : (if s0 = 0 then (P (.inl (some (.int 0)), (am_SH, I, J, Pf), k, n)) else (Pf x0 4 = some 1) ∧ (am_mth d 60 [.ref 1, .retAddr 9] (am_SH, I, J, Pf) (am_af sc d 45 132 [some (.ref x0), some (.int x1), l2, l3] [.retAddr 9, .ref 1] [] (am_SH, I, J, Pf) k n false P)))) : am_go sc d 45 (121, [some (.ref x0), some (.int x1), l2, l3], [.int s0], (am_SH, I, J, Pf), k, n) P := by
  refine am_s_if_ne dc45_7.2.2.2 rfl (fun c1 => ?_) (fun c1 => ?_)
  · refine am_s_aload_n rfl dc45_8.1.2.1 ?_
    refine am_s_getR (r := 1) dc45_8.1.2.2 rfl hx0 rfl ((vi_f q c1).1) ?_
    refine am_s_ldcT (x := 9) dc45_8.2.1.1 rfl rfl ?_
    exact am_s_virtual false dc45_8.2.1.2 rfl (by decide) rfl rfl rfl ((vi_f q c1).2)
  · refine am_s_iconst am_cc0 dc45_8.1.1.1 ?_
    exact am_s_zreturn dc45_8.1.1.2 rfl (by decide) ((vi_t q (Decidable.not_not.mp c1)))
theorem v45_100 {sc : Option (Nat × (Nat → Int32))} {d k n : Nat} {P : am_O → Prop} {I : am_I} {J : am_J} {Pf : am_R} (hp : am_PF Pf) {x0 : Nat} (hx0 : am_SH[x0]? = some (.inl 2)) {l1 : Option Value} {l2 : Option Value} {l3 : Option Value} {s0 : Int32} (q : (if s0 = 0 then (P (.inl (some (.int 0)), (am_SH, I, J, Pf), k, n)) else (Pf x0 4 = some 1) ∧ (P (.inl (some (.int 1)), (am_SH, am_u I 1 4 ((I 1 4) - 1), J, Pf), k, n)))) : am_go sc (d + 1) 45 (100, [some (.ref x0), l1, l2, l3], [.int s0], (am_SH, I, J, Pf), k, n) P := by
  refine am_s_if_ne dc45_6.2.1.1 rfl (fun c1 => ?_) (fun c1 => ?_)
  · refine am_s_aload_n rfl dc45_6.2.2.2 ?_
    refine am_s_getR (r := 1) dc45_7.1.1.1 rfl hx0 rfl ((vi_f q c1).1) ?_
    refine am_s_virtual false dc45_7.1.1.2 rfl (by decide) rfl rfl rfl (am_mth_of rfl rfl ?_)
    refine am_s_aload_n rfl dc62_0.1.1 ?_
    refine am_s_dup rfl dc62_0.1.2.1 ?_
    refine am_x_getI (x := I 1 4) dc62_0.1.2.2 rfl rfl (Or.inl rfl) rfl ?_
    refine am_s_iconst am_cc1 dc62_0.2.1.1 ?_
    refine am_s_isub dc62_0.2.1.2 ?_
    refine am_s_putI dc62_0.2.2.1 rfl rfl rfl rfl ?_
    refine am_s_return dc62_0.2.2.2 rfl (am_bkV ?_)
    refine am_s_iconst am_cc1 dc45_7.1.2.1 ?_
    exact am_s_zreturn dc45_7.1.2.2 rfl (by decide) ((vi_f q c1).2)
  · refine am_s_iconst am_cc0 dc45_6.2.1.2 ?_
    exact am_s_zreturn dc45_6.2.2.1 rfl (by decide) ((vi_t q (Decidable.not_not.mp c1)))
theorem v45_135 {sc : Option (Nat × (Nat → Int32))} {d k n : Nat} {P : am_O → Prop} {I : am_I} {J : am_J} {Pf : am_R} (hp : am_PF Pf) {x0 : Nat} (hx0 : am_SH[x0]? = some (.inl 2)) {x1 : Int32} {l2 : Option Value} {l3 : Option Value} {s0 : Int32} (q : (if s0 = 0 then (Pf x0 4 = some 1) ∧ (am_mth d 60 [.ref 1, .retAddr 10] (am_SH, I, J, Pf) (am_af sc d 45 151 [some (.ref x0), some (.int x1), l2, l3] [.retAddr 10, .ref 1] [] (am_SH, I, J, Pf) k n false P)) else (am_mth d 46 [.ref x0, .int 2, .int x1] (am_SH, I, J, Pf) (am_af sc d 45 141 [some (.ref x0), some (.int x1), l2, l3] [.int x1, .int 2, .ref x0] [] (am_SH, I, J, Pf) k n true P)))) : am_go sc d 45 (135, [some (.ref x0), some (.int x1), l2, l3], [.int s0], (am_SH, I, J, Pf), k, n) P := by
  refine am_s_if_eq dc45_8.2.2.1 rfl (fun c1 => ?_) (fun c1 => ?_)
  · refine am_s_aload_n rfl dc45_9.2.1.1 ?_
    refine am_s_getR (r := 1) dc45_9.2.1.2 rfl hx0 rfl ((vi_t q c1).1) ?_
    refine am_s_ldcT (x := 10) dc45_9.2.2.1 rfl rfl ?_
    exact am_s_virtual false dc45_9.2.2.2 rfl (by decide) rfl rfl rfl ((vi_t q c1).2)
  · refine am_s_aload_n rfl dc45_8.2.2.2 ?_
    refine am_s_iconst am_cc2 dc45_9.1.1.1 ?_
    refine am_s_iload_n rfl dc45_9.1.1.2 ?_
    exact am_s_virtual true dc45_9.1.2.1 rfl (by decide) rfl hx0 rfl ((vi_f q c1))
theorem v45_144 {sc : Option (Nat × (Nat → Int32))} {d k n : Nat} {P : am_O → Prop} {I : am_I} {J : am_J} {Pf : am_R} (hp : am_PF Pf) {l0 : Option Value} {l1 : Option Value} {l2 : Option Value} {l3 : Option Value} {s0 : Int32} (q : (s0 = 0 ∨ s0 = 1) ∧ (P (.inl (some (.int s0)), (am_SH, I, J, Pf), k, n))) : am_go sc d 45 (144, [l0, l1, l2, l3], [.int s0], (am_SH, I, J, Pf), k, n) P := by
  exact am_s_zreturn dc45_9.1.2.2 rfl (q.1) (q.2)
theorem v45_154 {sc : Option (Nat × (Nat → Int32))} {d k n : Nat} {P : am_O → Prop} {I : am_I} {J : am_J} {Pf : am_R} (hp : am_PF Pf) {x0 : Nat} (hx0 : am_SH[x0]? = some (.inl 2)) {x1 : Int32} {l2 : Option Value} {l3 : Option Value} {s0 : Int32} (q : (if s0 = 0 then (am_mth d 47 [.ref x0] (am_SH, I, J, Pf) (am_af sc d 45 165 [some (.ref x0), some (.int x1), l2, l3] [.ref x0] [] (am_SH, I, J, Pf) k n true P)) else (am_mth d 46 [.ref x0, .int 3, .int x1] (am_SH, I, J, Pf) (am_af sc d 45 160 [some (.ref x0), some (.int x1), l2, l3] [.int x1, .int 3, .ref x0] [] (am_SH, I, J, Pf) k n true P)))) : am_go sc d 45 (154, [some (.ref x0), some (.int x1), l2, l3], [.int s0], (am_SH, I, J, Pf), k, n) P := by
  refine am_s_if_eq dc45_10.1.1.1 rfl (fun c1 => ?_) (fun c1 => ?_)
  · refine am_s_aload_n rfl dc45_10.2.2.1 ?_
    exact am_s_virtual true dc45_10.2.2.2 rfl (by decide) rfl hx0 rfl ((vi_t q c1))
  · refine am_s_aload_n rfl dc45_10.1.1.2 ?_
    refine am_s_iconst am_cc3 dc45_10.1.2.1 ?_
    refine am_s_iload_n rfl dc45_10.1.2.2 ?_
    exact am_s_virtual true dc45_10.2.1.1 rfl (by decide) rfl hx0 rfl ((vi_f q c1))
theorem v45_163 {sc : Option (Nat × (Nat → Int32))} {d k n : Nat} {P : am_O → Prop} {I : am_I} {J : am_J} {Pf : am_R} (hp : am_PF Pf) {l0 : Option Value} {l1 : Option Value} {l2 : Option Value} {l3 : Option Value} {s0 : Int32} (q : (s0 = 0 ∨ s0 = 1) ∧ (P (.inl (some (.int s0)), (am_SH, I, J, Pf), k, n))) : am_go sc d 45 (163, [l0, l1, l2, l3], [.int s0], (am_SH, I, J, Pf), k, n) P := by
  exact am_s_zreturn dc45_10.2.1.2 rfl (q.1) (q.2)
theorem v45_168 {sc : Option (Nat × (Nat → Int32))} {d k n : Nat} {P : am_O → Prop} {I : am_I} {J : am_J} {Pf : am_R} (hp : am_PF Pf) {x0 : Nat} (hx0 : am_SH[x0]? = some (.inl 2)) {l1 : Option Value} {l2 : Option Value} {l3 : Option Value} {s0 : Int32} (hl2 : am_k1 l2 = true) (q : (if s0 = (-1) then (Pf x0 4 = some 1) ∧ (if (I 1 5) = 0 then (P (.inl (some (.int 0)), (am_SH, am_u (am_u I 1 5 1) 1 6 (I 1 7), J, Pf), k, n)) else (P (.inl (some (.int 0)), (am_SH, I, J, Pf), k, n))) else (if (I x0 2) < 150 then (am_in (I x0 2) 150 = true) ∧ (am_in ((am_u I (x0 + 1) (Int32.toNatClampNeg (I x0 2)) 1) x0 2) 150 = true) ∧ (P (.inl (some (.int 1)), (am_SH, am_u (am_u (am_u I (x0 + 1) (Int32.toNatClampNeg (I x0 2)) 1) (x0 + 2) (Int32.toNatClampNeg ((am_u I (x0 + 1) (Int32.toNatClampNeg (I x0 2)) 1) x0 2)) s0) x0 2 (((am_u (am_u I (x0 + 1) (Int32.toNatClampNeg (I x0 2)) 1) (x0 + 2) (Int32.toNatClampNeg ((am_u I (x0 + 1) (Int32.toNatClampNeg (I x0 2)) 1) x0 2)) s0) x0 2) + 1), J, Pf), k, n)) else (P (.inl (some (.int 1)), (am_SH, I, J, Pf), k, n))))) : am_go sc (d + 1) 45 (168, [some (.ref x0), l1, l2, l3], [.int s0], (am_SH, I, J, Pf), k, n) P := by
  refine am_s_istore_n (ls' := [some (.ref x0), l1, l2, some (.int s0)]) rfl (am_set1_k (am_kill_x (j := 2) rfl hl2) rfl) dc45_11.1.1.1 ?_
  refine am_s_iload_n rfl dc45_11.1.1.2 ?_
  refine am_s_iconst am_ccm1 dc45_11.1.2.1 ?_
  refine am_s_ic_ne dc45_11.1.2.2 rfl (fun c1 => ?_) (fun c1 => ?_)
  · refine am_s_aload_n rfl dc45_12.2.1.1 ?_
    refine am_s_iconst am_cc1 dc45_12.2.1.2 ?_
    refine am_s_iload_n rfl dc45_12.2.2.1 ?_
    refine am_s_virtual true dc45_12.2.2.2 rfl (by decide) rfl hx0 rfl (am_mth_of rfl rfl ?_)
    refine am_s_aload_n rfl dc41_0.1.1.1 ?_
    refine am_x_getI (x := I x0 2) dc41_0.1.1.2 rfl hx0 (Or.inl rfl) rfl ?_
    refine am_s_sipush am_cs150 dc41_0.1.2.1 ?_
    refine am_s_ic_lt dc41_0.1.2.2 rfl (fun c2 => ?_) (fun c2 => ?_)
    · refine am_s_aload_n rfl dc41_0.2.1.2 ?_
      refine am_s_getR (r := x0 + 1) dc41_0.2.2.1 rfl hx0 rfl (am_r2_0 hp hx0) ?_
      refine am_s_aload_n rfl dc41_0.2.2.2 ?_
      refine am_x_getI (x := I x0 2) dc41_1.1.1.1 rfl hx0 (Or.inl rfl) rfl ?_
      refine am_s_iload_n rfl dc41_1.1.1.2 ?_
      refine am_s_iastore dc41_1.1.2.1 (am_h2_0 hx0) ((vi_t (vi_f q c1) c2).1) rfl ?_
      refine am_s_aload_n rfl dc41_1.1.2.2 ?_
      refine am_s_getR (r := x0 + 2) dc41_1.2.1.1 rfl hx0 rfl (am_r2_1 hp hx0) ?_
      refine am_s_aload_n rfl dc41_1.2.1.2 ?_
      refine am_x_getI (x := (am_u I (x0 + 1) (Int32.toNatClampNeg (I x0 2)) 1) x0 2) dc41_1.2.2.1 rfl hx0 (Or.inl rfl) rfl ?_
      refine am_s_iload_n rfl dc41_1.2.2.2 ?_
      refine am_s_iastore dc41_2.1.1.1 (am_h2_1 hx0) ((vi_t (vi_f q c1) c2).2.1) rfl ?_
      refine am_s_aload_n rfl dc41_2.1.1.2 ?_
      refine am_s_dup rfl dc41_2.1.2.1 ?_
      refine am_x_getI (x := (am_u (am_u I (x0 + 1) (Int32.toNatClampNeg (I x0 2)) 1) (x0 + 2) (Int32.toNatClampNeg ((am_u I (x0 + 1) (Int32.toNatClampNeg (I x0 2)) 1) x0 2)) s0) x0 2) dc41_2.1.2.2 rfl hx0 (Or.inl rfl) rfl ?_
      refine am_s_iconst am_cc1 dc41_2.2.1.1 ?_
      refine am_s_iadd dc41_2.2.1.2 ?_
      refine am_s_putI dc41_2.2.2.1 rfl hx0 rfl rfl ?_
      refine am_s_return dc41_2.2.2.2 rfl (am_bkV ?_)
      refine am_s_iconst am_cc1 dc45_13.1 ?_
      exact am_s_zreturn dc45_13.2 rfl (by decide) ((vi_t (vi_f q c1) c2).2.2)
    · refine am_s_return dc41_0.2.1.1 rfl (am_bkV ?_)
      refine am_s_iconst am_cc1 dc45_13.1 ?_
      exact am_s_zreturn dc45_13.2 rfl (by decide) ((vi_f (vi_f q c1) c2))
  · refine am_s_aload_n rfl dc45_11.2.1.1 ?_
    refine am_s_getR (r := 1) dc45_11.2.1.2 rfl hx0 rfl ((vi_t q (Decidable.not_not.mp c1)).1) ?_
    refine am_s_iconst am_cc1 dc45_11.2.2.1 ?_
    refine am_s_aload_n rfl dc45_11.2.2.2 ?_
    refine am_s_getR (r := 1) dc45_12.1.1.1 rfl hx0 rfl ((vi_t q (Decidable.not_not.mp c1)).1) ?_
    refine am_x_getI (x := I 1 7) dc45_12.1.1.2 rfl rfl (Or.inl rfl) rfl ?_
    refine am_s_virtual false dc45_12.1.2.1 rfl (by decide) rfl rfl rfl (am_mth_of rfl rfl ?_)
    refine am_s_aload_n rfl dc53_0.1.1.1 ?_
    refine am_x_getI (x := I 1 5) dc53_0.1.1.2 rfl rfl (Or.inl rfl) rfl ?_
    refine am_s_if_ne dc53_0.1.2.1 rfl (fun c2 => ?_) (fun c2 => ?_)
    · refine am_s_iconst am_cc0 dc53_1.2.1 ?_
      refine am_s_zreturn dc53_1.2.2 rfl (by decide) (am_bkI ?_)
      exact am_s_zreturn dc45_12.1.2.2 rfl (by decide) ((vi_f (vi_t q (Decidable.not_not.mp c1)).2 c2))
    · refine am_s_aload_n rfl dc53_0.1.2.2 ?_
      refine am_s_iload_n rfl dc53_0.2.1.1 ?_
      refine am_s_putI dc53_0.2.1.2 rfl rfl rfl rfl ?_
      refine am_s_aload_n rfl dc53_0.2.2.1 ?_
      refine am_s_iload_n rfl dc53_0.2.2.2 ?_
      refine am_s_putI dc53_1.1 rfl rfl rfl rfl ?_
      refine am_s_iconst am_cc0 dc53_1.2.1 ?_
      refine am_s_zreturn dc53_1.2.2 rfl (by decide) (am_bkI ?_)
      exact am_s_zreturn dc45_12.1.2.2 rfl (by decide) ((vi_t (vi_t q (Decidable.not_not.mp c1)).2 (Decidable.not_not.mp c2)))
-- readPair (II)Z
theorem v46_0 {sc : Option (Nat × (Nat → Int32))} {d k n : Nat} {P : am_O → Prop} {I : am_I} {J : am_J} {Pf : am_R} (hp : am_PF Pf) {x0 : Nat} (hx0 : am_SH[x0]? = some (.inl 2)) {x1 : Int32} {x2 : Int32} (q : (Pf x0 4 = some 1) ∧ (if ((I 1 4) + 1) ≤ 6 then (am_mth (d + 2) 56 [.ref 1, .int 91] (am_SH, am_u I 1 4 ((I 1 4) + 1), J, Pf) (am_af sc (d + 2) 46 23 [some (.ref x0), some (.int x1), some (.int x2)] [.int 91, .ref 1] [] (am_SH, am_u I 1 4 ((I 1 4) + 1), J, Pf) k n false P)) else (if (I 1 5) = 0 then (P (.inl (some (.int 0)), (am_SH, am_u (am_u (am_u I 1 4 ((I 1 4) + 1)) 1 5 3) 1 6 (I 1 7), J, Pf), k, n)) else (P (.inl (some (.int 0)), (am_SH, am_u I 1 4 ((I 1 4) + 1), J, Pf), k, n))))) : am_go sc (d + 2) 46 (0, [some (.ref x0), some (.int x1), some (.int x2)], [], (am_SH, I, J, Pf), k, n) P := by
  refine am_s_aload_n rfl dc46_0.1.1.1 ?_
  refine am_s_getR (r := 1) dc46_0.1.1.2 rfl hx0 rfl (q.1) ?_
  refine am_s_aload_n rfl dc46_0.1.2.1 ?_
  refine am_s_getR (r := 1) dc46_0.1.2.2 rfl hx0 rfl (q.1) ?_
  refine am_x_getI (x := I 1 7) dc46_0.2.1.1 rfl rfl (Or.inl rfl) rfl ?_
  refine am_s_virtual false dc46_0.2.1.2 rfl (by decide) rfl rfl rfl (am_mth_of rfl rfl ?_)
  refine am_s_aload_n rfl dc61_0.1.1.1 ?_
  refine am_s_dup rfl dc61_0.1.1.2 ?_
  refine am_x_getI (x := I 1 4) dc61_0.1.2.1 rfl rfl (Or.inl rfl) rfl ?_
  refine am_s_iconst am_cc1 dc61_0.1.2.2 ?_
  refine am_s_iadd dc61_0.2.1.1 ?_
  refine am_s_putI dc61_0.2.1.2 rfl rfl rfl rfl ?_
  refine am_s_aload_n rfl dc61_0.2.2.1 ?_
  refine am_x_getI (x := (I 1 4) + 1) dc61_0.2.2.2 rfl rfl (Or.inl rfl) rfl ?_
  refine am_s_bipush am_cb6 dc61_1.1.1.1 ?_
  refine am_s_ic_le dc61_1.1.1.2 rfl (fun c1 => ?_) (fun c1 => ?_)
  · refine am_s_iconst am_cc1 dc61_1.2.2.2 ?_
    refine am_s_goto rfl dc61_2.1 ?_
    refine am_s_zreturn dc61_2.2.2 rfl (by decide) (am_bkI ?_)
    refine am_s_if_eq dc46_0.2.2.1 rfl (fun z => absurd z (by decide)) (fun _ => ?_)
    refine am_s_aload_n rfl dc46_0.2.2.2 ?_
    refine am_s_getR (r := 1) dc46_1.1.1.1 rfl hx0 rfl (q.1) ?_
    refine am_s_bipush am_cb91 dc46_1.1.1.2 ?_
    exact am_s_virtual false dc46_1.1.2.1 rfl (by decide) rfl rfl rfl ((vi_t q.2 c1))
  · refine am_s_aload_n rfl dc61_1.1.2.1 ?_
    refine am_s_iconst am_cc3 dc61_1.1.2.2 ?_
    refine am_s_iload_n rfl dc61_1.2.1.1 ?_
    refine am_s_virtual true dc61_1.2.1.2 rfl (by decide) rfl rfl rfl (am_mth_of rfl rfl ?_)
    refine am_s_aload_n rfl dc53_0.1.1.1 ?_
    refine am_x_getI (x := I 1 5) dc53_0.1.1.2 rfl rfl (Or.inl rfl) rfl ?_
    refine am_s_if_ne dc53_0.1.2.1 rfl (fun c2 => ?_) (fun c2 => ?_)
    · refine am_s_iconst am_cc0 dc53_1.2.1 ?_
      refine am_s_zreturn dc53_1.2.2 rfl (by decide) (am_bkI ?_)
      refine am_s_if_eq dc61_1.2.2.1 rfl (fun _ => ?_) (fun z => absurd z (by decide))
      refine am_s_iconst am_cc0 dc61_2.2.1 ?_
      refine am_s_zreturn dc61_2.2.2 rfl (by decide) (am_bkI ?_)
      refine am_s_if_eq dc46_0.2.2.1 rfl (fun _ => ?_) (fun z => absurd z (by decide))
      refine am_s_iconst am_cc0 dc46_1.2.1.1 ?_
      exact am_s_zreturn dc46_1.2.1.2 rfl (by decide) ((vi_f (vi_f q.2 c1) c2))
    · refine am_s_aload_n rfl dc53_0.1.2.2 ?_
      refine am_s_iload_n rfl dc53_0.2.1.1 ?_
      refine am_s_putI dc53_0.2.1.2 rfl rfl rfl rfl ?_
      refine am_s_aload_n rfl dc53_0.2.2.1 ?_
      refine am_s_iload_n rfl dc53_0.2.2.2 ?_
      refine am_s_putI dc53_1.1 rfl rfl rfl rfl ?_
      refine am_s_iconst am_cc0 dc53_1.2.1 ?_
      refine am_s_zreturn dc53_1.2.2 rfl (by decide) (am_bkI ?_)
      refine am_s_if_eq dc61_1.2.2.1 rfl (fun _ => ?_) (fun z => absurd z (by decide))
      refine am_s_iconst am_cc0 dc61_2.2.1 ?_
      refine am_s_zreturn dc61_2.2.2 rfl (by decide) (am_bkI ?_)
      refine am_s_if_eq dc46_0.2.2.1 rfl (fun _ => ?_) (fun z => absurd z (by decide))
      refine am_s_iconst am_cc0 dc46_1.2.1.1 ?_
      exact am_s_zreturn dc46_1.2.1.2 rfl (by decide) ((vi_t (vi_f q.2 c1) (Decidable.not_not.mp c2)))
theorem v46_26 {sc : Option (Nat × (Nat → Int32))} {d k n : Nat} {P : am_O → Prop} {I : am_I} {J : am_J} {Pf : am_R} (hp : am_PF Pf) {x0 : Nat} (hx0 : am_SH[x0]? = some (.inl 2)) {x1 : Int32} {x2 : Int32} {s0 : Int32} (q : (if s0 = 0 then (P (.inl (some (.int 0)), (am_SH, I, J, Pf), k, n)) else (am_mth d 43 [.ref x0, .int (x2 + 1)] (am_SH, I, J, Pf) (am_af sc d 46 35 [some (.ref x0), some (.int x1), some (.int x2)] [.int (x2 + 1), .ref x0] [] (am_SH, I, J, Pf) k n true P)))) : am_go sc d 46 (26, [some (.ref x0), some (.int x1), some (.int x2)], [.int s0], (am_SH, I, J, Pf), k, n) P := by
  refine am_s_if_ne dc46_1.1.2.2 rfl (fun c1 => ?_) (fun c1 => ?_)
  · refine am_s_aload_n rfl dc46_1.2.2.1 ?_
    refine am_s_iload_n rfl dc46_1.2.2.2 ?_
    refine am_s_iconst am_cc1 dc46_2.1.1.1 ?_
    refine am_s_iadd dc46_2.1.1.2 ?_
    exact am_s_virtual true dc46_2.1.2.1 rfl (by decide) rfl hx0 rfl ((vi_f q c1))
  · refine am_s_iconst am_cc0 dc46_1.2.1.1 ?_
    exact am_s_zreturn dc46_1.2.1.2 rfl (by decide) ((vi_t q (Decidable.not_not.mp c1)))
theorem v46_38 {sc : Option (Nat × (Nat → Int32))} {d k n : Nat} {P : am_O → Prop} {I : am_I} {J : am_J} {Pf : am_R} (hp : am_PF Pf) {x0 : Nat} (hx0 : am_SH[x0]? = some (.inl 2)) {x1 : Int32} {x2 : Int32} {s0 : Int32} (q : (if s0 = 0 then (P (.inl (some (.int 0)), (am_SH, I, J, Pf), k, n)) else (Pf x0 4 = some 1) ∧ (am_mth d 56 [.ref 1, .int 44] (am_SH, I, J, Pf) (am_af sc d 46 47 [some (.ref x0), some (.int x1), some (.int x2)] [.int 44, .ref 1] [] (am_SH, I, J, Pf) k n false P)))) : am_go sc d 46 (38, [some (.ref x0), some (.int x1), some (.int x2)], [.int s0], (am_SH, I, J, Pf), k, n) P := by
  refine am_s_if_eq dc46_2.1.2.2 rfl (fun c1 => ?_) (fun c1 => ?_)
  · refine am_s_iconst am_cc0 dc46_3.1.1.2 ?_
    exact am_s_zreturn dc46_3.1.2.1 rfl (by decide) ((vi_t q c1))
  · refine am_s_aload_n rfl dc46_2.2.1.1 ?_
    refine am_s_getR (r := 1) dc46_2.2.1.2 rfl hx0 rfl ((vi_f q c1).1) ?_
    refine am_s_bipush am_cb44 dc46_2.2.2.1 ?_
    exact am_s_virtual false dc46_2.2.2.2 rfl (by decide) rfl rfl rfl ((vi_f q c1).2)
theorem v46_50 {sc : Option (Nat × (Nat → Int32))} {d k n : Nat} {P : am_O → Prop} {I : am_I} {J : am_J} {Pf : am_R} (hp : am_PF Pf) {x0 : Nat} (hx0 : am_SH[x0]? = some (.inl 2)) {x1 : Int32} {x2 : Int32} {s0 : Int32} (q : (if s0 = 0 then (P (.inl (some (.int 0)), (am_SH, I, J, Pf), k, n)) else (am_mth d 43 [.ref x0, .int (x2 + 1)] (am_SH, I, J, Pf) (am_af sc d 46 59 [some (.ref x0), some (.int x1), some (.int x2)] [.int (x2 + 1), .ref x0] [] (am_SH, I, J, Pf) k n true P)))) : am_go sc d 46 (50, [some (.ref x0), some (.int x1), some (.int x2)], [.int s0], (am_SH, I, J, Pf), k, n) P := by
  refine am_s_if_ne dc46_3.1.1.1 rfl (fun c1 => ?_) (fun c1 => ?_)
  · refine am_s_aload_n rfl dc46_3.1.2.2 ?_
    refine am_s_iload_n rfl dc46_3.2.1.1 ?_
    refine am_s_iconst am_cc1 dc46_3.2.1.2 ?_
    refine am_s_iadd dc46_3.2.2.1 ?_
    exact am_s_virtual true dc46_3.2.2.2 rfl (by decide) rfl hx0 rfl ((vi_f q c1))
  · refine am_s_iconst am_cc0 dc46_3.1.1.2 ?_
    exact am_s_zreturn dc46_3.1.2.1 rfl (by decide) ((vi_t q (Decidable.not_not.mp c1)))
theorem v46_62 {sc : Option (Nat × (Nat → Int32))} {d k n : Nat} {P : am_O → Prop} {I : am_I} {J : am_J} {Pf : am_R} (hp : am_PF Pf) {x0 : Nat} (hx0 : am_SH[x0]? = some (.inl 2)) {x1 : Int32} {l2 : Option Value} {s0 : Int32} (q : (if s0 = 0 then (P (.inl (some (.int 0)), (am_SH, I, J, Pf), k, n)) else (Pf x0 4 = some 1) ∧ (am_mth d 56 [.ref 1, .int 93] (am_SH, I, J, Pf) (am_af sc d 46 71 [some (.ref x0), some (.int x1), l2] [.int 93, .ref 1] [] (am_SH, I, J, Pf) k n false P)))) : am_go sc d 46 (62, [some (.ref x0), some (.int x1), l2], [.int s0], (am_SH, I, J, Pf), k, n) P := by
  refine am_s_if_eq dc46_4.1.1.1 rfl (fun c1 => ?_) (fun c1 => ?_)
  · refine am_s_iconst am_cc0 dc46_4.2.2.1 ?_
    exact am_s_zreturn dc46_4.2.2.2 rfl (by decide) ((vi_t q c1))
  · refine am_s_aload_n rfl dc46_4.1.1.2 ?_
    refine am_s_getR (r := 1) dc46_4.1.2.1 rfl hx0 rfl ((vi_f q c1).1) ?_
    refine am_s_bipush am_cb93 dc46_4.1.2.2 ?_
    exact am_s_virtual false dc46_4.2.1.1 rfl (by decide) rfl rfl rfl ((vi_f q c1).2)
theorem v46_74 {sc : Option (Nat × (Nat → Int32))} {d k n : Nat} {P : am_O → Prop} {I : am_I} {J : am_J} {Pf : am_R} (hp : am_PF Pf) {x0 : Nat} (hx0 : am_SH[x0]? = some (.inl 2)) {x1 : Int32} {l2 : Option Value} {s0 : Int32} (q : (if s0 = 0 then (P (.inl (some (.int 0)), (am_SH, I, J, Pf), k, n)) else (Pf x0 4 = some 1) ∧ (if ((am_u I 1 4 ((I 1 4) - 1)) x0 2) < 150 then (am_in ((am_u I 1 4 ((I 1 4) - 1)) x0 2) 150 = true) ∧ (am_in ((am_u (am_u I 1 4 ((I 1 4) - 1)) (x0 + 1) (Int32.toNatClampNeg ((am_u I 1 4 ((I 1 4) - 1)) x0 2)) x1) x0 2) 150 = true) ∧ (P (.inl (some (.int 1)), (am_SH, am_u (am_u (am_u (am_u I 1 4 ((I 1 4) - 1)) (x0 + 1) (Int32.toNatClampNeg ((am_u I 1 4 ((I 1 4) - 1)) x0 2)) x1) (x0 + 2) (Int32.toNatClampNeg ((am_u (am_u I 1 4 ((I 1 4) - 1)) (x0 + 1) (Int32.toNatClampNeg ((am_u I 1 4 ((I 1 4) - 1)) x0 2)) x1) x0 2)) 0) x0 2 (((am_u (am_u (am_u I 1 4 ((I 1 4) - 1)) (x0 + 1) (Int32.toNatClampNeg ((am_u I 1 4 ((I 1 4) - 1)) x0 2)) x1) (x0 + 2) (Int32.toNatClampNeg ((am_u (am_u I 1 4 ((I 1 4) - 1)) (x0 + 1) (Int32.toNatClampNeg ((am_u I 1 4 ((I 1 4) - 1)) x0 2)) x1) x0 2)) 0) x0 2) + 1), J, Pf), k, n)) else (P (.inl (some (.int 1)), (am_SH, am_u I 1 4 ((I 1 4) - 1), J, Pf), k, n))))) : am_go sc (d + 1) 46 (74, [some (.ref x0), some (.int x1), l2], [.int s0], (am_SH, I, J, Pf), k, n) P := by
  refine am_s_if_ne dc46_4.2.1.2 rfl (fun c1 => ?_) (fun c1 => ?_)
  · refine am_s_aload_n rfl dc46_5.1.1.1 ?_
    refine am_s_getR (r := 1) dc46_5.1.1.2 rfl hx0 rfl ((vi_f q c1).1) ?_
    refine am_s_virtual false dc46_5.1.2.1 rfl (by decide) rfl rfl rfl (am_mth_of rfl rfl ?_)
    refine am_s_aload_n rfl dc62_0.1.1 ?_
    refine am_s_dup rfl dc62_0.1.2.1 ?_
    refine am_x_getI (x := I 1 4) dc62_0.1.2.2 rfl rfl (Or.inl rfl) rfl ?_
    refine am_s_iconst am_cc1 dc62_0.2.1.1 ?_
    refine am_s_isub dc62_0.2.1.2 ?_
    refine am_s_putI dc62_0.2.2.1 rfl rfl rfl rfl ?_
    refine am_s_return dc62_0.2.2.2 rfl (am_bkV ?_)
    refine am_s_aload_n rfl dc46_5.1.2.2 ?_
    refine am_s_iload_n rfl dc46_5.2.1.1 ?_
    refine am_s_iconst am_cc0 dc46_5.2.1.2 ?_
    refine am_s_virtual true dc46_5.2.2.1 rfl (by decide) rfl hx0 rfl (am_mth_of rfl rfl ?_)
    refine am_s_aload_n rfl dc41_0.1.1.1 ?_
    refine am_x_getI (x := (am_u I 1 4 ((I 1 4) - 1)) x0 2) dc41_0.1.1.2 rfl hx0 (Or.inl rfl) rfl ?_
    refine am_s_sipush am_cs150 dc41_0.1.2.1 ?_
    refine am_s_ic_lt dc41_0.1.2.2 rfl (fun c2 => ?_) (fun c2 => ?_)
    · refine am_s_aload_n rfl dc41_0.2.1.2 ?_
      refine am_s_getR (r := x0 + 1) dc41_0.2.2.1 rfl hx0 rfl (am_r2_0 hp hx0) ?_
      refine am_s_aload_n rfl dc41_0.2.2.2 ?_
      refine am_x_getI (x := (am_u I 1 4 ((I 1 4) - 1)) x0 2) dc41_1.1.1.1 rfl hx0 (Or.inl rfl) rfl ?_
      refine am_s_iload_n rfl dc41_1.1.1.2 ?_
      refine am_s_iastore dc41_1.1.2.1 (am_h2_0 hx0) ((vi_t (vi_f q c1).2 c2).1) rfl ?_
      refine am_s_aload_n rfl dc41_1.1.2.2 ?_
      refine am_s_getR (r := x0 + 2) dc41_1.2.1.1 rfl hx0 rfl (am_r2_1 hp hx0) ?_
      refine am_s_aload_n rfl dc41_1.2.1.2 ?_
      refine am_x_getI (x := (am_u (am_u I 1 4 ((I 1 4) - 1)) (x0 + 1) (Int32.toNatClampNeg ((am_u I 1 4 ((I 1 4) - 1)) x0 2)) x1) x0 2) dc41_1.2.2.1 rfl hx0 (Or.inl rfl) rfl ?_
      refine am_s_iload_n rfl dc41_1.2.2.2 ?_
      refine am_s_iastore dc41_2.1.1.1 (am_h2_1 hx0) ((vi_t (vi_f q c1).2 c2).2.1) rfl ?_
      refine am_s_aload_n rfl dc41_2.1.1.2 ?_
      refine am_s_dup rfl dc41_2.1.2.1 ?_
      refine am_x_getI (x := (am_u (am_u (am_u I 1 4 ((I 1 4) - 1)) (x0 + 1) (Int32.toNatClampNeg ((am_u I 1 4 ((I 1 4) - 1)) x0 2)) x1) (x0 + 2) (Int32.toNatClampNeg ((am_u (am_u I 1 4 ((I 1 4) - 1)) (x0 + 1) (Int32.toNatClampNeg ((am_u I 1 4 ((I 1 4) - 1)) x0 2)) x1) x0 2)) 0) x0 2) dc41_2.1.2.2 rfl hx0 (Or.inl rfl) rfl ?_
      refine am_s_iconst am_cc1 dc41_2.2.1.1 ?_
      refine am_s_iadd dc41_2.2.1.2 ?_
      refine am_s_putI dc41_2.2.2.1 rfl hx0 rfl rfl ?_
      refine am_s_return dc41_2.2.2.2 rfl (am_bkV ?_)
      refine am_s_iconst am_cc1 dc46_5.2.2.2 ?_
      exact am_s_zreturn dc46_6 rfl (by decide) ((vi_t (vi_f q c1).2 c2).2.2)
    · refine am_s_return dc41_0.2.1.1 rfl (am_bkV ?_)
      refine am_s_iconst am_cc1 dc46_5.2.2.2 ?_
      exact am_s_zreturn dc46_6 rfl (by decide) ((vi_f (vi_f q c1).2 c2))
  · refine am_s_iconst am_cc0 dc46_4.2.2.1 ?_
    exact am_s_zreturn dc46_4.2.2.2 rfl (by decide) ((vi_t q (Decidable.not_not.mp c1)))
-- namedFact ()I
theorem v47_0 {sc : Option (Nat × (Nat → Int32))} {d k n : Nat} {P : am_O → Prop} {I : am_I} {J : am_J} {Pf : am_R} (hp : am_PF Pf) {x0 : Nat} (hx0 : am_SH[x0]? = some (.inl 2)) (q : (Pf x0 4 = some 1) ∧ (am_mth d 60 [.ref 1, .retAddr 11] (am_SH, I, J, Pf) (am_af sc d 47 6 [some (.ref x0)] [.retAddr 11, .ref 1] [] (am_SH, I, J, Pf) k n false P))) : am_go sc d 47 (0, [some (.ref x0)], [], (am_SH, I, J, Pf), k, n) P := by
  refine am_s_aload_n rfl dc47_0.1.1.1 ?_
  refine am_s_getR (r := 1) dc47_0.1.1.2 rfl hx0 rfl (q.1) ?_
  refine am_s_ldcT (x := 11) dc47_0.1.2.1 rfl rfl ?_
  exact am_s_virtual false dc47_0.1.2.2 rfl (by decide) rfl rfl rfl (q.2)
theorem v47_9 {sc : Option (Nat × (Nat → Int32))} {d k n : Nat} {P : am_O → Prop} {I : am_I} {J : am_J} {Pf : am_R} (hp : am_PF Pf) {x0 : Nat} (hx0 : am_SH[x0]? = some (.inl 2)) {s0 : Int32} (q : (if s0 = 0 then (Pf x0 4 = some 1) ∧ (am_mth d 60 [.ref 1, .retAddr 12] (am_SH, I, J, Pf) (am_af sc d 47 20 [some (.ref x0)] [.retAddr 12, .ref 1] [] (am_SH, I, J, Pf) k n false P)) else (P (.inl (some (.int 0)), (am_SH, I, J, Pf), k, n)))) : am_go sc d 47 (9, [some (.ref x0)], [.int s0], (am_SH, I, J, Pf), k, n) P := by
  refine am_s_if_eq dc47_0.2.1.1 rfl (fun c1 => ?_) (fun c1 => ?_)
  · refine am_s_aload_n rfl dc47_0.2.2.2 ?_
    refine am_s_getR (r := 1) dc47_1.1.1.1 rfl hx0 rfl ((vi_t q c1).1) ?_
    refine am_s_ldcT (x := 12) dc47_1.1.1.2 rfl rfl ?_
    exact am_s_virtual false dc47_1.1.2.1 rfl (by decide) rfl rfl rfl ((vi_t q c1).2)
  · refine am_s_iconst am_cc0 dc47_0.2.1.2 ?_
    exact am_s_ireturn dc47_0.2.2.1 rfl ((vi_f q c1))
theorem v47_23 {sc : Option (Nat × (Nat → Int32))} {d k n : Nat} {P : am_O → Prop} {I : am_I} {J : am_J} {Pf : am_R} (hp : am_PF Pf) {x0 : Nat} (hx0 : am_SH[x0]? = some (.inl 2)) {s0 : Int32} (q : (if s0 = 0 then (Pf x0 4 = some 1) ∧ (am_mth d 60 [.ref 1, .retAddr 13] (am_SH, I, J, Pf) (am_af sc d 47 34 [some (.ref x0)] [.retAddr 13, .ref 1] [] (am_SH, I, J, Pf) k n false P)) else (P (.inl (some (.int 1)), (am_SH, I, J, Pf), k, n)))) : am_go sc d 47 (23, [some (.ref x0)], [.int s0], (am_SH, I, J, Pf), k, n) P := by
  refine am_s_if_eq dc47_1.1.2.2 rfl (fun c1 => ?_) (fun c1 => ?_)
  · refine am_s_aload_n rfl dc47_1.2.2.1 ?_
    refine am_s_getR (r := 1) dc47_1.2.2.2 rfl hx0 rfl ((vi_t q c1).1) ?_
    refine am_s_ldcT (x := 13) dc47_2.1.1.1 rfl rfl ?_
    exact am_s_virtual false dc47_2.1.1.2 rfl (by decide) rfl rfl rfl ((vi_t q c1).2)
  · refine am_s_iconst am_cc1 dc47_1.2.1.1 ?_
    exact am_s_ireturn dc47_1.2.1.2 rfl ((vi_f q c1))
theorem v47_37 {sc : Option (Nat × (Nat → Int32))} {d k n : Nat} {P : am_O → Prop} {I : am_I} {J : am_J} {Pf : am_R} (hp : am_PF Pf) {x0 : Nat} (hx0 : am_SH[x0]? = some (.inl 2)) {s0 : Int32} (q : (if s0 = 0 then (Pf x0 4 = some 1) ∧ (am_mth d 60 [.ref 1, .retAddr 14] (am_SH, I, J, Pf) (am_af sc d 47 48 [some (.ref x0)] [.retAddr 14, .ref 1] [] (am_SH, I, J, Pf) k n false P)) else (P (.inl (some (.int 2)), (am_SH, I, J, Pf), k, n)))) : am_go sc d 47 (37, [some (.ref x0)], [.int s0], (am_SH, I, J, Pf), k, n) P := by
  refine am_s_if_eq dc47_2.1.2.1 rfl (fun c1 => ?_) (fun c1 => ?_)
  · refine am_s_aload_n rfl dc47_2.2.1.2 ?_
    refine am_s_getR (r := 1) dc47_2.2.2.1 rfl hx0 rfl ((vi_t q c1).1) ?_
    refine am_s_ldcT (x := 14) dc47_2.2.2.2 rfl rfl ?_
    exact am_s_virtual false dc47_3.1.1.1 rfl (by decide) rfl rfl rfl ((vi_t q c1).2)
  · refine am_s_iconst am_cc2 dc47_2.1.2.2 ?_
    exact am_s_ireturn dc47_2.2.1.1 rfl ((vi_f q c1))
theorem v47_51 {sc : Option (Nat × (Nat → Int32))} {d k n : Nat} {P : am_O → Prop} {I : am_I} {J : am_J} {Pf : am_R} (hp : am_PF Pf) {x0 : Nat} (hx0 : am_SH[x0]? = some (.inl 2)) {s0 : Int32} (q : (if s0 = 0 then (Pf x0 4 = some 1) ∧ (am_mth d 60 [.ref 1, .retAddr 15] (am_SH, I, J, Pf) (am_af sc d 47 62 [some (.ref x0)] [.retAddr 15, .ref 1] [] (am_SH, I, J, Pf) k n false P)) else (P (.inl (some (.int 3)), (am_SH, I, J, Pf), k, n)))) : am_go sc d 47 (51, [some (.ref x0)], [.int s0], (am_SH, I, J, Pf), k, n) P := by
  refine am_s_if_eq dc47_3.1.1.2 rfl (fun c1 => ?_) (fun c1 => ?_)
  · refine am_s_aload_n rfl dc47_3.2.1.1 ?_
    refine am_s_getR (r := 1) dc47_3.2.1.2 rfl hx0 rfl ((vi_t q c1).1) ?_
    refine am_s_ldcT (x := 15) dc47_3.2.2.1 rfl rfl ?_
    exact am_s_virtual false dc47_3.2.2.2 rfl (by decide) rfl rfl rfl ((vi_t q c1).2)
  · refine am_s_iconst am_cc3 dc47_3.1.2.1 ?_
    exact am_s_ireturn dc47_3.1.2.2 rfl ((vi_f q c1))
theorem v47_65 {sc : Option (Nat × (Nat → Int32))} {d k n : Nat} {P : am_O → Prop} {I : am_I} {J : am_J} {Pf : am_R} (hp : am_PF Pf) {x0 : Nat} (hx0 : am_SH[x0]? = some (.inl 2)) {s0 : Int32} (q : (if s0 = 0 then (Pf x0 4 = some 1) ∧ (am_mth d 60 [.ref 1, .retAddr 16] (am_SH, I, J, Pf) (am_af sc d 47 76 [some (.ref x0)] [.retAddr 16, .ref 1] [] (am_SH, I, J, Pf) k n false P)) else (P (.inl (some (.int 4)), (am_SH, I, J, Pf), k, n)))) : am_go sc d 47 (65, [some (.ref x0)], [.int s0], (am_SH, I, J, Pf), k, n) P := by
  refine am_s_if_eq dc47_4.1.1.1 rfl (fun c1 => ?_) (fun c1 => ?_)
  · refine am_s_aload_n rfl dc47_4.1.2.2 ?_
    refine am_s_getR (r := 1) dc47_4.2.1.1 rfl hx0 rfl ((vi_t q c1).1) ?_
    refine am_s_ldcT (x := 16) dc47_4.2.1.2 rfl rfl ?_
    exact am_s_virtual false dc47_4.2.2.1 rfl (by decide) rfl rfl rfl ((vi_t q c1).2)
  · refine am_s_iconst am_cc4 dc47_4.1.1.2 ?_
    exact am_s_ireturn dc47_4.1.2.1 rfl ((vi_f q c1))
theorem v47_79 {sc : Option (Nat × (Nat → Int32))} {d k n : Nat} {P : am_O → Prop} {I : am_I} {J : am_J} {Pf : am_R} (hp : am_PF Pf) {l0 : Option Value} {s0 : Int32} (q : (if s0 = 0 then (P (.inl (some (.int (-1))), (am_SH, I, J, Pf), k, n)) else (P (.inl (some (.int 5)), (am_SH, I, J, Pf), k, n)))) : am_go sc d 47 (79, [l0], [.int s0], (am_SH, I, J, Pf), k, n) P := by
  refine am_s_if_eq dc47_4.2.2.2 rfl (fun c1 => ?_) (fun c1 => ?_)
  · refine am_s_iconst am_ccm1 dc47_5.2.1 ?_
    exact am_s_ireturn dc47_5.2.2 rfl ((vi_t q c1))
  · refine am_s_iconst am_cc5 dc47_5.1.1 ?_
    refine am_s_goto rfl dc47_5.1.2 ?_
    exact am_s_ireturn dc47_5.2.2 rfl ((vi_f q c1))
-- valueFor (LPrunedParses$Tree;I)I
theorem v48_0 {sc : Option (Nat × (Nat → Int32))} {d k n : Nat} {P : am_O → Prop} {I : am_I} {J : am_J} {Pf : am_R} (hp : am_PF Pf) {x0 : Nat} (hx0 : am_SH[x0]? = some (.inl 2)) {x2 : Int32} {l3 : Option Value} {l4 : Option Value} {l5 : Option Value} (q : (am_go sc d 48 (5, [some (.ref x0), some (.ref 145), some (.int x2), some (.int 0), some (.int 0), l5], [], (am_SH, I, J, Pf), k, n) P)) : am_go sc d 48 (0, [some (.ref x0), some (.ref 145), some (.int x2), l3, l4, l5], [], (am_SH, I, J, Pf), k, n) P := by
  refine am_s_iconst am_cc0 dc48_0.1.1.1 ?_
  refine am_s_istore_n (ls' := [some (.ref x0), some (.ref 145), some (.int x2), some (.int 0), l4, l5]) rfl rfl dc48_0.1.1.2 ?_
  refine am_s_iconst am_cc0 dc48_0.1.2.1 ?_
  refine am_s_istore (ls' := [some (.ref x0), some (.ref 145), some (.int x2), some (.int 0), some (.int 0), l5]) rfl rfl dc48_0.1.2.2 ?_
  exact q
theorem v48_5 {sc : Option (Nat × (Nat → Int32))} {d k n : Nat} {P : am_O → Prop} {I : am_I} {J : am_J} {Pf : am_R} (hp : am_PF Pf) {x0 : Nat} (hx0 : am_SH[x0]? = some (.inl 2)) {x2 : Int32} {x3 : Int32} {x4 : Int32} {l5 : Option Value} (q : (if (I x0 2) ≤ x4 then (P (.inl (some (.int (I (x0 + 3) 0))), (am_SH, I, J, Pf), k, n)) else (am_in x4 150 = true) ∧ (if (I (x0 + 1) (Int32.toNatClampNeg x4)) = 0 then (if x3 < 150 then (am_in x4 150 = true) ∧ (am_in x3 150 = true) ∧ (am_go sc d 48 (5, [some (.ref x0), some (.ref 145), some (.int x2), some (.int (x3 + 1)), some (.int (x4 + 1)), some (.int (I (x0 + 1) (Int32.toNatClampNeg x4)))], [], (am_SH, am_u I (x0 + 3) (Int32.toNatClampNeg x3) (I (x0 + 2) (Int32.toNatClampNeg x4)), J, Pf), k, n) P) else (P (.inl (some (.int 0)), (am_SH, I, J, Pf), k, n))) else (if (I (x0 + 1) (Int32.toNatClampNeg x4)) = 1 then (if x3 < 150 then (am_in x4 150 = true) ∧ (am_mth d 137 [.ref 145, .int x2, .int (I (x0 + 2) (Int32.toNatClampNeg x4))] (am_SH, I, J, Pf) (am_af sc d 48 72 [some (.ref x0), some (.ref 145), some (.int x2), some (.int x3), some (.int x4), some (.int (I (x0 + 1) (Int32.toNatClampNeg x4)))] [.int (I (x0 + 2) (Int32.toNatClampNeg x4)), .int x2, .ref 145, .int x3, .ref (x0 + 3)] [.int x3, .ref (x0 + 3)] (am_SH, I, J, Pf) k n false P)) else (P (.inl (some (.int 0)), (am_SH, I, J, Pf), k, n))) else (if 2 ≤ x3 then (am_in ((x3 + (-1)) - 1) 150 = true) ∧ (am_in (x3 + (-1)) 150 = true) ∧ (am_mth d 49 [.int (I (x0 + 1) (Int32.toNatClampNeg x4)), .int (I (x0 + 3) (Int32.toNatClampNeg ((x3 + (-1)) - 1))), .int (I (x0 + 3) (Int32.toNatClampNeg (x3 + (-1))))] (am_SH, I, J, Pf) (am_af sc d 48 115 [some (.ref x0), some (.ref 145), some (.int x2), some (.int (x3 + (-1))), some (.int x4), some (.int (I (x0 + 1) (Int32.toNatClampNeg x4)))] [.int (I (x0 + 3) (Int32.toNatClampNeg (x3 + (-1)))), .int (I (x0 + 3) (Int32.toNatClampNeg ((x3 + (-1)) - 1))), .int (I (x0 + 1) (Int32.toNatClampNeg x4)), .int ((x3 + (-1)) - 1), .ref (x0 + 3)] [.int ((x3 + (-1)) - 1), .ref (x0 + 3)] (am_SH, I, J, Pf) k n false P)) else (P (.inl (some (.int 0)), (am_SH, I, J, Pf), k, n))))))) : am_go sc d 48 (5, [some (.ref x0), some (.ref 145), some (.int x2), some (.int x3), some (.int x4), l5], [], (am_SH, I, J, Pf), k, n) P := by
  refine am_s_iload rfl dc48_0.2.1.1 ?_
  refine am_s_aload_n rfl dc48_0.2.1.2 ?_
  refine am_x_getI (x := I x0 2) dc48_0.2.2.1 rfl hx0 (Or.inl rfl) rfl ?_
  refine am_s_ic_ge dc48_0.2.2.2 rfl (fun c1 => ?_) (fun c1 => ?_)
  · refine am_s_aload_n rfl dc48_8.2.1.2 ?_
    refine am_s_getR (r := x0 + 3) dc48_8.2.2.1 rfl hx0 rfl (am_r2_3 hp hx0) ?_
    refine am_s_iconst am_cc0 dc48_8.2.2.2 ?_
    refine am_x_iaload (x := I (x0 + 3) 0) dc48_9.1 (am_h2_3 hx0) (by decide +kernel) am_cN0 rfl ?_
    exact am_s_ireturn dc48_9.2 rfl ((vi_t q c1))
  · refine am_s_aload_n rfl dc48_1.1.1.1 ?_
    refine am_s_getR (r := x0 + 1) dc48_1.1.1.2 rfl hx0 rfl (am_r2_0 hp hx0) ?_
    refine am_s_iload rfl dc48_1.1.2.1 ?_
    refine am_x_iaload (x := I (x0 + 1) (Int32.toNatClampNeg x4)) dc48_1.1.2.2 (am_h2_0 hx0) ((vi_f q c1).1) rfl rfl ?_
    refine am_s_istore (ls' := [some (.ref x0), some (.ref 145), some (.int x2), some (.int x3), some (.int x4), some (.int (I (x0 + 1) (Int32.toNatClampNeg x4)))]) rfl rfl dc48_1.2.1.1 ?_
    refine am_s_iload rfl dc48_1.2.1.2 ?_
    refine am_s_if_eq dc48_1.2.2.1 rfl (fun c2 => ?_) (fun c2 => ?_)
    · refine am_s_iload_n rfl dc48_2.1.2.1 ?_
      refine am_s_sipush am_cs150 dc48_2.1.2.2 ?_
      refine am_s_ic_lt dc48_2.2.1.1 rfl (fun c3 => ?_) (fun c3 => ?_)
      · refine am_s_aload_n rfl dc48_2.2.2.2 ?_
        refine am_s_getR (r := x0 + 3) dc48_3.1.1.1 rfl hx0 rfl (am_r2_3 hp hx0) ?_
        refine am_s_iload_n rfl dc48_3.1.1.2 ?_
        refine am_s_iload rfl dc48_3.1.2.1 ?_
        refine am_s_if_ne dc48_3.1.2.2 rfl (fun z => absurd c2 z) (fun _ => ?_)
        refine am_s_aload_n rfl dc48_3.2.1.1 ?_
        refine am_s_getR (r := x0 + 2) dc48_3.2.1.2 rfl hx0 rfl (am_r2_1 hp hx0) ?_
        refine am_s_iload rfl dc48_3.2.2.1 ?_
        refine am_x_iaload (x := I (x0 + 2) (Int32.toNatClampNeg x4)) dc48_3.2.2.2 (am_h2_1 hx0) ((vi_t (vi_t (vi_f q c1).2 c2) c3).1) rfl rfl ?_
        refine am_s_goto rfl dc48_4.1.1.1 ?_
        refine am_s_iastore dc48_5.1.1.1 (am_h2_3 hx0) ((vi_t (vi_t (vi_f q c1).2 c2) c3).2.1) rfl ?_
        refine am_s_iinc (ls' := [some (.ref x0), some (.ref 145), some (.int x2), some (.int (x3 + 1)), some (.int x4), some (.int (I (x0 + 1) (Int32.toNatClampNeg x4)))]) am_cc1 rfl rfl dc48_5.1.1.2 ?_
        refine am_s_goto rfl dc48_5.1.2.1 ?_
        refine am_s_iinc (ls' := [some (.ref x0), some (.ref 145), some (.int x2), some (.int (x3 + 1)), some (.int (x4 + 1)), some (.int (I (x0 + 1) (Int32.toNatClampNeg x4)))]) am_cc1 rfl rfl dc48_8.1.2.2 ?_
        refine am_s_goto rfl dc48_8.2.1.1 ?_
        exact (vi_t (vi_t (vi_f q c1).2 c2) c3).2.2
      · refine am_s_iconst am_cc0 dc48_2.2.1.2 ?_
        exact am_s_ireturn dc48_2.2.2.1 rfl ((vi_f (vi_t (vi_f q c1).2 c2) c3))
    · refine am_s_iload rfl dc48_1.2.2.2 ?_
      refine am_s_iconst am_cc1 dc48_2.1.1.1 ?_
      refine am_s_ic_ne dc48_2.1.1.2 rfl (fun c3 => ?_) (fun c3 => ?_)
      · refine am_s_iload_n rfl dc48_5.1.2.2 ?_
        refine am_s_iconst am_cc2 dc48_5.2.1.1 ?_
        refine am_s_ic_ge dc48_5.2.1.2 rfl (fun c4 => ?_) (fun c4 => ?_)
        · refine am_s_iinc (ls' := [some (.ref x0), some (.ref 145), some (.int x2), some (.int (x3 + (-1))), some (.int x4), some (.int (I (x0 + 1) (Int32.toNatClampNeg x4)))]) am_ccm1 rfl rfl dc48_6.1.1.1 ?_
          refine am_s_aload_n rfl dc48_6.1.1.2 ?_
          refine am_s_getR (r := x0 + 3) dc48_6.1.2.1 rfl hx0 rfl (am_r2_3 hp hx0) ?_
          refine am_s_iload_n rfl dc48_6.1.2.2 ?_
          refine am_s_iconst am_cc1 dc48_6.2.1.1 ?_
          refine am_s_isub dc48_6.2.1.2 ?_
          refine am_s_iload rfl dc48_6.2.2.1 ?_
          refine am_s_aload_n rfl dc48_6.2.2.2 ?_
          refine am_s_getR (r := x0 + 3) dc48_7.1.1.1 rfl hx0 rfl (am_r2_3 hp hx0) ?_
          refine am_s_iload_n rfl dc48_7.1.1.2 ?_
          refine am_s_iconst am_cc1 dc48_7.1.2.1 ?_
          refine am_s_isub dc48_7.1.2.2 ?_
          refine am_x_iaload (x := I (x0 + 3) (Int32.toNatClampNeg ((x3 + (-1)) - 1))) dc48_7.2.1.1 (am_h2_3 hx0) ((vi_t (vi_f (vi_f (vi_f q c1).2 c2) c3) c4).1) rfl rfl ?_
          refine am_s_aload_n rfl dc48_7.2.1.2 ?_
          refine am_s_getR (r := x0 + 3) dc48_7.2.2.1 rfl hx0 rfl (am_r2_3 hp hx0) ?_
          refine am_s_iload_n rfl dc48_7.2.2.2 ?_
          refine am_x_iaload (x := I (x0 + 3) (Int32.toNatClampNeg (x3 + (-1)))) dc48_8.1.1.1 (am_h2_3 hx0) ((vi_t (vi_f (vi_f (vi_f q c1).2 c2) c3) c4).2.1) rfl rfl ?_
          exact am_s_static dc48_8.1.1.2 rfl rfl rfl ((vi_t (vi_f (vi_f (vi_f q c1).2 c2) c3) c4).2.2)
        · refine am_s_iconst am_cc0 dc48_5.2.2.1 ?_
          exact am_s_ireturn dc48_5.2.2.2 rfl ((vi_f (vi_f (vi_f (vi_f q c1).2 c2) c3) c4))
      · refine am_s_iload_n rfl dc48_2.1.2.1 ?_
        refine am_s_sipush am_cs150 dc48_2.1.2.2 ?_
        refine am_s_ic_lt dc48_2.2.1.1 rfl (fun c4 => ?_) (fun c4 => ?_)
        · refine am_s_aload_n rfl dc48_2.2.2.2 ?_
          refine am_s_getR (r := x0 + 3) dc48_3.1.1.1 rfl hx0 rfl (am_r2_3 hp hx0) ?_
          refine am_s_iload_n rfl dc48_3.1.1.2 ?_
          refine am_s_iload rfl dc48_3.1.2.1 ?_
          refine am_s_if_ne dc48_3.1.2.2 rfl (fun _ => ?_) (fun z => absurd c2 z)
          refine am_s_aload_n rfl dc48_4.1.1.2 ?_
          refine am_s_iload_n rfl dc48_4.1.2.1 ?_
          refine am_s_aload_n rfl dc48_4.1.2.2 ?_
          refine am_s_getR (r := x0 + 2) dc48_4.2.1.1 rfl hx0 rfl (am_r2_1 hp hx0) ?_
          refine am_s_iload rfl dc48_4.2.1.2 ?_
          refine am_x_iaload (x := I (x0 + 2) (Int32.toNatClampNeg x4)) dc48_4.2.2.1 (am_h2_1 hx0) ((vi_t (vi_t (vi_f (vi_f q c1).2 c2) (Decidable.not_not.mp c3)) c4).1) rfl rfl ?_
          exact am_s_virtual false dc48_4.2.2.2 rfl (by decide) rfl rfl rfl ((vi_t (vi_t (vi_f (vi_f q c1).2 c2) (Decidable.not_not.mp c3)) c4).2)
        · refine am_s_iconst am_cc0 dc48_2.2.1.2 ?_
          exact am_s_ireturn dc48_2.2.2.1 rfl ((vi_f (vi_t (vi_f (vi_f q c1).2 c2) (Decidable.not_not.mp c3)) c4))
theorem v48_75 {sc : Option (Nat × (Nat → Int32))} {d k n : Nat} {P : am_O → Prop} {I : am_I} {J : am_J} {Pf : am_R} (hp : am_PF Pf) {x0 : Nat} (hx0 : am_SH[x0]? = some (.inl 2)) {x2 : Int32} {x3 : Int32} {x4 : Int32} {l5 : Option Value} {s0 : Nat} (hs0 : am_SH[s0]? = some (.inr (0, 150))) {s1 : Int32} {s2 : Int32} (q : (am_in s1 150 = true) ∧ (am_go sc d 48 (5, [some (.ref x0), some (.ref 145), some (.int x2), some (.int (x3 + 1)), some (.int (x4 + 1)), l5], [], (am_SH, am_u I s0 (Int32.toNatClampNeg s1) s2, J, Pf), k, n) P)) : am_go sc d 48 (75, [some (.ref x0), some (.ref 145), some (.int x2), some (.int x3), some (.int x4), l5], [.int s2, .int s1, .ref s0], (am_SH, I, J, Pf), k, n) P := by
  refine am_s_iastore dc48_5.1.1.1 hs0 (q.1) rfl ?_
  refine am_s_iinc (ls' := [some (.ref x0), some (.ref 145), some (.int x2), some (.int (x3 + 1)), some (.int x4), l5]) am_cc1 rfl rfl dc48_5.1.1.2 ?_
  refine am_s_goto rfl dc48_5.1.2.1 ?_
  refine am_s_iinc (ls' := [some (.ref x0), some (.ref 145), some (.int x2), some (.int (x3 + 1)), some (.int (x4 + 1)), l5]) am_cc1 rfl rfl dc48_8.1.2.2 ?_
  refine am_s_goto rfl dc48_8.2.1.1 ?_
  exact q.2
theorem v48_118 {sc : Option (Nat × (Nat → Int32))} {d k n : Nat} {P : am_O → Prop} {I : am_I} {J : am_J} {Pf : am_R} (hp : am_PF Pf) {x0 : Nat} (hx0 : am_SH[x0]? = some (.inl 2)) {x2 : Int32} {x3 : Int32} {x4 : Int32} {l5 : Option Value} {s0 : Nat} (hs0 : am_SH[s0]? = some (.inr (0, 150))) {s1 : Int32} {s2 : Int32} (q : (am_in s1 150 = true) ∧ (am_go sc d 48 (5, [some (.ref x0), some (.ref 145), some (.int x2), some (.int x3), some (.int (x4 + 1)), l5], [], (am_SH, am_u I s0 (Int32.toNatClampNeg s1) s2, J, Pf), k, n) P)) : am_go sc d 48 (118, [some (.ref x0), some (.ref 145), some (.int x2), some (.int x3), some (.int x4), l5], [.int s2, .int s1, .ref s0], (am_SH, I, J, Pf), k, n) P := by
  refine am_s_iastore dc48_8.1.2.1 hs0 (q.1) rfl ?_
  refine am_s_iinc (ls' := [some (.ref x0), some (.ref 145), some (.int x2), some (.int x3), some (.int (x4 + 1)), l5]) am_cc1 rfl rfl dc48_8.1.2.2 ?_
  refine am_s_goto rfl dc48_8.2.1.1 ?_
  exact q.2
-- combine (III)I
theorem v49_0 {sc : Option (Nat × (Nat → Int32))} {d k n : Nat} {P : am_O → Prop} {I : am_I} {J : am_J} {Pf : am_R} (hp : am_PF Pf) {x0 : Int32} {x1 : Int32} {x2 : Int32} (q : (if x0 = 2 then (if x2 < x1 then (P (.inl (some (.int x2)), (am_SH, I, J, Pf), k, n)) else (P (.inl (some (.int x1)), (am_SH, I, J, Pf), k, n))) else (if x0 = 37 then (if x2 = 0 then (P (.inl (some (.int 0)), (am_SH, I, J, Pf), k, n)) else (¬ x2 = 0) ∧ (P (.inl (some (.int (x1 - x1 / x2 * x2))), (am_SH, I, J, Pf), k, n))) else (if x0 = 42 then (P (.inl (some (.int (x1 * x2))), (am_SH, I, J, Pf), k, n)) else (if x0 = 43 then (P (.inl (some (.int (x1 + x2))), (am_SH, I, J, Pf), k, n)) else (if x0 = 45 then (P (.inl (some (.int (x1 - x2))), (am_SH, I, J, Pf), k, n)) else (if x0 = 47 then (if x2 = 0 then (P (.inl (some (.int 0)), (am_SH, I, J, Pf), k, n)) else (¬ x2 = 0) ∧ (P (.inl (some (.int (x1 / x2))), (am_SH, I, J, Pf), k, n))) else (if x1 < x2 then (P (.inl (some (.int x2)), (am_SH, I, J, Pf), k, n)) else (P (.inl (some (.int x1)), (am_SH, I, J, Pf), k, n)))))))))) : am_go sc (d + 1) 49 (0, [some (.int x0), some (.int x1), some (.int x2)], [], (am_SH, I, J, Pf), k, n) P := by
  refine am_s_iload_n rfl dc49_0.1.1.1 ?_
  by_cases c1 : x0 = 2
  · refine am_s_lsw (o := 95) dc49_0.1.1.2 (by decide) (by simp only [c1]; decide) rfl ?_
    refine am_s_iload_n rfl dc49_3.2.2.1 ?_
    refine am_s_iload_n rfl dc49_3.2.2.2 ?_
    refine am_s_static dc49_4.1.1 rfl rfl rfl (am_mth_of rfl rfl ?_)
    refine am_s_iload_n rfl dc330_0.1.1 ?_
    refine am_s_iload_n rfl dc330_0.1.2.1 ?_
    refine am_s_ic_gt dc330_0.1.2.2 rfl (fun c2 => ?_) (fun c2 => ?_)
    · refine am_s_iload_n rfl dc330_0.2.2.1 ?_
      refine am_s_ireturn dc330_0.2.2.2 rfl (am_bkI ?_)
      exact am_s_ireturn dc49_4.1.2.1 rfl ((vi_t (vi_t q c1) c2))
    · refine am_s_iload_n rfl dc330_0.2.1.1 ?_
      refine am_s_goto rfl dc330_0.2.1.2 ?_
      refine am_s_ireturn dc330_0.2.2.2 rfl (am_bkI ?_)
      exact am_s_ireturn dc49_4.1.2.1 rfl ((vi_f (vi_t q c1) c2))
  by_cases c2 : x0 = 37
  · refine am_s_lsw (o := 83) dc49_0.1.1.2 (by decide) (by simp only [c2]; decide) rfl ?_
    refine am_s_iload_n rfl dc49_2.2.2.1 ?_
    refine am_s_if_ne dc49_2.2.2.2 rfl (fun c3 => ?_) (fun c3 => ?_)
    · refine am_s_iload_n rfl dc49_3.1.2.1 ?_
      refine am_s_iload_n rfl dc49_3.1.2.2 ?_
      refine am_s_irem ((vi_f (vi_t (vi_f q c1) c2) c3).1) dc49_3.2.1.1 ?_
      exact am_s_ireturn dc49_3.2.1.2 rfl ((vi_f (vi_t (vi_f q c1) c2) c3).2)
    · refine am_s_iconst am_cc0 dc49_3.1.1.1 ?_
      refine am_s_goto rfl dc49_3.1.1.2 ?_
      exact am_s_ireturn dc49_3.2.1.2 rfl ((vi_t (vi_t (vi_f q c1) c2) (Decidable.not_not.mp c3)))
  by_cases c3 : x0 = 42
  · refine am_s_lsw (o := 67) dc49_0.1.1.2 (by decide) (by simp only [c3]; decide) rfl ?_
    refine am_s_iload_n rfl dc49_1.1.2.1 ?_
    refine am_s_iload_n rfl dc49_1.1.2.2 ?_
    refine am_s_imul dc49_1.2.1.1 ?_
    exact am_s_ireturn dc49_1.2.1.2 rfl ((vi_t (vi_f (vi_f q c1) c2) c3))
  by_cases c4 : x0 = 43
  · refine am_s_lsw (o := 59) dc49_0.1.1.2 (by decide) (by simp only [c4]; decide) rfl ?_
    refine am_s_iload_n rfl dc49_0.1.2.1 ?_
    refine am_s_iload_n rfl dc49_0.1.2.2 ?_
    refine am_s_iadd dc49_0.2.1.1 ?_
    exact am_s_ireturn dc49_0.2.1.2 rfl ((vi_t (vi_f (vi_f (vi_f q c1) c2) c3) c4))
  by_cases c5 : x0 = 45
  · refine am_s_lsw (o := 63) dc49_0.1.1.2 (by decide) (by simp only [c5]; decide) rfl ?_
    refine am_s_iload_n rfl dc49_0.2.2.1 ?_
    refine am_s_iload_n rfl dc49_0.2.2.2 ?_
    refine am_s_isub dc49_1.1.1.1 ?_
    exact am_s_ireturn dc49_1.1.1.2 rfl ((vi_t (vi_f (vi_f (vi_f (vi_f q c1) c2) c3) c4) c5))
  by_cases c6 : x0 = 47
  · refine am_s_lsw (o := 71) dc49_0.1.1.2 (by decide) (by simp only [c6]; decide) rfl ?_
    refine am_s_iload_n rfl dc49_1.2.2.1 ?_
    refine am_s_if_ne dc49_1.2.2.2 rfl (fun c7 => ?_) (fun c7 => ?_)
    · refine am_s_iload_n rfl dc49_2.1.2.1 ?_
      refine am_s_iload_n rfl dc49_2.1.2.2 ?_
      refine am_s_idiv ((vi_f (vi_t (vi_f (vi_f (vi_f (vi_f (vi_f q c1) c2) c3) c4) c5) c6) c7).1) dc49_2.2.1.1 ?_
      exact am_s_ireturn dc49_2.2.1.2 rfl ((vi_f (vi_t (vi_f (vi_f (vi_f (vi_f (vi_f q c1) c2) c3) c4) c5) c6) c7).2)
    · refine am_s_iconst am_cc0 dc49_2.1.1.1 ?_
      refine am_s_goto rfl dc49_2.1.1.2 ?_
      exact am_s_ireturn dc49_2.2.1.2 rfl ((vi_t (vi_t (vi_f (vi_f (vi_f (vi_f (vi_f q c1) c2) c3) c4) c5) c6) (Decidable.not_not.mp c7)))
  refine am_s_lsw dc49_0.1.1.2 (by decide) (o := 101) (by have e1 := sw_n c1 (i := 2) (by decide); have e2 := sw_n c2 (i := 37) (by decide); have e3 := sw_n c3 (i := 42) (by decide); have e4 := sw_n c4 (i := 43) (by decide); have e5 := sw_n c5 (i := 45) (by decide); have e6 := sw_n c6 (i := 47) (by decide); show Op.lookupswitch.offset [(2, 95), (37, 83), (42, 67), (43, 59), (45, 63), (47, 71)] 101 _ = _; simp only [Op.lookupswitch.offset, if_neg (Ne.symm e1), if_neg (Ne.symm e2), if_neg (Ne.symm e3), if_neg (Ne.symm e4), if_neg (Ne.symm e5), if_neg (Ne.symm e6)]) rfl ?_
  refine am_s_iload_n rfl dc49_4.1.2.2 ?_
  refine am_s_iload_n rfl dc49_4.2.1 ?_
  refine am_s_static dc49_4.2.2.1 rfl rfl rfl (am_mth_of rfl rfl ?_)
  refine am_s_iload_n rfl dc329_0.1.1 ?_
  refine am_s_iload_n rfl dc329_0.1.2.1 ?_
  refine am_s_ic_lt dc329_0.1.2.2 rfl (fun c7 => ?_) (fun c7 => ?_)
  · refine am_s_iload_n rfl dc329_0.2.2.1 ?_
    refine am_s_ireturn dc329_0.2.2.2 rfl (am_bkI ?_)
    exact am_s_ireturn dc49_4.2.2.2 rfl ((vi_t (vi_f (vi_f (vi_f (vi_f (vi_f (vi_f q c1) c2) c3) c4) c5) c6) c7))
  · refine am_s_iload_n rfl dc329_0.2.1.1 ?_
    refine am_s_goto rfl dc329_0.2.1.2 ?_
    refine am_s_ireturn dc329_0.2.2.2 rfl (am_bkI ?_)
    exact am_s_ireturn dc49_4.2.2.2 rfl ((vi_f (vi_f (vi_f (vi_f (vi_f (vi_f (vi_f q c1) c2) c3) c4) c5) c6) c7))
-- clear ()V
theorem v67_0 {sc : Option (Nat × (Nat → Int32))} {d k n : Nat} {P : am_O → Prop} {I : am_I} {J : am_J} {Pf : am_R} (hp : am_PF Pf) {x0 : Nat} (hx0 : am_SH[x0]? = some (.inl 4)) (q : (P (.inl none, (am_SH, am_u (am_u (am_u (am_u (am_u (am_u I x0 1 0) x0 2 0) x0 9 0) x0 13 0) x0 16 0) x0 19 (-1), J, Pf), k, n))) : am_go sc d 67 (0, [some (.ref x0)], [], (am_SH, I, J, Pf), k, n) P := by
  refine am_s_aload_n rfl dc67_0.1.1.1 ?_
  refine am_s_iconst am_cc0 dc67_0.1.1.2 ?_
  refine am_s_putI dc67_0.1.2.1 rfl hx0 rfl rfl ?_
  refine am_s_aload_n rfl dc67_0.1.2.2 ?_
  refine am_s_iconst am_cc0 dc67_0.2.1.1 ?_
  refine am_s_putI dc67_0.2.1.2 rfl hx0 rfl rfl ?_
  refine am_s_aload_n rfl dc67_0.2.2.1 ?_
  refine am_s_iconst am_cc0 dc67_0.2.2.2 ?_
  refine am_s_putI dc67_1.1.1.1 rfl hx0 rfl rfl ?_
  refine am_s_aload_n rfl dc67_1.1.1.2 ?_
  refine am_s_iconst am_cc0 dc67_1.1.2.1 ?_
  refine am_s_putI dc67_1.1.2.2 rfl hx0 rfl rfl ?_
  refine am_s_aload_n rfl dc67_1.2.1.1 ?_
  refine am_s_iconst am_cc0 dc67_1.2.1.2 ?_
  refine am_s_putI dc67_1.2.2.1 rfl hx0 rfl rfl ?_
  refine am_s_aload_n rfl dc67_1.2.2.2 ?_
  refine am_s_iconst am_ccm1 dc67_2.1 ?_
  refine am_s_putI dc67_2.2.1 rfl hx0 rfl rfl ?_
  exact am_s_return dc67_2.2.2 rfl (q)
-- firstClassLike (LPrunedParses$Signs;)I
theorem v68_0 {sc : Option (Nat × (Nat → Int32))} {d k n : Nat} {P : am_O → Prop} {I : am_I} {J : am_J} {Pf : am_R} (hp : am_PF Pf) {x0 : Nat} (hx0 : am_SH[x0]? = some (.inl 4)) {x1 : Nat} (hx1 : am_SH[x1]? = some (.inl 6)) {l2 : Option Value} (q : (am_go sc d 68 (2, [some (.ref x0), some (.ref x1), some (.int 0)], [], (am_SH, I, J, Pf), k, n) P)) : am_go sc d 68 (0, [some (.ref x0), some (.ref x1), l2], [], (am_SH, I, J, Pf), k, n) P := by
  refine am_s_iconst am_cc0 dc68_0.1.1.1 ?_
  refine am_s_istore_n (ls' := [some (.ref x0), some (.ref x1), some (.int 0)]) rfl rfl dc68_0.1.1.2 ?_
  exact q
theorem v68_2 {sc : Option (Nat × (Nat → Int32))} {d k n : Nat} {P : am_O → Prop} {I : am_I} {J : am_J} {Pf : am_R} (hp : am_PF Pf) {x0 : Nat} (hx0 : am_SH[x0]? = some (.inl 4)) {x1 : Nat} (hx1 : am_SH[x1]? = some (.inl 6)) {x2 : Int32} (q : (if (I x0 1) ≤ x2 then (P (.inl (some (.int (-1))), (am_SH, I, J, Pf), k, n)) else (if 8 ≤ x2 then (P (.inl (some (.int (-1))), (am_SH, I, J, Pf), k, n)) else (am_in x2 8 = true) ∧ ∃ r21x1 : Nat, (Pf (x0 + 1) (Int32.toNatClampNeg x2) = some r21x1) ∧ (am_SH[r21x1]? = some (.inl 6)) ∧ (am_mth d 84 [.ref r21x1, .ref x1] (am_SH, I, J, Pf) (am_af sc d 68 23 [some (.ref x0), some (.ref x1), some (.int x2)] [.ref x1, .ref r21x1] [] (am_SH, I, J, Pf) k n false P))))) : am_go sc d 68 (2, [some (.ref x0), some (.ref x1), some (.int x2)], [], (am_SH, I, J, Pf), k, n) P := by
  refine am_s_iload_n rfl dc68_0.1.2.1 ?_
  refine am_s_aload_n rfl dc68_0.1.2.2 ?_
  refine am_x_getI (x := I x0 1) dc68_0.2.1.1 rfl hx0 (Or.inl rfl) rfl ?_
  refine am_s_ic_ge dc68_0.2.1.2 rfl (fun c1 => ?_) (fun c1 => ?_)
  · refine am_s_iconst am_ccm1 dc68_2.2.2.1 ?_
    exact am_s_ireturn dc68_2.2.2.2 rfl ((vi_t q c1))
  · refine am_s_iload_n rfl dc68_0.2.2.1 ?_
    refine am_s_bipush am_cb8 dc68_0.2.2.2 ?_
    refine am_s_ic_ge dc68_1.1.1.1 rfl (fun c2 => ?_) (fun c2 => ?_)
    · refine am_s_iconst am_ccm1 dc68_2.2.2.1 ?_
      exact am_s_ireturn dc68_2.2.2.2 rfl ((vi_t (vi_f q c1) c2))
    · refine am_s_aload_n rfl dc68_1.1.1.2 ?_
      refine am_s_getR (r := x0 + 1) dc68_1.1.2.1 rfl hx0 rfl (am_r4_0 hp hx0) ?_
      refine am_s_iload_n rfl dc68_1.1.2.2 ?_
      obtain ⟨r21x1, qx1⟩ := (vi_f (vi_f q c1) c2).2
      refine am_s_aaload (r := r21x1) dc68_1.2.1.1 (am_h4_0 hx0) rfl ((vi_f (vi_f q c1) c2).1) (qx1.1) ?_
      refine am_s_aload_n rfl dc68_1.2.1.2 ?_
      exact am_s_virtual false dc68_1.2.2.1 rfl (by decide) rfl (qx1.2.1) rfl (qx1.2.2)
theorem v68_26 {sc : Option (Nat × (Nat → Int32))} {d k n : Nat} {P : am_O → Prop} {I : am_I} {J : am_J} {Pf : am_R} (hp : am_PF Pf) {x0 : Nat} (hx0 : am_SH[x0]? = some (.inl 4)) {x1 : Nat} (hx1 : am_SH[x1]? = some (.inl 6)) {x2 : Int32} {s0 : Int32} (q : (if s0 = 0 then (am_go sc d 68 (2, [some (.ref x0), some (.ref x1), some (.int (x2 + 1))], [], (am_SH, I, J, Pf), k, n) P) else (P (.inl (some (.int x2)), (am_SH, I, J, Pf), k, n)))) : am_go sc d 68 (26, [some (.ref x0), some (.ref x1), some (.int x2)], [.int s0], (am_SH, I, J, Pf), k, n) P := by
  refine am_s_if_eq dc68_1.2.2.2 rfl (fun c1 => ?_) (fun c1 => ?_)
  · refine am_s_iinc (ls' := [some (.ref x0), some (.ref x1), some (.int (x2 + 1))]) am_cc1 rfl rfl dc68_2.1.2.2 ?_
    refine am_s_goto rfl dc68_2.2.1 ?_
    exact (vi_t q c1)
  · refine am_s_iload_n rfl dc68_2.1.1 ?_
    exact am_s_ireturn dc68_2.1.2.1 rfl ((vi_f q c1))
-- classesOf (I)I
theorem v69_0 {sc : Option (Nat × (Nat → Int32))} {d k n : Nat} {P : am_O → Prop} {I : am_I} {J : am_J} {Pf : am_R} (hp : am_PF Pf) {x0 : Nat} (hx0 : am_SH[x0]? = some (.inl 4)) {x1 : Int32} {l2 : Option Value} {l3 : Option Value} (q : (am_go sc d 69 (4, [some (.ref x0), some (.int x1), some (.int 0), some (.int 0)], [], (am_SH, I, J, Pf), k, n) P)) : am_go sc d 69 (0, [some (.ref x0), some (.int x1), l2, l3], [], (am_SH, I, J, Pf), k, n) P := by
  refine am_s_iconst am_cc0 dc69_0.1.1.1 ?_
  refine am_s_istore_n (ls' := [some (.ref x0), some (.int x1), some (.int 0), l3]) rfl rfl dc69_0.1.1.2 ?_
  refine am_s_iconst am_cc0 dc69_0.1.2.1 ?_
  refine am_s_istore_n (ls' := [some (.ref x0), some (.int x1), some (.int 0), some (.int 0)]) rfl rfl dc69_0.1.2.2 ?_
  exact q
theorem v69_4 {sc : Option (Nat × (Nat → Int32))} {d k n : Nat} {P : am_O → Prop} {I : am_I} {J : am_J} {Pf : am_R} (hp : am_PF Pf) {x0 : Nat} (hx0 : am_SH[x0]? = some (.inl 4)) {x1 : Int32} {x2 : Int32} {x3 : Int32} (q : (if (I x0 1) ≤ x3 then (P (.inl (some (.int x2)), (am_SH, I, J, Pf), k, n)) else (if 8 ≤ x3 then (P (.inl (some (.int x2)), (am_SH, I, J, Pf), k, n)) else (am_in x3 8 = true) ∧ ∃ r23x1 : Nat, (Pf (x0 + 1) (Int32.toNatClampNeg x3) = some r23x1) ∧ (am_SH[r23x1]? = some (.inl 6)) ∧ (am_mth d 78 [.ref r23x1, .int x1] (am_SH, I, J, Pf) (am_af sc d 69 25 [some (.ref x0), some (.int x1), some (.int x2), some (.int x3)] [.int x1, .ref r23x1] [] (am_SH, I, J, Pf) k n false P))))) : am_go sc d 69 (4, [some (.ref x0), some (.int x1), some (.int x2), some (.int x3)], [], (am_SH, I, J, Pf), k, n) P := by
  refine am_s_iload_n rfl dc69_0.2.1.1 ?_
  refine am_s_aload_n rfl dc69_0.2.1.2 ?_
  refine am_x_getI (x := I x0 1) dc69_0.2.2.1 rfl hx0 (Or.inl rfl) rfl ?_
  refine am_s_ic_ge dc69_0.2.2.2 rfl (fun c1 => ?_) (fun c1 => ?_)
  · refine am_s_iload_n rfl dc69_3.2.1 ?_
    exact am_s_ireturn dc69_3.2.2 rfl ((vi_t q c1))
  · refine am_s_iload_n rfl dc69_1.1.1.1 ?_
    refine am_s_bipush am_cb8 dc69_1.1.1.2 ?_
    refine am_s_ic_ge dc69_1.1.2.1 rfl (fun c2 => ?_) (fun c2 => ?_)
    · refine am_s_iload_n rfl dc69_3.2.1 ?_
      exact am_s_ireturn dc69_3.2.2 rfl ((vi_t (vi_f q c1) c2))
    · refine am_s_aload_n rfl dc69_1.1.2.2 ?_
      refine am_s_getR (r := x0 + 1) dc69_1.2.1.1 rfl hx0 rfl (am_r4_0 hp hx0) ?_
      refine am_s_iload_n rfl dc69_1.2.1.2 ?_
      obtain ⟨r23x1, qx1⟩ := (vi_f (vi_f q c1) c2).2
      refine am_s_aaload (r := r23x1) dc69_1.2.2.1 (am_h4_0 hx0) rfl ((vi_f (vi_f q c1) c2).1) (qx1.1) ?_
      refine am_s_iload_n rfl dc69_1.2.2.2 ?_
      exact am_s_virtual false dc69_2.1.1.1 rfl (by decide) rfl (qx1.2.1) rfl (qx1.2.2)
theorem v69_28 {sc : Option (Nat × (Nat → Int32))} {d k n : Nat} {P : am_O → Prop} {I : am_I} {J : am_J} {Pf : am_R} (hp : am_PF Pf) {x0 : Nat} (hx0 : am_SH[x0]? = some (.inl 4)) {x1 : Int32} {x2 : Int32} {x3 : Int32} {s0 : Int32} (q : (if s0 = 0 then (am_go sc d 69 (4, [some (.ref x0), some (.int x1), some (.int x2), some (.int (x3 + 1))], [], (am_SH, I, J, Pf), k, n) P) else (am_go sc d 69 (4, [some (.ref x0), some (.int x1), some (.int (x2 ||| ((1 : Int32) <<< (x3 &&& 31)))), some (.int (x3 + 1))], [], (am_SH, I, J, Pf), k, n) P))) : am_go sc d 69 (28, [some (.ref x0), some (.int x1), some (.int x2), some (.int x3)], [.int s0], (am_SH, I, J, Pf), k, n) P := by
  refine am_s_if_eq dc69_2.1.1.2 rfl (fun c1 => ?_) (fun c1 => ?_)
  · refine am_s_iinc (ls' := [some (.ref x0), some (.int x1), some (.int x2), some (.int (x3 + 1))]) am_cc1 rfl rfl dc69_3.1.1 ?_
    refine am_s_goto rfl dc69_3.1.2 ?_
    exact (vi_t q c1)
  · refine am_s_iload_n rfl dc69_2.1.2.1 ?_
    refine am_s_iconst am_cc1 dc69_2.1.2.2 ?_
    refine am_s_iload_n rfl dc69_2.2.1.1 ?_
    refine am_s_ishl dc69_2.2.1.2 ?_
    refine am_s_ior dc69_2.2.2.1 ?_
    refine am_s_istore_n (ls' := [some (.ref x0), some (.int x1), some (.int (x2 ||| ((1 : Int32) <<< (x3 &&& 31)))), some (.int x3)]) rfl rfl dc69_2.2.2.2 ?_
    refine am_s_iinc (ls' := [some (.ref x0), some (.int x1), some (.int (x2 ||| ((1 : Int32) <<< (x3 &&& 31)))), some (.int (x3 + 1))]) am_cc1 rfl rfl dc69_3.1.1 ?_
    refine am_s_goto rfl dc69_3.1.2 ?_
    exact (vi_f q c1)
-- findNeeds (LPrunedParses$Rules;)V
theorem v91_0 {sc : Option (Nat × (Nat → Int32))} {d k n : Nat} {P : am_O → Prop} {I : am_I} {J : am_J} {Pf : am_R} (hp : am_PF Pf) {x0 : Nat} (hx0 : am_SH[x0]? = some (.inl 7)) {x1 : Nat} (hx1 : am_SH[x1]? = some (.inl 4)) {l2 : Option Value} {l3 : Option Value} (q : (am_mth d 341 [.ref (x0 + 1), .int 0] (am_SH, I, J, Pf) (am_af sc d 91 5 [some (.ref x0), some (.ref x1), l2, l3] [.int 0, .ref (x0 + 1)] [] (am_SH, I, J, Pf) k n false P))) : am_go sc d 91 (0, [some (.ref x0), some (.ref x1), l2, l3], [], (am_SH, I, J, Pf), k, n) P := by
  refine am_s_aload_n rfl dc91_0.1.1.1 ?_
  refine am_s_getR (r := x0 + 1) dc91_0.1.1.2 rfl hx0 rfl (am_r7_0 hp hx0) ?_
  refine am_s_iconst am_cc0 dc91_0.1.2.1 ?_
  exact am_s_static dc91_0.1.2.2 rfl rfl rfl (q)
theorem v91_18 {sc : Option (Nat × (Nat → Int32))} {d k n : Nat} {P : am_O → Prop} {I : am_I} {J : am_J} {Pf : am_R} (hp : am_PF Pf) {x0 : Nat} (hx0 : am_SH[x0]? = some (.inl 7)) {x1 : Nat} (hx1 : am_SH[x1]? = some (.inl 4)) {x2 : Int32} {l3 : Option Value} (q : (if (I x1 2) ≤ x2 then (am_go sc d 91 (90, [some (.ref x0), some (.ref x1), some (.int 0), l3], [], (am_SH, I, J, Pf), k, n) P) else (am_go sc d 91 (30, [some (.ref x0), some (.ref x1), some (.int x2), some (.int (x2 * 4))], [], (am_SH, I, J, Pf), k, n) P))) : am_go sc d 91 (18, [some (.ref x0), some (.ref x1), some (.int x2), l3], [], (am_SH, I, J, Pf), k, n) P := by
  refine am_s_iload_n rfl dc91_1.1.2.1 ?_
  refine am_s_aload_n rfl dc91_1.1.2.2 ?_
  refine am_x_getI (x := I x1 2) dc91_1.2.1.1 rfl hx1 (Or.inl rfl) rfl ?_
  refine am_s_ic_ge dc91_1.2.1.2 rfl (fun c1 => ?_) (fun c1 => ?_)
  · refine am_s_iconst am_cc0 dc91_6.2.2.1 ?_
    refine am_s_istore_n (ls' := [some (.ref x0), some (.ref x1), some (.int 0), l3]) rfl rfl dc91_6.2.2.2 ?_
    exact (vi_t q c1)
  · refine am_s_iload_n rfl dc91_1.2.2.1 ?_
    refine am_s_iconst am_cc4 dc91_1.2.2.2 ?_
    refine am_s_imul dc91_2.1.1.1 ?_
    refine am_s_istore_n (ls' := [some (.ref x0), some (.ref x1), some (.int x2), some (.int (x2 * 4))]) rfl rfl dc91_2.1.1.2 ?_
    exact (vi_f q c1)
theorem v91_30 {sc : Option (Nat × (Nat → Int32))} {d k n : Nat} {P : am_O → Prop} {I : am_I} {J : am_J} {Pf : am_R} (hp : am_PF Pf) {x0 : Nat} (hx0 : am_SH[x0]? = some (.inl 7)) {x1 : Nat} (hx1 : am_SH[x1]? = some (.inl 4)) {x2 : Int32} {x3 : Int32} (q : (am_in x2 20 = true) ∧ (if ((x2 * 4) + (I (x1 + 4) (Int32.toNatClampNeg x2))) ≤ x3 then (am_go sc d 91 (18, [some (.ref x0), some (.ref x1), some (.int (x2 + 1)), some (.int x3)], [], (am_SH, I, J, Pf), k, n) P) else (am_in x3 80 = true) ∧ (if (I (x1 + 5) (Int32.toNatClampNeg x3)) = 1 then (am_in x2 20 = true) ∧ (am_in (I (x1 + 2) (Int32.toNatClampNeg x2)) 8 = true) ∧ (am_in x3 80 = true) ∧ (am_in (I (x1 + 2) (Int32.toNatClampNeg x2)) 8 = true) ∧ (am_go sc d 91 (30, [some (.ref x0), some (.ref x1), some (.int x2), some (.int (x3 + 1))], [], (am_SH, am_u I (x0 + 1) (Int32.toNatClampNeg (I (x1 + 2) (Int32.toNatClampNeg x2))) ((I (x0 + 1) (Int32.toNatClampNeg (I (x1 + 2) (Int32.toNatClampNeg x2)))) ||| ((1 : Int32) <<< ((I (x1 + 6) (Int32.toNatClampNeg x3)) &&& 31))), J, Pf), k, n) P) else (am_go sc d 91 (30, [some (.ref x0), some (.ref x1), some (.int x2), some (.int (x3 + 1))], [], (am_SH, I, J, Pf), k, n) P)))) : am_go sc d 91 (30, [some (.ref x0), some (.ref x1), some (.int x2), some (.int x3)], [], (am_SH, I, J, Pf), k, n) P := by
  refine am_s_iload_n rfl dc91_2.1.2.1 ?_
  refine am_s_iload_n rfl dc91_2.1.2.2 ?_
  refine am_s_iconst am_cc4 dc91_2.2.1.1 ?_
  refine am_s_imul dc91_2.2.1.2 ?_
  refine am_s_aload_n rfl dc91_2.2.2.1 ?_
  refine am_s_getR (r := x1 + 4) dc91_2.2.2.2 rfl hx1 rfl (am_r4_5 hp hx1) ?_
  refine am_s_iload_n rfl dc91_3.1.1.1 ?_
  refine am_x_iaload (x := I (x1 + 4) (Int32.toNatClampNeg x2)) dc91_3.1.1.2 (am_h4_5 hx1) (q.1) rfl rfl ?_
  refine am_s_iadd dc91_3.1.2.1 ?_
  refine am_s_ic_ge dc91_3.1.2.2 rfl (fun c1 => ?_) (fun c1 => ?_)
  · refine am_s_iinc (ls' := [some (.ref x0), some (.ref x1), some (.int (x2 + 1)), some (.int x3)]) am_cc1 rfl rfl dc91_6.2.1.1 ?_
    refine am_s_goto rfl dc91_6.2.1.2 ?_
    exact (vi_t q.2 c1)
  · refine am_s_aload_n rfl dc91_3.2.1.1 ?_
    refine am_s_getR (r := x1 + 5) dc91_3.2.1.2 rfl hx1 rfl (am_r4_6 hp hx1) ?_
    refine am_s_iload_n rfl dc91_3.2.2.1 ?_
    refine am_x_iaload (x := I (x1 + 5) (Int32.toNatClampNeg x3)) dc91_3.2.2.2 (am_h4_6 hx1) ((vi_f q.2 c1).1) rfl rfl ?_
    refine am_s_iconst am_cc1 dc91_4.1.1.1 ?_
    refine am_s_ic_ne dc91_4.1.1.2 rfl (fun c2 => ?_) (fun c2 => ?_)
    · refine am_s_iinc (ls' := [some (.ref x0), some (.ref x1), some (.int x2), some (.int (x3 + 1))]) am_cc1 rfl rfl dc91_6.1.2.1 ?_
      refine am_s_goto rfl dc91_6.1.2.2 ?_
      exact (vi_f (vi_f q.2 c1).2 c2)
    · refine am_s_aload_n rfl dc91_4.1.2.1 ?_
      refine am_s_getR (r := x0 + 1) dc91_4.1.2.2 rfl hx0 rfl (am_r7_0 hp hx0) ?_
      refine am_s_aload_n rfl dc91_4.2.1.1 ?_
      refine am_s_getR (r := x1 + 2) dc91_4.2.1.2 rfl hx1 rfl (am_r4_3 hp hx1) ?_
      refine am_s_iload_n rfl dc91_4.2.2.1 ?_
      refine am_x_iaload (x := I (x1 + 2) (Int32.toNatClampNeg x2)) dc91_4.2.2.2 (am_h4_3 hx1) ((vi_t (vi_f q.2 c1).2 (Decidable.not_not.mp c2)).1) rfl rfl ?_
      refine am_s_dup2 rfl rfl dc91_5.1.1.1 ?_
      refine am_x_iaload (x := I (x0 + 1) (Int32.toNatClampNeg (I (x1 + 2) (Int32.toNatClampNeg x2)))) dc91_5.1.1.2 (am_h7_0 hx0) ((vi_t (vi_f q.2 c1).2 (Decidable.not_not.mp c2)).2.1) rfl rfl ?_
      refine am_s_iconst am_cc1 dc91_5.1.2.1 ?_
      refine am_s_aload_n rfl dc91_5.1.2.2 ?_
      refine am_s_getR (r := x1 + 6) dc91_5.2.1.1 rfl hx1 rfl (am_r4_7 hp hx1) ?_
      refine am_s_iload_n rfl dc91_5.2.1.2 ?_
      refine am_x_iaload (x := I (x1 + 6) (Int32.toNatClampNeg x3)) dc91_5.2.2.1 (am_h4_7 hx1) ((vi_t (vi_f q.2 c1).2 (Decidable.not_not.mp c2)).2.2.1) rfl rfl ?_
      refine am_s_ishl dc91_5.2.2.2 ?_
      refine am_s_ior dc91_6.1.1.1 ?_
      refine am_s_iastore dc91_6.1.1.2 (am_h7_0 hx0) ((vi_t (vi_f q.2 c1).2 (Decidable.not_not.mp c2)).2.2.2.1) rfl ?_
      refine am_s_iinc (ls' := [some (.ref x0), some (.ref x1), some (.int x2), some (.int (x3 + 1))]) am_cc1 rfl rfl dc91_6.1.2.1 ?_
      refine am_s_goto rfl dc91_6.1.2.2 ?_
      exact (vi_t (vi_f q.2 c1).2 (Decidable.not_not.mp c2)).2.2.2.2
theorem v91_90 {sc : Option (Nat × (Nat → Int32))} {d k n : Nat} {P : am_O → Prop} {I : am_I} {J : am_J} {Pf : am_R} (hp : am_PF Pf) {x0 : Nat} (hx0 : am_SH[x0]? = some (.inl 7)) {x1 : Nat} (hx1 : am_SH[x1]? = some (.inl 4)) {x2 : Int32} {l3 : Option Value} (q : (if (I x1 9) ≤ x2 then (am_go sc d 91 (128, [some (.ref x0), some (.ref x1), some (.int 0), l3], [], (am_SH, I, J, Pf), k, n) P) else (am_in x2 4 = true) ∧ (am_in (I (x1 + 8) (Int32.toNatClampNeg x2)) 8 = true) ∧ (am_in x2 4 = true) ∧ (am_in (I (x1 + 8) (Int32.toNatClampNeg x2)) 8 = true) ∧ (am_go sc d 91 (90, [some (.ref x0), some (.ref x1), some (.int (x2 + 1)), l3], [], (am_SH, am_u I (x0 + 1) (Int32.toNatClampNeg (I (x1 + 8) (Int32.toNatClampNeg x2))) ((I (x0 + 1) (Int32.toNatClampNeg (I (x1 + 8) (Int32.toNatClampNeg x2)))) ||| ((1 : Int32) <<< ((I (x1 + 9) (Int32.toNatClampNeg x2)) &&& 31))), J, Pf), k, n) P))) : am_go sc d 91 (90, [some (.ref x0), some (.ref x1), some (.int x2), l3], [], (am_SH, I, J, Pf), k, n) P := by
  refine am_s_iload_n rfl dc91_7.1.1.1 ?_
  refine am_s_aload_n rfl dc91_7.1.1.2 ?_
  refine am_x_getI (x := I x1 9) dc91_7.1.2.1 rfl hx1 (Or.inl rfl) rfl ?_
  refine am_s_ic_ge dc91_7.1.2.2 rfl (fun c1 => ?_) (fun c1 => ?_)
  · refine am_s_iconst am_cc0 dc91_9.2.2.1 ?_
    refine am_s_istore_n (ls' := [some (.ref x0), some (.ref x1), some (.int 0), l3]) rfl rfl dc91_9.2.2.2 ?_
    exact (vi_t q c1)
  · refine am_s_aload_n rfl dc91_7.2.1.1 ?_
    refine am_s_getR (r := x0 + 1) dc91_7.2.1.2 rfl hx0 rfl (am_r7_0 hp hx0) ?_
    refine am_s_aload_n rfl dc91_7.2.2.1 ?_
    refine am_s_getR (r := x1 + 8) dc91_7.2.2.2 rfl hx1 rfl (am_r4_10 hp hx1) ?_
    refine am_s_iload_n rfl dc91_8.1.1.1 ?_
    refine am_x_iaload (x := I (x1 + 8) (Int32.toNatClampNeg x2)) dc91_8.1.1.2 (am_h4_10 hx1) ((vi_f q c1).1) rfl rfl ?_
    refine am_s_dup2 rfl rfl dc91_8.1.2.1 ?_
    refine am_x_iaload (x := I (x0 + 1) (Int32.toNatClampNeg (I (x1 + 8) (Int32.toNatClampNeg x2)))) dc91_8.1.2.2 (am_h7_0 hx0) ((vi_f q c1).2.1) rfl rfl ?_
    refine am_s_iconst am_cc1 dc91_8.2.1.1 ?_
    refine am_s_aload_n rfl dc91_8.2.1.2 ?_
    refine am_s_getR (r := x1 + 9) dc91_8.2.2.1 rfl hx1 rfl (am_r4_11 hp hx1) ?_
    refine am_s_iload_n rfl dc91_8.2.2.2 ?_
    refine am_x_iaload (x := I (x1 + 9) (Int32.toNatClampNeg x2)) dc91_9.1.1.1 (am_h4_11 hx1) ((vi_f q c1).2.2.1) rfl rfl ?_
    refine am_s_ishl dc91_9.1.1.2 ?_
    refine am_s_ior dc91_9.1.2.1 ?_
    refine am_s_iastore dc91_9.1.2.2 (am_h7_0 hx0) ((vi_f q c1).2.2.2.1) rfl ?_
    refine am_s_iinc (ls' := [some (.ref x0), some (.ref x1), some (.int (x2 + 1)), l3]) am_cc1 rfl rfl dc91_9.2.1.1 ?_
    refine am_s_goto rfl dc91_9.2.1.2 ?_
    exact (vi_f q c1).2.2.2.2
theorem v91_128 {sc : Option (Nat × (Nat → Int32))} {d k n : Nat} {P : am_O → Prop} {I : am_I} {J : am_J} {Pf : am_R} (hp : am_PF Pf) {x0 : Nat} (hx0 : am_SH[x0]? = some (.inl 7)) {x1 : Nat} (hx1 : am_SH[x1]? = some (.inl 4)) {x2 : Int32} {l3 : Option Value} (q : (if (I x1 16) ≤ x2 then (am_go sc d 91 (166, [some (.ref x0), some (.ref x1), some (.int 0), l3], [], (am_SH, I, J, Pf), k, n) P) else (am_in x2 8 = true) ∧ (am_in (I (x1 + 13) (Int32.toNatClampNeg x2)) 8 = true) ∧ (am_in x2 8 = true) ∧ (am_in (I (x1 + 13) (Int32.toNatClampNeg x2)) 8 = true) ∧ (am_go sc d 91 (128, [some (.ref x0), some (.ref x1), some (.int (x2 + 1)), l3], [], (am_SH, am_u I (x0 + 2) (Int32.toNatClampNeg (I (x1 + 13) (Int32.toNatClampNeg x2))) ((I (x0 + 2) (Int32.toNatClampNeg (I (x1 + 13) (Int32.toNatClampNeg x2)))) ||| ((1 : Int32) <<< ((I (x1 + 14) (Int32.toNatClampNeg x2)) &&& 31))), J, Pf), k, n) P))) : am_go sc d 91 (128, [some (.ref x0), some (.ref x1), some (.int x2), l3], [], (am_SH, I, J, Pf), k, n) P := by
  refine am_s_iload_n rfl dc91_10.1.1.1 ?_
  refine am_s_aload_n rfl dc91_10.1.1.2 ?_
  refine am_x_getI (x := I x1 16) dc91_10.1.2.1 rfl hx1 (Or.inl rfl) rfl ?_
  refine am_s_ic_ge dc91_10.1.2.2 rfl (fun c1 => ?_) (fun c1 => ?_)
  · refine am_s_iconst am_cc0 dc91_12.2.2.1 ?_
    refine am_s_istore_n (ls' := [some (.ref x0), some (.ref x1), some (.int 0), l3]) rfl rfl dc91_12.2.2.2 ?_
    exact (vi_t q c1)
  · refine am_s_aload_n rfl dc91_10.2.1.1 ?_
    refine am_s_getR (r := x0 + 2) dc91_10.2.1.2 rfl hx0 rfl (am_r7_1 hp hx0) ?_
    refine am_s_aload_n rfl dc91_10.2.2.1 ?_
    refine am_s_getR (r := x1 + 13) dc91_10.2.2.2 rfl hx1 rfl (am_r4_17 hp hx1) ?_
    refine am_s_iload_n rfl dc91_11.1.1.1 ?_
    refine am_x_iaload (x := I (x1 + 13) (Int32.toNatClampNeg x2)) dc91_11.1.1.2 (am_h4_17 hx1) ((vi_f q c1).1) rfl rfl ?_
    refine am_s_dup2 rfl rfl dc91_11.1.2.1 ?_
    refine am_x_iaload (x := I (x0 + 2) (Int32.toNatClampNeg (I (x1 + 13) (Int32.toNatClampNeg x2)))) dc91_11.1.2.2 (am_h7_1 hx0) ((vi_f q c1).2.1) rfl rfl ?_
    refine am_s_iconst am_cc1 dc91_11.2.1.1 ?_
    refine am_s_aload_n rfl dc91_11.2.1.2 ?_
    refine am_s_getR (r := x1 + 14) dc91_11.2.2.1 rfl hx1 rfl (am_r4_18 hp hx1) ?_
    refine am_s_iload_n rfl dc91_11.2.2.2 ?_
    refine am_x_iaload (x := I (x1 + 14) (Int32.toNatClampNeg x2)) dc91_12.1.1.1 (am_h4_18 hx1) ((vi_f q c1).2.2.1) rfl rfl ?_
    refine am_s_ishl dc91_12.1.1.2 ?_
    refine am_s_ior dc91_12.1.2.1 ?_
    refine am_s_iastore dc91_12.1.2.2 (am_h7_1 hx0) ((vi_f q c1).2.2.2.1) rfl ?_
    refine am_s_iinc (ls' := [some (.ref x0), some (.ref x1), some (.int (x2 + 1)), l3]) am_cc1 rfl rfl dc91_12.2.1.1 ?_
    refine am_s_goto rfl dc91_12.2.1.2 ?_
    exact (vi_f q c1).2.2.2.2
theorem v91_166 {sc : Option (Nat × (Nat → Int32))} {d k n : Nat} {P : am_O → Prop} {I : am_I} {J : am_J} {Pf : am_R} (hp : am_PF Pf) {x0 : Nat} (hx0 : am_SH[x0]? = some (.inl 7)) {l1 : Option Value} {x2 : Int32} {l3 : Option Value} (hl1 : am_k1 l1 = true) (q : (if 8 ≤ x2 then (am_go sc d 91 (199, [some (.ref x0), l1, some (.int 0), l3], [], (am_SH, I, J, Pf), k, n) P) else (am_in x2 8 = true) ∧ (am_in x2 8 = true) ∧ (am_in x2 8 = true) ∧ (am_go sc d 91 (166, [some (.ref x0), l1, some (.int (x2 + 1)), l3], [], (am_SH, am_u I (x0 + 3) (Int32.toNatClampNeg x2) ((I (x0 + 1) (Int32.toNatClampNeg x2)) ||| (I (x0 + 2) (Int32.toNatClampNeg x2))), J, Pf), k, n) P))) : am_go sc d 91 (166, [some (.ref x0), l1, some (.int x2), l3], [], (am_SH, I, J, Pf), k, n) P := by
  refine am_s_iload_n rfl dc91_13.1.1.1 ?_
  refine am_s_bipush am_cb8 dc91_13.1.1.2 ?_
  refine am_s_ic_ge dc91_13.1.2.1 rfl (fun c1 => ?_) (fun c1 => ?_)
  · refine am_s_iconst am_cc0 dc91_15.1.2.1 ?_
    refine am_s_istore_n (ls' := [some (.ref x0), l1, some (.int 0), l3]) rfl (am_set1_k (am_kill_x (j := 1) rfl hl1) rfl) dc91_15.1.2.2 ?_
    exact (vi_t q c1)
  · refine am_s_aload_n rfl dc91_13.1.2.2 ?_
    refine am_s_getR (r := x0 + 3) dc91_13.2.1.1 rfl hx0 rfl (am_r7_2 hp hx0) ?_
    refine am_s_iload_n rfl dc91_13.2.1.2 ?_
    refine am_s_aload_n rfl dc91_13.2.2.1 ?_
    refine am_s_getR (r := x0 + 1) dc91_13.2.2.2 rfl hx0 rfl (am_r7_0 hp hx0) ?_
    refine am_s_iload_n rfl dc91_14.1.1.1 ?_
    refine am_x_iaload (x := I (x0 + 1) (Int32.toNatClampNeg x2)) dc91_14.1.1.2 (am_h7_0 hx0) ((vi_f q c1).1) rfl rfl ?_
    refine am_s_aload_n rfl dc91_14.1.2.1 ?_
    refine am_s_getR (r := x0 + 2) dc91_14.1.2.2 rfl hx0 rfl (am_r7_1 hp hx0) ?_
    refine am_s_iload_n rfl dc91_14.2.1.1 ?_
    refine am_x_iaload (x := I (x0 + 2) (Int32.toNatClampNeg x2)) dc91_14.2.1.2 (am_h7_1 hx0) ((vi_f q c1).2.1) rfl rfl ?_
    refine am_s_ior dc91_14.2.2.1 ?_
    refine am_s_iastore dc91_14.2.2.2 (am_h7_2 hx0) ((vi_f q c1).2.2.1) rfl ?_
    refine am_s_iinc (ls' := [some (.ref x0), l1, some (.int (x2 + 1)), l3]) am_cc1 rfl (am_set1_k (am_kill_x (j := 1) rfl hl1) rfl) dc91_15.1.1.1 ?_
    refine am_s_goto rfl dc91_15.1.1.2 ?_
    exact (vi_f q c1).2.2.2
theorem v91_199 {sc : Option (Nat × (Nat → Int32))} {d k n : Nat} {P : am_O → Prop} {I : am_I} {J : am_J} {Pf : am_R} (hp : am_PF Pf) {x0 : Nat} (hx0 : am_SH[x0]? = some (.inl 7)) {l1 : Option Value} {x2 : Int32} {l3 : Option Value} (q : (if 8 ≤ x2 then (P (.inl none, (am_SH, I, J, Pf), k, n)) else (am_go sc d 91 (207, [some (.ref x0), l1, some (.int x2), some (.int 0)], [], (am_SH, I, J, Pf), k, n) P))) : am_go sc d 91 (199, [some (.ref x0), l1, some (.int x2), l3], [], (am_SH, I, J, Pf), k, n) P := by
  refine am_s_iload_n rfl dc91_15.2.1.1 ?_
  refine am_s_bipush am_cb8 dc91_15.2.1.2 ?_
  refine am_s_ic_ge dc91_15.2.2.1 rfl (fun c1 => ?_) (fun c1 => ?_)
  · exact am_s_return dc91_19.2.2.2 rfl ((vi_t q c1))
  · refine am_s_iconst am_cc0 dc91_15.2.2.2 ?_
    refine am_s_istore_n (ls' := [some (.ref x0), l1, some (.int x2), some (.int 0)]) rfl rfl dc91_16.1.1.1 ?_
    exact (vi_f q c1)
theorem v91_207 {sc : Option (Nat × (Nat → Int32))} {d k n : Nat} {P : am_O → Prop} {I : am_I} {J : am_J} {Pf : am_R} (hp : am_PF Pf) {x0 : Nat} (hx0 : am_SH[x0]? = some (.inl 7)) {l1 : Option Value} {x2 : Int32} {x3 : Int32} (hl1 : am_k1 l1 = true) (q : (if 8 ≤ x3 then (am_go sc d 91 (199, [some (.ref x0), l1, some (.int (x2 + 1)), some (.int x3)], [], (am_SH, I, J, Pf), k, n) P) else (am_in x3 8 = true) ∧ (if ((UInt32.toInt32 (Int32.toUInt32 (I (x0 + 3) (Int32.toNatClampNeg x3)) >>> (Int32.toUInt32 x2 &&& Int32.toUInt32 31))) &&& 1) = 0 then (am_go sc d 91 (207, [some (.ref x0), l1, some (.int x2), some (.int (x3 + 1))], [], (am_SH, I, J, Pf), k, n) P) else (am_in x3 8 = true) ∧ (am_in x2 8 = true) ∧ (am_in x3 8 = true) ∧ (am_go sc d 91 (207, [some (.ref x0), l1, some (.int x2), some (.int (x3 + 1))], [], (am_SH, am_u I (x0 + 3) (Int32.toNatClampNeg x3) ((I (x0 + 3) (Int32.toNatClampNeg x3)) ||| (I (x0 + 3) (Int32.toNatClampNeg x2))), J, Pf), k, n) P)))) : am_go sc d 91 (207, [some (.ref x0), l1, some (.int x2), some (.int x3)], [], (am_SH, I, J, Pf), k, n) P := by
  refine am_s_iload_n rfl dc91_16.1.1.2 ?_
  refine am_s_bipush am_cb8 dc91_16.1.2.1 ?_
  refine am_s_ic_ge dc91_16.1.2.2 rfl (fun c1 => ?_) (fun c1 => ?_)
  · refine am_s_iinc (ls' := [some (.ref x0), l1, some (.int (x2 + 1)), some (.int x3)]) am_cc1 rfl (am_set1_k (am_kill_x (j := 1) rfl hl1) rfl) dc91_19.2.1 ?_
    refine am_s_goto rfl dc91_19.2.2.1 ?_
    exact (vi_t q c1)
  · refine am_s_aload_n rfl dc91_16.2.1.1 ?_
    refine am_s_getR (r := x0 + 3) dc91_16.2.1.2 rfl hx0 rfl (am_r7_2 hp hx0) ?_
    refine am_s_iload_n rfl dc91_16.2.2.1 ?_
    refine am_x_iaload (x := I (x0 + 3) (Int32.toNatClampNeg x3)) dc91_16.2.2.2 (am_h7_2 hx0) ((vi_f q c1).1) rfl rfl ?_
    refine am_s_iload_n rfl dc91_17.1.1.1 ?_
    refine am_s_iushr dc91_17.1.1.2 ?_
    refine am_s_iconst am_cc1 dc91_17.1.2.1 ?_
    refine am_s_iand dc91_17.1.2.2 ?_
    refine am_s_if_eq dc91_17.2.1.1 rfl (fun c2 => ?_) (fun c2 => ?_)
    · refine am_s_iinc (ls' := [some (.ref x0), l1, some (.int x2), some (.int (x3 + 1))]) am_cc1 rfl rfl dc91_19.1.1 ?_
      refine am_s_goto rfl dc91_19.1.2 ?_
      exact (vi_t (vi_f q c1).2 c2)
    · refine am_s_aload_n rfl dc91_17.2.1.2 ?_
      refine am_s_getR (r := x0 + 3) dc91_17.2.2.1 rfl hx0 rfl (am_r7_2 hp hx0) ?_
      refine am_s_iload_n rfl dc91_17.2.2.2 ?_
      refine am_s_dup2 rfl rfl dc91_18.1.1.1 ?_
      refine am_x_iaload (x := I (x0 + 3) (Int32.toNatClampNeg x3)) dc91_18.1.1.2 (am_h7_2 hx0) ((vi_f (vi_f q c1).2 c2).1) rfl rfl ?_
      refine am_s_aload_n rfl dc91_18.1.2.1 ?_
      refine am_s_getR (r := x0 + 3) dc91_18.1.2.2 rfl hx0 rfl (am_r7_2 hp hx0) ?_
      refine am_s_iload_n rfl dc91_18.2.1.1 ?_
      refine am_x_iaload (x := I (x0 + 3) (Int32.toNatClampNeg x2)) dc91_18.2.1.2 (am_h7_2 hx0) ((vi_f (vi_f q c1).2 c2).2.1) rfl rfl ?_
      refine am_s_ior dc91_18.2.2.1 ?_
      refine am_s_iastore dc91_18.2.2.2 (am_h7_2 hx0) ((vi_f (vi_f q c1).2 c2).2.2.1) rfl ?_
      refine am_s_iinc (ls' := [some (.ref x0), l1, some (.int x2), some (.int (x3 + 1))]) am_cc1 rfl rfl dc91_19.1.1 ?_
      refine am_s_goto rfl dc91_19.1.2 ?_
      exact (vi_f (vi_f q c1).2 c2).2.2.2
theorem v91_8 {sc : Option (Nat × (Nat → Int32))} {d k n : Nat} {P : am_O → Prop} {I : am_I} {J : am_J} {Pf : am_R} (hp : am_PF Pf) {x0 : Nat} (hx0 : am_SH[x0]? = some (.inl 7)) {x1 : Nat} (hx1 : am_SH[x1]? = some (.inl 4)) {l2 : Option Value} {l3 : Option Value} (q : (am_mth d 341 [.ref (x0 + 2), .int 0] (am_SH, I, J, Pf) (am_af sc d 91 13 [some (.ref x0), some (.ref x1), l2, l3] [.int 0, .ref (x0 + 2)] [] (am_SH, I, J, Pf) k n false P))) : am_go sc d 91 (8, [some (.ref x0), some (.ref x1), l2, l3], [], (am_SH, I, J, Pf), k, n) P := by
  refine am_s_aload_n rfl dc91_0.2.1.1 ?_
  refine am_s_getR (r := x0 + 2) dc91_0.2.1.2 rfl hx0 rfl (am_r7_1 hp hx0) ?_
  refine am_s_iconst am_cc0 dc91_0.2.2.1 ?_
  exact am_s_static dc91_0.2.2.2 rfl rfl rfl (q)
theorem v91_16 {sc : Option (Nat × (Nat → Int32))} {d k n : Nat} {P : am_O → Prop} {I : am_I} {J : am_J} {Pf : am_R} (hp : am_PF Pf) {x0 : Nat} (hx0 : am_SH[x0]? = some (.inl 7)) {x1 : Nat} (hx1 : am_SH[x1]? = some (.inl 4)) {l2 : Option Value} {l3 : Option Value} (q : (am_go sc d 91 (18, [some (.ref x0), some (.ref x1), some (.int 0), l3], [], (am_SH, I, J, Pf), k, n) P)) : am_go sc d 91 (16, [some (.ref x0), some (.ref x1), l2, l3], [], (am_SH, I, J, Pf), k, n) P := by
  refine am_s_iconst am_cc0 dc91_1.1.1.1 ?_
  refine am_s_istore_n (ls' := [some (.ref x0), some (.ref x1), some (.int 0), l3]) rfl rfl dc91_1.1.1.2 ?_
  exact q
-- findRest (LPrunedParses$Rules;)V
theorem v92_0 {sc : Option (Nat × (Nat → Int32))} {d k n : Nat} {P : am_O → Prop} {I : am_I} {J : am_J} {Pf : am_R} (hp : am_PF Pf) {x0 : Nat} (hx0 : am_SH[x0]? = some (.inl 7)) {x1 : Nat} (hx1 : am_SH[x1]? = some (.inl 4)) {l2 : Option Value} (q : (am_mth d 93 [.ref x0] (am_SH, I, J, Pf) (am_af sc d 92 1 [some (.ref x0), some (.ref x1), l2] [.ref x0] [] (am_SH, I, J, Pf) k n true P))) : am_go sc d 92 (0, [some (.ref x0), some (.ref x1), l2], [], (am_SH, I, J, Pf), k, n) P := by
  refine am_s_aload_n rfl dc92_0.1.1.1 ?_
  exact am_s_virtual true dc92_0.1.1.2 rfl (by decide) rfl hx0 rfl (q)
theorem v92_11 {sc : Option (Nat × (Nat → Int32))} {d k n : Nat} {P : am_O → Prop} {I : am_I} {J : am_J} {Pf : am_R} (hp : am_PF Pf) {x0 : Nat} (hx0 : am_SH[x0]? = some (.inl 7)) {x1 : Nat} (hx1 : am_SH[x1]? = some (.inl 4)) {x2 : Int32} (q : (if 8 ≤ x2 then (am_go sc d 92 (30, [some (.ref x0), some (.ref x1), some (.int 0)], [], (am_SH, I, J, Pf), k, n) P) else (am_mth d 94 [.ref x0, .ref x1] (am_SH, I, J, Pf) (am_af sc d 92 19 [some (.ref x0), some (.ref x1), some (.int x2)] [.ref x1, .ref x0] [] (am_SH, I, J, Pf) k n true P)))) : am_go sc d 92 (11, [some (.ref x0), some (.ref x1), some (.int x2)], [], (am_SH, I, J, Pf), k, n) P := by
  refine am_s_iload_n rfl dc92_0.2.2.2 ?_
  refine am_s_bipush am_cb8 dc92_1.1.1.1 ?_
  refine am_s_ic_ge dc92_1.1.1.2 rfl (fun c1 => ?_) (fun c1 => ?_)
  · refine am_s_iconst am_cc0 dc92_1.2.2.2 ?_
    refine am_s_istore_n (ls' := [some (.ref x0), some (.ref x1), some (.int 0)]) rfl rfl dc92_2.1.1.1 ?_
    exact (vi_t q c1)
  · refine am_s_aload_n rfl dc92_1.1.2.1 ?_
    refine am_s_aload_n rfl dc92_1.1.2.2 ?_
    exact am_s_virtual true dc92_1.2.1.1 rfl (by decide) rfl hx0 rfl ((vi_f q c1))
theorem v92_30 {sc : Option (Nat × (Nat → Int32))} {d k n : Nat} {P : am_O → Prop} {I : am_I} {J : am_J} {Pf : am_R} (hp : am_PF Pf) {x0 : Nat} (hx0 : am_SH[x0]? = some (.inl 7)) {x1 : Nat} (hx1 : am_SH[x1]? = some (.inl 4)) {x2 : Int32} (q : (if 8 ≤ x2 then (am_go sc d 92 (53, [some (.ref x0), some (.ref x1), some (.int 0)], [], (am_SH, I, J, Pf), k, n) P) else (am_in x2 8 = true) ∧ ∃ r41x1 : Nat, (Pf (x0 + 5) (Int32.toNatClampNeg x2) = some r41x1) ∧ (am_SH[r41x1]? = some (.inl 6)) ∧ (am_mth d 75 [.ref r41x1] (am_SH, I, J, Pf) (am_af sc d 92 42 [some (.ref x0), some (.ref x1), some (.int x2)] [.ref r41x1] [] (am_SH, I, J, Pf) k n false P)))) : am_go sc d 92 (30, [some (.ref x0), some (.ref x1), some (.int x2)], [], (am_SH, I, J, Pf), k, n) P := by
  refine am_s_iload_n rfl dc92_2.1.1.2 ?_
  refine am_s_bipush am_cb8 dc92_2.1.2.1 ?_
  refine am_s_ic_ge dc92_2.1.2.2 rfl (fun c1 => ?_) (fun c1 => ?_)
  · refine am_s_iconst am_cc0 dc92_3.1.2.2 ?_
    refine am_s_istore_n (ls' := [some (.ref x0), some (.ref x1), some (.int 0)]) rfl rfl dc92_3.2.1.1 ?_
    exact (vi_t q c1)
  · refine am_s_aload_n rfl dc92_2.2.1.1 ?_
    refine am_s_getR (r := x0 + 5) dc92_2.2.1.2 rfl hx0 rfl (am_r7_6 hp hx0) ?_
    refine am_s_iload_n rfl dc92_2.2.2.1 ?_
    obtain ⟨r41x1, qx1⟩ := (vi_f q c1).2
    refine am_s_aaload (r := r41x1) dc92_2.2.2.2 (am_h7_6 hx0) rfl ((vi_f q c1).1) (qx1.1) ?_
    exact am_s_virtual false dc92_3.1.1.1 rfl (by decide) rfl (qx1.2.1) rfl (qx1.2.2)
theorem v92_53 {sc : Option (Nat × (Nat → Int32))} {d k n : Nat} {P : am_O → Prop} {I : am_I} {J : am_J} {Pf : am_R} (hp : am_PF Pf) {x0 : Nat} (hx0 : am_SH[x0]? = some (.inl 7)) {x1 : Nat} (hx1 : am_SH[x1]? = some (.inl 4)) {x2 : Int32} (q : (if 8 ≤ x2 then (am_mth d 97 [.ref x0, .ref x1] (am_SH, I, J, Pf) (am_af sc d 92 72 [some (.ref x0), some (.ref x1), some (.int x2)] [.ref x1, .ref x0] [] (am_SH, I, J, Pf) k n true P)) else (am_mth d 96 [.ref x0, .ref x1] (am_SH, I, J, Pf) (am_af sc d 92 61 [some (.ref x0), some (.ref x1), some (.int x2)] [.ref x1, .ref x0] [] (am_SH, I, J, Pf) k n true P)))) : am_go sc d 92 (53, [some (.ref x0), some (.ref x1), some (.int x2)], [], (am_SH, I, J, Pf), k, n) P := by
  refine am_s_iload_n rfl dc92_3.2.1.2 ?_
  refine am_s_bipush am_cb8 dc92_3.2.2.1 ?_
  refine am_s_ic_ge dc92_3.2.2.2 rfl (fun c1 => ?_) (fun c1 => ?_)
  · refine am_s_aload_n rfl dc92_4.2.1.2 ?_
    refine am_s_aload_n rfl dc92_4.2.2.1 ?_
    exact am_s_virtual true dc92_4.2.2.2 rfl (by decide) rfl hx0 rfl ((vi_t q c1))
  · refine am_s_aload_n rfl dc92_4.1.1.1 ?_
    refine am_s_aload_n rfl dc92_4.1.1.2 ?_
    exact am_s_virtual true dc92_4.1.2.1 rfl (by decide) rfl hx0 rfl ((vi_f q c1))
theorem v92_78 {sc : Option (Nat × (Nat → Int32))} {d k n : Nat} {P : am_O → Prop} {I : am_I} {J : am_J} {Pf : am_R} (hp : am_PF Pf) {x0 : Nat} (hx0 : am_SH[x0]? = some (.inl 7)) {x1 : Nat} (hx1 : am_SH[x1]? = some (.inl 4)) {x2 : Int32} (q : (if 126 < x2 then (P (.inl none, (am_SH, I, J, Pf), k, n)) else (am_mth d 69 [.ref x1, .int x2] (am_SH, I, J, Pf) (am_af sc d 92 91 [some (.ref x0), some (.ref x1), some (.int x2)] [.int x2, .ref x1, .int x2, .ref (x0 + 7)] [.int x2, .ref (x0 + 7)] (am_SH, I, J, Pf) k n false P)))) : am_go sc d 92 (78, [some (.ref x0), some (.ref x1), some (.int x2)], [], (am_SH, I, J, Pf), k, n) P := by
  refine am_s_iload_n rfl dc92_5.1.2.1 ?_
  refine am_s_bipush am_cb126 dc92_5.1.2.2 ?_
  refine am_s_ic_gt dc92_5.2.1.1 rfl (fun c1 => ?_) (fun c1 => ?_)
  · exact am_s_return dc92_6.2.2.2 rfl ((vi_t q c1))
  · refine am_s_aload_n rfl dc92_5.2.1.2 ?_
    refine am_s_getR (r := x0 + 7) dc92_5.2.2.1 rfl hx0 rfl (am_r7_8 hp hx0) ?_
    refine am_s_iload_n rfl dc92_5.2.2.2 ?_
    refine am_s_aload_n rfl dc92_6.1.1 ?_
    refine am_s_iload_n rfl dc92_6.1.2.1 ?_
    exact am_s_virtual false dc92_6.1.2.2 rfl (by decide) rfl hx1 rfl ((vi_f q c1))
theorem v92_4 {sc : Option (Nat × (Nat → Int32))} {d k n : Nat} {P : am_O → Prop} {I : am_I} {J : am_J} {Pf : am_R} (hp : am_PF Pf) {x0 : Nat} (hx0 : am_SH[x0]? = some (.inl 7)) {x1 : Nat} (hx1 : am_SH[x1]? = some (.inl 4)) {l2 : Option Value} (q : (am_go sc d 92 (11, [some (.ref x0), some (.ref x1), some (.int 0)], [], (am_SH, am_u I x0 5 0, J, Pf), k, n) P)) : am_go sc d 92 (4, [some (.ref x0), some (.ref x1), l2], [], (am_SH, I, J, Pf), k, n) P := by
  refine am_s_aload_n rfl dc92_0.1.2.1 ?_
  refine am_s_iconst am_cc0 dc92_0.1.2.2 ?_
  refine am_s_putI dc92_0.2.1.1 rfl hx0 rfl rfl ?_
  refine am_s_iconst am_cc0 dc92_0.2.1.2 ?_
  refine am_s_istore_n (ls' := [some (.ref x0), some (.ref x1), some (.int 0)]) rfl rfl dc92_0.2.2.1 ?_
  exact q
theorem v92_22 {sc : Option (Nat × (Nat → Int32))} {d k n : Nat} {P : am_O → Prop} {I : am_I} {J : am_J} {Pf : am_R} (hp : am_PF Pf) {x0 : Nat} (hx0 : am_SH[x0]? = some (.inl 7)) {x1 : Nat} (hx1 : am_SH[x1]? = some (.inl 4)) {x2 : Int32} (q : (am_go sc d 92 (11, [some (.ref x0), some (.ref x1), some (.int (x2 + 1))], [], (am_SH, I, J, Pf), k, n) P)) : am_go sc d 92 (22, [some (.ref x0), some (.ref x1), some (.int x2)], [], (am_SH, I, J, Pf), k, n) P := by
  refine am_s_iinc (ls' := [some (.ref x0), some (.ref x1), some (.int (x2 + 1))]) am_cc1 rfl rfl dc92_1.2.1.2 ?_
  refine am_s_goto rfl dc92_1.2.2.1 ?_
  exact q
theorem v92_45 {sc : Option (Nat × (Nat → Int32))} {d k n : Nat} {P : am_O → Prop} {I : am_I} {J : am_J} {Pf : am_R} (hp : am_PF Pf) {x0 : Nat} (hx0 : am_SH[x0]? = some (.inl 7)) {x1 : Nat} (hx1 : am_SH[x1]? = some (.inl 4)) {x2 : Int32} (q : (am_go sc d 92 (30, [some (.ref x0), some (.ref x1), some (.int (x2 + 1))], [], (am_SH, I, J, Pf), k, n) P)) : am_go sc d 92 (45, [some (.ref x0), some (.ref x1), some (.int x2)], [], (am_SH, I, J, Pf), k, n) P := by
  refine am_s_iinc (ls' := [some (.ref x0), some (.ref x1), some (.int (x2 + 1))]) am_cc1 rfl rfl dc92_3.1.1.2 ?_
  refine am_s_goto rfl dc92_3.1.2.1 ?_
  exact q
theorem v92_64 {sc : Option (Nat × (Nat → Int32))} {d k n : Nat} {P : am_O → Prop} {I : am_I} {J : am_J} {Pf : am_R} (hp : am_PF Pf) {x0 : Nat} (hx0 : am_SH[x0]? = some (.inl 7)) {x1 : Nat} (hx1 : am_SH[x1]? = some (.inl 4)) {x2 : Int32} (q : (am_go sc d 92 (53, [some (.ref x0), some (.ref x1), some (.int (x2 + 1))], [], (am_SH, I, J, Pf), k, n) P)) : am_go sc d 92 (64, [some (.ref x0), some (.ref x1), some (.int x2)], [], (am_SH, I, J, Pf), k, n) P := by
  refine am_s_iinc (ls' := [some (.ref x0), some (.ref x1), some (.int (x2 + 1))]) am_cc1 rfl rfl dc92_4.1.2.2 ?_
  refine am_s_goto rfl dc92_4.2.1.1 ?_
  exact q
theorem v92_75 {sc : Option (Nat × (Nat → Int32))} {d k n : Nat} {P : am_O → Prop} {I : am_I} {J : am_J} {Pf : am_R} (hp : am_PF Pf) {x0 : Nat} (hx0 : am_SH[x0]? = some (.inl 7)) {x1 : Nat} (hx1 : am_SH[x1]? = some (.inl 4)) {l2 : Option Value} (q : (am_go sc d 92 (78, [some (.ref x0), some (.ref x1), some (.int 32)], [], (am_SH, I, J, Pf), k, n) P)) : am_go sc d 92 (75, [some (.ref x0), some (.ref x1), l2], [], (am_SH, I, J, Pf), k, n) P := by
  refine am_s_bipush am_cb32 dc92_5.1.1.1 ?_
  refine am_s_istore_n (ls' := [some (.ref x0), some (.ref x1), some (.int 32)]) rfl rfl dc92_5.1.1.2 ?_
  exact q
theorem v92_94 {sc : Option (Nat × (Nat → Int32))} {d k n : Nat} {P : am_O → Prop} {I : am_I} {J : am_J} {Pf : am_R} (hp : am_PF Pf) {x0 : Nat} (hx0 : am_SH[x0]? = some (.inl 7)) {x1 : Nat} (hx1 : am_SH[x1]? = some (.inl 4)) {x2 : Int32} {s0 : Nat} (hs0 : am_SH[s0]? = some (.inr (0, 127))) {s1 : Int32} {s2 : Int32} (q : (am_in s1 127 = true) ∧ (am_go sc d 92 (78, [some (.ref x0), some (.ref x1), some (.int (x2 + 1))], [], (am_SH, am_u I s0 (Int32.toNatClampNeg s1) s2, J, Pf), k, n) P)) : am_go sc d 92 (94, [some (.ref x0), some (.ref x1), some (.int x2)], [.int s2, .int s1, .ref s0], (am_SH, I, J, Pf), k, n) P := by
  refine am_s_iastore dc92_6.2.1.1 hs0 (q.1) rfl ?_
  refine am_s_iinc (ls' := [some (.ref x0), some (.ref x1), some (.int (x2 + 1))]) am_cc1 rfl rfl dc92_6.2.1.2 ?_
  refine am_s_goto rfl dc92_6.2.2.1 ?_
  exact q.2
-- findLayers ()V
theorem v93_0 {sc : Option (Nat × (Nat → Int32))} {d k n : Nat} {P : am_O → Prop} {I : am_I} {J : am_J} {Pf : am_R} (hp : am_PF Pf) {x0 : Nat} (hx0 : am_SH[x0]? = some (.inl 7)) {l1 : Option Value} {l2 : Option Value} {l3 : Option Value} (q : (am_mth d 341 [.ref (x0 + 4), .int 0] (am_SH, I, J, Pf) (am_af sc d 93 5 [some (.ref x0), l1, l2, l3] [.int 0, .ref (x0 + 4)] [] (am_SH, I, J, Pf) k n false P))) : am_go sc d 93 (0, [some (.ref x0), l1, l2, l3], [], (am_SH, I, J, Pf), k, n) P := by
  refine am_s_aload_n rfl dc93_0.1.1.1 ?_
  refine am_s_getR (r := x0 + 4) dc93_0.1.1.2 rfl hx0 rfl (am_r7_3 hp hx0) ?_
  refine am_s_iconst am_cc0 dc93_0.1.2.1 ?_
  exact am_s_static dc93_0.1.2.2 rfl rfl rfl (q)
theorem v93_10 {sc : Option (Nat × (Nat → Int32))} {d k n : Nat} {P : am_O → Prop} {I : am_I} {J : am_J} {Pf : am_R} (hp : am_PF Pf) {x0 : Nat} (hx0 : am_SH[x0]? = some (.inl 7)) {x1 : Int32} {l2 : Option Value} {l3 : Option Value} (q : (if 8 ≤ x1 then (am_go sc d 93 (127, [some (.ref x0), some (.int 0), l2, l3], [], (am_SH, am_u I x0 4 0, J, Pf), k, n) P) else (am_go sc d 93 (18, [some (.ref x0), some (.int x1), some (.int 0), l3], [], (am_SH, I, J, Pf), k, n) P))) : am_go sc d 93 (10, [some (.ref x0), some (.int x1), l2, l3], [], (am_SH, I, J, Pf), k, n) P := by
  refine am_s_iload_n rfl dc93_0.2.2.1 ?_
  refine am_s_bipush am_cb8 dc93_0.2.2.2 ?_
  refine am_s_ic_ge dc93_1.1.1.1 rfl (fun c1 => ?_) (fun c1 => ?_)
  · refine am_s_aload_n rfl dc93_8.2.2.2 ?_
    refine am_s_iconst am_cc0 dc93_9.1.1.1 ?_
    refine am_s_putI dc93_9.1.1.2 rfl hx0 rfl rfl ?_
    refine am_s_iconst am_cc0 dc93_9.1.2.1 ?_
    refine am_s_istore_n (ls' := [some (.ref x0), some (.int 0), l2, l3]) rfl rfl dc93_9.1.2.2 ?_
    exact (vi_t q c1)
  · refine am_s_iconst am_cc0 dc93_1.1.1.2 ?_
    refine am_s_istore_n (ls' := [some (.ref x0), some (.int x1), some (.int 0), l3]) rfl rfl dc93_1.1.2.1 ?_
    exact (vi_f q c1)
theorem v93_18 {sc : Option (Nat × (Nat → Int32))} {d k n : Nat} {P : am_O → Prop} {I : am_I} {J : am_J} {Pf : am_R} (hp : am_PF Pf) {x0 : Nat} (hx0 : am_SH[x0]? = some (.inl 7)) {x1 : Int32} {x2 : Int32} {l3 : Option Value} (q : (if 8 ≤ x2 then (am_go sc d 93 (10, [some (.ref x0), some (.int (x1 + 1)), some (.int x2), l3], [], (am_SH, I, J, Pf), k, n) P) else (am_go sc d 93 (26, [some (.ref x0), some (.int x1), some (.int x2), some (.int 0)], [], (am_SH, I, J, Pf), k, n) P))) : am_go sc d 93 (18, [some (.ref x0), some (.int x1), some (.int x2), l3], [], (am_SH, I, J, Pf), k, n) P := by
  refine am_s_iload_n rfl dc93_1.1.2.2 ?_
  refine am_s_bipush am_cb8 dc93_1.2.1.1 ?_
  refine am_s_ic_ge dc93_1.2.1.2 rfl (fun c1 => ?_) (fun c1 => ?_)
  · refine am_s_iinc (ls' := [some (.ref x0), some (.int (x1 + 1)), some (.int x2), l3]) am_cc1 rfl rfl dc93_8.2.1.2 ?_
    refine am_s_goto rfl dc93_8.2.2.1 ?_
    exact (vi_t q c1)
  · refine am_s_iconst am_cc0 dc93_1.2.2.1 ?_
    refine am_s_istore_n (ls' := [some (.ref x0), some (.int x1), some (.int x2), some (.int 0)]) rfl rfl dc93_1.2.2.2 ?_
    exact (vi_f q c1)
theorem v93_26 {sc : Option (Nat × (Nat → Int32))} {d k n : Nat} {P : am_O → Prop} {I : am_I} {J : am_J} {Pf : am_R} (hp : am_PF Pf) {x0 : Nat} (hx0 : am_SH[x0]? = some (.inl 7)) {x1 : Int32} {x2 : Int32} {x3 : Int32} (q : (if 8 ≤ x3 then (am_go sc (d + 1) 93 (18, [some (.ref x0), some (.int x1), some (.int (x2 + 1)), some (.int x3)], [], (am_SH, I, J, Pf), k, n) P) else (am_in x2 8 = true) ∧ (if ((UInt32.toInt32 (Int32.toUInt32 (I (x0 + 1) (Int32.toNatClampNeg x2)) >>> (Int32.toUInt32 x3 &&& Int32.toUInt32 31))) &&& 1) = 0 then (am_go sc (d + 1) 93 (66, [some (.ref x0), some (.int x1), some (.int x2), some (.int x3)], [], (am_SH, I, J, Pf), k, n) P) else (am_in x2 8 = true) ∧ (am_in x3 8 = true) ∧ (if (I (x0 + 4) (Int32.toNatClampNeg x2)) < (I (x0 + 4) (Int32.toNatClampNeg x3)) then (am_in x2 8 = true) ∧ (am_go sc (d + 1) 93 (66, [some (.ref x0), some (.int x1), some (.int x2), some (.int x3)], [], (am_SH, am_u I (x0 + 4) (Int32.toNatClampNeg x2) (I (x0 + 4) (Int32.toNatClampNeg x3)), J, Pf), k, n) P) else (am_in x2 8 = true) ∧ (am_go sc (d + 1) 93 (66, [some (.ref x0), some (.int x1), some (.int x2), some (.int x3)], [], (am_SH, am_u I (x0 + 4) (Int32.toNatClampNeg x2) (I (x0 + 4) (Int32.toNatClampNeg x2)), J, Pf), k, n) P))))) : am_go sc (d + 1) 93 (26, [some (.ref x0), some (.int x1), some (.int x2), some (.int x3)], [], (am_SH, I, J, Pf), k, n) P := by
  refine am_s_iload_n rfl dc93_2.1.1.1 ?_
  refine am_s_bipush am_cb8 dc93_2.1.1.2 ?_
  refine am_s_ic_ge dc93_2.1.2.1 rfl (fun c1 => ?_) (fun c1 => ?_)
  · refine am_s_iinc (ls' := [some (.ref x0), some (.int x1), some (.int (x2 + 1)), some (.int x3)]) am_cc1 rfl rfl dc93_8.1.2.2 ?_
    refine am_s_goto rfl dc93_8.2.1.1 ?_
    exact (vi_t q c1)
  · refine am_s_aload_n rfl dc93_2.1.2.2 ?_
    refine am_s_getR (r := x0 + 1) dc93_2.2.1.1 rfl hx0 rfl (am_r7_0 hp hx0) ?_
    refine am_s_iload_n rfl dc93_2.2.1.2 ?_
    refine am_x_iaload (x := I (x0 + 1) (Int32.toNatClampNeg x2)) dc93_2.2.2.1 (am_h7_0 hx0) ((vi_f q c1).1) rfl rfl ?_
    refine am_s_iload_n rfl dc93_2.2.2.2 ?_
    refine am_s_iushr dc93_3.1.1.1 ?_
    refine am_s_iconst am_cc1 dc93_3.1.1.2 ?_
    refine am_s_iand dc93_3.1.2.1 ?_
    refine am_s_if_eq dc93_3.1.2.2 rfl (fun c2 => ?_) (fun c2 => ?_)
    · exact (vi_t (vi_f q c1).2 c2)
    · refine am_s_aload_n rfl dc93_3.2.1.1 ?_
      refine am_s_getR (r := x0 + 4) dc93_3.2.1.2 rfl hx0 rfl (am_r7_3 hp hx0) ?_
      refine am_s_iload_n rfl dc93_3.2.2.1 ?_
      refine am_s_aload_n rfl dc93_3.2.2.2 ?_
      refine am_s_getR (r := x0 + 4) dc93_4.1.1.1 rfl hx0 rfl (am_r7_3 hp hx0) ?_
      refine am_s_iload_n rfl dc93_4.1.1.2 ?_
      refine am_x_iaload (x := I (x0 + 4) (Int32.toNatClampNeg x2)) dc93_4.1.2.1 (am_h7_3 hx0) ((vi_f (vi_f q c1).2 c2).1) rfl rfl ?_
      refine am_s_aload_n rfl dc93_4.1.2.2 ?_
      refine am_s_getR (r := x0 + 4) dc93_4.2.1.1 rfl hx0 rfl (am_r7_3 hp hx0) ?_
      refine am_s_iload_n rfl dc93_4.2.1.2 ?_
      refine am_x_iaload (x := I (x0 + 4) (Int32.toNatClampNeg x3)) dc93_4.2.2.1 (am_h7_3 hx0) ((vi_f (vi_f q c1).2 c2).2.1) rfl rfl ?_
      refine am_s_static dc93_4.2.2.2 rfl rfl rfl (am_mth_of rfl rfl ?_)
      refine am_s_iload_n rfl dc329_0.1.1 ?_
      refine am_s_iload_n rfl dc329_0.1.2.1 ?_
      refine am_s_ic_lt dc329_0.1.2.2 rfl (fun c3 => ?_) (fun c3 => ?_)
      · refine am_s_iload_n rfl dc329_0.2.2.1 ?_
        refine am_s_ireturn dc329_0.2.2.2 rfl (am_bkI ?_)
        refine am_s_iastore dc93_5.1.1.1 (am_h7_3 hx0) ((vi_t (vi_f (vi_f q c1).2 c2).2.2 c3).1) rfl ?_
        exact (vi_t (vi_f (vi_f q c1).2 c2).2.2 c3).2
      · refine am_s_iload_n rfl dc329_0.2.1.1 ?_
        refine am_s_goto rfl dc329_0.2.1.2 ?_
        refine am_s_ireturn dc329_0.2.2.2 rfl (am_bkI ?_)
        refine am_s_iastore dc93_5.1.1.1 (am_h7_3 hx0) ((vi_f (vi_f (vi_f q c1).2 c2).2.2 c3).1) rfl ?_
        exact (vi_f (vi_f (vi_f q c1).2 c2).2.2 c3).2
theorem v93_66 {sc : Option (Nat × (Nat → Int32))} {d k n : Nat} {P : am_O → Prop} {I : am_I} {J : am_J} {Pf : am_R} (hp : am_PF Pf) {x0 : Nat} (hx0 : am_SH[x0]? = some (.inl 7)) {x1 : Int32} {x2 : Int32} {x3 : Int32} (q : (am_in x2 8 = true) ∧ (if ((UInt32.toInt32 (Int32.toUInt32 (I (x0 + 2) (Int32.toNatClampNeg x2)) >>> (Int32.toUInt32 x3 &&& Int32.toUInt32 31))) &&& 1) = 0 then (am_go sc (d + 1) 93 (26, [some (.ref x0), some (.int x1), some (.int x2), some (.int (x3 + 1))], [], (am_SH, I, J, Pf), k, n) P) else (am_in x2 8 = true) ∧ (am_in x3 8 = true) ∧ (if (I (x0 + 4) (Int32.toNatClampNeg x2)) < ((I (x0 + 4) (Int32.toNatClampNeg x3)) + 1) then (am_in x2 8 = true) ∧ (am_go sc (d + 1) 93 (26, [some (.ref x0), some (.int x1), some (.int x2), some (.int (x3 + 1))], [], (am_SH, am_u I (x0 + 4) (Int32.toNatClampNeg x2) ((I (x0 + 4) (Int32.toNatClampNeg x3)) + 1), J, Pf), k, n) P) else (am_in x2 8 = true) ∧ (am_go sc (d + 1) 93 (26, [some (.ref x0), some (.int x1), some (.int x2), some (.int (x3 + 1))], [], (am_SH, am_u I (x0 + 4) (Int32.toNatClampNeg x2) (I (x0 + 4) (Int32.toNatClampNeg x2)), J, Pf), k, n) P)))) : am_go sc (d + 1) 93 (66, [some (.ref x0), some (.int x1), some (.int x2), some (.int x3)], [], (am_SH, I, J, Pf), k, n) P := by
  refine am_s_aload_n rfl dc93_5.1.1.2 ?_
  refine am_s_getR (r := x0 + 2) dc93_5.1.2.1 rfl hx0 rfl (am_r7_1 hp hx0) ?_
  refine am_s_iload_n rfl dc93_5.1.2.2 ?_
  refine am_x_iaload (x := I (x0 + 2) (Int32.toNatClampNeg x2)) dc93_5.2.1.1 (am_h7_1 hx0) (q.1) rfl rfl ?_
  refine am_s_iload_n rfl dc93_5.2.1.2 ?_
  refine am_s_iushr dc93_5.2.2.1 ?_
  refine am_s_iconst am_cc1 dc93_5.2.2.2 ?_
  refine am_s_iand dc93_6.1.1.1 ?_
  refine am_s_if_eq dc93_6.1.1.2 rfl (fun c1 => ?_) (fun c1 => ?_)
  · refine am_s_iinc (ls' := [some (.ref x0), some (.int x1), some (.int x2), some (.int (x3 + 1))]) am_cc1 rfl rfl dc93_8.1.1.2 ?_
    refine am_s_goto rfl dc93_8.1.2.1 ?_
    exact (vi_t q.2 c1)
  · refine am_s_aload_n rfl dc93_6.1.2.1 ?_
    refine am_s_getR (r := x0 + 4) dc93_6.1.2.2 rfl hx0 rfl (am_r7_3 hp hx0) ?_
    refine am_s_iload_n rfl dc93_6.2.1.1 ?_
    refine am_s_aload_n rfl dc93_6.2.1.2 ?_
    refine am_s_getR (r := x0 + 4) dc93_6.2.2.1 rfl hx0 rfl (am_r7_3 hp hx0) ?_
    refine am_s_iload_n rfl dc93_6.2.2.2 ?_
    refine am_x_iaload (x := I (x0 + 4) (Int32.toNatClampNeg x2)) dc93_7.1.1.1 (am_h7_3 hx0) ((vi_f q.2 c1).1) rfl rfl ?_
    refine am_s_aload_n rfl dc93_7.1.1.2 ?_
    refine am_s_getR (r := x0 + 4) dc93_7.1.2.1 rfl hx0 rfl (am_r7_3 hp hx0) ?_
    refine am_s_iload_n rfl dc93_7.1.2.2 ?_
    refine am_x_iaload (x := I (x0 + 4) (Int32.toNatClampNeg x3)) dc93_7.2.1.1 (am_h7_3 hx0) ((vi_f q.2 c1).2.1) rfl rfl ?_
    refine am_s_iconst am_cc1 dc93_7.2.1.2 ?_
    refine am_s_iadd dc93_7.2.2.1 ?_
    refine am_s_static dc93_7.2.2.2 rfl rfl rfl (am_mth_of rfl rfl ?_)
    refine am_s_iload_n rfl dc329_0.1.1 ?_
    refine am_s_iload_n rfl dc329_0.1.2.1 ?_
    refine am_s_ic_lt dc329_0.1.2.2 rfl (fun c2 => ?_) (fun c2 => ?_)
    · refine am_s_iload_n rfl dc329_0.2.2.1 ?_
      refine am_s_ireturn dc329_0.2.2.2 rfl (am_bkI ?_)
      refine am_s_iastore dc93_8.1.1.1 (am_h7_3 hx0) ((vi_t (vi_f q.2 c1).2.2 c2).1) rfl ?_
      refine am_s_iinc (ls' := [some (.ref x0), some (.int x1), some (.int x2), some (.int (x3 + 1))]) am_cc1 rfl rfl dc93_8.1.1.2 ?_
      refine am_s_goto rfl dc93_8.1.2.1 ?_
      exact (vi_t (vi_f q.2 c1).2.2 c2).2
    · refine am_s_iload_n rfl dc329_0.2.1.1 ?_
      refine am_s_goto rfl dc329_0.2.1.2 ?_
      refine am_s_ireturn dc329_0.2.2.2 rfl (am_bkI ?_)
      refine am_s_iastore dc93_8.1.1.1 (am_h7_3 hx0) ((vi_f (vi_f q.2 c1).2.2 c2).1) rfl ?_
      refine am_s_iinc (ls' := [some (.ref x0), some (.int x1), some (.int x2), some (.int (x3 + 1))]) am_cc1 rfl rfl dc93_8.1.1.2 ?_
      refine am_s_goto rfl dc93_8.1.2.1 ?_
      exact (vi_f (vi_f q.2 c1).2.2 c2).2
theorem v93_127 {sc : Option (Nat × (Nat → Int32))} {d k n : Nat} {P : am_O → Prop} {I : am_I} {J : am_J} {Pf : am_R} (hp : am_PF Pf) {x0 : Nat} (hx0 : am_SH[x0]? = some (.inl 7)) {x1 : Int32} {l2 : Option Value} {l3 : Option Value} (q : (if 8 ≤ x1 then (P (.inl none, (am_SH, I, J, Pf), k, n)) else (am_in x1 8 = true) ∧ (if (I x0 4) < (I (x0 + 4) (Int32.toNatClampNeg x1)) then (am_go sc (d + 1) 93 (127, [some (.ref x0), some (.int (x1 + 1)), l2, l3], [], (am_SH, am_u I x0 4 (I (x0 + 4) (Int32.toNatClampNeg x1)), J, Pf), k, n) P) else (am_go sc (d + 1) 93 (127, [some (.ref x0), some (.int (x1 + 1)), l2, l3], [], (am_SH, am_u I x0 4 (I x0 4), J, Pf), k, n) P)))) : am_go sc (d + 1) 93 (127, [some (.ref x0), some (.int x1), l2, l3], [], (am_SH, I, J, Pf), k, n) P := by
  refine am_s_iload_n rfl dc93_9.2.1.1 ?_
  refine am_s_bipush am_cb8 dc93_9.2.1.2 ?_
  refine am_s_ic_ge dc93_9.2.2.1 rfl (fun c1 => ?_) (fun c1 => ?_)
  · exact am_s_return dc93_11.2.2 rfl ((vi_t q c1))
  · refine am_s_aload_n rfl dc93_9.2.2.2 ?_
    refine am_s_aload_n rfl dc93_10.1.1.1 ?_
    refine am_x_getI (x := I x0 4) dc93_10.1.1.2 rfl hx0 (Or.inl rfl) rfl ?_
    refine am_s_aload_n rfl dc93_10.1.2.1 ?_
    refine am_s_getR (r := x0 + 4) dc93_10.1.2.2 rfl hx0 rfl (am_r7_3 hp hx0) ?_
    refine am_s_iload_n rfl dc93_10.2.1.1 ?_
    refine am_x_iaload (x := I (x0 + 4) (Int32.toNatClampNeg x1)) dc93_10.2.1.2 (am_h7_3 hx0) ((vi_f q c1).1) rfl rfl ?_
    refine am_s_static dc93_10.2.2.1 rfl rfl rfl (am_mth_of rfl rfl ?_)
    refine am_s_iload_n rfl dc329_0.1.1 ?_
    refine am_s_iload_n rfl dc329_0.1.2.1 ?_
    refine am_s_ic_lt dc329_0.1.2.2 rfl (fun c2 => ?_) (fun c2 => ?_)
    · refine am_s_iload_n rfl dc329_0.2.2.1 ?_
      refine am_s_ireturn dc329_0.2.2.2 rfl (am_bkI ?_)
      refine am_s_putI dc93_10.2.2.2 rfl hx0 rfl rfl ?_
      refine am_s_iinc (ls' := [some (.ref x0), some (.int (x1 + 1)), l2, l3]) am_cc1 rfl rfl dc93_11.1 ?_
      refine am_s_goto rfl dc93_11.2.1 ?_
      exact (vi_t (vi_f q c1).2 c2)
    · refine am_s_iload_n rfl dc329_0.2.1.1 ?_
      refine am_s_goto rfl dc329_0.2.1.2 ?_
      refine am_s_ireturn dc329_0.2.2.2 rfl (am_bkI ?_)
      refine am_s_putI dc93_10.2.2.2 rfl hx0 rfl rfl ?_
      refine am_s_iinc (ls' := [some (.ref x0), some (.int (x1 + 1)), l2, l3]) am_cc1 rfl rfl dc93_11.1 ?_
      refine am_s_goto rfl dc93_11.2.1 ?_
      exact (vi_f (vi_f q c1).2 c2)
theorem v93_8 {sc : Option (Nat × (Nat → Int32))} {d k n : Nat} {P : am_O → Prop} {I : am_I} {J : am_J} {Pf : am_R} (hp : am_PF Pf) {x0 : Nat} (hx0 : am_SH[x0]? = some (.inl 7)) {l1 : Option Value} {l2 : Option Value} {l3 : Option Value} (q : (am_go sc d 93 (10, [some (.ref x0), some (.int 0), l2, l3], [], (am_SH, I, J, Pf), k, n) P)) : am_go sc d 93 (8, [some (.ref x0), l1, l2, l3], [], (am_SH, I, J, Pf), k, n) P := by
  refine am_s_iconst am_cc0 dc93_0.2.1.1 ?_
  refine am_s_istore_n (ls' := [some (.ref x0), some (.int 0), l2, l3]) rfl rfl dc93_0.2.1.2 ?_
  exact q
-- findEmpty (LPrunedParses$Rules;)V
theorem v94_0 {sc : Option (Nat × (Nat → Int32))} {d k n : Nat} {P : am_O → Prop} {I : am_I} {J : am_J} {Pf : am_R} (hp : am_PF Pf) {x0 : Nat} (hx0 : am_SH[x0]? = some (.inl 7)) {x1 : Nat} (hx1 : am_SH[x1]? = some (.inl 4)) {l2 : Option Value} {l3 : Option Value} {l4 : Option Value} (q : (am_go sc d 94 (2, [some (.ref x0), some (.ref x1), some (.int 0), l3, l4], [], (am_SH, I, J, Pf), k, n) P)) : am_go sc d 94 (0, [some (.ref x0), some (.ref x1), l2, l3, l4], [], (am_SH, I, J, Pf), k, n) P := by
  refine am_s_iconst am_cc0 dc94_0.1.1.1 ?_
  refine am_s_istore_n (ls' := [some (.ref x0), some (.ref x1), some (.int 0), l3, l4]) rfl rfl dc94_0.1.1.2 ?_
  exact q
theorem v94_2 {sc : Option (Nat × (Nat → Int32))} {d k n : Nat} {P : am_O → Prop} {I : am_I} {J : am_J} {Pf : am_R} (hp : am_PF Pf) {x0 : Nat} (hx0 : am_SH[x0]? = some (.inl 7)) {x1 : Nat} (hx1 : am_SH[x1]? = some (.inl 4)) {x2 : Int32} {l3 : Option Value} {l4 : Option Value} (q : (if (I x1 2) ≤ x2 then (P (.inl none, (am_SH, I, J, Pf), k, n)) else (am_go sc d 94 (17, [some (.ref x0), some (.ref x1), some (.int x2), some (.int 1), some (.int (x2 * 4))], [], (am_SH, I, J, Pf), k, n) P))) : am_go sc d 94 (2, [some (.ref x0), some (.ref x1), some (.int x2), l3, l4], [], (am_SH, I, J, Pf), k, n) P := by
  refine am_s_iload_n rfl dc94_0.1.2.1 ?_
  refine am_s_aload_n rfl dc94_0.1.2.2 ?_
  refine am_x_getI (x := I x1 2) dc94_0.2.1.1 rfl hx1 (Or.inl rfl) rfl ?_
  refine am_s_ic_ge dc94_0.2.1.2 rfl (fun c1 => ?_) (fun c1 => ?_)
  · exact am_s_return dc94_5.2.2.2 rfl ((vi_t q c1))
  · refine am_s_iconst am_cc1 dc94_0.2.2.1 ?_
    refine am_s_istore_n (ls' := [some (.ref x0), some (.ref x1), some (.int x2), some (.int 1), l4]) rfl rfl dc94_0.2.2.2 ?_
    refine am_s_iload_n rfl dc94_1.1.1.1 ?_
    refine am_s_iconst am_cc4 dc94_1.1.1.2 ?_
    refine am_s_imul dc94_1.1.2.1 ?_
    refine am_s_istore (ls' := [some (.ref x0), some (.ref x1), some (.int x2), some (.int 1), some (.int (x2 * 4))]) rfl rfl dc94_1.1.2.2 ?_
    exact (vi_f q c1)
theorem v94_17 {sc : Option (Nat × (Nat → Int32))} {d k n : Nat} {P : am_O → Prop} {I : am_I} {J : am_J} {Pf : am_R} (hp : am_PF Pf) {x0 : Nat} (hx0 : am_SH[x0]? = some (.inl 7)) {x1 : Nat} (hx1 : am_SH[x1]? = some (.inl 4)) {x2 : Int32} {x3 : Int32} {x4 : Int32} (q : (am_in x2 20 = true) ∧ (if ((x2 * 4) + (I (x1 + 4) (Int32.toNatClampNeg x2))) ≤ x4 then (if x3 = 0 then (am_go sc (d + 1) 94 (2, [some (.ref x0), some (.ref x1), some (.int (x2 + 1)), some (.int x3), some (.int x4)], [], (am_SH, I, J, Pf), k, n) P) else (am_in x2 20 = true) ∧ (am_go sc (d + 1) 94 (2, [some (.ref x0), some (.ref x1), some (.int (x2 + 1)), some (.int x3), some (.int x4)], [], (am_SH, am_u I x0 5 ((I x0 5) ||| ((1 : Int32) <<< ((I (x1 + 2) (Int32.toNatClampNeg x2)) &&& 31))), J, Pf), k, n) P)) else (am_in x4 80 = true) ∧ (if (I (x1 + 5) (Int32.toNatClampNeg x4)) = 1 then (am_in x4 80 = true) ∧ (if ((UInt32.toInt32 (Int32.toUInt32 (I x0 5) >>> (Int32.toUInt32 (I (x1 + 6) (Int32.toNatClampNeg x4)) &&& Int32.toUInt32 31))) &&& 1) = 0 then (am_go sc (d + 1) 94 (17, [some (.ref x0), some (.ref x1), some (.int x2), some (.int 0), some (.int (x4 + 1))], [], (am_SH, I, J, Pf), k, n) P) else (am_go sc (d + 1) 94 (17, [some (.ref x0), some (.ref x1), some (.int x2), some (.int x3), some (.int (x4 + 1))], [], (am_SH, I, J, Pf), k, n) P)) else (am_go sc (d + 1) 94 (17, [some (.ref x0), some (.ref x1), some (.int x2), some (.int 0), some (.int (x4 + 1))], [], (am_SH, I, J, Pf), k, n) P)))) : am_go sc (d + 1) 94 (17, [some (.ref x0), some (.ref x1), some (.int x2), some (.int x3), some (.int x4)], [], (am_SH, I, J, Pf), k, n) P := by
  refine am_s_iload rfl dc94_1.2.1.1 ?_
  refine am_s_iload_n rfl dc94_1.2.1.2 ?_
  refine am_s_iconst am_cc4 dc94_1.2.2.1 ?_
  refine am_s_imul dc94_1.2.2.2 ?_
  refine am_s_aload_n rfl dc94_2.1.1.1 ?_
  refine am_s_getR (r := x1 + 4) dc94_2.1.1.2 rfl hx1 rfl (am_r4_5 hp hx1) ?_
  refine am_s_iload_n rfl dc94_2.1.2.1 ?_
  refine am_x_iaload (x := I (x1 + 4) (Int32.toNatClampNeg x2)) dc94_2.1.2.2 (am_h4_5 hx1) (q.1) rfl rfl ?_
  refine am_s_iadd dc94_2.2.1.1 ?_
  refine am_s_ic_ge dc94_2.2.1.2 rfl (fun c1 => ?_) (fun c1 => ?_)
  · refine am_s_iload_n rfl dc94_3.2.2.2 ?_
    refine am_s_if_eq dc94_4.1.1.1 rfl (fun c2 => ?_) (fun c2 => ?_)
    · refine am_s_iinc (ls' := [some (.ref x0), some (.ref x1), some (.int (x2 + 1)), some (.int x3), some (.int x4)]) am_cc1 rfl rfl dc94_5.2.1.2 ?_
      refine am_s_goto rfl dc94_5.2.2.1 ?_
      exact (vi_t (vi_t q.2 c1) c2)
    · refine am_s_aload_n rfl dc94_4.1.1.2 ?_
      refine am_s_dup rfl dc94_4.1.2.1 ?_
      refine am_x_getI (x := I x0 5) dc94_4.1.2.2 rfl hx0 (Or.inl rfl) rfl ?_
      refine am_s_iconst am_cc1 dc94_4.2.1.1 ?_
      refine am_s_aload_n rfl dc94_4.2.1.2 ?_
      refine am_s_getR (r := x1 + 2) dc94_4.2.2.1 rfl hx1 rfl (am_r4_3 hp hx1) ?_
      refine am_s_iload_n rfl dc94_4.2.2.2 ?_
      refine am_x_iaload (x := I (x1 + 2) (Int32.toNatClampNeg x2)) dc94_5.1.1 (am_h4_3 hx1) ((vi_f (vi_t q.2 c1) c2).1) rfl rfl ?_
      refine am_s_ishl dc94_5.1.2.1 ?_
      refine am_s_ior dc94_5.1.2.2 ?_
      refine am_s_putI dc94_5.2.1.1 rfl hx0 rfl rfl ?_
      refine am_s_iinc (ls' := [some (.ref x0), some (.ref x1), some (.int (x2 + 1)), some (.int x3), some (.int x4)]) am_cc1 rfl rfl dc94_5.2.1.2 ?_
      refine am_s_goto rfl dc94_5.2.2.1 ?_
      exact (vi_f (vi_t q.2 c1) c2).2
  · refine am_s_aload_n rfl dc94_2.2.2.1 ?_
    refine am_s_aload_n rfl dc94_2.2.2.2 ?_
    refine am_s_iload rfl dc94_3.1.1.1 ?_
    refine am_s_virtual true dc94_3.1.1.2 rfl (by decide) rfl hx0 rfl (am_mth_of rfl rfl ?_)
    refine am_s_aload_n rfl dc95_0.1.1.1 ?_
    refine am_s_getR (r := x1 + 5) dc95_0.1.1.2 rfl hx1 rfl (am_r4_6 hp hx1) ?_
    refine am_s_iload_n rfl dc95_0.1.2.1 ?_
    refine am_x_iaload (x := I (x1 + 5) (Int32.toNatClampNeg x4)) dc95_0.1.2.2 (am_h4_6 hx1) ((vi_f q.2 c1).1) rfl rfl ?_
    refine am_s_iconst am_cc1 dc95_0.2.1.1 ?_
    refine am_s_ic_ne dc95_0.2.1.2 rfl (fun c2 => ?_) (fun c2 => ?_)
    · refine am_s_iconst am_cc0 dc95_2.2.1 ?_
      refine am_s_zreturn dc95_2.2.2 rfl (by decide) (am_bkI ?_)
      refine am_s_if_ne dc94_3.1.2.1 rfl (fun z => absurd z (by decide)) (fun _ => ?_)
      refine am_s_iconst am_cc0 dc94_3.1.2.2 ?_
      refine am_s_istore_n (ls' := [some (.ref x0), some (.ref x1), some (.int x2), some (.int 0), some (.int x4)]) rfl rfl dc94_3.2.1.1 ?_
      refine am_s_iinc (ls' := [some (.ref x0), some (.ref x1), some (.int x2), some (.int 0), some (.int (x4 + 1))]) am_cc1 rfl rfl dc94_3.2.1.2 ?_
      refine am_s_goto rfl dc94_3.2.2.1 ?_
      exact (vi_f (vi_f q.2 c1).2 c2)
    · refine am_s_aload_n rfl dc95_0.2.2.1 ?_
      refine am_x_getI (x := I x0 5) dc95_0.2.2.2 rfl hx0 (Or.inl rfl) rfl ?_
      refine am_s_aload_n rfl dc95_1.1.1.1 ?_
      refine am_s_getR (r := x1 + 6) dc95_1.1.1.2 rfl hx1 rfl (am_r4_7 hp hx1) ?_
      refine am_s_iload_n rfl dc95_1.1.2.1 ?_
      refine am_x_iaload (x := I (x1 + 6) (Int32.toNatClampNeg x4)) dc95_1.1.2.2 (am_h4_7 hx1) ((vi_t (vi_f q.2 c1).2 (Decidable.not_not.mp c2)).1) rfl rfl ?_
      refine am_s_iushr dc95_1.2.1.1 ?_
      refine am_s_iconst am_cc1 dc95_1.2.1.2 ?_
      refine am_s_iand dc95_1.2.2.1 ?_
      refine am_s_if_eq dc95_1.2.2.2 rfl (fun c3 => ?_) (fun c3 => ?_)
      · refine am_s_iconst am_cc0 dc95_2.2.1 ?_
        refine am_s_zreturn dc95_2.2.2 rfl (by decide) (am_bkI ?_)
        refine am_s_if_ne dc94_3.1.2.1 rfl (fun z => absurd z (by decide)) (fun _ => ?_)
        refine am_s_iconst am_cc0 dc94_3.1.2.2 ?_
        refine am_s_istore_n (ls' := [some (.ref x0), some (.ref x1), some (.int x2), some (.int 0), some (.int x4)]) rfl rfl dc94_3.2.1.1 ?_
        refine am_s_iinc (ls' := [some (.ref x0), some (.ref x1), some (.int x2), some (.int 0), some (.int (x4 + 1))]) am_cc1 rfl rfl dc94_3.2.1.2 ?_
        refine am_s_goto rfl dc94_3.2.2.1 ?_
        exact (vi_t (vi_t (vi_f q.2 c1).2 (Decidable.not_not.mp c2)).2 c3)
      · refine am_s_iconst am_cc1 dc95_2.1.1 ?_
        refine am_s_goto rfl dc95_2.1.2 ?_
        refine am_s_zreturn dc95_2.2.2 rfl (by decide) (am_bkI ?_)
        refine am_s_if_ne dc94_3.1.2.1 rfl (fun _ => ?_) (fun z => absurd z (by decide))
        refine am_s_iinc (ls' := [some (.ref x0), some (.ref x1), some (.int x2), some (.int x3), some (.int (x4 + 1))]) am_cc1 rfl rfl dc94_3.2.1.2 ?_
        refine am_s_goto rfl dc94_3.2.2.1 ?_
        exact (vi_f (vi_t (vi_f q.2 c1).2 (Decidable.not_not.mp c2)).2 c3)
-- canBeEmpty (LPrunedParses$Rules;I)Z
theorem v95_0 {sc : Option (Nat × (Nat → Int32))} {d k n : Nat} {P : am_O → Prop} {I : am_I} {J : am_J} {Pf : am_R} (hp : am_PF Pf) {x0 : Nat} (hx0 : am_SH[x0]? = some (.inl 7)) {x1 : Nat} (hx1 : am_SH[x1]? = some (.inl 4)) {x2 : Int32} (q : (am_in x2 80 = true) ∧ (if (I (x1 + 5) (Int32.toNatClampNeg x2)) = 1 then (am_in x2 80 = true) ∧ (if ((UInt32.toInt32 (Int32.toUInt32 (I x0 5) >>> (Int32.toUInt32 (I (x1 + 6) (Int32.toNatClampNeg x2)) &&& Int32.toUInt32 31))) &&& 1) = 0 then (P (.inl (some (.int 0)), (am_SH, I, J, Pf), k, n)) else (P (.inl (some (.int 1)), (am_SH, I, J, Pf), k, n))) else (P (.inl (some (.int 0)), (am_SH, I, J, Pf), k, n)))) : am_go sc d 95 (0, [some (.ref x0), some (.ref x1), some (.int x2)], [], (am_SH, I, J, Pf), k, n) P := by
  refine am_s_aload_n rfl dc95_0.1.1.1 ?_
  refine am_s_getR (r := x1 + 5) dc95_0.1.1.2 rfl hx1 rfl (am_r4_6 hp hx1) ?_
  refine am_s_iload_n rfl dc95_0.1.2.1 ?_
  refine am_x_iaload (x := I (x1 + 5) (Int32.toNatClampNeg x2)) dc95_0.1.2.2 (am_h4_6 hx1) (q.1) rfl rfl ?_
  refine am_s_iconst am_cc1 dc95_0.2.1.1 ?_
  refine am_s_ic_ne dc95_0.2.1.2 rfl (fun c1 => ?_) (fun c1 => ?_)
  · refine am_s_iconst am_cc0 dc95_2.2.1 ?_
    exact am_s_zreturn dc95_2.2.2 rfl (by decide) ((vi_f q.2 c1))
  · refine am_s_aload_n rfl dc95_0.2.2.1 ?_
    refine am_x_getI (x := I x0 5) dc95_0.2.2.2 rfl hx0 (Or.inl rfl) rfl ?_
    refine am_s_aload_n rfl dc95_1.1.1.1 ?_
    refine am_s_getR (r := x1 + 6) dc95_1.1.1.2 rfl hx1 rfl (am_r4_7 hp hx1) ?_
    refine am_s_iload_n rfl dc95_1.1.2.1 ?_
    refine am_x_iaload (x := I (x1 + 6) (Int32.toNatClampNeg x2)) dc95_1.1.2.2 (am_h4_7 hx1) ((vi_t q.2 (Decidable.not_not.mp c1)).1) rfl rfl ?_
    refine am_s_iushr dc95_1.2.1.1 ?_
    refine am_s_iconst am_cc1 dc95_1.2.1.2 ?_
    refine am_s_iand dc95_1.2.2.1 ?_
    refine am_s_if_eq dc95_1.2.2.2 rfl (fun c2 => ?_) (fun c2 => ?_)
    · refine am_s_iconst am_cc0 dc95_2.2.1 ?_
      exact am_s_zreturn dc95_2.2.2 rfl (by decide) ((vi_t (vi_t q.2 (Decidable.not_not.mp c1)).2 c2))
    · refine am_s_iconst am_cc1 dc95_2.1.1 ?_
      refine am_s_goto rfl dc95_2.1.2 ?_
      exact am_s_zreturn dc95_2.2.2 rfl (by decide) ((vi_f (vi_t q.2 (Decidable.not_not.mp c1)).2 c2))
-- findBegins (LPrunedParses$Rules;)V
theorem v96_0 {sc : Option (Nat × (Nat → Int32))} {d k n : Nat} {P : am_O → Prop} {I : am_I} {J : am_J} {Pf : am_R} (hp : am_PF Pf) {x0 : Nat} (hx0 : am_SH[x0]? = some (.inl 7)) {x1 : Nat} (hx1 : am_SH[x1]? = some (.inl 4)) {l2 : Option Value} {l3 : Option Value} {l4 : Option Value} {l5 : Option Value} (q : (am_go sc d 96 (2, [some (.ref x0), some (.ref x1), some (.int 0), l3, l4, l5], [], (am_SH, I, J, Pf), k, n) P)) : am_go sc d 96 (0, [some (.ref x0), some (.ref x1), l2, l3, l4, l5], [], (am_SH, I, J, Pf), k, n) P := by
  refine am_s_iconst am_cc0 dc96_0.1.1.1 ?_
  refine am_s_istore_n (ls' := [some (.ref x0), some (.ref x1), some (.int 0), l3, l4, l5]) rfl rfl dc96_0.1.1.2 ?_
  exact q
theorem v96_2 {sc : Option (Nat × (Nat → Int32))} {d k n : Nat} {P : am_O → Prop} {I : am_I} {J : am_J} {Pf : am_R} (hp : am_PF Pf) {x0 : Nat} (hx0 : am_SH[x0]? = some (.inl 7)) {x1 : Nat} (hx1 : am_SH[x1]? = some (.inl 4)) {x2 : Int32} {l3 : Option Value} {l4 : Option Value} {l5 : Option Value} (q : (if (I x1 2) ≤ x2 then (am_go sc d 96 (141, [some (.ref x0), some (.ref x1), some (.int 0), l3, l4, l5], [], (am_SH, I, J, Pf), k, n) P) else (am_in x2 20 = true) ∧ (am_in (I (x1 + 2) (Int32.toNatClampNeg x2)) 8 = true) ∧ ∃ r20x1 : Nat, (Pf (x0 + 5) (Int32.toNatClampNeg (I (x1 + 2) (Int32.toNatClampNeg x2))) = some r20x1) ∧ (am_SH[r20x1]? = some (.inl 6)) ∧ (am_go sc d 96 (27, [some (.ref x0), some (.ref x1), some (.int x2), some (.ref r20x1), some (.int (x2 * 4)), l5], [], (am_SH, I, J, Pf), k, n) P))) : am_go sc d 96 (2, [some (.ref x0), some (.ref x1), some (.int x2), l3, l4, l5], [], (am_SH, I, J, Pf), k, n) P := by
  refine am_s_iload_n rfl dc96_0.1.2.1 ?_
  refine am_s_aload_n rfl dc96_0.1.2.2 ?_
  refine am_x_getI (x := I x1 2) dc96_0.2.1.1 rfl hx1 (Or.inl rfl) rfl ?_
  refine am_s_ic_ge dc96_0.2.1.2 rfl (fun c1 => ?_) (fun c1 => ?_)
  · refine am_s_iconst am_cc0 dc96_9.2.1.1 ?_
    refine am_s_istore_n (ls' := [some (.ref x0), some (.ref x1), some (.int 0), l3, l4, l5]) rfl rfl dc96_9.2.1.2 ?_
    exact (vi_t q c1)
  · refine am_s_aload_n rfl dc96_0.2.2.1 ?_
    refine am_s_getR (r := x0 + 5) dc96_0.2.2.2 rfl hx0 rfl (am_r7_6 hp hx0) ?_
    refine am_s_aload_n rfl dc96_1.1.1.1 ?_
    refine am_s_getR (r := x1 + 2) dc96_1.1.1.2 rfl hx1 rfl (am_r4_3 hp hx1) ?_
    refine am_s_iload_n rfl dc96_1.1.2.1 ?_
    refine am_x_iaload (x := I (x1 + 2) (Int32.toNatClampNeg x2)) dc96_1.1.2.2 (am_h4_3 hx1) ((vi_f q c1).1) rfl rfl ?_
    obtain ⟨r20x1, qx1⟩ := (vi_f q c1).2.2
    refine am_s_aaload (r := r20x1) dc96_1.2.1.1 (am_h7_6 hx0) rfl ((vi_f q c1).2.1) (qx1.1) ?_
    refine am_s_astore_n (ls' := [some (.ref x0), some (.ref x1), some (.int x2), some (.ref r20x1), l4, l5]) rfl rfl dc96_1.2.1.2 ?_
    refine am_s_iload_n rfl dc96_1.2.2.1 ?_
    refine am_s_iconst am_cc4 dc96_1.2.2.2 ?_
    refine am_s_imul dc96_2.1.1.1 ?_
    refine am_s_istore (ls' := [some (.ref x0), some (.ref x1), some (.int x2), some (.ref r20x1), some (.int (x2 * 4)), l5]) rfl rfl dc96_2.1.1.2 ?_
    exact qx1.2.2
theorem v96_27 {sc : Option (Nat × (Nat → Int32))} {d k n : Nat} {P : am_O → Prop} {I : am_I} {J : am_J} {Pf : am_R} (hp : am_PF Pf) {x0 : Nat} (hx0 : am_SH[x0]? = some (.inl 7)) {x1 : Nat} (hx1 : am_SH[x1]? = some (.inl 4)) {x2 : Int32} {x3 : Nat} (hx3 : am_SH[x3]? = some (.inl 6)) {x4 : Int32} {l5 : Option Value} (q : (am_in x2 20 = true) ∧ (if ((x2 * 4) + (I (x1 + 4) (Int32.toNatClampNeg x2))) ≤ x4 then (am_go sc d 96 (2, [some (.ref x0), some (.ref x1), some (.int (x2 + 1)), some (.ref x3), some (.int x4), l5], [], (am_SH, I, J, Pf), k, n) P) else (am_in x4 80 = true) ∧ (am_in x4 80 = true) ∧ (if (I (x1 + 5) (Int32.toNatClampNeg x4)) = 0 then (am_in (I (x1 + 6) (Int32.toNatClampNeg x4)) 8 = true) ∧ ∃ r68x2 : Nat, (Pf (x1 + 1) (Int32.toNatClampNeg (I (x1 + 6) (Int32.toNatClampNeg x4))) = some r68x2) ∧ (am_SH[r68x2]? = some (.inl 6)) ∧ (am_mth d 79 [.ref x3, .ref r68x2] (am_SH, I, J, Pf) (am_af sc d 96 69 [some (.ref x0), some (.ref x1), some (.int x2), some (.ref x3), some (.int x4), some (.int (I (x1 + 6) (Int32.toNatClampNeg x4)))] [.ref r68x2, .ref x3] [] (am_SH, I, J, Pf) k n false P)) else (am_in x4 80 = true) ∧ (if (I (x1 + 5) (Int32.toNatClampNeg x4)) = 1 then (am_in (I (x1 + 6) (Int32.toNatClampNeg x4)) 8 = true) ∧ ∃ r93x1 : Nat, (Pf (x0 + 5) (Int32.toNatClampNeg (I (x1 + 6) (Int32.toNatClampNeg x4))) = some r93x1) ∧ (am_SH[r93x1]? = some (.inl 6)) ∧ (am_mth d 79 [.ref x3, .ref r93x1] (am_SH, I, J, Pf) (am_af sc d 96 94 [some (.ref x0), some (.ref x1), some (.int x2), some (.ref x3), some (.int x4), some (.int (I (x1 + 6) (Int32.toNatClampNeg x4)))] [.ref r93x1, .ref x3] [] (am_SH, I, J, Pf) k n false P)) else (am_in (x4 * 8) 640 = true) ∧ (am_mth d 77 [.ref x3, .int (I (x1 + 7) (Int32.toNatClampNeg (x4 * 8)))] (am_SH, I, J, Pf) (am_af sc d 96 111 [some (.ref x0), some (.ref x1), some (.int x2), some (.ref x3), some (.int x4), some (.int (I (x1 + 6) (Int32.toNatClampNeg x4)))] [.int (I (x1 + 7) (Int32.toNatClampNeg (x4 * 8))), .ref x3] [] (am_SH, I, J, Pf) k n false P)))))) : am_go sc d 96 (27, [some (.ref x0), some (.ref x1), some (.int x2), some (.ref x3), some (.int x4), l5], [], (am_SH, I, J, Pf), k, n) P := by
  refine am_s_iload rfl dc96_2.1.2.1 ?_
  refine am_s_iload_n rfl dc96_2.1.2.2 ?_
  refine am_s_iconst am_cc4 dc96_2.2.1.1 ?_
  refine am_s_imul dc96_2.2.1.2 ?_
  refine am_s_aload_n rfl dc96_2.2.2.1 ?_
  refine am_s_getR (r := x1 + 4) dc96_2.2.2.2 rfl hx1 rfl (am_r4_5 hp hx1) ?_
  refine am_s_iload_n rfl dc96_3.1.1.1 ?_
  refine am_x_iaload (x := I (x1 + 4) (Int32.toNatClampNeg x2)) dc96_3.1.1.2 (am_h4_5 hx1) (q.1) rfl rfl ?_
  refine am_s_iadd dc96_3.1.2.1 ?_
  refine am_s_ic_ge dc96_3.1.2.2 rfl (fun c1 => ?_) (fun c1 => ?_)
  · refine am_s_iinc (ls' := [some (.ref x0), some (.ref x1), some (.int (x2 + 1)), some (.ref x3), some (.int x4), l5]) am_cc1 rfl rfl dc96_9.1.2.1 ?_
    refine am_s_goto rfl dc96_9.1.2.2 ?_
    exact (vi_t q.2 c1)
  · refine am_s_aload_n rfl dc96_3.2.1.1 ?_
    refine am_s_getR (r := x1 + 6) dc96_3.2.1.2 rfl hx1 rfl (am_r4_7 hp hx1) ?_
    refine am_s_iload rfl dc96_3.2.2.1 ?_
    refine am_x_iaload (x := I (x1 + 6) (Int32.toNatClampNeg x4)) dc96_3.2.2.2 (am_h4_7 hx1) ((vi_f q.2 c1).1) rfl rfl ?_
    refine am_s_istore (ls' := [some (.ref x0), some (.ref x1), some (.int x2), some (.ref x3), some (.int x4), some (.int (I (x1 + 6) (Int32.toNatClampNeg x4)))]) rfl rfl dc96_4.1.1.1 ?_
    refine am_s_aload_n rfl dc96_4.1.1.2 ?_
    refine am_s_getR (r := x1 + 5) dc96_4.1.2.1 rfl hx1 rfl (am_r4_6 hp hx1) ?_
    refine am_s_iload rfl dc96_4.1.2.2 ?_
    refine am_x_iaload (x := I (x1 + 5) (Int32.toNatClampNeg x4)) dc96_4.2.1.1 (am_h4_6 hx1) ((vi_f q.2 c1).2.1) rfl rfl ?_
    refine am_s_if_ne dc96_4.2.1.2 rfl (fun c2 => ?_) (fun c2 => ?_)
    · refine am_s_aload_n rfl dc96_5.2.1.2 ?_
      refine am_s_getR (r := x1 + 5) dc96_5.2.2.1 rfl hx1 rfl (am_r4_6 hp hx1) ?_
      refine am_s_iload rfl dc96_5.2.2.2 ?_
      refine am_x_iaload (x := I (x1 + 5) (Int32.toNatClampNeg x4)) dc96_6.1.1.1 (am_h4_6 hx1) ((vi_f (vi_f q.2 c1).2.2 c2).1) rfl rfl ?_
      refine am_s_iconst am_cc1 dc96_6.1.1.2 ?_
      refine am_s_ic_ne dc96_6.1.2.1 rfl (fun c3 => ?_) (fun c3 => ?_)
      · refine am_s_aload_n rfl dc96_7.1.2.1 ?_
        refine am_s_aload_n rfl dc96_7.1.2.2 ?_
        refine am_s_getR (r := x1 + 7) dc96_7.2.1.1 rfl hx1 rfl (am_r4_8 hp hx1) ?_
        refine am_s_iload rfl dc96_7.2.1.2 ?_
        refine am_s_bipush am_cb8 dc96_7.2.2.1 ?_
        refine am_s_imul dc96_7.2.2.2 ?_
        refine am_x_iaload (x := I (x1 + 7) (Int32.toNatClampNeg (x4 * 8))) dc96_8.1.1.1 (am_h4_8 hx1) ((vi_f (vi_f (vi_f q.2 c1).2.2 c2).2 c3).1) rfl rfl ?_
        exact am_s_virtual false dc96_8.1.1.2 rfl (by decide) rfl hx3 rfl ((vi_f (vi_f (vi_f q.2 c1).2.2 c2).2 c3).2)
      · refine am_s_aload_n rfl dc96_6.1.2.2 ?_
        refine am_s_aload_n rfl dc96_6.2.1.1 ?_
        refine am_s_getR (r := x0 + 5) dc96_6.2.1.2 rfl hx0 rfl (am_r7_6 hp hx0) ?_
        refine am_s_iload rfl dc96_6.2.2.1 ?_
        obtain ⟨r93x1, qx1⟩ := (vi_t (vi_f (vi_f q.2 c1).2.2 c2).2 (Decidable.not_not.mp c3)).2
        refine am_s_aaload (r := r93x1) dc96_6.2.2.2 (am_h7_6 hx0) rfl ((vi_t (vi_f (vi_f q.2 c1).2.2 c2).2 (Decidable.not_not.mp c3)).1) (qx1.1) ?_
        exact am_s_virtual false dc96_7.1.1.1 rfl (by decide) rfl hx3 rfl (qx1.2.2)
    · refine am_s_aload_n rfl dc96_4.2.2.1 ?_
      refine am_s_aload_n rfl dc96_4.2.2.2 ?_
      refine am_s_getR (r := x1 + 1) dc96_5.1.1.1 rfl hx1 rfl (am_r4_0 hp hx1) ?_
      refine am_s_iload rfl dc96_5.1.1.2 ?_
      obtain ⟨r68x2, qx2⟩ := (vi_t (vi_f q.2 c1).2.2 (Decidable.not_not.mp c2)).2
      refine am_s_aaload (r := r68x2) dc96_5.1.2.1 (am_h4_0 hx1) rfl ((vi_t (vi_f q.2 c1).2.2 (Decidable.not_not.mp c2)).1) (qx2.1) ?_
      exact am_s_virtual false dc96_5.1.2.2 rfl (by decide) rfl hx3 rfl (qx2.2.2)
theorem v96_141 {sc : Option (Nat × (Nat → Int32))} {d k n : Nat} {P : am_O → Prop} {I : am_I} {J : am_J} {Pf : am_R} (hp : am_PF Pf) {x0 : Nat} (hx0 : am_SH[x0]? = some (.inl 7)) {x1 : Nat} (hx1 : am_SH[x1]? = some (.inl 4)) {x2 : Int32} {l3 : Option Value} {l4 : Option Value} {l5 : Option Value} (q : (if (I x1 9) ≤ x2 then (P (.inl none, (am_SH, I, J, Pf), k, n)) else (am_in x2 4 = true) ∧ (am_in (I (x1 + 8) (Int32.toNatClampNeg x2)) 8 = true) ∧ ∃ r159x1 : Nat, (Pf (x0 + 5) (Int32.toNatClampNeg (I (x1 + 8) (Int32.toNatClampNeg x2))) = some r159x1) ∧ (am_SH[r159x1]? = some (.inl 6)) ∧ (am_in (x2 * 3) 12 = true) ∧ (am_mth d 77 [.ref r159x1, .int (I (x1 + 10) (Int32.toNatClampNeg (x2 * 3)))] (am_SH, I, J, Pf) (am_af sc d 96 168 [some (.ref x0), some (.ref x1), some (.int x2), l3, l4, l5] [.int (I (x1 + 10) (Int32.toNatClampNeg (x2 * 3))), .ref r159x1] [] (am_SH, I, J, Pf) k n false P)))) : am_go sc d 96 (141, [some (.ref x0), some (.ref x1), some (.int x2), l3, l4, l5], [], (am_SH, I, J, Pf), k, n) P := by
  refine am_s_iload_n rfl dc96_9.2.2.1 ?_
  refine am_s_aload_n rfl dc96_9.2.2.2 ?_
  refine am_x_getI (x := I x1 9) dc96_10.1.1.1 rfl hx1 (Or.inl rfl) rfl ?_
  refine am_s_ic_ge dc96_10.1.1.2 rfl (fun c1 => ?_) (fun c1 => ?_)
  · exact am_s_return dc96_12.2.2 rfl ((vi_t q c1))
  · refine am_s_aload_n rfl dc96_10.1.2.1 ?_
    refine am_s_getR (r := x0 + 5) dc96_10.1.2.2 rfl hx0 rfl (am_r7_6 hp hx0) ?_
    refine am_s_aload_n rfl dc96_10.2.1.1 ?_
    refine am_s_getR (r := x1 + 8) dc96_10.2.1.2 rfl hx1 rfl (am_r4_10 hp hx1) ?_
    refine am_s_iload_n rfl dc96_10.2.2.1 ?_
    refine am_x_iaload (x := I (x1 + 8) (Int32.toNatClampNeg x2)) dc96_10.2.2.2 (am_h4_10 hx1) ((vi_f q c1).1) rfl rfl ?_
    obtain ⟨r159x1, qx1⟩ := (vi_f q c1).2.2
    refine am_s_aaload (r := r159x1) dc96_11.1.1.1 (am_h7_6 hx0) rfl ((vi_f q c1).2.1) (qx1.1) ?_
    refine am_s_aload_n rfl dc96_11.1.1.2 ?_
    refine am_s_getR (r := x1 + 10) dc96_11.1.2.1 rfl hx1 rfl (am_r4_12 hp hx1) ?_
    refine am_s_iload_n rfl dc96_11.1.2.2 ?_
    refine am_s_iconst am_cc3 dc96_11.2.1.1 ?_
    refine am_s_imul dc96_11.2.1.2 ?_
    refine am_x_iaload (x := I (x1 + 10) (Int32.toNatClampNeg (x2 * 3))) dc96_11.2.2.1 (am_h4_12 hx1) (qx1.2.2.1) rfl rfl ?_
    exact am_s_virtual false dc96_11.2.2.2 rfl (by decide) rfl (qx1.2.1) rfl (qx1.2.2.2)
theorem v96_72 {sc : Option (Nat × (Nat → Int32))} {d k n : Nat} {P : am_O → Prop} {I : am_I} {J : am_J} {Pf : am_R} (hp : am_PF Pf) {x0 : Nat} (hx0 : am_SH[x0]? = some (.inl 7)) {x1 : Nat} (hx1 : am_SH[x1]? = some (.inl 4)) {x2 : Int32} {x3 : Nat} (hx3 : am_SH[x3]? = some (.inl 6)) {x4 : Int32} {l5 : Option Value} (q : (am_in x4 80 = true) ∧ (if (I (x1 + 5) (Int32.toNatClampNeg x4)) = 1 then (am_in x4 80 = true) ∧ (if ((UInt32.toInt32 (Int32.toUInt32 (I x0 5) >>> (Int32.toUInt32 (I (x1 + 6) (Int32.toNatClampNeg x4)) &&& Int32.toUInt32 31))) &&& 1) = 0 then (am_go sc (d + 1) 96 (2, [some (.ref x0), some (.ref x1), some (.int (x2 + 1)), some (.ref x3), some (.int x4), l5], [], (am_SH, I, J, Pf), k, n) P) else (am_go sc (d + 1) 96 (27, [some (.ref x0), some (.ref x1), some (.int x2), some (.ref x3), some (.int (x4 + 1)), l5], [], (am_SH, I, J, Pf), k, n) P)) else (am_go sc (d + 1) 96 (2, [some (.ref x0), some (.ref x1), some (.int (x2 + 1)), some (.ref x3), some (.int x4), l5], [], (am_SH, I, J, Pf), k, n) P))) : am_go sc (d + 1) 96 (72, [some (.ref x0), some (.ref x1), some (.int x2), some (.ref x3), some (.int x4), l5], [], (am_SH, I, J, Pf), k, n) P := by
  refine am_s_goto rfl dc96_5.2.1.1 ?_
  refine am_s_aload_n rfl dc96_8.1.2.1 ?_
  refine am_s_aload_n rfl dc96_8.1.2.2 ?_
  refine am_s_iload rfl dc96_8.2.1.1 ?_
  refine am_s_virtual true dc96_8.2.1.2 rfl (by decide) rfl hx0 rfl (am_mth_of rfl rfl ?_)
  refine am_s_aload_n rfl dc95_0.1.1.1 ?_
  refine am_s_getR (r := x1 + 5) dc95_0.1.1.2 rfl hx1 rfl (am_r4_6 hp hx1) ?_
  refine am_s_iload_n rfl dc95_0.1.2.1 ?_
  refine am_x_iaload (x := I (x1 + 5) (Int32.toNatClampNeg x4)) dc95_0.1.2.2 (am_h4_6 hx1) (q.1) rfl rfl ?_
  refine am_s_iconst am_cc1 dc95_0.2.1.1 ?_
  refine am_s_ic_ne dc95_0.2.1.2 rfl (fun c1 => ?_) (fun c1 => ?_)
  · refine am_s_iconst am_cc0 dc95_2.2.1 ?_
    refine am_s_zreturn dc95_2.2.2 rfl (by decide) (am_bkI ?_)
    refine am_s_if_ne dc96_8.2.2.1 rfl (fun z => absurd z (by decide)) (fun _ => ?_)
    refine am_s_goto rfl dc96_8.2.2.2 ?_
    refine am_s_iinc (ls' := [some (.ref x0), some (.ref x1), some (.int (x2 + 1)), some (.ref x3), some (.int x4), l5]) am_cc1 rfl rfl dc96_9.1.2.1 ?_
    refine am_s_goto rfl dc96_9.1.2.2 ?_
    exact (vi_f q.2 c1)
  · refine am_s_aload_n rfl dc95_0.2.2.1 ?_
    refine am_x_getI (x := I x0 5) dc95_0.2.2.2 rfl hx0 (Or.inl rfl) rfl ?_
    refine am_s_aload_n rfl dc95_1.1.1.1 ?_
    refine am_s_getR (r := x1 + 6) dc95_1.1.1.2 rfl hx1 rfl (am_r4_7 hp hx1) ?_
    refine am_s_iload_n rfl dc95_1.1.2.1 ?_
    refine am_x_iaload (x := I (x1 + 6) (Int32.toNatClampNeg x4)) dc95_1.1.2.2 (am_h4_7 hx1) ((vi_t q.2 (Decidable.not_not.mp c1)).1) rfl rfl ?_
    refine am_s_iushr dc95_1.2.1.1 ?_
    refine am_s_iconst am_cc1 dc95_1.2.1.2 ?_
    refine am_s_iand dc95_1.2.2.1 ?_
    refine am_s_if_eq dc95_1.2.2.2 rfl (fun c2 => ?_) (fun c2 => ?_)
    · refine am_s_iconst am_cc0 dc95_2.2.1 ?_
      refine am_s_zreturn dc95_2.2.2 rfl (by decide) (am_bkI ?_)
      refine am_s_if_ne dc96_8.2.2.1 rfl (fun z => absurd z (by decide)) (fun _ => ?_)
      refine am_s_goto rfl dc96_8.2.2.2 ?_
      refine am_s_iinc (ls' := [some (.ref x0), some (.ref x1), some (.int (x2 + 1)), some (.ref x3), some (.int x4), l5]) am_cc1 rfl rfl dc96_9.1.2.1 ?_
      refine am_s_goto rfl dc96_9.1.2.2 ?_
      exact (vi_t (vi_t q.2 (Decidable.not_not.mp c1)).2 c2)
    · refine am_s_iconst am_cc1 dc95_2.1.1 ?_
      refine am_s_goto rfl dc95_2.1.2 ?_
      refine am_s_zreturn dc95_2.2.2 rfl (by decide) (am_bkI ?_)
      refine am_s_if_ne dc96_8.2.2.1 rfl (fun _ => ?_) (fun z => absurd z (by decide))
      refine am_s_iinc (ls' := [some (.ref x0), some (.ref x1), some (.int x2), some (.ref x3), some (.int (x4 + 1)), l5]) am_cc1 rfl rfl dc96_9.1.1.1 ?_
      refine am_s_goto rfl dc96_9.1.1.2 ?_
      exact (vi_f (vi_t q.2 (Decidable.not_not.mp c1)).2 c2)
theorem v96_97 {sc : Option (Nat × (Nat → Int32))} {d k n : Nat} {P : am_O → Prop} {I : am_I} {J : am_J} {Pf : am_R} (hp : am_PF Pf) {x0 : Nat} (hx0 : am_SH[x0]? = some (.inl 7)) {x1 : Nat} (hx1 : am_SH[x1]? = some (.inl 4)) {x2 : Int32} {x3 : Nat} (hx3 : am_SH[x3]? = some (.inl 6)) {x4 : Int32} {l5 : Option Value} (q : (am_in x4 80 = true) ∧ (if (I (x1 + 5) (Int32.toNatClampNeg x4)) = 1 then (am_in x4 80 = true) ∧ (if ((UInt32.toInt32 (Int32.toUInt32 (I x0 5) >>> (Int32.toUInt32 (I (x1 + 6) (Int32.toNatClampNeg x4)) &&& Int32.toUInt32 31))) &&& 1) = 0 then (am_go sc (d + 1) 96 (2, [some (.ref x0), some (.ref x1), some (.int (x2 + 1)), some (.ref x3), some (.int x4), l5], [], (am_SH, I, J, Pf), k, n) P) else (am_go sc (d + 1) 96 (27, [some (.ref x0), some (.ref x1), some (.int x2), some (.ref x3), some (.int (x4 + 1)), l5], [], (am_SH, I, J, Pf), k, n) P)) else (am_go sc (d + 1) 96 (2, [some (.ref x0), some (.ref x1), some (.int (x2 + 1)), some (.ref x3), some (.int x4), l5], [], (am_SH, I, J, Pf), k, n) P))) : am_go sc (d + 1) 96 (97, [some (.ref x0), some (.ref x1), some (.int x2), some (.ref x3), some (.int x4), l5], [], (am_SH, I, J, Pf), k, n) P := by
  refine am_s_goto rfl dc96_7.1.1.2 ?_
  refine am_s_aload_n rfl dc96_8.1.2.1 ?_
  refine am_s_aload_n rfl dc96_8.1.2.2 ?_
  refine am_s_iload rfl dc96_8.2.1.1 ?_
  refine am_s_virtual true dc96_8.2.1.2 rfl (by decide) rfl hx0 rfl (am_mth_of rfl rfl ?_)
  refine am_s_aload_n rfl dc95_0.1.1.1 ?_
  refine am_s_getR (r := x1 + 5) dc95_0.1.1.2 rfl hx1 rfl (am_r4_6 hp hx1) ?_
  refine am_s_iload_n rfl dc95_0.1.2.1 ?_
  refine am_x_iaload (x := I (x1 + 5) (Int32.toNatClampNeg x4)) dc95_0.1.2.2 (am_h4_6 hx1) (q.1) rfl rfl ?_
  refine am_s_iconst am_cc1 dc95_0.2.1.1 ?_
  refine am_s_ic_ne dc95_0.2.1.2 rfl (fun c1 => ?_) (fun c1 => ?_)
  · refine am_s_iconst am_cc0 dc95_2.2.1 ?_
    refine am_s_zreturn dc95_2.2.2 rfl (by decide) (am_bkI ?_)
    refine am_s_if_ne dc96_8.2.2.1 rfl (fun z => absurd z (by decide)) (fun _ => ?_)
    refine am_s_goto rfl dc96_8.2.2.2 ?_
    refine am_s_iinc (ls' := [some (.ref x0), some (.ref x1), some (.int (x2 + 1)), some (.ref x3), some (.int x4), l5]) am_cc1 rfl rfl dc96_9.1.2.1 ?_
    refine am_s_goto rfl dc96_9.1.2.2 ?_
    exact (vi_f q.2 c1)
  · refine am_s_aload_n rfl dc95_0.2.2.1 ?_
    refine am_x_getI (x := I x0 5) dc95_0.2.2.2 rfl hx0 (Or.inl rfl) rfl ?_
    refine am_s_aload_n rfl dc95_1.1.1.1 ?_
    refine am_s_getR (r := x1 + 6) dc95_1.1.1.2 rfl hx1 rfl (am_r4_7 hp hx1) ?_
    refine am_s_iload_n rfl dc95_1.1.2.1 ?_
    refine am_x_iaload (x := I (x1 + 6) (Int32.toNatClampNeg x4)) dc95_1.1.2.2 (am_h4_7 hx1) ((vi_t q.2 (Decidable.not_not.mp c1)).1) rfl rfl ?_
    refine am_s_iushr dc95_1.2.1.1 ?_
    refine am_s_iconst am_cc1 dc95_1.2.1.2 ?_
    refine am_s_iand dc95_1.2.2.1 ?_
    refine am_s_if_eq dc95_1.2.2.2 rfl (fun c2 => ?_) (fun c2 => ?_)
    · refine am_s_iconst am_cc0 dc95_2.2.1 ?_
      refine am_s_zreturn dc95_2.2.2 rfl (by decide) (am_bkI ?_)
      refine am_s_if_ne dc96_8.2.2.1 rfl (fun z => absurd z (by decide)) (fun _ => ?_)
      refine am_s_goto rfl dc96_8.2.2.2 ?_
      refine am_s_iinc (ls' := [some (.ref x0), some (.ref x1), some (.int (x2 + 1)), some (.ref x3), some (.int x4), l5]) am_cc1 rfl rfl dc96_9.1.2.1 ?_
      refine am_s_goto rfl dc96_9.1.2.2 ?_
      exact (vi_t (vi_t q.2 (Decidable.not_not.mp c1)).2 c2)
    · refine am_s_iconst am_cc1 dc95_2.1.1 ?_
      refine am_s_goto rfl dc95_2.1.2 ?_
      refine am_s_zreturn dc95_2.2.2 rfl (by decide) (am_bkI ?_)
      refine am_s_if_ne dc96_8.2.2.1 rfl (fun _ => ?_) (fun z => absurd z (by decide))
      refine am_s_iinc (ls' := [some (.ref x0), some (.ref x1), some (.int x2), some (.ref x3), some (.int (x4 + 1)), l5]) am_cc1 rfl rfl dc96_9.1.1.1 ?_
      refine am_s_goto rfl dc96_9.1.1.2 ?_
      exact (vi_f (vi_t q.2 (Decidable.not_not.mp c1)).2 c2)
theorem v96_114 {sc : Option (Nat × (Nat → Int32))} {d k n : Nat} {P : am_O → Prop} {I : am_I} {J : am_J} {Pf : am_R} (hp : am_PF Pf) {x0 : Nat} (hx0 : am_SH[x0]? = some (.inl 7)) {x1 : Nat} (hx1 : am_SH[x1]? = some (.inl 4)) {x2 : Int32} {x3 : Nat} (hx3 : am_SH[x3]? = some (.inl 6)) {x4 : Int32} {l5 : Option Value} (q : (am_in x4 80 = true) ∧ (if (I (x1 + 5) (Int32.toNatClampNeg x4)) = 1 then (am_in x4 80 = true) ∧ (if ((UInt32.toInt32 (Int32.toUInt32 (I x0 5) >>> (Int32.toUInt32 (I (x1 + 6) (Int32.toNatClampNeg x4)) &&& Int32.toUInt32 31))) &&& 1) = 0 then (am_go sc (d + 1) 96 (2, [some (.ref x0), some (.ref x1), some (.int (x2 + 1)), some (.ref x3), some (.int x4), l5], [], (am_SH, I, J, Pf), k, n) P) else (am_go sc (d + 1) 96 (27, [some (.ref x0), some (.ref x1), some (.int x2), some (.ref x3), some (.int (x4 + 1)), l5], [], (am_SH, I, J, Pf), k, n) P)) else (am_go sc (d + 1) 96 (2, [some (.ref x0), some (.ref x1), some (.int (x2 + 1)), some (.ref x3), some (.int x4), l5], [], (am_SH, I, J, Pf), k, n) P))) : am_go sc (d + 1) 96 (114, [some (.ref x0), some (.ref x1), some (.int x2), some (.ref x3), some (.int x4), l5], [], (am_SH, I, J, Pf), k, n) P := by
  refine am_s_aload_n rfl dc96_8.1.2.1 ?_
  refine am_s_aload_n rfl dc96_8.1.2.2 ?_
  refine am_s_iload rfl dc96_8.2.1.1 ?_
  refine am_s_virtual true dc96_8.2.1.2 rfl (by decide) rfl hx0 rfl (am_mth_of rfl rfl ?_)
  refine am_s_aload_n rfl dc95_0.1.1.1 ?_
  refine am_s_getR (r := x1 + 5) dc95_0.1.1.2 rfl hx1 rfl (am_r4_6 hp hx1) ?_
  refine am_s_iload_n rfl dc95_0.1.2.1 ?_
  refine am_x_iaload (x := I (x1 + 5) (Int32.toNatClampNeg x4)) dc95_0.1.2.2 (am_h4_6 hx1) (q.1) rfl rfl ?_
  refine am_s_iconst am_cc1 dc95_0.2.1.1 ?_
  refine am_s_ic_ne dc95_0.2.1.2 rfl (fun c1 => ?_) (fun c1 => ?_)
  · refine am_s_iconst am_cc0 dc95_2.2.1 ?_
    refine am_s_zreturn dc95_2.2.2 rfl (by decide) (am_bkI ?_)
    refine am_s_if_ne dc96_8.2.2.1 rfl (fun z => absurd z (by decide)) (fun _ => ?_)
    refine am_s_goto rfl dc96_8.2.2.2 ?_
    refine am_s_iinc (ls' := [some (.ref x0), some (.ref x1), some (.int (x2 + 1)), some (.ref x3), some (.int x4), l5]) am_cc1 rfl rfl dc96_9.1.2.1 ?_
    refine am_s_goto rfl dc96_9.1.2.2 ?_
    exact (vi_f q.2 c1)
  · refine am_s_aload_n rfl dc95_0.2.2.1 ?_
    refine am_x_getI (x := I x0 5) dc95_0.2.2.2 rfl hx0 (Or.inl rfl) rfl ?_
    refine am_s_aload_n rfl dc95_1.1.1.1 ?_
    refine am_s_getR (r := x1 + 6) dc95_1.1.1.2 rfl hx1 rfl (am_r4_7 hp hx1) ?_
    refine am_s_iload_n rfl dc95_1.1.2.1 ?_
    refine am_x_iaload (x := I (x1 + 6) (Int32.toNatClampNeg x4)) dc95_1.1.2.2 (am_h4_7 hx1) ((vi_t q.2 (Decidable.not_not.mp c1)).1) rfl rfl ?_
    refine am_s_iushr dc95_1.2.1.1 ?_
    refine am_s_iconst am_cc1 dc95_1.2.1.2 ?_
    refine am_s_iand dc95_1.2.2.1 ?_
    refine am_s_if_eq dc95_1.2.2.2 rfl (fun c2 => ?_) (fun c2 => ?_)
    · refine am_s_iconst am_cc0 dc95_2.2.1 ?_
      refine am_s_zreturn dc95_2.2.2 rfl (by decide) (am_bkI ?_)
      refine am_s_if_ne dc96_8.2.2.1 rfl (fun z => absurd z (by decide)) (fun _ => ?_)
      refine am_s_goto rfl dc96_8.2.2.2 ?_
      refine am_s_iinc (ls' := [some (.ref x0), some (.ref x1), some (.int (x2 + 1)), some (.ref x3), some (.int x4), l5]) am_cc1 rfl rfl dc96_9.1.2.1 ?_
      refine am_s_goto rfl dc96_9.1.2.2 ?_
      exact (vi_t (vi_t q.2 (Decidable.not_not.mp c1)).2 c2)
    · refine am_s_iconst am_cc1 dc95_2.1.1 ?_
      refine am_s_goto rfl dc95_2.1.2 ?_
      refine am_s_zreturn dc95_2.2.2 rfl (by decide) (am_bkI ?_)
      refine am_s_if_ne dc96_8.2.2.1 rfl (fun _ => ?_) (fun z => absurd z (by decide))
      refine am_s_iinc (ls' := [some (.ref x0), some (.ref x1), some (.int x2), some (.ref x3), some (.int (x4 + 1)), l5]) am_cc1 rfl rfl dc96_9.1.1.1 ?_
      refine am_s_goto rfl dc96_9.1.1.2 ?_
      exact (vi_f (vi_t q.2 (Decidable.not_not.mp c1)).2 c2)
theorem v96_171 {sc : Option (Nat × (Nat → Int32))} {d k n : Nat} {P : am_O → Prop} {I : am_I} {J : am_J} {Pf : am_R} (hp : am_PF Pf) {x0 : Nat} (hx0 : am_SH[x0]? = some (.inl 7)) {x1 : Nat} (hx1 : am_SH[x1]? = some (.inl 4)) {x2 : Int32} {l3 : Option Value} {l4 : Option Value} {l5 : Option Value} (q : (am_go sc d 96 (141, [some (.ref x0), some (.ref x1), some (.int (x2 + 1)), l3, l4, l5], [], (am_SH, I, J, Pf), k, n) P)) : am_go sc d 96 (171, [some (.ref x0), some (.ref x1), some (.int x2), l3, l4, l5], [], (am_SH, I, J, Pf), k, n) P := by
  refine am_s_iinc (ls' := [some (.ref x0), some (.ref x1), some (.int (x2 + 1)), l3, l4, l5]) am_cc1 rfl rfl dc96_12.1 ?_
  refine am_s_goto rfl dc96_12.2.1 ?_
  exact q
-- nameSigns (LPrunedParses$Rules;)V
theorem v97_0 {sc : Option (Nat × (Nat → Int32))} {d k n : Nat} {P : am_O → Prop} {I : am_I} {J : am_J} {Pf : am_R} (hp : am_PF Pf) {x0 : Nat} (hx0 : am_SH[x0]? = some (.inl 7)) {x1 : Nat} (hx1 : am_SH[x1]? = some (.inl 4)) {l2 : Option Value} {l3 : Option Value} {l4 : Option Value} (q : (am_mth d 75 [.ref (x0 + 6)] (am_SH, I, J, Pf) (am_af sc d 97 4 [some (.ref x0), some (.ref x1), l2, l3, l4] [.ref (x0 + 6)] [] (am_SH, I, J, Pf) k n false P))) : am_go sc d 97 (0, [some (.ref x0), some (.ref x1), l2, l3, l4], [], (am_SH, I, J, Pf), k, n) P := by
  refine am_s_aload_n rfl dc97_0.1.1.1 ?_
  refine am_s_getR (r := x0 + 6) dc97_0.1.1.2 rfl hx0 rfl (am_r7_7 hp hx0) ?_
  exact am_s_virtual false dc97_0.1.2.1 rfl (by decide) rfl (am_h7_7 hx0) rfl (q)
theorem v97_9 {sc : Option (Nat × (Nat → Int32))} {d k n : Nat} {P : am_O → Prop} {I : am_I} {J : am_J} {Pf : am_R} (hp : am_PF Pf) {x0 : Nat} (hx0 : am_SH[x0]? = some (.inl 7)) {x1 : Nat} (hx1 : am_SH[x1]? = some (.inl 4)) {x2 : Int32} {l3 : Option Value} {l4 : Option Value} (q : (if ((I x1 9) * 3) ≤ x2 then (am_go sc d 97 (40, [some (.ref x0), some (.ref x1), some (.int 0), l3, l4], [], (am_SH, I, J, Pf), k, n) P) else (am_in x2 12 = true) ∧ (am_mth d 77 [.ref (x0 + 6), .int (I (x1 + 10) (Int32.toNatClampNeg x2))] (am_SH, I, J, Pf) (am_af sc d 97 29 [some (.ref x0), some (.ref x1), some (.int x2), l3, l4] [.int (I (x1 + 10) (Int32.toNatClampNeg x2)), .ref (x0 + 6)] [] (am_SH, I, J, Pf) k n false P)))) : am_go sc d 97 (9, [some (.ref x0), some (.ref x1), some (.int x2), l3, l4], [], (am_SH, I, J, Pf), k, n) P := by
  refine am_s_iload_n rfl dc97_0.2.1.2 ?_
  refine am_s_aload_n rfl dc97_0.2.2.1 ?_
  refine am_x_getI (x := I x1 9) dc97_0.2.2.2 rfl hx1 (Or.inl rfl) rfl ?_
  refine am_s_iconst am_cc3 dc97_1.1.1.1 ?_
  refine am_s_imul dc97_1.1.1.2 ?_
  refine am_s_ic_ge dc97_1.1.2.1 rfl (fun c1 => ?_) (fun c1 => ?_)
  · refine am_s_iconst am_cc0 dc97_2.2.1.1 ?_
    refine am_s_istore_n (ls' := [some (.ref x0), some (.ref x1), some (.int 0), l3, l4]) rfl rfl dc97_2.2.1.2 ?_
    exact (vi_t q c1)
  · refine am_s_aload_n rfl dc97_1.1.2.2 ?_
    refine am_s_getR (r := x0 + 6) dc97_1.2.1.1 rfl hx0 rfl (am_r7_7 hp hx0) ?_
    refine am_s_aload_n rfl dc97_1.2.1.2 ?_
    refine am_s_getR (r := x1 + 10) dc97_1.2.2.1 rfl hx1 rfl (am_r4_12 hp hx1) ?_
    refine am_s_iload_n rfl dc97_1.2.2.2 ?_
    refine am_x_iaload (x := I (x1 + 10) (Int32.toNatClampNeg x2)) dc97_2.1.1.1 (am_h4_12 hx1) ((vi_f q c1).1) rfl rfl ?_
    exact am_s_virtual false dc97_2.1.1.2 rfl (by decide) rfl (am_h7_7 hx0) rfl ((vi_f q c1).2)
theorem v97_40 {sc : Option (Nat × (Nat → Int32))} {d k n : Nat} {P : am_O → Prop} {I : am_I} {J : am_J} {Pf : am_R} (hp : am_PF Pf) {x0 : Nat} (hx0 : am_SH[x0]? = some (.inl 7)) {x1 : Nat} (hx1 : am_SH[x1]? = some (.inl 4)) {x2 : Int32} {l3 : Option Value} {l4 : Option Value} (q : (if (I x1 2) ≤ x2 then (P (.inl none, (am_SH, I, J, Pf), k, n)) else (am_go sc d 97 (52, [some (.ref x0), some (.ref x1), some (.int x2), some (.int (x2 * 4)), l4], [], (am_SH, I, J, Pf), k, n) P))) : am_go sc d 97 (40, [some (.ref x0), some (.ref x1), some (.int x2), l3, l4], [], (am_SH, I, J, Pf), k, n) P := by
  refine am_s_iload_n rfl dc97_2.2.2.1 ?_
  refine am_s_aload_n rfl dc97_2.2.2.2 ?_
  refine am_x_getI (x := I x1 2) dc97_3.1.1.1 rfl hx1 (Or.inl rfl) rfl ?_
  refine am_s_ic_ge dc97_3.1.1.2 rfl (fun c1 => ?_) (fun c1 => ?_)
  · exact am_s_return dc97_9 rfl ((vi_t q c1))
  · refine am_s_iload_n rfl dc97_3.1.2.1 ?_
    refine am_s_iconst am_cc4 dc97_3.1.2.2 ?_
    refine am_s_imul dc97_3.2.1.1 ?_
    refine am_s_istore_n (ls' := [some (.ref x0), some (.ref x1), some (.int x2), some (.int (x2 * 4)), l4]) rfl rfl dc97_3.2.1.2 ?_
    exact (vi_f q c1)
theorem v97_52 {sc : Option (Nat × (Nat → Int32))} {d k n : Nat} {P : am_O → Prop} {I : am_I} {J : am_J} {Pf : am_R} (hp : am_PF Pf) {x0 : Nat} (hx0 : am_SH[x0]? = some (.inl 7)) {x1 : Nat} (hx1 : am_SH[x1]? = some (.inl 4)) {x2 : Int32} {x3 : Int32} {l4 : Option Value} (q : (am_in x2 20 = true) ∧ (if ((x2 * 4) + (I (x1 + 4) (Int32.toNatClampNeg x2))) ≤ x3 then (am_go sc d 97 (40, [some (.ref x0), some (.ref x1), some (.int (x2 + 1)), some (.int x3), l4], [], (am_SH, I, J, Pf), k, n) P) else (am_in x3 80 = true) ∧ (if (I (x1 + 5) (Int32.toNatClampNeg x3)) = 2 then (am_go sc d 97 (82, [some (.ref x0), some (.ref x1), some (.int x2), some (.int x3), some (.int 0)], [], (am_SH, I, J, Pf), k, n) P) else (am_go sc d 97 (52, [some (.ref x0), some (.ref x1), some (.int x2), some (.int (x3 + 1)), l4], [], (am_SH, I, J, Pf), k, n) P)))) : am_go sc d 97 (52, [some (.ref x0), some (.ref x1), some (.int x2), some (.int x3), l4], [], (am_SH, I, J, Pf), k, n) P := by
  refine am_s_iload_n rfl dc97_3.2.2.1 ?_
  refine am_s_iload_n rfl dc97_3.2.2.2 ?_
  refine am_s_iconst am_cc4 dc97_4.1.1.1 ?_
  refine am_s_imul dc97_4.1.1.2 ?_
  refine am_s_aload_n rfl dc97_4.1.2.1 ?_
  refine am_s_getR (r := x1 + 4) dc97_4.1.2.2 rfl hx1 rfl (am_r4_5 hp hx1) ?_
  refine am_s_iload_n rfl dc97_4.2.1.1 ?_
  refine am_x_iaload (x := I (x1 + 4) (Int32.toNatClampNeg x2)) dc97_4.2.1.2 (am_h4_5 hx1) (q.1) rfl rfl ?_
  refine am_s_iadd dc97_4.2.2.1 ?_
  refine am_s_ic_ge dc97_4.2.2.2 rfl (fun c1 => ?_) (fun c1 => ?_)
  · refine am_s_iinc (ls' := [some (.ref x0), some (.ref x1), some (.int (x2 + 1)), some (.int x3), l4]) am_cc1 rfl rfl dc97_8.2.2.1 ?_
    refine am_s_goto rfl dc97_8.2.2.2 ?_
    exact (vi_t q.2 c1)
  · refine am_s_aload_n rfl dc97_5.1.1.1 ?_
    refine am_s_getR (r := x1 + 5) dc97_5.1.1.2 rfl hx1 rfl (am_r4_6 hp hx1) ?_
    refine am_s_iload_n rfl dc97_5.1.2.1 ?_
    refine am_x_iaload (x := I (x1 + 5) (Int32.toNatClampNeg x3)) dc97_5.1.2.2 (am_h4_6 hx1) ((vi_f q.2 c1).1) rfl rfl ?_
    refine am_s_iconst am_cc2 dc97_5.2.1.1 ?_
    refine am_s_ic_eq dc97_5.2.1.2 rfl (fun c2 => ?_) (fun c2 => ?_)
    · refine am_s_iconst am_cc0 dc97_5.2.2.2 ?_
      refine am_s_istore (ls' := [some (.ref x0), some (.ref x1), some (.int x2), some (.int x3), some (.int 0)]) rfl rfl dc97_6.1.1.1 ?_
      exact (vi_t (vi_f q.2 c1).2 c2)
    · refine am_s_goto rfl dc97_5.2.2.1 ?_
      refine am_s_iinc (ls' := [some (.ref x0), some (.ref x1), some (.int x2), some (.int (x3 + 1)), l4]) am_cc1 rfl rfl dc97_8.2.1.1 ?_
      refine am_s_goto rfl dc97_8.2.1.2 ?_
      exact (vi_f (vi_f q.2 c1).2 c2)
theorem v97_82 {sc : Option (Nat × (Nat → Int32))} {d k n : Nat} {P : am_O → Prop} {I : am_I} {J : am_J} {Pf : am_R} (hp : am_PF Pf) {x0 : Nat} (hx0 : am_SH[x0]? = some (.inl 7)) {x1 : Nat} (hx1 : am_SH[x1]? = some (.inl 4)) {x2 : Int32} {x3 : Int32} {x4 : Int32} (q : (am_in x3 80 = true) ∧ (if (I (x1 + 6) (Int32.toNatClampNeg x3)) ≤ x4 then (am_go sc d 97 (52, [some (.ref x0), some (.ref x1), some (.int x2), some (.int (x3 + 1)), some (.int x4)], [], (am_SH, I, J, Pf), k, n) P) else (am_in ((x3 * 8) + x4) 640 = true) ∧ (am_mth d 77 [.ref (x0 + 6), .int (I (x1 + 7) (Int32.toNatClampNeg ((x3 * 8) + x4)))] (am_SH, I, J, Pf) (am_af sc d 97 109 [some (.ref x0), some (.ref x1), some (.int x2), some (.int x3), some (.int x4)] [.int (I (x1 + 7) (Int32.toNatClampNeg ((x3 * 8) + x4))), .ref (x0 + 6)] [] (am_SH, I, J, Pf) k n false P)))) : am_go sc d 97 (82, [some (.ref x0), some (.ref x1), some (.int x2), some (.int x3), some (.int x4)], [], (am_SH, I, J, Pf), k, n) P := by
  refine am_s_iload rfl dc97_6.1.1.2 ?_
  refine am_s_aload_n rfl dc97_6.1.2.1 ?_
  refine am_s_getR (r := x1 + 6) dc97_6.1.2.2 rfl hx1 rfl (am_r4_7 hp hx1) ?_
  refine am_s_iload_n rfl dc97_6.2.1.1 ?_
  refine am_x_iaload (x := I (x1 + 6) (Int32.toNatClampNeg x3)) dc97_6.2.1.2 (am_h4_7 hx1) (q.1) rfl rfl ?_
  refine am_s_ic_ge dc97_6.2.2.1 rfl (fun c1 => ?_) (fun c1 => ?_)
  · refine am_s_iinc (ls' := [some (.ref x0), some (.ref x1), some (.int x2), some (.int (x3 + 1)), some (.int x4)]) am_cc1 rfl rfl dc97_8.2.1.1 ?_
    refine am_s_goto rfl dc97_8.2.1.2 ?_
    exact (vi_t q.2 c1)
  · refine am_s_aload_n rfl dc97_6.2.2.2 ?_
    refine am_s_getR (r := x0 + 6) dc97_7.1.1.1 rfl hx0 rfl (am_r7_7 hp hx0) ?_
    refine am_s_aload_n rfl dc97_7.1.1.2 ?_
    refine am_s_getR (r := x1 + 7) dc97_7.1.2.1 rfl hx1 rfl (am_r4_8 hp hx1) ?_
    refine am_s_iload_n rfl dc97_7.1.2.2 ?_
    refine am_s_bipush am_cb8 dc97_7.2.1.1 ?_
    refine am_s_imul dc97_7.2.1.2 ?_
    refine am_s_iload rfl dc97_7.2.2.1 ?_
    refine am_s_iadd dc97_7.2.2.2 ?_
    refine am_x_iaload (x := I (x1 + 7) (Int32.toNatClampNeg ((x3 * 8) + x4))) dc97_8.1.1.1 (am_h4_8 hx1) ((vi_f q.2 c1).1) rfl rfl ?_
    exact am_s_virtual false dc97_8.1.1.2 rfl (by decide) rfl (am_h7_7 hx0) rfl ((vi_f q.2 c1).2)
theorem v97_7 {sc : Option (Nat × (Nat → Int32))} {d k n : Nat} {P : am_O → Prop} {I : am_I} {J : am_J} {Pf : am_R} (hp : am_PF Pf) {x0 : Nat} (hx0 : am_SH[x0]? = some (.inl 7)) {x1 : Nat} (hx1 : am_SH[x1]? = some (.inl 4)) {l2 : Option Value} {l3 : Option Value} {l4 : Option Value} (q : (am_go sc d 97 (9, [some (.ref x0), some (.ref x1), some (.int 0), l3, l4], [], (am_SH, I, J, Pf), k, n) P)) : am_go sc d 97 (7, [some (.ref x0), some (.ref x1), l2, l3, l4], [], (am_SH, I, J, Pf), k, n) P := by
  refine am_s_iconst am_cc0 dc97_0.1.2.2 ?_
  refine am_s_istore_n (ls' := [some (.ref x0), some (.ref x1), some (.int 0), l3, l4]) rfl rfl dc97_0.2.1.1 ?_
  exact q
theorem v97_32 {sc : Option (Nat × (Nat → Int32))} {d k n : Nat} {P : am_O → Prop} {I : am_I} {J : am_J} {Pf : am_R} (hp : am_PF Pf) {x0 : Nat} (hx0 : am_SH[x0]? = some (.inl 7)) {x1 : Nat} (hx1 : am_SH[x1]? = some (.inl 4)) {x2 : Int32} {l3 : Option Value} {l4 : Option Value} (q : (am_go sc d 97 (9, [some (.ref x0), some (.ref x1), some (.int (x2 + 1)), l3, l4], [], (am_SH, I, J, Pf), k, n) P)) : am_go sc d 97 (32, [some (.ref x0), some (.ref x1), some (.int x2), l3, l4], [], (am_SH, I, J, Pf), k, n) P := by
  refine am_s_iinc (ls' := [some (.ref x0), some (.ref x1), some (.int (x2 + 1)), l3, l4]) am_cc1 rfl rfl dc97_2.1.2.1 ?_
  refine am_s_goto rfl dc97_2.1.2.2 ?_
  exact q
theorem v97_112 {sc : Option (Nat × (Nat → Int32))} {d k n : Nat} {P : am_O → Prop} {I : am_I} {J : am_J} {Pf : am_R} (hp : am_PF Pf) {x0 : Nat} (hx0 : am_SH[x0]? = some (.inl 7)) {x1 : Nat} (hx1 : am_SH[x1]? = some (.inl 4)) {x2 : Int32} {x3 : Int32} {x4 : Int32} (q : (am_go sc d 97 (82, [some (.ref x0), some (.ref x1), some (.int x2), some (.int x3), some (.int (x4 + 1))], [], (am_SH, I, J, Pf), k, n) P)) : am_go sc d 97 (112, [some (.ref x0), some (.ref x1), some (.int x2), some (.int x3), some (.int x4)], [], (am_SH, I, J, Pf), k, n) P := by
  refine am_s_iinc (ls' := [some (.ref x0), some (.ref x1), some (.int x2), some (.int x3), some (.int (x4 + 1))]) am_cc1 rfl rfl dc97_8.1.2.1 ?_
  refine am_s_goto rfl dc97_8.1.2.2 ?_
  exact q
-- twinOf (I)I
theorem v98_0 {sc : Option (Nat × (Nat → Int32))} {d k n : Nat} {P : am_O → Prop} {I : am_I} {J : am_J} {Pf : am_R} (hp : am_PF Pf) {x0 : Nat} (hx0 : am_SH[x0]? = some (.inl 7)) {x1 : Int32} {l2 : Option Value} (q : (if x1 < 32 then (P (.inl (some (.int x1)), (am_SH, I, J, Pf), k, n)) else (if 126 < x1 then (P (.inl (some (.int x1)), (am_SH, I, J, Pf), k, n)) else (am_mth (d + 1) 78 [.ref (x0 + 6), .int x1] (am_SH, I, J, Pf) (am_af sc (d + 1) 98 12 [some (.ref x0), some (.int x1), l2] [.int x1, .ref (x0 + 6)] [] (am_SH, I, J, Pf) k n false P))))) : am_go sc (d + 1) 98 (0, [some (.ref x0), some (.int x1), l2], [], (am_SH, I, J, Pf), k, n) P := by
  refine am_s_iload_n rfl dc98_0.1.1.1 ?_
  refine am_s_static dc98_0.1.1.2 rfl rfl rfl (am_mth_of rfl rfl ?_)
  refine am_s_iload_n rfl dc185_0.1.1.1 ?_
  refine am_s_bipush am_cb32 dc185_0.1.1.2 ?_
  refine am_s_ic_lt dc185_0.1.2.1 rfl (fun c1 => ?_) (fun c1 => ?_)
  · refine am_s_iconst am_cc0 dc185_1.1 ?_
    refine am_s_zreturn dc185_1.2 rfl (by decide) (am_bkI ?_)
    refine am_s_if_eq dc98_0.1.2.1 rfl (fun _ => ?_) (fun z => absurd z (by decide))
    refine am_s_iload_n rfl dc98_1.1.1.1 ?_
    exact am_s_ireturn dc98_1.1.1.2 rfl ((vi_t q c1))
  · refine am_s_iload_n rfl dc185_0.1.2.2 ?_
    refine am_s_bipush am_cb126 dc185_0.2.1.1 ?_
    refine am_s_ic_gt dc185_0.2.1.2 rfl (fun c2 => ?_) (fun c2 => ?_)
    · refine am_s_iconst am_cc0 dc185_1.1 ?_
      refine am_s_zreturn dc185_1.2 rfl (by decide) (am_bkI ?_)
      refine am_s_if_eq dc98_0.1.2.1 rfl (fun _ => ?_) (fun z => absurd z (by decide))
      refine am_s_iload_n rfl dc98_1.1.1.1 ?_
      exact am_s_ireturn dc98_1.1.1.2 rfl ((vi_t (vi_f q c1) c2))
    · refine am_s_iconst am_cc1 dc185_0.2.2.1 ?_
      refine am_s_goto rfl dc185_0.2.2.2 ?_
      refine am_s_zreturn dc185_1.2 rfl (by decide) (am_bkI ?_)
      refine am_s_if_eq dc98_0.1.2.1 rfl (fun z => absurd z (by decide)) (fun _ => ?_)
      refine am_s_aload_n rfl dc98_0.1.2.2 ?_
      refine am_s_getR (r := x0 + 6) dc98_0.2.1.1 rfl hx0 rfl (am_r7_7 hp hx0) ?_
      refine am_s_iload_n rfl dc98_0.2.1.2 ?_
      exact am_s_virtual false dc98_0.2.2.1 rfl (by decide) rfl (am_h7_7 hx0) rfl ((vi_f (vi_f q c1) c2))
theorem v98_23 {sc : Option (Nat × (Nat → Int32))} {d k n : Nat} {P : am_O → Prop} {I : am_I} {J : am_J} {Pf : am_R} (hp : am_PF Pf) {x0 : Nat} (hx0 : am_SH[x0]? = some (.inl 7)) {x1 : Int32} {x2 : Int32} (q : (if x1 ≤ x2 then (P (.inl (some (.int x1)), (am_SH, I, J, Pf), k, n)) else (am_in x2 127 = true) ∧ (am_in x1 127 = true) ∧ (if (I (x0 + 7) (Int32.toNatClampNeg x2)) = (I (x0 + 7) (Int32.toNatClampNeg x1)) then (am_mth d 78 [.ref (x0 + 6), .int x2] (am_SH, I, J, Pf) (am_af sc d 98 48 [some (.ref x0), some (.int x1), some (.int x2)] [.int x2, .ref (x0 + 6)] [] (am_SH, I, J, Pf) k n false P)) else (am_go sc d 98 (23, [some (.ref x0), some (.int x1), some (.int (x2 + 1))], [], (am_SH, I, J, Pf), k, n) P)))) : am_go sc d 98 (23, [some (.ref x0), some (.int x1), some (.int x2)], [], (am_SH, I, J, Pf), k, n) P := by
  refine am_s_iload_n rfl dc98_1.2.1.1 ?_
  refine am_s_iload_n rfl dc98_1.2.1.2 ?_
  refine am_s_ic_ge dc98_1.2.2.1 rfl (fun c1 => ?_) (fun c1 => ?_)
  · refine am_s_iload_n rfl dc98_4.2.1 ?_
    exact am_s_ireturn dc98_4.2.2 rfl ((vi_t q c1))
  · refine am_s_aload_n rfl dc98_1.2.2.2 ?_
    refine am_s_getR (r := x0 + 7) dc98_2.1.1.1 rfl hx0 rfl (am_r7_8 hp hx0) ?_
    refine am_s_iload_n rfl dc98_2.1.1.2 ?_
    refine am_x_iaload (x := I (x0 + 7) (Int32.toNatClampNeg x2)) dc98_2.1.2.1 (am_h7_8 hx0) ((vi_f q c1).1) rfl rfl ?_
    refine am_s_aload_n rfl dc98_2.1.2.2 ?_
    refine am_s_getR (r := x0 + 7) dc98_2.2.1.1 rfl hx0 rfl (am_r7_8 hp hx0) ?_
    refine am_s_iload_n rfl dc98_2.2.1.2 ?_
    refine am_x_iaload (x := I (x0 + 7) (Int32.toNatClampNeg x1)) dc98_2.2.2.1 (am_h7_8 hx0) ((vi_f q c1).2.1) rfl rfl ?_
    refine am_s_ic_ne dc98_2.2.2.2 rfl (fun c2 => ?_) (fun c2 => ?_)
    · refine am_s_iinc (ls' := [some (.ref x0), some (.int x1), some (.int (x2 + 1))]) am_cc1 rfl rfl dc98_3.2.2.2 ?_
      refine am_s_goto rfl dc98_4.1 ?_
      exact (vi_f (vi_f q c1).2.2 c2)
    · refine am_s_aload_n rfl dc98_3.1.1.1 ?_
      refine am_s_getR (r := x0 + 6) dc98_3.1.1.2 rfl hx0 rfl (am_r7_7 hp hx0) ?_
      refine am_s_iload_n rfl dc98_3.1.2.1 ?_
      exact am_s_virtual false dc98_3.1.2.2 rfl (by decide) rfl (am_h7_7 hx0) rfl ((vi_t (vi_f q c1).2.2 (Decidable.not_not.mp c2)))
theorem v98_15 {sc : Option (Nat × (Nat → Int32))} {d k n : Nat} {P : am_O → Prop} {I : am_I} {J : am_J} {Pf : am_R} (hp : am_PF Pf) {x0 : Nat} (hx0 : am_SH[x0]? = some (.inl 7)) {x1 : Int32} {l2 : Option Value} {s0 : Int32} (q : (if s0 = 0 then (am_go sc d 98 (23, [some (.ref x0), some (.int x1), some (.int 32)], [], (am_SH, I, J, Pf), k, n) P) else (P (.inl (some (.int x1)), (am_SH, I, J, Pf), k, n)))) : am_go sc d 98 (15, [some (.ref x0), some (.int x1), l2], [.int s0], (am_SH, I, J, Pf), k, n) P := by
  refine am_s_if_eq dc98_0.2.2.2 rfl (fun c1 => ?_) (fun c1 => ?_)
  · refine am_s_bipush am_cb32 dc98_1.1.2.1 ?_
    refine am_s_istore_n (ls' := [some (.ref x0), some (.int x1), some (.int 32)]) rfl rfl dc98_1.1.2.2 ?_
    exact (vi_t q c1)
  · refine am_s_iload_n rfl dc98_1.1.1.1 ?_
    exact am_s_ireturn dc98_1.1.1.2 rfl ((vi_f q c1))
theorem v98_51 {sc : Option (Nat × (Nat → Int32))} {d k n : Nat} {P : am_O → Prop} {I : am_I} {J : am_J} {Pf : am_R} (hp : am_PF Pf) {x0 : Nat} (hx0 : am_SH[x0]? = some (.inl 7)) {x1 : Int32} {x2 : Int32} {s0 : Int32} (q : (if s0 = 0 then (P (.inl (some (.int x2)), (am_SH, I, J, Pf), k, n)) else (am_go sc d 98 (23, [some (.ref x0), some (.int x1), some (.int (x2 + 1))], [], (am_SH, I, J, Pf), k, n) P))) : am_go sc d 98 (51, [some (.ref x0), some (.int x1), some (.int x2)], [.int s0], (am_SH, I, J, Pf), k, n) P := by
  refine am_s_if_ne dc98_3.2.1.1 rfl (fun c1 => ?_) (fun c1 => ?_)
  · refine am_s_iinc (ls' := [some (.ref x0), some (.int x1), some (.int (x2 + 1))]) am_cc1 rfl rfl dc98_3.2.2.2 ?_
    refine am_s_goto rfl dc98_4.1 ?_
    exact (vi_f q c1)
  · refine am_s_iload_n rfl dc98_3.2.1.2 ?_
    exact am_s_ireturn dc98_3.2.2.1 rfl ((vi_t q (Decidable.not_not.mp c1)))
-- readAll (LPrunedParses$Reader;)Z
theorem v100_0 {sc : Option (Nat × (Nat → Int32))} {d k n : Nat} {P : am_O → Prop} {I : am_I} {J : am_J} {Pf : am_R} (hp : am_PF Pf)  (q : (am_mth d 101 [.ref 102, .int 0] (am_SH, am_u (am_u I 102 4 0) 102 7 0, J, am_u Pf 102 6 (some 1)) (am_af sc d 100 17 [some (.ref 102), some (.ref 1)] [.int 0, .ref 102] [] (am_SH, am_u (am_u I 102 4 0) 102 7 0, J, am_u Pf 102 6 (some 1)) k n true P))) : am_go sc d 100 (0, [some (.ref 102), some (.ref 1)], [], (am_SH, I, J, Pf), k, n) P := by
  refine am_s_aload_n rfl dc100_0.1.1.1 ?_
  refine am_s_aload_n rfl dc100_0.1.1.2 ?_
  refine am_s_putR dc100_0.1.2.1 rfl rfl rfl rfl (am_bltc rfl) ?_
  refine am_s_aload_n rfl dc100_0.1.2.2 ?_
  refine am_s_iconst am_cc0 dc100_0.2.1.1 ?_
  refine am_s_putI dc100_0.2.1.2 rfl rfl rfl rfl ?_
  refine am_s_aload_n rfl dc100_0.2.2.1 ?_
  refine am_s_iconst am_cc0 dc100_0.2.2.2 ?_
  refine am_s_putI dc100_1.1.1.1 rfl rfl rfl rfl ?_
  refine am_s_aload_n rfl dc100_1.1.1.2 ?_
  refine am_s_iconst am_cc0 dc100_1.1.2.1 ?_
  exact am_s_virtual true dc100_1.1.2.2 rfl (by decide) rfl rfl rfl (q)
theorem v100_20 {sc : Option (Nat × (Nat → Int32))} {d k n : Nat} {P : am_O → Prop} {I : am_I} {J : am_J} {Pf : am_R} (hp : am_PF Pf) {l1 : Option Value} {s0 : Int32} (q : (if s0 = 0 then (P (.inl (some (.int 0)), (am_SH, I, J, Pf), k, n)) else (Pf 102 6 = some 1) ∧ (am_mth d 57 [.ref 1] (am_SH, I, J, Pf) (am_af sc d 100 27 [some (.ref 102), l1] [.ref 1] [] (am_SH, I, J, Pf) k n false P)))) : am_go sc d 100 (20, [some (.ref 102), l1], [.int s0], (am_SH, I, J, Pf), k, n) P := by
  refine am_s_if_eq dc100_1.2.1.1 rfl (fun c1 => ?_) (fun c1 => ?_)
  · refine am_s_iconst am_cc0 dc100_2.2.2.1 ?_
    exact am_s_zreturn dc100_2.2.2.2 rfl (by decide) ((vi_t q c1))
  · refine am_s_aload_n rfl dc100_1.2.1.2 ?_
    refine am_s_getR (r := 1) dc100_1.2.2.1 rfl rfl rfl ((vi_f q c1).1) ?_
    exact am_s_virtual false dc100_1.2.2.2 rfl (by decide) rfl rfl rfl ((vi_f q c1).2)
theorem v100_30 {sc : Option (Nat × (Nat → Int32))} {d k n : Nat} {P : am_O → Prop} {I : am_I} {J : am_J} {Pf : am_R} (hp : am_PF Pf) {l0 : Option Value} {l1 : Option Value} {s0 : Int32} (q : (if s0 = 0 then (P (.inl (some (.int 0)), (am_SH, I, J, Pf), k, n)) else (P (.inl (some (.int 1)), (am_SH, I, J, Pf), k, n)))) : am_go sc d 100 (30, [l0, l1], [.int s0], (am_SH, I, J, Pf), k, n) P := by
  refine am_s_if_eq dc100_2.1.1 rfl (fun c1 => ?_) (fun c1 => ?_)
  · refine am_s_iconst am_cc0 dc100_2.2.2.1 ?_
    exact am_s_zreturn dc100_2.2.2.2 rfl (by decide) ((vi_t q c1))
  · refine am_s_iconst am_cc1 dc100_2.1.2 ?_
    refine am_s_goto rfl dc100_2.2.1 ?_
    exact am_s_zreturn dc100_2.2.2.2 rfl (by decide) ((vi_f q c1))
-- readList (I)Z
theorem v101_0 {sc : Option (Nat × (Nat → Int32))} {d k n : Nat} {P : am_O → Prop} {I : am_I} {J : am_J} {Pf : am_R} (hp : am_PF Pf) {x1 : Int32} {l2 : Option Value} {l3 : Option Value} (q : (am_go sc d 101 (2, [some (.ref 102), some (.int x1), some (.int 0), l3], [], (am_SH, I, J, Pf), k, n) P)) : am_go sc d 101 (0, [some (.ref 102), some (.int x1), l2, l3], [], (am_SH, I, J, Pf), k, n) P := by
  refine am_s_iconst am_cc0 dc101_0.1.1.1 ?_
  refine am_s_istore_n (ls' := [some (.ref 102), some (.int x1), some (.int 0), l3]) rfl rfl dc101_0.1.1.2 ?_
  exact q
theorem v101_2 {sc : Option (Nat × (Nat → Int32))} {d k n : Nat} {P : am_O → Prop} {I : am_I} {J : am_J} {Pf : am_R} (hp : am_PF Pf) {x1 : Int32} {x2 : Int32} {l3 : Option Value} (q : (if 150 ≤ x2 then (P (.inl (some (.int 1)), (am_SH, I, J, Pf), k, n)) else (Pf 102 6 = some 1) ∧ (am_mth d 55 [.ref 1] (am_SH, I, J, Pf) (am_af sc d 101 13 [some (.ref 102), some (.int x1), some (.int x2), l3] [.ref 1] [] (am_SH, I, J, Pf) k n false P)))) : am_go sc d 101 (2, [some (.ref 102), some (.int x1), some (.int x2), l3], [], (am_SH, I, J, Pf), k, n) P := by
  refine am_s_iload_n rfl dc101_0.1.2.1 ?_
  refine am_s_sipush am_cs150 dc101_0.1.2.2 ?_
  refine am_s_ic_ge dc101_0.2.1.1 rfl (fun c1 => ?_) (fun c1 => ?_)
  · refine am_s_iconst am_cc1 dc101_4.2.2.1 ?_
    exact am_s_zreturn dc101_4.2.2.2 rfl (by decide) ((vi_t q c1))
  · refine am_s_aload_n rfl dc101_0.2.1.2 ?_
    refine am_s_getR (r := 1) dc101_0.2.2.1 rfl rfl rfl ((vi_f q c1).1) ?_
    exact am_s_virtual false dc101_0.2.2.2 rfl (by decide) rfl rfl rfl ((vi_f q c1).2)
theorem v101_16 {sc : Option (Nat × (Nat → Int32))} {d k n : Nat} {P : am_O → Prop} {I : am_I} {J : am_J} {Pf : am_R} (hp : am_PF Pf) {x1 : Int32} {x2 : Int32} {l3 : Option Value} {s0 : Int32} (q : (if s0 = (-1) then (P (.inl (some (.int 1)), (am_SH, I, J, Pf), k, n)) else (if s0 = 93 then (P (.inl (some (.int 1)), (am_SH, I, J, Pf), k, n)) else (am_mth d 102 [.ref 102, .int x1] (am_SH, I, J, Pf) (am_af sc d 101 32 [some (.ref 102), some (.int x1), some (.int x2), some (.int s0)] [.int x1, .ref 102] [] (am_SH, I, J, Pf) k n true P))))) : am_go sc d 101 (16, [some (.ref 102), some (.int x1), some (.int x2), l3], [.int s0], (am_SH, I, J, Pf), k, n) P := by
  refine am_s_istore_n (ls' := [some (.ref 102), some (.int x1), some (.int x2), some (.int s0)]) rfl rfl dc101_1.1.1.1 ?_
  refine am_s_iload_n rfl dc101_1.1.1.2 ?_
  refine am_s_iconst am_ccm1 dc101_1.1.2.1 ?_
  refine am_s_ic_eq dc101_1.1.2.2 rfl (fun c1 => ?_) (fun c1 => ?_)
  · refine am_s_iconst am_cc1 dc101_1.2.2.2 ?_
    exact am_s_zreturn dc101_2.1.1.1 rfl (by decide) ((vi_t q c1))
  · refine am_s_iload_n rfl dc101_1.2.1.1 ?_
    refine am_s_bipush am_cb93 dc101_1.2.1.2 ?_
    refine am_s_ic_ne dc101_1.2.2.1 rfl (fun c2 => ?_) (fun c2 => ?_)
    · refine am_s_aload_n rfl dc101_2.1.1.2 ?_
      refine am_s_iload_n rfl dc101_2.1.2.1 ?_
      exact am_s_virtual true dc101_2.1.2.2 rfl (by decide) rfl rfl rfl ((vi_f (vi_f q c1) c2))
    · refine am_s_iconst am_cc1 dc101_1.2.2.2 ?_
      exact am_s_zreturn dc101_2.1.1.1 rfl (by decide) ((vi_t (vi_f q c1) (Decidable.not_not.mp c2)))
theorem v101_35 {sc : Option (Nat × (Nat → Int32))} {d k n : Nat} {P : am_O → Prop} {I : am_I} {J : am_J} {Pf : am_R} (hp : am_PF Pf) {x1 : Int32} {x2 : Int32} {l3 : Option Value} {s0 : Int32} (q : (if s0 = 0 then (P (.inl (some (.int 0)), (am_SH, I, J, Pf), k, n)) else (Pf 102 6 = some 1) ∧ (am_mth d 56 [.ref 1, .int 59] (am_SH, I, J, Pf) (am_af sc d 101 44 [some (.ref 102), some (.int x1), some (.int x2), l3] [.int 59, .ref 1] [] (am_SH, I, J, Pf) k n false P)))) : am_go sc d 101 (35, [some (.ref 102), some (.int x1), some (.int x2), l3], [.int s0], (am_SH, I, J, Pf), k, n) P := by
  refine am_s_if_eq dc101_2.2.1.1 rfl (fun c1 => ?_) (fun c1 => ?_)
  · refine am_s_iconst am_cc0 dc101_3.1.2.1 ?_
    exact am_s_zreturn dc101_3.1.2.2 rfl (by decide) ((vi_t q c1))
  · refine am_s_aload_n rfl dc101_2.2.1.2 ?_
    refine am_s_getR (r := 1) dc101_2.2.2.1 rfl rfl rfl ((vi_f q c1).1) ?_
    refine am_s_bipush am_cb59 dc101_2.2.2.2 ?_
    exact am_s_virtual false dc101_3.1.1.1 rfl (by decide) rfl rfl rfl ((vi_f q c1).2)
theorem v101_47 {sc : Option (Nat × (Nat → Int32))} {d k n : Nat} {P : am_O → Prop} {I : am_I} {J : am_J} {Pf : am_R} (hp : am_PF Pf) {x1 : Int32} {x2 : Int32} {l3 : Option Value} {s0 : Int32} (q : (if s0 = 0 then (P (.inl (some (.int 0)), (am_SH, I, J, Pf), k, n)) else (if x1 = 0 then (am_go sc d 101 (2, [some (.ref 102), some (.int x1), some (.int (x2 + 1)), l3], [], (am_SH, am_u I 102 7 ((I 102 7) + 1), J, Pf), k, n) P) else (am_go sc d 101 (2, [some (.ref 102), some (.int x1), some (.int (x2 + 1)), l3], [], (am_SH, I, J, Pf), k, n) P)))) : am_go sc d 101 (47, [some (.ref 102), some (.int x1), some (.int x2), l3], [.int s0], (am_SH, I, J, Pf), k, n) P := by
  refine am_s_if_ne dc101_3.1.1.2 rfl (fun c1 => ?_) (fun c1 => ?_)
  · refine am_s_iload_n rfl dc101_3.2.1.1 ?_
    refine am_s_if_ne dc101_3.2.1.2 rfl (fun c2 => ?_) (fun c2 => ?_)
    · refine am_s_iinc (ls' := [some (.ref 102), some (.int x1), some (.int (x2 + 1)), l3]) am_cc1 rfl rfl dc101_4.2.1.1 ?_
      refine am_s_goto rfl dc101_4.2.1.2 ?_
      exact (vi_f (vi_f q c1) c2)
    · refine am_s_aload_n rfl dc101_3.2.2.1 ?_
      refine am_s_dup rfl dc101_3.2.2.2 ?_
      refine am_x_getI (x := I 102 7) dc101_4.1.1.1 rfl rfl (Or.inl rfl) rfl ?_
      refine am_s_iconst am_cc1 dc101_4.1.1.2 ?_
      refine am_s_iadd dc101_4.1.2.1 ?_
      refine am_s_putI dc101_4.1.2.2 rfl rfl rfl rfl ?_
      refine am_s_iinc (ls' := [some (.ref 102), some (.int x1), some (.int (x2 + 1)), l3]) am_cc1 rfl rfl dc101_4.2.1.1 ?_
      refine am_s_goto rfl dc101_4.2.1.2 ?_
      exact (vi_t (vi_f q c1) (Decidable.not_not.mp c2))
  · refine am_s_iconst am_cc0 dc101_3.1.2.1 ?_
    exact am_s_zreturn dc101_3.1.2.2 rfl (by decide) ((vi_t q (Decidable.not_not.mp c1)))
-- readStep (I)Z
theorem v102_0 {sc : Option (Nat × (Nat → Int32))} {d k n : Nat} {P : am_O → Prop} {I : am_I} {J : am_J} {Pf : am_R} (hp : am_PF Pf) {x1 : Int32} {l2 : Option Value} {l3 : Option Value} {l4 : Option Value} (q : (Pf 102 6 = some 1) ∧ (am_mth d 59 [.ref 1] (am_SH, I, J, Pf) (am_af sc d 102 4 [some (.ref 102), some (.int x1), l2, l3, l4] [.ref 1] [] (am_SH, I, J, Pf) k n false P))) : am_go sc d 102 (0, [some (.ref 102), some (.int x1), l2, l3, l4], [], (am_SH, I, J, Pf), k, n) P := by
  refine am_s_aload_n rfl dc102_0.1.1.1 ?_
  refine am_s_getR (r := 1) dc102_0.1.1.2 rfl rfl rfl (q.1) ?_
  exact am_s_virtual false dc102_0.1.2.1 rfl (by decide) rfl rfl rfl (q.2)
theorem v102_33 {sc : Option (Nat × (Nat → Int32))} {d k n : Nat} {P : am_O → Prop} {I : am_I} {J : am_J} {Pf : am_R} (hp : am_PF Pf) {l1 : Option Value} {l2 : Option Value} {l3 : Option Value} {l4 : Option Value} (q : (Pf 102 6 = some 1) ∧ (if (I 1 5) = 0 then (P (.inl (some (.int 0)), (am_SH, am_u (am_u I 1 5 1) 1 6 (I 1 7), J, Pf), k, n)) else (P (.inl (some (.int 0)), (am_SH, I, J, Pf), k, n)))) : am_go sc (d + 1) 102 (33, [some (.ref 102), l1, l2, l3, l4], [], (am_SH, I, J, Pf), k, n) P := by
  refine am_s_aload_n rfl dc102_2.1.1.2 ?_
  refine am_s_getR (r := 1) dc102_2.1.2.1 rfl rfl rfl (q.1) ?_
  refine am_s_iconst am_cc1 dc102_2.1.2.2 ?_
  refine am_s_aload_n rfl dc102_2.2.1.1 ?_
  refine am_s_getR (r := 1) dc102_2.2.1.2 rfl rfl rfl (q.1) ?_
  refine am_x_getI (x := I 1 7) dc102_2.2.2.1 rfl rfl (Or.inl rfl) rfl ?_
  refine am_s_virtual false dc102_2.2.2.2 rfl (by decide) rfl rfl rfl (am_mth_of rfl rfl ?_)
  refine am_s_aload_n rfl dc53_0.1.1.1 ?_
  refine am_x_getI (x := I 1 5) dc53_0.1.1.2 rfl rfl (Or.inl rfl) rfl ?_
  refine am_s_if_ne dc53_0.1.2.1 rfl (fun c1 => ?_) (fun c1 => ?_)
  · refine am_s_iconst am_cc0 dc53_1.2.1 ?_
    refine am_s_zreturn dc53_1.2.2 rfl (by decide) (am_bkI ?_)
    exact am_s_zreturn dc102_3.1.1.1 rfl (by decide) ((vi_f q.2 c1))
  · refine am_s_aload_n rfl dc53_0.1.2.2 ?_
    refine am_s_iload_n rfl dc53_0.2.1.1 ?_
    refine am_s_putI dc53_0.2.1.2 rfl rfl rfl rfl ?_
    refine am_s_aload_n rfl dc53_0.2.2.1 ?_
    refine am_s_iload_n rfl dc53_0.2.2.2 ?_
    refine am_s_putI dc53_1.1 rfl rfl rfl rfl ?_
    refine am_s_iconst am_cc0 dc53_1.2.1 ?_
    refine am_s_zreturn dc53_1.2.2 rfl (by decide) (am_bkI ?_)
    exact am_s_zreturn dc102_3.1.1.1 rfl (by decide) ((vi_t q.2 (Decidable.not_not.mp c1)))
theorem v102_7 {sc : Option (Nat × (Nat → Int32))} {d k n : Nat} {P : am_O → Prop} {I : am_I} {J : am_J} {Pf : am_R} (hp : am_PF Pf) {x1 : Int32} {l2 : Option Value} {l3 : Option Value} {l4 : Option Value} {s0 : Int32} (q : (if s0 = 0 then (P (.inl (some (.int 0)), (am_SH, I, J, Pf), k, n)) else (am_mth d 103 [.ref 102] (am_SH, I, J, Pf) (am_af sc d 102 13 [some (.ref 102), some (.int x1), l2, l3, l4] [.ref 102] [] (am_SH, I, J, Pf) k n true P)))) : am_go sc d 102 (7, [some (.ref 102), some (.int x1), l2, l3, l4], [.int s0], (am_SH, I, J, Pf), k, n) P := by
  refine am_s_if_ne dc102_0.1.2.2 rfl (fun c1 => ?_) (fun c1 => ?_)
  · refine am_s_aload_n rfl dc102_0.2.2.1 ?_
    exact am_s_virtual true dc102_0.2.2.2 rfl (by decide) rfl rfl rfl ((vi_f q c1))
  · refine am_s_iconst am_cc0 dc102_0.2.1.1 ?_
    exact am_s_zreturn dc102_0.2.1.2 rfl (by decide) ((vi_t q (Decidable.not_not.mp c1)))
theorem v102_16 {sc : Option (Nat × (Nat → Int32))} {d k n : Nat} {P : am_O → Prop} {I : am_I} {J : am_J} {Pf : am_R} (hp : am_PF Pf) {x1 : Int32} {l2 : Option Value} {l3 : Option Value} {l4 : Option Value} {s0 : Int32} (q : (if s0 = 0 then (am_go sc d 102 (33, [some (.ref 102), some (.int x1), some (.int s0), l3, l4], [], (am_SH, I, J, Pf), k, n) P) else (if ((I 102 4) + 1) < 150 then (if s0 = 4 then (am_mth d 104 [.ref 102, .int x1] (am_SH, I, J, Pf) (am_af sc d 102 56 [some (.ref 102), some (.int x1), some (.int s0), l3, l4] [.int x1, .ref 102] [] (am_SH, I, J, Pf) k n true P)) else (Pf 102 6 = some 1) ∧ (am_mth d 58 [.ref 1, .int 24] (am_SH, I, J, Pf) (am_af sc d 102 66 [some (.ref 102), some (.int x1), some (.int s0), l3, l4] [.int 24, .ref 1] [] (am_SH, I, J, Pf) k n false P))) else (am_go sc d 102 (33, [some (.ref 102), some (.int x1), some (.int s0), l3, l4], [], (am_SH, I, J, Pf), k, n) P)))) : am_go sc d 102 (16, [some (.ref 102), some (.int x1), l2, l3, l4], [.int s0], (am_SH, I, J, Pf), k, n) P := by
  refine am_s_istore_n (ls' := [some (.ref 102), some (.int x1), some (.int s0), l3, l4]) rfl rfl dc102_1.1.1.1 ?_
  refine am_s_iload_n rfl dc102_1.1.1.2 ?_
  refine am_s_if_eq dc102_1.1.2.1 rfl (fun c1 => ?_) (fun c1 => ?_)
  · exact (vi_t q c1)
  · refine am_s_aload_n rfl dc102_1.1.2.2 ?_
    refine am_x_getI (x := I 102 4) dc102_1.2.1.1 rfl rfl (Or.inl rfl) rfl ?_
    refine am_s_iconst am_cc1 dc102_1.2.1.2 ?_
    refine am_s_iadd dc102_1.2.2.1 ?_
    refine am_s_sipush am_cs150 dc102_1.2.2.2 ?_
    refine am_s_ic_lt dc102_2.1.1.1 rfl (fun c2 => ?_) (fun c2 => ?_)
    · refine am_s_iload_n rfl dc102_3.1.1.2 ?_
      refine am_s_iconst am_cc4 dc102_3.1.2.1 ?_
      refine am_s_ic_ne dc102_3.1.2.2 rfl (fun c3 => ?_) (fun c3 => ?_)
      · refine am_s_aload_n rfl dc102_4.1.1.1 ?_
        refine am_s_getR (r := 1) dc102_4.1.1.2 rfl rfl rfl ((vi_f (vi_t (vi_f q c1) c2) c3).1) ?_
        refine am_s_bipush am_cb24 dc102_4.1.2.1 ?_
        exact am_s_virtual false dc102_4.1.2.2 rfl (by decide) rfl rfl rfl ((vi_f (vi_t (vi_f q c1) c2) c3).2)
      · refine am_s_aload_n rfl dc102_3.2.1.1 ?_
        refine am_s_iload_n rfl dc102_3.2.1.2 ?_
        exact am_s_virtual true dc102_3.2.2.1 rfl (by decide) rfl rfl rfl ((vi_t (vi_t (vi_f q c1) c2) (Decidable.not_not.mp c3)))
    · exact (vi_f (vi_f q c1) c2)
theorem v102_59 {sc : Option (Nat × (Nat → Int32))} {d k n : Nat} {P : am_O → Prop} {I : am_I} {J : am_J} {Pf : am_R} (hp : am_PF Pf) {l0 : Option Value} {l1 : Option Value} {l2 : Option Value} {l3 : Option Value} {l4 : Option Value} {s0 : Int32} (q : (s0 = 0 ∨ s0 = 1) ∧ (P (.inl (some (.int s0)), (am_SH, I, J, Pf), k, n))) : am_go sc d 102 (59, [l0, l1, l2, l3, l4], [.int s0], (am_SH, I, J, Pf), k, n) P := by
  exact am_s_zreturn dc102_3.2.2.2 rfl (q.1) (q.2)
theorem v102_69 {sc : Option (Nat × (Nat → Int32))} {d k n : Nat} {P : am_O → Prop} {I : am_I} {J : am_J} {Pf : am_R} (hp : am_PF Pf) {l1 : Option Value} {x2 : Int32} {l3 : Option Value} {l4 : Option Value} {s0 : Int32} (q : (if s0 = (-1) then (P (.inl (some (.int 0)), (am_SH, I, J, Pf), k, n)) else (if x2 = 1 then (Pf 102 6 = some 1) ∧ (am_mth d 65 [.ref 1, .ref 106, .int ((I 102 4) * 8)] (am_SH, I, J, Pf) (am_af sc d 102 97 [some (.ref 102), l1, some (.int x2), some (.int s0), l4] [.int ((I 102 4) * 8), .ref 106, .ref 1] [] (am_SH, I, J, Pf) k n false P)) else (Pf 102 6 = some 1) ∧ (am_mth d 58 [.ref 1, .int 24] (am_SH, I, J, Pf) (am_af sc d 102 109 [some (.ref 102), l1, some (.int x2), some (.int s0), l4] [.int 24, .ref 1] [] (am_SH, I, J, Pf) k n false P))))) : am_go sc d 102 (69, [some (.ref 102), l1, some (.int x2), l3, l4], [.int s0], (am_SH, I, J, Pf), k, n) P := by
  refine am_s_istore_n (ls' := [some (.ref 102), l1, some (.int x2), some (.int s0), l4]) rfl rfl dc102_4.2.1.1 ?_
  refine am_s_iload_n rfl dc102_4.2.1.2 ?_
  refine am_s_iconst am_ccm1 dc102_4.2.2.1 ?_
  refine am_s_ic_ne dc102_4.2.2.2 rfl (fun c1 => ?_) (fun c1 => ?_)
  · refine am_s_iload_n rfl dc102_5.1.2.1 ?_
    refine am_s_iconst am_cc1 dc102_5.1.2.2 ?_
    refine am_s_ic_ne dc102_5.2.1.1 rfl (fun c2 => ?_) (fun c2 => ?_)
    · refine am_s_aload_n rfl dc102_6.2.2.2 ?_
      refine am_s_getR (r := 1) dc102_7.1.1.1 rfl rfl rfl ((vi_f (vi_f q c1) c2).1) ?_
      refine am_s_bipush am_cb24 dc102_7.1.1.2 ?_
      exact am_s_virtual false dc102_7.1.2.1 rfl (by decide) rfl rfl rfl ((vi_f (vi_f q c1) c2).2)
    · refine am_s_aload_n rfl dc102_5.2.1.2 ?_
      refine am_s_getR (r := 1) dc102_5.2.2.1 rfl rfl rfl ((vi_t (vi_f q c1) (Decidable.not_not.mp c2)).1) ?_
      refine am_s_aload_n rfl dc102_5.2.2.2 ?_
      refine am_s_getR (r := 106) dc102_6.1.1.1 rfl rfl rfl (hp _ _ _ rfl) ?_
      refine am_s_aload_n rfl dc102_6.1.1.2 ?_
      refine am_x_getI (x := I 102 4) dc102_6.1.2.1 rfl rfl (Or.inl rfl) rfl ?_
      refine am_s_bipush am_cb8 dc102_6.1.2.2 ?_
      refine am_s_imul dc102_6.2.1.1 ?_
      exact am_s_virtual false dc102_6.2.1.2 rfl (by decide) rfl rfl rfl ((vi_t (vi_f q c1) (Decidable.not_not.mp c2)).2)
  · refine am_s_iconst am_cc0 dc102_5.1.1.1 ?_
    exact am_s_zreturn dc102_5.1.1.2 rfl (by decide) ((vi_t q (Decidable.not_not.mp c1)))
theorem v102_100 {sc : Option (Nat × (Nat → Int32))} {d k n : Nat} {P : am_O → Prop} {I : am_I} {J : am_J} {Pf : am_R} (hp : am_PF Pf) {l1 : Option Value} {x2 : Int32} {x3 : Int32} {l4 : Option Value} {s0 : Int32} (q : (if s0 = (-1) then (P (.inl (some (.int 0)), (am_SH, I, J, Pf), k, n)) else (if (I 102 4) < 150 then (am_in (I 102 4) 150 = true) ∧ (am_in (I 102 4) 150 = true) ∧ (am_in (I 102 4) 150 = true) ∧ (P (.inl (some (.int 1)), (am_SH, am_u (am_u (am_u (am_u I 103 (Int32.toNatClampNeg (I 102 4)) x2) 104 (Int32.toNatClampNeg (I 102 4)) x3) 105 (Int32.toNatClampNeg (I 102 4)) s0) 102 4 ((I 102 4) + 1), J, Pf), k, n)) else (P (.inl (some (.int 1)), (am_SH, I, J, Pf), k, n))))) : am_go sc (d + 1) 102 (100, [some (.ref 102), l1, some (.int x2), some (.int x3), l4], [.int s0], (am_SH, I, J, Pf), k, n) P := by
  refine am_s_goto rfl dc102_6.2.2.1 ?_
  refine am_s_istore (ls' := [some (.ref 102), l1, some (.int x2), some (.int x3), some (.int s0)]) rfl rfl dc102_7.1.2.2 ?_
  refine am_s_iload rfl dc102_7.2.1.1 ?_
  refine am_s_iconst am_ccm1 dc102_7.2.1.2 ?_
  refine am_s_ic_ne dc102_7.2.2.1 rfl (fun c1 => ?_) (fun c1 => ?_)
  · refine am_s_aload_n rfl dc102_8.1.1.2 ?_
    refine am_s_iload_n rfl dc102_8.1.2.1 ?_
    refine am_s_iload_n rfl dc102_8.1.2.2 ?_
    refine am_s_iload rfl dc102_8.2.1.1 ?_
    refine am_s_virtual true dc102_8.2.1.2 rfl (by decide) rfl rfl rfl (am_mth_of rfl rfl ?_)
    refine am_s_aload_n rfl dc105_0.1.1.1 ?_
    refine am_x_getI (x := I 102 4) dc105_0.1.1.2 rfl rfl (Or.inl rfl) rfl ?_
    refine am_s_sipush am_cs150 dc105_0.1.2.1 ?_
    refine am_s_ic_lt dc105_0.1.2.2 rfl (fun c2 => ?_) (fun c2 => ?_)
    · refine am_s_aload_n rfl dc105_0.2.1.2 ?_
      refine am_s_getR (r := 103) dc105_0.2.2.1 rfl rfl rfl (hp _ _ _ rfl) ?_
      refine am_s_aload_n rfl dc105_0.2.2.2 ?_
      refine am_x_getI (x := I 102 4) dc105_1.1.1.1 rfl rfl (Or.inl rfl) rfl ?_
      refine am_s_iload_n rfl dc105_1.1.1.2 ?_
      refine am_s_iastore dc105_1.1.2.1 rfl ((vi_t (vi_f q c1) c2).1) rfl ?_
      refine am_s_aload_n rfl dc105_1.1.2.2 ?_
      refine am_s_getR (r := 104) dc105_1.2.1.1 rfl rfl rfl (hp _ _ _ rfl) ?_
      refine am_s_aload_n rfl dc105_1.2.1.2 ?_
      refine am_x_getI (x := I 102 4) dc105_1.2.2.1 rfl rfl (Or.inl rfl) rfl ?_
      refine am_s_iload_n rfl dc105_1.2.2.2 ?_
      refine am_s_iastore dc105_2.1.1.1 rfl ((vi_t (vi_f q c1) c2).2.1) rfl ?_
      refine am_s_aload_n rfl dc105_2.1.1.2 ?_
      refine am_s_getR (r := 105) dc105_2.1.2.1 rfl rfl rfl (hp _ _ _ rfl) ?_
      refine am_s_aload_n rfl dc105_2.1.2.2 ?_
      refine am_x_getI (x := I 102 4) dc105_2.2.1.1 rfl rfl (Or.inl rfl) rfl ?_
      refine am_s_iload_n rfl dc105_2.2.1.2 ?_
      refine am_s_iastore dc105_2.2.2.1 rfl ((vi_t (vi_f q c1) c2).2.2.1) rfl ?_
      refine am_s_aload_n rfl dc105_2.2.2.2 ?_
      refine am_s_dup rfl dc105_3.1.1 ?_
      refine am_x_getI (x := I 102 4) dc105_3.1.2.1 rfl rfl (Or.inl rfl) rfl ?_
      refine am_s_iconst am_cc1 dc105_3.1.2.2 ?_
      refine am_s_iadd dc105_3.2.1 ?_
      refine am_s_putI dc105_3.2.2.1 rfl rfl rfl rfl ?_
      refine am_s_return dc105_3.2.2.2 rfl (am_bkV ?_)
      refine am_s_iconst am_cc1 dc102_8.2.2.1 ?_
      exact am_s_zreturn dc102_8.2.2.2 rfl (by decide) ((vi_t (vi_f q c1) c2).2.2.2)
    · refine am_s_return dc105_0.2.1.1 rfl (am_bkV ?_)
      refine am_s_iconst am_cc1 dc102_8.2.2.1 ?_
      exact am_s_zreturn dc102_8.2.2.2 rfl (by decide) ((vi_f (vi_f q c1) c2))
  · refine am_s_iconst am_cc0 dc102_7.2.2.2 ?_
    exact am_s_zreturn dc102_8.1.1.1 rfl (by decide) ((vi_t q (Decidable.not_not.mp c1)))
theorem v102_112 {sc : Option (Nat × (Nat → Int32))} {d k n : Nat} {P : am_O → Prop} {I : am_I} {J : am_J} {Pf : am_R} (hp : am_PF Pf) {l1 : Option Value} {x2 : Int32} {x3 : Int32} {l4 : Option Value} {s0 : Int32} (q : (if s0 = (-1) then (P (.inl (some (.int 0)), (am_SH, I, J, Pf), k, n)) else (if (I 102 4) < 150 then (am_in (I 102 4) 150 = true) ∧ (am_in (I 102 4) 150 = true) ∧ (am_in (I 102 4) 150 = true) ∧ (P (.inl (some (.int 1)), (am_SH, am_u (am_u (am_u (am_u I 103 (Int32.toNatClampNeg (I 102 4)) x2) 104 (Int32.toNatClampNeg (I 102 4)) x3) 105 (Int32.toNatClampNeg (I 102 4)) s0) 102 4 ((I 102 4) + 1), J, Pf), k, n)) else (P (.inl (some (.int 1)), (am_SH, I, J, Pf), k, n))))) : am_go sc (d + 1) 102 (112, [some (.ref 102), l1, some (.int x2), some (.int x3), l4], [.int s0], (am_SH, I, J, Pf), k, n) P := by
  refine am_s_istore (ls' := [some (.ref 102), l1, some (.int x2), some (.int x3), some (.int s0)]) rfl rfl dc102_7.1.2.2 ?_
  refine am_s_iload rfl dc102_7.2.1.1 ?_
  refine am_s_iconst am_ccm1 dc102_7.2.1.2 ?_
  refine am_s_ic_ne dc102_7.2.2.1 rfl (fun c1 => ?_) (fun c1 => ?_)
  · refine am_s_aload_n rfl dc102_8.1.1.2 ?_
    refine am_s_iload_n rfl dc102_8.1.2.1 ?_
    refine am_s_iload_n rfl dc102_8.1.2.2 ?_
    refine am_s_iload rfl dc102_8.2.1.1 ?_
    refine am_s_virtual true dc102_8.2.1.2 rfl (by decide) rfl rfl rfl (am_mth_of rfl rfl ?_)
    refine am_s_aload_n rfl dc105_0.1.1.1 ?_
    refine am_x_getI (x := I 102 4) dc105_0.1.1.2 rfl rfl (Or.inl rfl) rfl ?_
    refine am_s_sipush am_cs150 dc105_0.1.2.1 ?_
    refine am_s_ic_lt dc105_0.1.2.2 rfl (fun c2 => ?_) (fun c2 => ?_)
    · refine am_s_aload_n rfl dc105_0.2.1.2 ?_
      refine am_s_getR (r := 103) dc105_0.2.2.1 rfl rfl rfl (hp _ _ _ rfl) ?_
      refine am_s_aload_n rfl dc105_0.2.2.2 ?_
      refine am_x_getI (x := I 102 4) dc105_1.1.1.1 rfl rfl (Or.inl rfl) rfl ?_
      refine am_s_iload_n rfl dc105_1.1.1.2 ?_
      refine am_s_iastore dc105_1.1.2.1 rfl ((vi_t (vi_f q c1) c2).1) rfl ?_
      refine am_s_aload_n rfl dc105_1.1.2.2 ?_
      refine am_s_getR (r := 104) dc105_1.2.1.1 rfl rfl rfl (hp _ _ _ rfl) ?_
      refine am_s_aload_n rfl dc105_1.2.1.2 ?_
      refine am_x_getI (x := I 102 4) dc105_1.2.2.1 rfl rfl (Or.inl rfl) rfl ?_
      refine am_s_iload_n rfl dc105_1.2.2.2 ?_
      refine am_s_iastore dc105_2.1.1.1 rfl ((vi_t (vi_f q c1) c2).2.1) rfl ?_
      refine am_s_aload_n rfl dc105_2.1.1.2 ?_
      refine am_s_getR (r := 105) dc105_2.1.2.1 rfl rfl rfl (hp _ _ _ rfl) ?_
      refine am_s_aload_n rfl dc105_2.1.2.2 ?_
      refine am_x_getI (x := I 102 4) dc105_2.2.1.1 rfl rfl (Or.inl rfl) rfl ?_
      refine am_s_iload_n rfl dc105_2.2.1.2 ?_
      refine am_s_iastore dc105_2.2.2.1 rfl ((vi_t (vi_f q c1) c2).2.2.1) rfl ?_
      refine am_s_aload_n rfl dc105_2.2.2.2 ?_
      refine am_s_dup rfl dc105_3.1.1 ?_
      refine am_x_getI (x := I 102 4) dc105_3.1.2.1 rfl rfl (Or.inl rfl) rfl ?_
      refine am_s_iconst am_cc1 dc105_3.1.2.2 ?_
      refine am_s_iadd dc105_3.2.1 ?_
      refine am_s_putI dc105_3.2.2.1 rfl rfl rfl rfl ?_
      refine am_s_return dc105_3.2.2.2 rfl (am_bkV ?_)
      refine am_s_iconst am_cc1 dc102_8.2.2.1 ?_
      exact am_s_zreturn dc102_8.2.2.2 rfl (by decide) ((vi_t (vi_f q c1) c2).2.2.2)
    · refine am_s_return dc105_0.2.1.1 rfl (am_bkV ?_)
      refine am_s_iconst am_cc1 dc102_8.2.2.1 ?_
      exact am_s_zreturn dc102_8.2.2.2 rfl (by decide) ((vi_f (vi_f q c1) c2))
  · refine am_s_iconst am_cc0 dc102_7.2.2.2 ?_
    exact am_s_zreturn dc102_8.1.1.1 rfl (by decide) ((vi_t q (Decidable.not_not.mp c1)))
-- kindOfStep ()I
theorem v103_0 {sc : Option (Nat × (Nat → Int32))} {d k n : Nat} {P : am_O → Prop} {I : am_I} {J : am_J} {Pf : am_R} (hp : am_PF Pf)  (q : (Pf 102 6 = some 1) ∧ (am_mth d 60 [.ref 1, .retAddr 17] (am_SH, I, J, Pf) (am_af sc d 103 6 [some (.ref 102)] [.retAddr 17, .ref 1] [] (am_SH, I, J, Pf) k n false P))) : am_go sc d 103 (0, [some (.ref 102)], [], (am_SH, I, J, Pf), k, n) P := by
  refine am_s_aload_n rfl dc103_0.1.1.1 ?_
  refine am_s_getR (r := 1) dc103_0.1.1.2 rfl rfl rfl (q.1) ?_
  refine am_s_ldcT (x := 17) dc103_0.1.2.1 rfl rfl ?_
  exact am_s_virtual false dc103_0.1.2.2 rfl (by decide) rfl rfl rfl (q.2)
theorem v103_9 {sc : Option (Nat × (Nat → Int32))} {d k n : Nat} {P : am_O → Prop} {I : am_I} {J : am_J} {Pf : am_R} (hp : am_PF Pf) {s0 : Int32} (q : (if s0 = 0 then (Pf 102 6 = some 1) ∧ (am_mth d 60 [.ref 1, .retAddr 18] (am_SH, I, J, Pf) (am_af sc d 103 20 [some (.ref 102)] [.retAddr 18, .ref 1] [] (am_SH, I, J, Pf) k n false P)) else (P (.inl (some (.int 1)), (am_SH, I, J, Pf), k, n)))) : am_go sc d 103 (9, [some (.ref 102)], [.int s0], (am_SH, I, J, Pf), k, n) P := by
  refine am_s_if_eq dc103_0.2.1.1 rfl (fun c1 => ?_) (fun c1 => ?_)
  · refine am_s_aload_n rfl dc103_0.2.2.2 ?_
    refine am_s_getR (r := 1) dc103_1.1.1.1 rfl rfl rfl ((vi_t q c1).1) ?_
    refine am_s_ldcT (x := 18) dc103_1.1.1.2 rfl rfl ?_
    exact am_s_virtual false dc103_1.1.2.1 rfl (by decide) rfl rfl rfl ((vi_t q c1).2)
  · refine am_s_iconst am_cc1 dc103_0.2.1.2 ?_
    exact am_s_ireturn dc103_0.2.2.1 rfl ((vi_f q c1))
theorem v103_23 {sc : Option (Nat × (Nat → Int32))} {d k n : Nat} {P : am_O → Prop} {I : am_I} {J : am_J} {Pf : am_R} (hp : am_PF Pf) {s0 : Int32} (q : (if s0 = 0 then (Pf 102 6 = some 1) ∧ (am_mth d 60 [.ref 1, .retAddr 19] (am_SH, I, J, Pf) (am_af sc d 103 34 [some (.ref 102)] [.retAddr 19, .ref 1] [] (am_SH, I, J, Pf) k n false P)) else (P (.inl (some (.int 2)), (am_SH, I, J, Pf), k, n)))) : am_go sc d 103 (23, [some (.ref 102)], [.int s0], (am_SH, I, J, Pf), k, n) P := by
  refine am_s_if_eq dc103_1.1.2.2 rfl (fun c1 => ?_) (fun c1 => ?_)
  · refine am_s_aload_n rfl dc103_1.2.2.1 ?_
    refine am_s_getR (r := 1) dc103_1.2.2.2 rfl rfl rfl ((vi_t q c1).1) ?_
    refine am_s_ldcT (x := 19) dc103_2.1.1.1 rfl rfl ?_
    exact am_s_virtual false dc103_2.1.1.2 rfl (by decide) rfl rfl rfl ((vi_t q c1).2)
  · refine am_s_iconst am_cc2 dc103_1.2.1.1 ?_
    exact am_s_ireturn dc103_1.2.1.2 rfl ((vi_f q c1))
theorem v103_37 {sc : Option (Nat × (Nat → Int32))} {d k n : Nat} {P : am_O → Prop} {I : am_I} {J : am_J} {Pf : am_R} (hp : am_PF Pf) {s0 : Int32} (q : (if s0 = 0 then (Pf 102 6 = some 1) ∧ (am_mth d 60 [.ref 1, .retAddr 20] (am_SH, I, J, Pf) (am_af sc d 103 48 [some (.ref 102)] [.retAddr 20, .ref 1] [] (am_SH, I, J, Pf) k n false P)) else (P (.inl (some (.int 3)), (am_SH, I, J, Pf), k, n)))) : am_go sc d 103 (37, [some (.ref 102)], [.int s0], (am_SH, I, J, Pf), k, n) P := by
  refine am_s_if_eq dc103_2.1.2.1 rfl (fun c1 => ?_) (fun c1 => ?_)
  · refine am_s_aload_n rfl dc103_2.2.1.2 ?_
    refine am_s_getR (r := 1) dc103_2.2.2.1 rfl rfl rfl ((vi_t q c1).1) ?_
    refine am_s_ldcT (x := 20) dc103_2.2.2.2 rfl rfl ?_
    exact am_s_virtual false dc103_3.1.1 rfl (by decide) rfl rfl rfl ((vi_t q c1).2)
  · refine am_s_iconst am_cc3 dc103_2.1.2.2 ?_
    exact am_s_ireturn dc103_2.2.1.1 rfl ((vi_f q c1))
theorem v103_51 {sc : Option (Nat × (Nat → Int32))} {d k n : Nat} {P : am_O → Prop} {I : am_I} {J : am_J} {Pf : am_R} (hp : am_PF Pf) {l0 : Option Value} {s0 : Int32} (q : (if s0 = 0 then (P (.inl (some (.int 0)), (am_SH, I, J, Pf), k, n)) else (P (.inl (some (.int 4)), (am_SH, I, J, Pf), k, n)))) : am_go sc d 103 (51, [l0], [.int s0], (am_SH, I, J, Pf), k, n) P := by
  refine am_s_if_eq dc103_3.1.2.1 rfl (fun c1 => ?_) (fun c1 => ?_)
  · refine am_s_iconst am_cc0 dc103_3.2.2.1 ?_
    exact am_s_ireturn dc103_3.2.2.2 rfl ((vi_t q c1))
  · refine am_s_iconst am_cc4 dc103_3.1.2.2 ?_
    refine am_s_goto rfl dc103_3.2.1 ?_
    exact am_s_ireturn dc103_3.2.2.2 rfl ((vi_f q c1))
-- readAgain (I)Z
theorem v104_0 {sc : Option (Nat × (Nat → Int32))} {d k n : Nat} {P : am_O → Prop} {I : am_I} {J : am_J} {Pf : am_R} (hp : am_PF Pf) {x1 : Int32} {l2 : Option Value} {l3 : Option Value} (q : (Pf 102 6 = some 1) ∧ (if ((I 1 4) + 1) ≤ 6 then (if x1 < 6 then (am_mth (d + 2) 58 [.ref 1, .int 40] (am_SH, am_u I 1 4 ((I 1 4) + 1), J, Pf) (am_af sc (d + 2) 104 31 [some (.ref 102), some (.int x1), l2, l3] [.int 40, .ref 1] [] (am_SH, am_u I 1 4 ((I 1 4) + 1), J, Pf) k n false P)) else (P (.inl (some (.int 0)), (am_SH, am_u I 1 4 ((I 1 4) + 1), J, Pf), k, n))) else (if (I 1 5) = 0 then (P (.inl (some (.int 0)), (am_SH, am_u (am_u (am_u I 1 4 ((I 1 4) + 1)) 1 5 3) 1 6 (I 1 7), J, Pf), k, n)) else (P (.inl (some (.int 0)), (am_SH, am_u I 1 4 ((I 1 4) + 1), J, Pf), k, n))))) : am_go sc (d + 2) 104 (0, [some (.ref 102), some (.int x1), l2, l3], [], (am_SH, I, J, Pf), k, n) P := by
  refine am_s_aload_n rfl dc104_0.1.1.1 ?_
  refine am_s_getR (r := 1) dc104_0.1.1.2 rfl rfl rfl (q.1) ?_
  refine am_s_aload_n rfl dc104_0.1.2.1 ?_
  refine am_s_getR (r := 1) dc104_0.1.2.2 rfl rfl rfl (q.1) ?_
  refine am_x_getI (x := I 1 7) dc104_0.2.1.1 rfl rfl (Or.inl rfl) rfl ?_
  refine am_s_virtual false dc104_0.2.1.2 rfl (by decide) rfl rfl rfl (am_mth_of rfl rfl ?_)
  refine am_s_aload_n rfl dc61_0.1.1.1 ?_
  refine am_s_dup rfl dc61_0.1.1.2 ?_
  refine am_x_getI (x := I 1 4) dc61_0.1.2.1 rfl rfl (Or.inl rfl) rfl ?_
  refine am_s_iconst am_cc1 dc61_0.1.2.2 ?_
  refine am_s_iadd dc61_0.2.1.1 ?_
  refine am_s_putI dc61_0.2.1.2 rfl rfl rfl rfl ?_
  refine am_s_aload_n rfl dc61_0.2.2.1 ?_
  refine am_x_getI (x := (I 1 4) + 1) dc61_0.2.2.2 rfl rfl (Or.inl rfl) rfl ?_
  refine am_s_bipush am_cb6 dc61_1.1.1.1 ?_
  refine am_s_ic_le dc61_1.1.1.2 rfl (fun c1 => ?_) (fun c1 => ?_)
  · refine am_s_iconst am_cc1 dc61_1.2.2.2 ?_
    refine am_s_goto rfl dc61_2.1 ?_
    refine am_s_zreturn dc61_2.2.2 rfl (by decide) (am_bkI ?_)
    refine am_s_if_eq dc104_0.2.2.1 rfl (fun z => absurd z (by decide)) (fun _ => ?_)
    refine am_s_iload_n rfl dc104_0.2.2.2 ?_
    refine am_s_bipush am_cb6 dc104_1.1.1.1 ?_
    refine am_s_ic_lt dc104_1.1.1.2 rfl (fun c2 => ?_) (fun c2 => ?_)
    · refine am_s_aload_n rfl dc104_1.2.1.1 ?_
      refine am_s_getR (r := 1) dc104_1.2.1.2 rfl rfl rfl (q.1) ?_
      refine am_s_bipush am_cb40 dc104_1.2.2.1 ?_
      exact am_s_virtual false dc104_1.2.2.2 rfl (by decide) rfl rfl rfl ((vi_t (vi_t q.2 c1) c2))
    · refine am_s_iconst am_cc0 dc104_1.1.2.1 ?_
      exact am_s_zreturn dc104_1.1.2.2 rfl (by decide) ((vi_f (vi_t q.2 c1) c2))
  · refine am_s_aload_n rfl dc61_1.1.2.1 ?_
    refine am_s_iconst am_cc3 dc61_1.1.2.2 ?_
    refine am_s_iload_n rfl dc61_1.2.1.1 ?_
    refine am_s_virtual true dc61_1.2.1.2 rfl (by decide) rfl rfl rfl (am_mth_of rfl rfl ?_)
    refine am_s_aload_n rfl dc53_0.1.1.1 ?_
    refine am_x_getI (x := I 1 5) dc53_0.1.1.2 rfl rfl (Or.inl rfl) rfl ?_
    refine am_s_if_ne dc53_0.1.2.1 rfl (fun c2 => ?_) (fun c2 => ?_)
    · refine am_s_iconst am_cc0 dc53_1.2.1 ?_
      refine am_s_zreturn dc53_1.2.2 rfl (by decide) (am_bkI ?_)
      refine am_s_if_eq dc61_1.2.2.1 rfl (fun _ => ?_) (fun z => absurd z (by decide))
      refine am_s_iconst am_cc0 dc61_2.2.1 ?_
      refine am_s_zreturn dc61_2.2.2 rfl (by decide) (am_bkI ?_)
      refine am_s_if_eq dc104_0.2.2.1 rfl (fun _ => ?_) (fun z => absurd z (by decide))
      refine am_s_iconst am_cc0 dc104_1.1.2.1 ?_
      exact am_s_zreturn dc104_1.1.2.2 rfl (by decide) ((vi_f (vi_f q.2 c1) c2))
    · refine am_s_aload_n rfl dc53_0.1.2.2 ?_
      refine am_s_iload_n rfl dc53_0.2.1.1 ?_
      refine am_s_putI dc53_0.2.1.2 rfl rfl rfl rfl ?_
      refine am_s_aload_n rfl dc53_0.2.2.1 ?_
      refine am_s_iload_n rfl dc53_0.2.2.2 ?_
      refine am_s_putI dc53_1.1 rfl rfl rfl rfl ?_
      refine am_s_iconst am_cc0 dc53_1.2.1 ?_
      refine am_s_zreturn dc53_1.2.2 rfl (by decide) (am_bkI ?_)
      refine am_s_if_eq dc61_1.2.2.1 rfl (fun _ => ?_) (fun z => absurd z (by decide))
      refine am_s_iconst am_cc0 dc61_2.2.1 ?_
      refine am_s_zreturn dc61_2.2.2 rfl (by decide) (am_bkI ?_)
      refine am_s_if_eq dc104_0.2.2.1 rfl (fun _ => ?_) (fun z => absurd z (by decide))
      refine am_s_iconst am_cc0 dc104_1.1.2.1 ?_
      exact am_s_zreturn dc104_1.1.2.2 rfl (by decide) ((vi_t (vi_f q.2 c1) (Decidable.not_not.mp c2)))
theorem v104_34 {sc : Option (Nat × (Nat → Int32))} {d k n : Nat} {P : am_O → Prop} {I : am_I} {J : am_J} {Pf : am_R} (hp : am_PF Pf) {x1 : Int32} {l2 : Option Value} {l3 : Option Value} {s0 : Int32} (q : (if s0 = (-1) then (P (.inl (some (.int 0)), (am_SH, I, J, Pf), k, n)) else (Pf 102 6 = some 1) ∧ (am_mth d 56 [.ref 1, .int 91] (am_SH, I, J, Pf) (am_af sc d 104 46 [some (.ref 102), some (.int x1), some (.int s0), l3] [.int 91, .ref 1] [] (am_SH, I, J, Pf) k n false P)))) : am_go sc d 104 (34, [some (.ref 102), some (.int x1), l2, l3], [.int s0], (am_SH, I, J, Pf), k, n) P := by
  refine am_s_istore_n (ls' := [some (.ref 102), some (.int x1), some (.int s0), l3]) rfl rfl dc104_2.1.1.1 ?_
  refine am_s_iload_n rfl dc104_2.1.1.2 ?_
  refine am_s_iconst am_ccm1 dc104_2.1.2.1 ?_
  refine am_s_ic_eq dc104_2.1.2.2 rfl (fun c1 => ?_) (fun c1 => ?_)
  · refine am_s_iconst am_cc0 dc104_3.1.1.2 ?_
    exact am_s_zreturn dc104_3.1.2.1 rfl (by decide) ((vi_t q c1))
  · refine am_s_aload_n rfl dc104_2.2.1.1 ?_
    refine am_s_getR (r := 1) dc104_2.2.1.2 rfl rfl rfl ((vi_f q c1).1) ?_
    refine am_s_bipush am_cb91 dc104_2.2.2.1 ?_
    exact am_s_virtual false dc104_2.2.2.2 rfl (by decide) rfl rfl rfl ((vi_f q c1).2)
theorem v104_49 {sc : Option (Nat × (Nat → Int32))} {d k n : Nat} {P : am_O → Prop} {I : am_I} {J : am_J} {Pf : am_R} (hp : am_PF Pf) {x1 : Int32} {x2 : Int32} {l3 : Option Value} {s0 : Int32} (q : (if s0 = 0 then (P (.inl (some (.int 0)), (am_SH, I, J, Pf), k, n)) else (if (I 102 4) < 150 then (am_in (I 102 4) 150 = true) ∧ (am_in (I 102 4) 150 = true) ∧ (am_in (I 102 4) 150 = true) ∧ (am_mth (d + 1) 101 [.ref 102, .int (x1 + 1)] (am_SH, am_u (am_u (am_u (am_u I 103 (Int32.toNatClampNeg (I 102 4)) 4) 104 (Int32.toNatClampNeg (I 102 4)) x2) 105 (Int32.toNatClampNeg (I 102 4)) 0) 102 4 ((I 102 4) + 1), J, Pf) (am_af sc (d + 1) 104 70 [some (.ref 102), some (.int x1), some (.int x2), some (.int (I 102 4))] [.int (x1 + 1), .ref 102] [] (am_SH, am_u (am_u (am_u (am_u I 103 (Int32.toNatClampNeg (I 102 4)) 4) 104 (Int32.toNatClampNeg (I 102 4)) x2) 105 (Int32.toNatClampNeg (I 102 4)) 0) 102 4 ((I 102 4) + 1), J, Pf) k n true P)) else (am_mth (d + 1) 101 [.ref 102, .int (x1 + 1)] (am_SH, I, J, Pf) (am_af sc (d + 1) 104 70 [some (.ref 102), some (.int x1), some (.int x2), some (.int (I 102 4))] [.int (x1 + 1), .ref 102] [] (am_SH, I, J, Pf) k n true P))))) : am_go sc (d + 1) 104 (49, [some (.ref 102), some (.int x1), some (.int x2), l3], [.int s0], (am_SH, I, J, Pf), k, n) P := by
  refine am_s_if_ne dc104_3.1.1.1 rfl (fun c1 => ?_) (fun c1 => ?_)
  · refine am_s_aload_n rfl dc104_3.1.2.2 ?_
    refine am_x_getI (x := I 102 4) dc104_3.2.1.1 rfl rfl (Or.inl rfl) rfl ?_
    refine am_s_istore_n (ls' := [some (.ref 102), some (.int x1), some (.int x2), some (.int (I 102 4))]) rfl rfl dc104_3.2.1.2 ?_
    refine am_s_aload_n rfl dc104_3.2.2.1 ?_
    refine am_s_iconst am_cc4 dc104_3.2.2.2 ?_
    refine am_s_iload_n rfl dc104_4.1.1.1 ?_
    refine am_s_iconst am_cc0 dc104_4.1.1.2 ?_
    refine am_s_virtual true dc104_4.1.2.1 rfl (by decide) rfl rfl rfl (am_mth_of rfl rfl ?_)
    refine am_s_aload_n rfl dc105_0.1.1.1 ?_
    refine am_x_getI (x := I 102 4) dc105_0.1.1.2 rfl rfl (Or.inl rfl) rfl ?_
    refine am_s_sipush am_cs150 dc105_0.1.2.1 ?_
    refine am_s_ic_lt dc105_0.1.2.2 rfl (fun c2 => ?_) (fun c2 => ?_)
    · refine am_s_aload_n rfl dc105_0.2.1.2 ?_
      refine am_s_getR (r := 103) dc105_0.2.2.1 rfl rfl rfl (hp _ _ _ rfl) ?_
      refine am_s_aload_n rfl dc105_0.2.2.2 ?_
      refine am_x_getI (x := I 102 4) dc105_1.1.1.1 rfl rfl (Or.inl rfl) rfl ?_
      refine am_s_iload_n rfl dc105_1.1.1.2 ?_
      refine am_s_iastore dc105_1.1.2.1 rfl ((vi_t (vi_f q c1) c2).1) rfl ?_
      refine am_s_aload_n rfl dc105_1.1.2.2 ?_
      refine am_s_getR (r := 104) dc105_1.2.1.1 rfl rfl rfl (hp _ _ _ rfl) ?_
      refine am_s_aload_n rfl dc105_1.2.1.2 ?_
      refine am_x_getI (x := I 102 4) dc105_1.2.2.1 rfl rfl (Or.inl rfl) rfl ?_
      refine am_s_iload_n rfl dc105_1.2.2.2 ?_
      refine am_s_iastore dc105_2.1.1.1 rfl ((vi_t (vi_f q c1) c2).2.1) rfl ?_
      refine am_s_aload_n rfl dc105_2.1.1.2 ?_
      refine am_s_getR (r := 105) dc105_2.1.2.1 rfl rfl rfl (hp _ _ _ rfl) ?_
      refine am_s_aload_n rfl dc105_2.1.2.2 ?_
      refine am_x_getI (x := I 102 4) dc105_2.2.1.1 rfl rfl (Or.inl rfl) rfl ?_
      refine am_s_iload_n rfl dc105_2.2.1.2 ?_
      refine am_s_iastore dc105_2.2.2.1 rfl ((vi_t (vi_f q c1) c2).2.2.1) rfl ?_
      refine am_s_aload_n rfl dc105_2.2.2.2 ?_
      refine am_s_dup rfl dc105_3.1.1 ?_
      refine am_x_getI (x := I 102 4) dc105_3.1.2.1 rfl rfl (Or.inl rfl) rfl ?_
      refine am_s_iconst am_cc1 dc105_3.1.2.2 ?_
      refine am_s_iadd dc105_3.2.1 ?_
      refine am_s_putI dc105_3.2.2.1 rfl rfl rfl rfl ?_
      refine am_s_return dc105_3.2.2.2 rfl (am_bkV ?_)
      refine am_s_aload_n rfl dc104_4.1.2.2 ?_
      refine am_s_iload_n rfl dc104_4.2.1.1 ?_
      refine am_s_iconst am_cc1 dc104_4.2.1.2 ?_
      refine am_s_iadd dc104_4.2.2.1 ?_
      exact am_s_virtual true dc104_4.2.2.2 rfl (by decide) rfl rfl rfl ((vi_t (vi_f q c1) c2).2.2.2)
    · refine am_s_return dc105_0.2.1.1 rfl (am_bkV ?_)
      refine am_s_aload_n rfl dc104_4.1.2.2 ?_
      refine am_s_iload_n rfl dc104_4.2.1.1 ?_
      refine am_s_iconst am_cc1 dc104_4.2.1.2 ?_
      refine am_s_iadd dc104_4.2.2.1 ?_
      exact am_s_virtual true dc104_4.2.2.2 rfl (by decide) rfl rfl rfl ((vi_f (vi_f q c1) c2))
  · refine am_s_iconst am_cc0 dc104_3.1.1.2 ?_
    exact am_s_zreturn dc104_3.1.2.1 rfl (by decide) ((vi_t q (Decidable.not_not.mp c1)))
theorem v104_73 {sc : Option (Nat × (Nat → Int32))} {d k n : Nat} {P : am_O → Prop} {I : am_I} {J : am_J} {Pf : am_R} (hp : am_PF Pf) {l1 : Option Value} {l2 : Option Value} {x3 : Int32} {s0 : Int32} (q : (if s0 = 0 then (P (.inl (some (.int 0)), (am_SH, I, J, Pf), k, n)) else (Pf 102 6 = some 1) ∧ (am_mth d 56 [.ref 1, .int 93] (am_SH, I, J, Pf) (am_af sc d 104 82 [some (.ref 102), l1, l2, some (.int x3)] [.int 93, .ref 1] [] (am_SH, I, J, Pf) k n false P)))) : am_go sc d 104 (73, [some (.ref 102), l1, l2, some (.int x3)], [.int s0], (am_SH, I, J, Pf), k, n) P := by
  refine am_s_if_eq dc104_5.1.1.1 rfl (fun c1 => ?_) (fun c1 => ?_)
  · refine am_s_iconst am_cc0 dc104_5.2.2.1 ?_
    exact am_s_zreturn dc104_5.2.2.2 rfl (by decide) ((vi_t q c1))
  · refine am_s_aload_n rfl dc104_5.1.1.2 ?_
    refine am_s_getR (r := 1) dc104_5.1.2.1 rfl rfl rfl ((vi_f q c1).1) ?_
    refine am_s_bipush am_cb93 dc104_5.1.2.2 ?_
    exact am_s_virtual false dc104_5.2.1.1 rfl (by decide) rfl rfl rfl ((vi_f q c1).2)
theorem v104_85 {sc : Option (Nat × (Nat → Int32))} {d k n : Nat} {P : am_O → Prop} {I : am_I} {J : am_J} {Pf : am_R} (hp : am_PF Pf) {l1 : Option Value} {l2 : Option Value} {x3 : Int32} {s0 : Int32} (q : (if s0 = 0 then (P (.inl (some (.int 0)), (am_SH, I, J, Pf), k, n)) else (Pf 102 6 = some 1) ∧ (am_in x3 150 = true) ∧ (if (I 102 4) < 150 then (am_in (I 102 4) 150 = true) ∧ (am_in (I 102 4) 150 = true) ∧ (am_in (I 102 4) 150 = true) ∧ (P (.inl (some (.int 1)), (am_SH, am_u (am_u (am_u (am_u (am_u (am_u I 1 4 ((I 1 4) - 1)) 105 (Int32.toNatClampNeg x3) (I 102 4)) 103 (Int32.toNatClampNeg (I 102 4)) 5) 104 (Int32.toNatClampNeg (I 102 4)) 0) 105 (Int32.toNatClampNeg (I 102 4)) x3) 102 4 ((I 102 4) + 1), J, Pf), k, n)) else (P (.inl (some (.int 1)), (am_SH, am_u (am_u I 1 4 ((I 1 4) - 1)) 105 (Int32.toNatClampNeg x3) (I 102 4), J, Pf), k, n))))) : am_go sc (d + 1) 104 (85, [some (.ref 102), l1, l2, some (.int x3)], [.int s0], (am_SH, I, J, Pf), k, n) P := by
  refine am_s_if_ne dc104_5.2.1.2 rfl (fun c1 => ?_) (fun c1 => ?_)
  · refine am_s_aload_n rfl dc104_6.1.1.1 ?_
    refine am_s_getR (r := 1) dc104_6.1.1.2 rfl rfl rfl ((vi_f q c1).1) ?_
    refine am_s_virtual false dc104_6.1.2.1 rfl (by decide) rfl rfl rfl (am_mth_of rfl rfl ?_)
    refine am_s_aload_n rfl dc62_0.1.1 ?_
    refine am_s_dup rfl dc62_0.1.2.1 ?_
    refine am_x_getI (x := I 1 4) dc62_0.1.2.2 rfl rfl (Or.inl rfl) rfl ?_
    refine am_s_iconst am_cc1 dc62_0.2.1.1 ?_
    refine am_s_isub dc62_0.2.1.2 ?_
    refine am_s_putI dc62_0.2.2.1 rfl rfl rfl rfl ?_
    refine am_s_return dc62_0.2.2.2 rfl (am_bkV ?_)
    refine am_s_aload_n rfl dc104_6.1.2.2 ?_
    refine am_s_getR (r := 105) dc104_6.2.1.1 rfl rfl rfl (hp _ _ _ rfl) ?_
    refine am_s_iload_n rfl dc104_6.2.1.2 ?_
    refine am_s_aload_n rfl dc104_6.2.2.1 ?_
    refine am_x_getI (x := I 102 4) dc104_6.2.2.2 rfl rfl (Or.inl rfl) rfl ?_
    refine am_s_iastore dc104_7.1.1.1 rfl ((vi_f q c1).2.1) rfl ?_
    refine am_s_aload_n rfl dc104_7.1.1.2 ?_
    refine am_s_iconst am_cc5 dc104_7.1.2.1 ?_
    refine am_s_iconst am_cc0 dc104_7.1.2.2 ?_
    refine am_s_iload_n rfl dc104_7.2.1.1 ?_
    refine am_s_virtual true dc104_7.2.1.2 rfl (by decide) rfl rfl rfl (am_mth_of rfl rfl ?_)
    refine am_s_aload_n rfl dc105_0.1.1.1 ?_
    refine am_x_getI (x := I 102 4) dc105_0.1.1.2 rfl rfl (Or.inl rfl) rfl ?_
    refine am_s_sipush am_cs150 dc105_0.1.2.1 ?_
    refine am_s_ic_lt dc105_0.1.2.2 rfl (fun c2 => ?_) (fun c2 => ?_)
    · refine am_s_aload_n rfl dc105_0.2.1.2 ?_
      refine am_s_getR (r := 103) dc105_0.2.2.1 rfl rfl rfl (hp _ _ _ rfl) ?_
      refine am_s_aload_n rfl dc105_0.2.2.2 ?_
      refine am_x_getI (x := I 102 4) dc105_1.1.1.1 rfl rfl (Or.inl rfl) rfl ?_
      refine am_s_iload_n rfl dc105_1.1.1.2 ?_
      refine am_s_iastore dc105_1.1.2.1 rfl ((vi_t (vi_f q c1).2.2 c2).1) rfl ?_
      refine am_s_aload_n rfl dc105_1.1.2.2 ?_
      refine am_s_getR (r := 104) dc105_1.2.1.1 rfl rfl rfl (hp _ _ _ rfl) ?_
      refine am_s_aload_n rfl dc105_1.2.1.2 ?_
      refine am_x_getI (x := I 102 4) dc105_1.2.2.1 rfl rfl (Or.inl rfl) rfl ?_
      refine am_s_iload_n rfl dc105_1.2.2.2 ?_
      refine am_s_iastore dc105_2.1.1.1 rfl ((vi_t (vi_f q c1).2.2 c2).2.1) rfl ?_
      refine am_s_aload_n rfl dc105_2.1.1.2 ?_
      refine am_s_getR (r := 105) dc105_2.1.2.1 rfl rfl rfl (hp _ _ _ rfl) ?_
      refine am_s_aload_n rfl dc105_2.1.2.2 ?_
      refine am_x_getI (x := I 102 4) dc105_2.2.1.1 rfl rfl (Or.inl rfl) rfl ?_
      refine am_s_iload_n rfl dc105_2.2.1.2 ?_
      refine am_s_iastore dc105_2.2.2.1 rfl ((vi_t (vi_f q c1).2.2 c2).2.2.1) rfl ?_
      refine am_s_aload_n rfl dc105_2.2.2.2 ?_
      refine am_s_dup rfl dc105_3.1.1 ?_
      refine am_x_getI (x := I 102 4) dc105_3.1.2.1 rfl rfl (Or.inl rfl) rfl ?_
      refine am_s_iconst am_cc1 dc105_3.1.2.2 ?_
      refine am_s_iadd dc105_3.2.1 ?_
      refine am_s_putI dc105_3.2.2.1 rfl rfl rfl rfl ?_
      refine am_s_return dc105_3.2.2.2 rfl (am_bkV ?_)
      refine am_s_iconst am_cc1 dc104_7.2.2.1 ?_
      exact am_s_zreturn dc104_7.2.2.2 rfl (by decide) ((vi_t (vi_f q c1).2.2 c2).2.2.2)
    · refine am_s_return dc105_0.2.1.1 rfl (am_bkV ?_)
      refine am_s_iconst am_cc1 dc104_7.2.2.1 ?_
      exact am_s_zreturn dc104_7.2.2.2 rfl (by decide) ((vi_f (vi_f q c1).2.2 c2))
  · refine am_s_iconst am_cc0 dc104_5.2.2.1 ?_
    exact am_s_zreturn dc104_5.2.2.2 rfl (by decide) ((vi_t q (Decidable.not_not.mp c1)))
-- add (III)V
theorem v105_0 {sc : Option (Nat × (Nat → Int32))} {d k n : Nat} {P : am_O → Prop} {I : am_I} {J : am_J} {Pf : am_R} (hp : am_PF Pf) {x1 : Int32} {x2 : Int32} {x3 : Int32} (q : (if (I 102 4) < 150 then (am_in (I 102 4) 150 = true) ∧ (am_in (I 102 4) 150 = true) ∧ (am_in (I 102 4) 150 = true) ∧ (P (.inl none, (am_SH, am_u (am_u (am_u (am_u I 103 (Int32.toNatClampNeg (I 102 4)) x1) 104 (Int32.toNatClampNeg (I 102 4)) x2) 105 (Int32.toNatClampNeg (I 102 4)) x3) 102 4 ((I 102 4) + 1), J, Pf), k, n)) else (P (.inl none, (am_SH, I, J, Pf), k, n)))) : am_go sc d 105 (0, [some (.ref 102), some (.int x1), some (.int x2), some (.int x3)], [], (am_SH, I, J, Pf), k, n) P := by
  refine am_s_aload_n rfl dc105_0.1.1.1 ?_
  refine am_x_getI (x := I 102 4) dc105_0.1.1.2 rfl rfl (Or.inl rfl) rfl ?_
  refine am_s_sipush am_cs150 dc105_0.1.2.1 ?_
  refine am_s_ic_lt dc105_0.1.2.2 rfl (fun c1 => ?_) (fun c1 => ?_)
  · refine am_s_aload_n rfl dc105_0.2.1.2 ?_
    refine am_s_getR (r := 103) dc105_0.2.2.1 rfl rfl rfl (hp _ _ _ rfl) ?_
    refine am_s_aload_n rfl dc105_0.2.2.2 ?_
    refine am_x_getI (x := I 102 4) dc105_1.1.1.1 rfl rfl (Or.inl rfl) rfl ?_
    refine am_s_iload_n rfl dc105_1.1.1.2 ?_
    refine am_s_iastore dc105_1.1.2.1 rfl ((vi_t q c1).1) rfl ?_
    refine am_s_aload_n rfl dc105_1.1.2.2 ?_
    refine am_s_getR (r := 104) dc105_1.2.1.1 rfl rfl rfl (hp _ _ _ rfl) ?_
    refine am_s_aload_n rfl dc105_1.2.1.2 ?_
    refine am_x_getI (x := I 102 4) dc105_1.2.2.1 rfl rfl (Or.inl rfl) rfl ?_
    refine am_s_iload_n rfl dc105_1.2.2.2 ?_
    refine am_s_iastore dc105_2.1.1.1 rfl ((vi_t q c1).2.1) rfl ?_
    refine am_s_aload_n rfl dc105_2.1.1.2 ?_
    refine am_s_getR (r := 105) dc105_2.1.2.1 rfl rfl rfl (hp _ _ _ rfl) ?_
    refine am_s_aload_n rfl dc105_2.1.2.2 ?_
    refine am_x_getI (x := I 102 4) dc105_2.2.1.1 rfl rfl (Or.inl rfl) rfl ?_
    refine am_s_iload_n rfl dc105_2.2.1.2 ?_
    refine am_s_iastore dc105_2.2.2.1 rfl ((vi_t q c1).2.2.1) rfl ?_
    refine am_s_aload_n rfl dc105_2.2.2.2 ?_
    refine am_s_dup rfl dc105_3.1.1 ?_
    refine am_x_getI (x := I 102 4) dc105_3.1.2.1 rfl rfl (Or.inl rfl) rfl ?_
    refine am_s_iconst am_cc1 dc105_3.1.2.2 ?_
    refine am_s_iadd dc105_3.2.1 ?_
    refine am_s_putI dc105_3.2.2.1 rfl rfl rfl rfl ?_
    exact am_s_return dc105_3.2.2.2 rfl ((vi_t q c1).2.2.2)
  · exact am_s_return dc105_0.2.1.1 rfl ((vi_f q c1))
-- perform (LPrunedParses$Table;)V
theorem v106_0 {sc : Option (Nat × (Nat → Int32))} {d k n : Nat} {P : am_O → Prop} {I : am_I} {J : am_J} {Pf : am_R} (hp : am_PF Pf) {x1 : Nat} (hx1 : am_SH[x1]? = some (.inl 9)) {l2 : Option Value} {l3 : Option Value} {l4 : Option Value} {l5 : Option Value} (q : (am_go sc d 106 (20, [some (.ref 102), some (.ref x1), some (.int 0), some (.int 0), some (.int 0), some (.int 0)], [], (am_SH, am_u (am_u I 102 8 0) 102 9 0, J, Pf), k, n) P)) : am_go sc d 106 (0, [some (.ref 102), some (.ref x1), l2, l3, l4, l5], [], (am_SH, I, J, Pf), k, n) P := by
  refine am_s_aload_n rfl dc106_0.1.1.1 ?_
  refine am_s_iconst am_cc0 dc106_0.1.1.2 ?_
  refine am_s_putI dc106_0.1.2.1 rfl rfl rfl rfl ?_
  refine am_s_aload_n rfl dc106_0.1.2.2 ?_
  refine am_s_iconst am_cc0 dc106_0.2.1.1 ?_
  refine am_s_putI dc106_0.2.1.2 rfl rfl rfl rfl ?_
  refine am_s_iconst am_cc0 dc106_0.2.2.1 ?_
  refine am_s_istore_n (ls' := [some (.ref 102), some (.ref x1), some (.int 0), l3, l4, l5]) rfl rfl dc106_0.2.2.2 ?_
  refine am_s_iconst am_cc0 dc106_1.1.1.1 ?_
  refine am_s_istore_n (ls' := [some (.ref 102), some (.ref x1), some (.int 0), some (.int 0), l4, l5]) rfl rfl dc106_1.1.1.2 ?_
  refine am_s_iconst am_cc0 dc106_1.1.2.1 ?_
  refine am_s_istore (ls' := [some (.ref 102), some (.ref x1), some (.int 0), some (.int 0), some (.int 0), l5]) rfl rfl dc106_1.1.2.2 ?_
  refine am_s_iconst am_cc0 dc106_1.2.1.1 ?_
  refine am_s_istore (ls' := [some (.ref 102), some (.ref x1), some (.int 0), some (.int 0), some (.int 0), some (.int 0)]) rfl rfl dc106_1.2.1.2 ?_
  exact q
theorem v106_20 {sc : Option (Nat × (Nat → Int32))} {d k n : Nat} {P : am_O → Prop} {I : am_I} {J : am_J} {Pf : am_R} (hp : am_PF Pf) {x1 : Nat} (hx1 : am_SH[x1]? = some (.inl 9)) {x2 : Int32} {x3 : Int32} {x4 : Int32} {x5 : Int32} (q : (if 1000 ≤ x5 then (P (.inl none, (am_SH, I, J, Pf), k, n)) else (if x4 < 0 then (P (.inl none, (am_SH, I, J, Pf), k, n)) else (if (I 102 4) ≤ x4 then (P (.inl none, (am_SH, I, J, Pf), k, n)) else (am_in x4 150 = true) ∧ (if (I 103 (Int32.toNatClampNeg x4)) = 5 then (am_in x3 7 = true) ∧ (am_in x3 7 = true) ∧ (am_in x3 7 = true) ∧ (if ((I 107 (Int32.toNatClampNeg x3)) - 1) ≤ 0 then (am_go sc d 106 (20, [some (.ref 102), some (.ref x1), some (.int x2), some (.int (x3 + (-1))), some (.int (x4 + 1)), some (.int (x5 + 1))], [], (am_SH, am_u I 107 (Int32.toNatClampNeg x3) ((I 107 (Int32.toNatClampNeg x3)) - 1), J, Pf), k, n) P) else (am_in x4 150 = true) ∧ (am_go sc d 106 (20, [some (.ref 102), some (.ref x1), some (.int x2), some (.int x3), some (.int ((I 105 (Int32.toNatClampNeg x4)) + 1)), some (.int (x5 + 1))], [], (am_SH, am_u I 107 (Int32.toNatClampNeg x3) ((I 107 (Int32.toNatClampNeg x3)) - 1), J, Pf), k, n) P)) else (if x2 = 200 then (P (.inl none, (am_SH, I, J, Pf), k, n)) else (am_in x4 150 = true) ∧ (if (I 103 (Int32.toNatClampNeg x4)) = 4 then (am_in x4 150 = true) ∧ (if (I 104 (Int32.toNatClampNeg x4)) = 0 then (am_go sc d 106 (186, [some (.ref 102), some (.ref x1), some (.int (x2 + 1)), some (.int x3), some (.int x4), some (.int x5)], [], (am_SH, I, J, Pf), k, n) P) else (am_in x4 150 = true) ∧ (if (I 105 (Int32.toNatClampNeg x4)) = (x4 + 1) then (am_go sc d 106 (186, [some (.ref 102), some (.ref x1), some (.int (x2 + 1)), some (.int x3), some (.int x4), some (.int x5)], [], (am_SH, I, J, Pf), k, n) P) else (if x3 < 6 then (am_in x4 150 = true) ∧ (am_in (x3 + 1) 7 = true) ∧ (am_go sc d 106 (20, [some (.ref 102), some (.ref x1), some (.int (x2 + 1)), some (.int (x3 + 1)), some (.int (x4 + 1)), some (.int (x5 + 1))], [], (am_SH, am_u I 107 (Int32.toNatClampNeg (x3 + 1)) (I 104 (Int32.toNatClampNeg x4)), J, Pf), k, n) P) else (am_go sc d 106 (186, [some (.ref 102), some (.ref x1), some (.int (x2 + 1)), some (.int x3), some (.int x4), some (.int x5)], [], (am_SH, I, J, Pf), k, n) P)))) else (am_mth d 107 [.ref 102, .ref x1, .int x4] (am_SH, I, J, Pf) (am_af sc d 106 121 [some (.ref 102), some (.ref x1), some (.int (x2 + 1)), some (.int x3), some (.int x4), some (.int x5)] [.int x4, .ref x1, .ref 102] [] (am_SH, I, J, Pf) k n true P))))))))) : am_go sc d 106 (20, [some (.ref 102), some (.ref x1), some (.int x2), some (.int x3), some (.int x4), some (.int x5)], [], (am_SH, I, J, Pf), k, n) P := by
  refine am_s_iload rfl dc106_1.2.2.1 ?_
  refine am_s_sipush am_cs1000 dc106_1.2.2.2 ?_
  refine am_s_ic_ge dc106_2.1.1.1 rfl (fun c1 => ?_) (fun c1 => ?_)
  · exact am_s_return dc106_15 rfl ((vi_t q c1))
  · refine am_s_iload rfl dc106_2.1.1.2 ?_
    refine am_s_if_lt dc106_2.1.2.1 rfl (fun c2 => ?_) (fun c2 => ?_)
    · exact am_s_return dc106_15 rfl ((vi_t (vi_f q c1) c2))
    · refine am_s_iload rfl dc106_2.1.2.2 ?_
      refine am_s_aload_n rfl dc106_2.2.1.1 ?_
      refine am_x_getI (x := I 102 4) dc106_2.2.1.2 rfl rfl (Or.inl rfl) rfl ?_
      refine am_s_ic_ge dc106_2.2.2.1 rfl (fun c3 => ?_) (fun c3 => ?_)
      · exact am_s_return dc106_15 rfl ((vi_t (vi_f (vi_f q c1) c2) c3))
      · refine am_s_aload_n rfl dc106_2.2.2.2 ?_
        refine am_s_getR (r := 103) dc106_3.1.1.1 rfl rfl rfl (hp _ _ _ rfl) ?_
        refine am_s_iload rfl dc106_3.1.1.2 ?_
        refine am_x_iaload (x := I 103 (Int32.toNatClampNeg x4)) dc106_3.1.2.1 rfl ((vi_f (vi_f (vi_f q c1) c2) c3).1) rfl rfl ?_
        refine am_s_iconst am_cc5 dc106_3.1.2.2 ?_
        refine am_s_ic_ne dc106_3.2.1.1 rfl (fun c4 => ?_) (fun c4 => ?_)
        · refine am_s_iload_n rfl dc106_6.2.1.2 ?_
          refine am_s_sipush am_cs200 dc106_6.2.2.1 ?_
          refine am_s_ic_ne dc106_6.2.2.2 rfl (fun c5 => ?_) (fun c5 => ?_)
          · refine am_s_iinc (ls' := [some (.ref 102), some (.ref x1), some (.int (x2 + 1)), some (.int x3), some (.int x4), some (.int x5)]) am_cc1 rfl rfl dc106_7.1.1.2 ?_
            refine am_s_aload_n rfl dc106_7.1.2.1 ?_
            refine am_s_getR (r := 103) dc106_7.1.2.2 rfl rfl rfl (hp _ _ _ rfl) ?_
            refine am_s_iload rfl dc106_7.2.1.1 ?_
            refine am_x_iaload (x := I 103 (Int32.toNatClampNeg x4)) dc106_7.2.1.2 rfl ((vi_f (vi_f (vi_f (vi_f (vi_f q c1) c2) c3).2 c4) c5).1) rfl rfl ?_
            refine am_s_iconst am_cc4 dc106_7.2.2.1 ?_
            refine am_s_ic_eq dc106_7.2.2.2 rfl (fun c6 => ?_) (fun c6 => ?_)
            · refine am_s_aload_n rfl dc106_10.2.1.1 ?_
              refine am_s_getR (r := 104) dc106_10.2.1.2 rfl rfl rfl (hp _ _ _ rfl) ?_
              refine am_s_iload rfl dc106_10.2.2.1 ?_
              refine am_x_iaload (x := I 104 (Int32.toNatClampNeg x4)) dc106_10.2.2.2 rfl ((vi_t (vi_f (vi_f (vi_f (vi_f (vi_f q c1) c2) c3).2 c4) c5).2 c6).1) rfl rfl ?_
              refine am_s_if_eq dc106_11.1.1.1 rfl (fun c7 => ?_) (fun c7 => ?_)
              · exact (vi_t (vi_t (vi_f (vi_f (vi_f (vi_f (vi_f q c1) c2) c3).2 c4) c5).2 c6).2 c7)
              · refine am_s_aload_n rfl dc106_11.1.1.2 ?_
                refine am_s_getR (r := 105) dc106_11.1.2.1 rfl rfl rfl (hp _ _ _ rfl) ?_
                refine am_s_iload rfl dc106_11.1.2.2 ?_
                refine am_x_iaload (x := I 105 (Int32.toNatClampNeg x4)) dc106_11.2.1.1 rfl ((vi_f (vi_t (vi_f (vi_f (vi_f (vi_f (vi_f q c1) c2) c3).2 c4) c5).2 c6).2 c7).1) rfl rfl ?_
                refine am_s_iload rfl dc106_11.2.1.2 ?_
                refine am_s_iconst am_cc1 dc106_11.2.2.1 ?_
                refine am_s_iadd dc106_11.2.2.2 ?_
                refine am_s_ic_eq dc106_12.1.1.1 rfl (fun c8 => ?_) (fun c8 => ?_)
                · exact (vi_t (vi_f (vi_t (vi_f (vi_f (vi_f (vi_f (vi_f q c1) c2) c3).2 c4) c5).2 c6).2 c7).2 c8)
                · refine am_s_iload_n rfl dc106_12.1.1.2 ?_
                  refine am_s_bipush am_cb6 dc106_12.1.2.1 ?_
                  refine am_s_ic_lt dc106_12.1.2.2 rfl (fun c9 => ?_) (fun c9 => ?_)
                  · refine am_s_iinc (ls' := [some (.ref 102), some (.ref x1), some (.int (x2 + 1)), some (.int (x3 + 1)), some (.int x4), some (.int x5)]) am_cc1 rfl rfl dc106_13.2.1.1 ?_
                    refine am_s_aload_n rfl dc106_13.2.1.2 ?_
                    refine am_s_getR (r := 107) dc106_13.2.2.1 rfl rfl rfl (hp _ _ _ rfl) ?_
                    refine am_s_iload_n rfl dc106_13.2.2.2 ?_
                    refine am_s_aload_n rfl dc106_14.1.1.1 ?_
                    refine am_s_getR (r := 104) dc106_14.1.1.2 rfl rfl rfl (hp _ _ _ rfl) ?_
                    refine am_s_iload rfl dc106_14.1.2.1 ?_
                    refine am_x_iaload (x := I 104 (Int32.toNatClampNeg x4)) dc106_14.1.2.2 rfl ((vi_t (vi_f (vi_f (vi_t (vi_f (vi_f (vi_f (vi_f (vi_f q c1) c2) c3).2 c4) c5).2 c6).2 c7).2 c8) c9).1) rfl rfl ?_
                    refine am_s_iastore dc106_14.2.1.1 rfl ((vi_t (vi_f (vi_f (vi_t (vi_f (vi_f (vi_f (vi_f (vi_f q c1) c2) c3).2 c4) c5).2 c6).2 c7).2 c8) c9).2.1) rfl ?_
                    refine am_s_iinc (ls' := [some (.ref 102), some (.ref x1), some (.int (x2 + 1)), some (.int (x3 + 1)), some (.int (x4 + 1)), some (.int x5)]) am_cc1 rfl rfl dc106_14.2.1.2 ?_
                    refine am_s_iinc (ls' := [some (.ref 102), some (.ref x1), some (.int (x2 + 1)), some (.int (x3 + 1)), some (.int (x4 + 1)), some (.int (x5 + 1))]) am_cc1 rfl rfl dc106_14.2.2.1 ?_
                    refine am_s_goto rfl dc106_14.2.2.2 ?_
                    exact (vi_t (vi_f (vi_f (vi_t (vi_f (vi_f (vi_f (vi_f (vi_f q c1) c2) c3).2 c4) c5).2 c6).2 c7).2 c8) c9).2.2
                  · exact (vi_f (vi_f (vi_f (vi_t (vi_f (vi_f (vi_f (vi_f (vi_f q c1) c2) c3).2 c4) c5).2 c6).2 c7).2 c8) c9)
            · refine am_s_aload_n rfl dc106_8.1.1.1 ?_
              refine am_s_aload_n rfl dc106_8.1.1.2 ?_
              refine am_s_iload rfl dc106_8.1.2.1 ?_
              exact am_s_virtual true dc106_8.1.2.2 rfl (by decide) rfl rfl rfl ((vi_f (vi_f (vi_f (vi_f (vi_f (vi_f q c1) c2) c3).2 c4) c5).2 c6))
          · exact am_s_return dc106_7.1.1.1 rfl ((vi_t (vi_f (vi_f (vi_f (vi_f q c1) c2) c3).2 c4) (Decidable.not_not.mp c5)))
        · refine am_s_aload_n rfl dc106_3.2.1.2 ?_
          refine am_s_getR (r := 107) dc106_3.2.2.1 rfl rfl rfl (hp _ _ _ rfl) ?_
          refine am_s_iload_n rfl dc106_3.2.2.2 ?_
          refine am_s_dup2 rfl rfl dc106_4.1.1.1 ?_
          refine am_x_iaload (x := I 107 (Int32.toNatClampNeg x3)) dc106_4.1.1.2 rfl ((vi_t (vi_f (vi_f (vi_f q c1) c2) c3).2 (Decidable.not_not.mp c4)).1) rfl rfl ?_
          refine am_s_iconst am_cc1 dc106_4.1.2.1 ?_
          refine am_s_isub dc106_4.1.2.2 ?_
          refine am_s_iastore dc106_4.2.1.1 rfl ((vi_t (vi_f (vi_f (vi_f q c1) c2) c3).2 (Decidable.not_not.mp c4)).2.1) rfl ?_
          refine am_s_aload_n rfl dc106_4.2.1.2 ?_
          refine am_s_getR (r := 107) dc106_4.2.2.1 rfl rfl rfl (hp _ _ _ rfl) ?_
          refine am_s_iload_n rfl dc106_4.2.2.2 ?_
          refine am_x_iaload (x := (I 107 (Int32.toNatClampNeg x3)) - 1) dc106_5.1.1.1 rfl ((vi_t (vi_f (vi_f (vi_f q c1) c2) c3).2 (Decidable.not_not.mp c4)).2.2.1) rfl (by simp [am_u]) ?_
          refine am_s_if_le dc106_5.1.1.2 rfl (fun c5 => ?_) (fun c5 => ?_)
          · refine am_s_iinc (ls' := [some (.ref 102), some (.ref x1), some (.int x2), some (.int (x3 + (-1))), some (.int x4), some (.int x5)]) am_ccm1 rfl rfl dc106_6.1.2.1 ?_
            refine am_s_iinc (ls' := [some (.ref 102), some (.ref x1), some (.int x2), some (.int (x3 + (-1))), some (.int (x4 + 1)), some (.int x5)]) am_cc1 rfl rfl dc106_6.1.2.2 ?_
            refine am_s_goto rfl dc106_6.2.1.1 ?_
            refine am_s_iinc (ls' := [some (.ref 102), some (.ref x1), some (.int x2), some (.int (x3 + (-1))), some (.int (x4 + 1)), some (.int (x5 + 1))]) am_cc1 rfl rfl dc106_14.2.2.1 ?_
            refine am_s_goto rfl dc106_14.2.2.2 ?_
            exact (vi_t (vi_t (vi_f (vi_f (vi_f q c1) c2) c3).2 (Decidable.not_not.mp c4)).2.2.2 c5)
          · refine am_s_aload_n rfl dc106_5.1.2.1 ?_
            refine am_s_getR (r := 105) dc106_5.1.2.2 rfl rfl rfl (hp _ _ _ rfl) ?_
            refine am_s_iload rfl dc106_5.2.1.1 ?_
            refine am_x_iaload (x := I 105 (Int32.toNatClampNeg x4)) dc106_5.2.1.2 rfl ((vi_f (vi_t (vi_f (vi_f (vi_f q c1) c2) c3).2 (Decidable.not_not.mp c4)).2.2.2 c5).1) rfl rfl ?_
            refine am_s_iconst am_cc1 dc106_5.2.2.1 ?_
            refine am_s_iadd dc106_5.2.2.2 ?_
            refine am_s_istore (ls' := [some (.ref 102), some (.ref x1), some (.int x2), some (.int x3), some (.int ((I 105 (Int32.toNatClampNeg x4)) + 1)), some (.int x5)]) rfl rfl dc106_6.1.1.1 ?_
            refine am_s_goto rfl dc106_6.1.1.2 ?_
            refine am_s_iinc (ls' := [some (.ref 102), some (.ref x1), some (.int x2), some (.int x3), some (.int ((I 105 (Int32.toNatClampNeg x4)) + 1)), some (.int (x5 + 1))]) am_cc1 rfl rfl dc106_14.2.2.1 ?_
            refine am_s_goto rfl dc106_14.2.2.2 ?_
            exact (vi_f (vi_t (vi_f (vi_f (vi_f q c1) c2) c3).2 (Decidable.not_not.mp c4)).2.2.2 c5).2
theorem v106_186 {sc : Option (Nat × (Nat → Int32))} {d k n : Nat} {P : am_O → Prop} {I : am_I} {J : am_J} {Pf : am_R} (hp : am_PF Pf) {x1 : Nat} (hx1 : am_SH[x1]? = some (.inl 9)) {x2 : Int32} {x3 : Int32} {x4 : Int32} {x5 : Int32} (q : (am_in x4 150 = true) ∧ (am_go sc d 106 (20, [some (.ref 102), some (.ref x1), some (.int x2), some (.int x3), some (.int ((I 105 (Int32.toNatClampNeg x4)) + 1)), some (.int (x5 + 1))], [], (am_SH, I, J, Pf), k, n) P)) : am_go sc d 106 (186, [some (.ref 102), some (.ref x1), some (.int x2), some (.int x3), some (.int x4), some (.int x5)], [], (am_SH, I, J, Pf), k, n) P := by
  refine am_s_aload_n rfl dc106_12.2.1.1 ?_
  refine am_s_getR (r := 105) dc106_12.2.1.2 rfl rfl rfl (hp _ _ _ rfl) ?_
  refine am_s_iload rfl dc106_12.2.2.1 ?_
  refine am_x_iaload (x := I 105 (Int32.toNatClampNeg x4)) dc106_12.2.2.2 rfl (q.1) rfl rfl ?_
  refine am_s_iconst am_cc1 dc106_13.1.1.1 ?_
  refine am_s_iadd dc106_13.1.1.2 ?_
  refine am_s_istore (ls' := [some (.ref 102), some (.ref x1), some (.int x2), some (.int x3), some (.int ((I 105 (Int32.toNatClampNeg x4)) + 1)), some (.int x5)]) rfl rfl dc106_13.1.2.1 ?_
  refine am_s_goto rfl dc106_13.1.2.2 ?_
  refine am_s_iinc (ls' := [some (.ref 102), some (.ref x1), some (.int x2), some (.int x3), some (.int ((I 105 (Int32.toNatClampNeg x4)) + 1)), some (.int (x5 + 1))]) am_cc1 rfl rfl dc106_14.2.2.1 ?_
  refine am_s_goto rfl dc106_14.2.2.2 ?_
  exact q.2
theorem v106_124 {sc : Option (Nat × (Nat → Int32))} {d k n : Nat} {P : am_O → Prop} {I : am_I} {J : am_J} {Pf : am_R} (hp : am_PF Pf) {x1 : Nat} (hx1 : am_SH[x1]? = some (.inl 9)) {x2 : Int32} {x3 : Int32} {x4 : Int32} {x5 : Int32} {s0 : Int32} (q : (if s0 = 0 then (am_go sc d 106 (20, [some (.ref 102), some (.ref x1), some (.int x2), some (.int x3), some (.int (x4 + 1)), some (.int (x5 + 1))], [], (am_SH, am_u I 102 9 ((I 102 9) + 1), J, Pf), k, n) P) else (am_go sc d 106 (20, [some (.ref 102), some (.ref x1), some (.int x2), some (.int x3), some (.int (x4 + 1)), some (.int (x5 + 1))], [], (am_SH, am_u I 102 8 ((I 102 8) + 1), J, Pf), k, n) P))) : am_go sc d 106 (124, [some (.ref 102), some (.ref x1), some (.int x2), some (.int x3), some (.int x4), some (.int x5)], [.int s0], (am_SH, I, J, Pf), k, n) P := by
  refine am_s_if_eq dc106_8.2.1.1 rfl (fun c1 => ?_) (fun c1 => ?_)
  · refine am_s_aload_n rfl dc106_9.2.1.1 ?_
    refine am_s_dup rfl dc106_9.2.1.2 ?_
    refine am_x_getI (x := I 102 9) dc106_9.2.2.1 rfl rfl (Or.inl rfl) rfl ?_
    refine am_s_iconst am_cc1 dc106_9.2.2.2 ?_
    refine am_s_iadd dc106_10.1.1.1 ?_
    refine am_s_putI dc106_10.1.1.2 rfl rfl rfl rfl ?_
    refine am_s_iinc (ls' := [some (.ref 102), some (.ref x1), some (.int x2), some (.int x3), some (.int (x4 + 1)), some (.int x5)]) am_cc1 rfl rfl dc106_10.1.2.1 ?_
    refine am_s_goto rfl dc106_10.1.2.2 ?_
    refine am_s_iinc (ls' := [some (.ref 102), some (.ref x1), some (.int x2), some (.int x3), some (.int (x4 + 1)), some (.int (x5 + 1))]) am_cc1 rfl rfl dc106_14.2.2.1 ?_
    refine am_s_goto rfl dc106_14.2.2.2 ?_
    exact (vi_t q c1)
  · refine am_s_aload_n rfl dc106_8.2.1.2 ?_
    refine am_s_dup rfl dc106_8.2.2.1 ?_
    refine am_x_getI (x := I 102 8) dc106_8.2.2.2 rfl rfl (Or.inl rfl) rfl ?_
    refine am_s_iconst am_cc1 dc106_9.1.1.1 ?_
    refine am_s_iadd dc106_9.1.1.2 ?_
    refine am_s_putI dc106_9.1.2.1 rfl rfl rfl rfl ?_
    refine am_s_goto rfl dc106_9.1.2.2 ?_
    refine am_s_iinc (ls' := [some (.ref 102), some (.ref x1), some (.int x2), some (.int x3), some (.int (x4 + 1)), some (.int x5)]) am_cc1 rfl rfl dc106_10.1.2.1 ?_
    refine am_s_goto rfl dc106_10.1.2.2 ?_
    refine am_s_iinc (ls' := [some (.ref 102), some (.ref x1), some (.int x2), some (.int x3), some (.int (x4 + 1)), some (.int (x5 + 1))]) am_cc1 rfl rfl dc106_14.2.2.1 ?_
    refine am_s_goto rfl dc106_14.2.2.2 ?_
    exact (vi_f q c1)
-- performOne (LPrunedParses$Table;I)Z
theorem v107_0 {sc : Option (Nat × (Nat → Int32))} {d k n : Nat} {P : am_O → Prop} {I : am_I} {J : am_J} {Pf : am_R} (hp : am_PF Pf) {x1 : Nat} (hx1 : am_SH[x1]? = some (.inl 9)) {x2 : Int32} (q : (am_in x2 150 = true) ∧ (if (I 103 (Int32.toNatClampNeg x2)) = 1 then (am_in x2 150 = true) ∧ (am_in x2 150 = true) ∧ (am_mth d 111 [.ref x1, .int (I 104 (Int32.toNatClampNeg x2)), .ref 106, .int (x2 * 8), .int (I 105 (Int32.toNatClampNeg x2))] (am_SH, I, J, Pf) (am_af sc d 107 31 [some (.ref 102), some (.ref x1), some (.int x2)] [.int (I 105 (Int32.toNatClampNeg x2)), .int (x2 * 8), .ref 106, .int (I 104 (Int32.toNatClampNeg x2)), .ref x1] [] (am_SH, I, J, Pf) k n false P)) else (am_in x2 150 = true) ∧ (if (I 103 (Int32.toNatClampNeg x2)) = 2 then (am_in x2 150 = true) ∧ (am_in x2 150 = true) ∧ (am_mth d 113 [.ref x1, .int (I 104 (Int32.toNatClampNeg x2)), .int (I 105 (Int32.toNatClampNeg x2))] (am_SH, I, J, Pf) (am_af sc d 107 58 [some (.ref 102), some (.ref x1), some (.int x2)] [.int (I 105 (Int32.toNatClampNeg x2)), .int (I 104 (Int32.toNatClampNeg x2)), .ref x1] [] (am_SH, I, J, Pf) k n false P)) else (am_in x2 150 = true) ∧ (am_in x2 150 = true) ∧ (am_mth d 114 [.ref x1, .int (I 104 (Int32.toNatClampNeg x2)), .int (I 105 (Int32.toNatClampNeg x2))] (am_SH, I, J, Pf) (am_af sc d 107 75 [some (.ref 102), some (.ref x1), some (.int x2)] [.int (I 105 (Int32.toNatClampNeg x2)), .int (I 104 (Int32.toNatClampNeg x2)), .ref x1] [] (am_SH, I, J, Pf) k n false P))))) : am_go sc d 107 (0, [some (.ref 102), some (.ref x1), some (.int x2)], [], (am_SH, I, J, Pf), k, n) P := by
  refine am_s_aload_n rfl dc107_0.1.1.1 ?_
  refine am_s_getR (r := 103) dc107_0.1.1.2 rfl rfl rfl (hp _ _ _ rfl) ?_
  refine am_s_iload_n rfl dc107_0.1.2.1 ?_
  refine am_x_iaload (x := I 103 (Int32.toNatClampNeg x2)) dc107_0.1.2.2 rfl (q.1) rfl rfl ?_
  refine am_s_iconst am_cc1 dc107_0.2.1.1 ?_
  refine am_s_ic_ne dc107_0.2.1.2 rfl (fun c1 => ?_) (fun c1 => ?_)
  · refine am_s_aload_n rfl dc107_2.2.2.1 ?_
    refine am_s_getR (r := 103) dc107_2.2.2.2 rfl rfl rfl (hp _ _ _ rfl) ?_
    refine am_s_iload_n rfl dc107_3.1.1.1 ?_
    refine am_x_iaload (x := I 103 (Int32.toNatClampNeg x2)) dc107_3.1.1.2 rfl ((vi_f q.2 c1).1) rfl rfl ?_
    refine am_s_iconst am_cc2 dc107_3.1.2.1 ?_
    refine am_s_ic_ne dc107_3.1.2.2 rfl (fun c2 => ?_) (fun c2 => ?_)
    · refine am_s_aload_n rfl dc107_4.2.2.2 ?_
      refine am_s_aload_n rfl dc107_5.1.1.1 ?_
      refine am_s_getR (r := 104) dc107_5.1.1.2 rfl rfl rfl (hp _ _ _ rfl) ?_
      refine am_s_iload_n rfl dc107_5.1.2.1 ?_
      refine am_x_iaload (x := I 104 (Int32.toNatClampNeg x2)) dc107_5.1.2.2 rfl ((vi_f (vi_f q.2 c1).2 c2).1) rfl rfl ?_
      refine am_s_aload_n rfl dc107_5.2.1.1 ?_
      refine am_s_getR (r := 105) dc107_5.2.1.2 rfl rfl rfl (hp _ _ _ rfl) ?_
      refine am_s_iload_n rfl dc107_5.2.2.1 ?_
      refine am_x_iaload (x := I 105 (Int32.toNatClampNeg x2)) dc107_5.2.2.2 rfl ((vi_f (vi_f q.2 c1).2 c2).2.1) rfl rfl ?_
      exact am_s_virtual false dc107_6.1 rfl (by decide) rfl hx1 rfl ((vi_f (vi_f q.2 c1).2 c2).2.2)
    · refine am_s_aload_n rfl dc107_3.2.1.1 ?_
      refine am_s_aload_n rfl dc107_3.2.1.2 ?_
      refine am_s_getR (r := 104) dc107_3.2.2.1 rfl rfl rfl (hp _ _ _ rfl) ?_
      refine am_s_iload_n rfl dc107_3.2.2.2 ?_
      refine am_x_iaload (x := I 104 (Int32.toNatClampNeg x2)) dc107_4.1.1.1 rfl ((vi_t (vi_f q.2 c1).2 (Decidable.not_not.mp c2)).1) rfl rfl ?_
      refine am_s_aload_n rfl dc107_4.1.1.2 ?_
      refine am_s_getR (r := 105) dc107_4.1.2.1 rfl rfl rfl (hp _ _ _ rfl) ?_
      refine am_s_iload_n rfl dc107_4.1.2.2 ?_
      refine am_x_iaload (x := I 105 (Int32.toNatClampNeg x2)) dc107_4.2.1.1 rfl ((vi_t (vi_f q.2 c1).2 (Decidable.not_not.mp c2)).2.1) rfl rfl ?_
      exact am_s_virtual false dc107_4.2.1.2 rfl (by decide) rfl hx1 rfl ((vi_t (vi_f q.2 c1).2 (Decidable.not_not.mp c2)).2.2)
  · refine am_s_aload_n rfl dc107_0.2.2.1 ?_
    refine am_s_aload_n rfl dc107_0.2.2.2 ?_
    refine am_s_getR (r := 104) dc107_1.1.1.1 rfl rfl rfl (hp _ _ _ rfl) ?_
    refine am_s_iload_n rfl dc107_1.1.1.2 ?_
    refine am_x_iaload (x := I 104 (Int32.toNatClampNeg x2)) dc107_1.1.2.1 rfl ((vi_t q.2 (Decidable.not_not.mp c1)).1) rfl rfl ?_
    refine am_s_aload_n rfl dc107_1.1.2.2 ?_
    refine am_s_getR (r := 106) dc107_1.2.1.1 rfl rfl rfl (hp _ _ _ rfl) ?_
    refine am_s_iload_n rfl dc107_1.2.1.2 ?_
    refine am_s_bipush am_cb8 dc107_1.2.2.1 ?_
    refine am_s_imul dc107_1.2.2.2 ?_
    refine am_s_aload_n rfl dc107_2.1.1.1 ?_
    refine am_s_getR (r := 105) dc107_2.1.1.2 rfl rfl rfl (hp _ _ _ rfl) ?_
    refine am_s_iload_n rfl dc107_2.1.2.1 ?_
    refine am_x_iaload (x := I 105 (Int32.toNatClampNeg x2)) dc107_2.1.2.2 rfl ((vi_t q.2 (Decidable.not_not.mp c1)).2.1) rfl rfl ?_
    exact am_s_virtual false dc107_2.2.1.1 rfl (by decide) rfl hx1 rfl ((vi_t q.2 (Decidable.not_not.mp c1)).2.2)
theorem v107_34 {sc : Option (Nat × (Nat → Int32))} {d k n : Nat} {P : am_O → Prop} {I : am_I} {J : am_J} {Pf : am_R} (hp : am_PF Pf) {l0 : Option Value} {l1 : Option Value} {l2 : Option Value} {s0 : Int32} (q : (s0 = 0 ∨ s0 = 1) ∧ (P (.inl (some (.int s0)), (am_SH, I, J, Pf), k, n))) : am_go sc d 107 (34, [l0, l1, l2], [.int s0], (am_SH, I, J, Pf), k, n) P := by
  exact am_s_zreturn dc107_2.2.1.2 rfl (q.1) (q.2)
theorem v107_61 {sc : Option (Nat × (Nat → Int32))} {d k n : Nat} {P : am_O → Prop} {I : am_I} {J : am_J} {Pf : am_R} (hp : am_PF Pf) {l0 : Option Value} {l1 : Option Value} {l2 : Option Value} {s0 : Int32} (q : (s0 = 0 ∨ s0 = 1) ∧ (P (.inl (some (.int s0)), (am_SH, I, J, Pf), k, n))) : am_go sc d 107 (61, [l0, l1, l2], [.int s0], (am_SH, I, J, Pf), k, n) P := by
  exact am_s_zreturn dc107_4.2.2.1 rfl (q.1) (q.2)
theorem v107_78 {sc : Option (Nat × (Nat → Int32))} {d k n : Nat} {P : am_O → Prop} {I : am_I} {J : am_J} {Pf : am_R} (hp : am_PF Pf) {l0 : Option Value} {l1 : Option Value} {l2 : Option Value} {s0 : Int32} (q : (s0 = 0 ∨ s0 = 1) ∧ (P (.inl (some (.int s0)), (am_SH, I, J, Pf), k, n))) : am_go sc d 107 (78, [l0, l1, l2], [.int s0], (am_SH, I, J, Pf), k, n) P := by
  exact am_s_zreturn dc107_6.2 rfl (q.1) (q.2)
-- size ()I
theorem v83_0 {sc : Option (Nat × (Nat → Int32))} {d k n : Nat} {P : am_O → Prop} {I : am_I} {J : am_J} {Pf : am_R} (hp : am_PF Pf) {x0 : Nat} (hx0 : am_SH[x0]? = some (.inl 6)) (q : (am_mth d 328 [.long (J x0 0)] (am_SH, I, J, Pf) (am_af sc d 83 4 [some (.ref x0)] [.long (J x0 0)] [] (am_SH, I, J, Pf) k n false P))) : am_go sc d 83 (0, [some (.ref x0)], [], (am_SH, I, J, Pf), k, n) P := by
  refine am_s_aload_n rfl dc83_0.1.1.1 ?_
  refine am_x_getJ (x := J x0 0) dc83_0.1.1.2 rfl hx0 rfl rfl ?_
  exact am_s_static dc83_0.1.2.1 rfl rfl rfl (q)
theorem v83_7 {sc : Option (Nat × (Nat → Int32))} {d k n : Nat} {P : am_O → Prop} {I : am_I} {J : am_J} {Pf : am_R} (hp : am_PF Pf) {x0 : Nat} (hx0 : am_SH[x0]? = some (.inl 6)) {s0 : Int32} (q : (am_mth d 328 [.long (J x0 1)] (am_SH, I, J, Pf) (am_af sc d 83 11 [some (.ref x0)] [.long (J x0 1), .int s0] [.int s0] (am_SH, I, J, Pf) k n false P))) : am_go sc d 83 (7, [some (.ref x0)], [.int s0], (am_SH, I, J, Pf), k, n) P := by
  refine am_s_aload_n rfl dc83_0.1.2.2 ?_
  refine am_x_getJ (x := J x0 1) dc83_0.2.1.1 rfl hx0 rfl rfl ?_
  exact am_s_static dc83_0.2.1.2 rfl rfl rfl (q)
theorem v83_14 {sc : Option (Nat × (Nat → Int32))} {d k n : Nat} {P : am_O → Prop} {I : am_I} {J : am_J} {Pf : am_R} (hp : am_PF Pf) {l0 : Option Value} {s0 : Int32} {s1 : Int32} (q : (P (.inl (some (.int (s0 + s1))), (am_SH, I, J, Pf), k, n))) : am_go sc d 83 (14, [l0], [.int s1, .int s0], (am_SH, I, J, Pf), k, n) P := by
  refine am_s_iadd dc83_0.2.2.1 ?_
  exact am_s_ireturn dc83_0.2.2.2 rfl (q)
-- like (LPrunedParses$Signs;)Z
theorem v84_0 {sc : Option (Nat × (Nat → Int32))} {d k n : Nat} {P : am_O → Prop} {I : am_I} {J : am_J} {Pf : am_R} (hp : am_PF Pf) {x0 : Nat} (hx0 : am_SH[x0]? = some (.inl 6)) {x1 : Nat} (hx1 : am_SH[x1]? = some (.inl 6)) (q : (if (lg_cmp (J x0 0) (J x1 0)) = 0 then (if (lg_cmp (J x0 1) (J x1 1)) = 0 then (P (.inl (some (.int 1)), (am_SH, I, J, Pf), k, n)) else (P (.inl (some (.int 0)), (am_SH, I, J, Pf), k, n))) else (P (.inl (some (.int 0)), (am_SH, I, J, Pf), k, n)))) : am_go sc d 84 (0, [some (.ref x0), some (.ref x1)], [], (am_SH, I, J, Pf), k, n) P := by
  refine am_s_aload_n rfl dc84_0.1.1.1 ?_
  refine am_x_getJ (x := J x0 0) dc84_0.1.1.2 rfl hx0 rfl rfl ?_
  refine am_s_aload_n rfl dc84_0.1.2.1 ?_
  refine am_x_getJ (x := J x1 0) dc84_0.1.2.2 rfl hx1 rfl rfl ?_
  refine am_s_lcmp dc84_0.2.1.1 ?_
  refine am_s_if_ne dc84_0.2.1.2 rfl (fun c1 => ?_) (fun c1 => ?_)
  · refine am_s_iconst am_cc0 dc84_1.2.2.1 ?_
    exact am_s_zreturn dc84_1.2.2.2 rfl (by decide) ((vi_f q c1))
  · refine am_s_aload_n rfl dc84_0.2.2.1 ?_
    refine am_x_getJ (x := J x0 1) dc84_0.2.2.2 rfl hx0 rfl rfl ?_
    refine am_s_aload_n rfl dc84_1.1.1.1 ?_
    refine am_x_getJ (x := J x1 1) dc84_1.1.1.2 rfl hx1 rfl rfl ?_
    refine am_s_lcmp dc84_1.1.2.1 ?_
    refine am_s_if_ne dc84_1.1.2.2 rfl (fun c2 => ?_) (fun c2 => ?_)
    · refine am_s_iconst am_cc0 dc84_1.2.2.1 ?_
      exact am_s_zreturn dc84_1.2.2.2 rfl (by decide) ((vi_f (vi_t q (Decidable.not_not.mp c1)) c2))
    · refine am_s_iconst am_cc1 dc84_1.2.1.1 ?_
      refine am_s_goto rfl dc84_1.2.1.2 ?_
      exact am_s_zreturn dc84_1.2.2.2 rfl (by decide) ((vi_t (vi_t q (Decidable.not_not.mp c1)) (Decidable.not_not.mp c2)))
-- within (LPrunedParses$Signs;)Z
theorem v85_0 {sc : Option (Nat × (Nat → Int32))} {d k n : Nat} {P : am_O → Prop} {I : am_I} {J : am_J} {Pf : am_R} (hp : am_PF Pf) {x0 : Nat} (hx0 : am_SH[x0]? = some (.inl 6)) {x1 : Nat} (hx1 : am_SH[x1]? = some (.inl 6)) (q : (if (lg_cmp ((J x0 0) &&& ((J x1 0) ^^^ (-1))) 0) = 0 then (if (lg_cmp ((J x0 1) &&& ((J x1 1) ^^^ (-1))) 0) = 0 then (P (.inl (some (.int 1)), (am_SH, I, J, Pf), k, n)) else (P (.inl (some (.int 0)), (am_SH, I, J, Pf), k, n))) else (P (.inl (some (.int 0)), (am_SH, I, J, Pf), k, n)))) : am_go sc d 85 (0, [some (.ref x0), some (.ref x1)], [], (am_SH, I, J, Pf), k, n) P := by
  refine am_s_aload_n rfl dc85_0.1.1.1 ?_
  refine am_x_getJ (x := J x0 0) dc85_0.1.1.2 rfl hx0 rfl rfl ?_
  refine am_s_aload_n rfl dc85_0.1.2.1 ?_
  refine am_x_getJ (x := J x1 0) dc85_0.1.2.2 rfl hx1 rfl rfl ?_
  refine am_s_ldc2 (x := (-1)) dc85_0.2.1.1 rfl rfl ?_
  refine am_s_lxor dc85_0.2.1.2 ?_
  refine am_s_land dc85_0.2.2.1 ?_
  refine am_s_lconst (x := 0) (by decide) dc85_0.2.2.2 ?_
  refine am_s_lcmp dc85_1.1.1.1 ?_
  refine am_s_if_ne dc85_1.1.1.2 rfl (fun c1 => ?_) (fun c1 => ?_)
  · refine am_s_iconst am_cc0 dc85_2.2.2.1 ?_
    exact am_s_zreturn dc85_2.2.2.2 rfl (by decide) ((vi_f q c1))
  · refine am_s_aload_n rfl dc85_1.1.2.1 ?_
    refine am_x_getJ (x := J x0 1) dc85_1.1.2.2 rfl hx0 rfl rfl ?_
    refine am_s_aload_n rfl dc85_1.2.1.1 ?_
    refine am_x_getJ (x := J x1 1) dc85_1.2.1.2 rfl hx1 rfl rfl ?_
    refine am_s_ldc2 (x := (-1)) dc85_1.2.2.1 rfl rfl ?_
    refine am_s_lxor dc85_1.2.2.2 ?_
    refine am_s_land dc85_2.1.1.1 ?_
    refine am_s_lconst (x := 0) (by decide) dc85_2.1.1.2 ?_
    refine am_s_lcmp dc85_2.1.2.1 ?_
    refine am_s_if_ne dc85_2.1.2.2 rfl (fun c2 => ?_) (fun c2 => ?_)
    · refine am_s_iconst am_cc0 dc85_2.2.2.1 ?_
      exact am_s_zreturn dc85_2.2.2.2 rfl (by decide) ((vi_f (vi_t q (Decidable.not_not.mp c1)) c2))
    · refine am_s_iconst am_cc1 dc85_2.2.1.1 ?_
      refine am_s_goto rfl dc85_2.2.1.2 ?_
      exact am_s_zreturn dc85_2.2.2.2 rfl (by decide) ((vi_t (vi_t q (Decidable.not_not.mp c1)) (Decidable.not_not.mp c2)))
-- meets (LPrunedParses$Signs;)Z
theorem v86_0 {sc : Option (Nat × (Nat → Int32))} {d k n : Nat} {P : am_O → Prop} {I : am_I} {J : am_J} {Pf : am_R} (hp : am_PF Pf) {x0 : Nat} (hx0 : am_SH[x0]? = some (.inl 6)) {x1 : Nat} (hx1 : am_SH[x1]? = some (.inl 6)) (q : (if (lg_cmp ((J x0 0) &&& (J x1 0)) 0) = 0 then (if (lg_cmp ((J x0 1) &&& (J x1 1)) 0) = 0 then (P (.inl (some (.int 0)), (am_SH, I, J, Pf), k, n)) else (P (.inl (some (.int 1)), (am_SH, I, J, Pf), k, n))) else (P (.inl (some (.int 1)), (am_SH, I, J, Pf), k, n)))) : am_go sc d 86 (0, [some (.ref x0), some (.ref x1)], [], (am_SH, I, J, Pf), k, n) P := by
  refine am_s_aload_n rfl dc86_0.1.1.1 ?_
  refine am_x_getJ (x := J x0 0) dc86_0.1.1.2 rfl hx0 rfl rfl ?_
  refine am_s_aload_n rfl dc86_0.1.2.1 ?_
  refine am_x_getJ (x := J x1 0) dc86_0.1.2.2 rfl hx1 rfl rfl ?_
  refine am_s_land dc86_0.2.1.1 ?_
  refine am_s_lconst (x := 0) (by decide) dc86_0.2.1.2 ?_
  refine am_s_lcmp dc86_0.2.2.1 ?_
  refine am_s_if_ne dc86_0.2.2.2 rfl (fun c1 => ?_) (fun c1 => ?_)
  · refine am_s_iconst am_cc1 dc86_2.1.1 ?_
    refine am_s_goto rfl dc86_2.1.2 ?_
    exact am_s_zreturn dc86_2.2.2 rfl (by decide) ((vi_f q c1))
  · refine am_s_aload_n rfl dc86_1.1.1.1 ?_
    refine am_x_getJ (x := J x0 1) dc86_1.1.1.2 rfl hx0 rfl rfl ?_
    refine am_s_aload_n rfl dc86_1.1.2.1 ?_
    refine am_x_getJ (x := J x1 1) dc86_1.1.2.2 rfl hx1 rfl rfl ?_
    refine am_s_land dc86_1.2.1.1 ?_
    refine am_s_lconst (x := 0) (by decide) dc86_1.2.1.2 ?_
    refine am_s_lcmp dc86_1.2.2.1 ?_
    refine am_s_if_eq dc86_1.2.2.2 rfl (fun c2 => ?_) (fun c2 => ?_)
    · refine am_s_iconst am_cc0 dc86_2.2.1 ?_
      exact am_s_zreturn dc86_2.2.2 rfl (by decide) ((vi_t (vi_t q (Decidable.not_not.mp c1)) c2))
    · refine am_s_iconst am_cc1 dc86_2.1.1 ?_
      refine am_s_goto rfl dc86_2.1.2 ?_
      exact am_s_zreturn dc86_2.2.2 rfl (by decide) ((vi_f (vi_t q (Decidable.not_not.mp c1)) c2))
-- least ()I
theorem v87_0 {sc : Option (Nat × (Nat → Int32))} {d k n : Nat} {P : am_O → Prop} {I : am_I} {J : am_J} {Pf : am_R} (hp : am_PF Pf) {x0 : Nat} (hx0 : am_SH[x0]? = some (.inl 6)) {l1 : Option Value} (q : (am_go sc d 87 (3, [some (.ref x0), some (.int 32)], [], (am_SH, I, J, Pf), k, n) P)) : am_go sc d 87 (0, [some (.ref x0), l1], [], (am_SH, I, J, Pf), k, n) P := by
  refine am_s_bipush am_cb32 dc87_0.1.1.1 ?_
  refine am_s_istore_n (ls' := [some (.ref x0), some (.int 32)]) rfl rfl dc87_0.1.1.2 ?_
  exact q
theorem v87_3 {sc : Option (Nat × (Nat → Int32))} {d k n : Nat} {P : am_O → Prop} {I : am_I} {J : am_J} {Pf : am_R} (hp : am_PF Pf) {x0 : Nat} (hx0 : am_SH[x0]? = some (.inl 6)) {x1 : Int32} (q : (if 126 < x1 then (P (.inl (some (.int (-1))), (am_SH, I, J, Pf), k, n)) else (am_mth d 78 [.ref x0, .int x1] (am_SH, I, J, Pf) (am_af sc d 87 11 [some (.ref x0), some (.int x1)] [.int x1, .ref x0] [] (am_SH, I, J, Pf) k n true P)))) : am_go sc d 87 (3, [some (.ref x0), some (.int x1)], [], (am_SH, I, J, Pf), k, n) P := by
  refine am_s_iload_n rfl dc87_0.1.2.1 ?_
  refine am_s_bipush am_cb126 dc87_0.1.2.2 ?_
  refine am_s_ic_gt dc87_0.2.1.1 rfl (fun c1 => ?_) (fun c1 => ?_)
  · refine am_s_iconst am_ccm1 dc87_1.2.2.1 ?_
    exact am_s_ireturn dc87_1.2.2.2 rfl ((vi_t q c1))
  · refine am_s_aload_n rfl dc87_0.2.1.2 ?_
    refine am_s_iload_n rfl dc87_0.2.2.1 ?_
    exact am_s_virtual true dc87_0.2.2.2 rfl (by decide) rfl hx0 rfl ((vi_f q c1))
theorem v87_14 {sc : Option (Nat × (Nat → Int32))} {d k n : Nat} {P : am_O → Prop} {I : am_I} {J : am_J} {Pf : am_R} (hp : am_PF Pf) {x0 : Nat} (hx0 : am_SH[x0]? = some (.inl 6)) {x1 : Int32} {s0 : Int32} (q : (if s0 = 0 then (am_go sc d 87 (3, [some (.ref x0), some (.int (x1 + 1))], [], (am_SH, I, J, Pf), k, n) P) else (P (.inl (some (.int x1)), (am_SH, I, J, Pf), k, n)))) : am_go sc d 87 (14, [some (.ref x0), some (.int x1)], [.int s0], (am_SH, I, J, Pf), k, n) P := by
  refine am_s_if_eq dc87_1.1.1 rfl (fun c1 => ?_) (fun c1 => ?_)
  · refine am_s_iinc (ls' := [some (.ref x0), some (.int (x1 + 1))]) am_cc1 rfl rfl dc87_1.2.1.1 ?_
    refine am_s_goto rfl dc87_1.2.1.2 ?_
    exact (vi_t q c1)
  · refine am_s_iload_n rfl dc87_1.1.2.1 ?_
    exact am_s_ireturn dc87_1.1.2.2 rfl ((vi_f q c1))
-- greatest ()I
theorem v88_0 {sc : Option (Nat × (Nat → Int32))} {d k n : Nat} {P : am_O → Prop} {I : am_I} {J : am_J} {Pf : am_R} (hp : am_PF Pf) {x0 : Nat} (hx0 : am_SH[x0]? = some (.inl 6)) {l1 : Option Value} (q : (am_go sc d 88 (3, [some (.ref x0), some (.int 126)], [], (am_SH, I, J, Pf), k, n) P)) : am_go sc d 88 (0, [some (.ref x0), l1], [], (am_SH, I, J, Pf), k, n) P := by
  refine am_s_bipush am_cb126 dc88_0.1.1.1 ?_
  refine am_s_istore_n (ls' := [some (.ref x0), some (.int 126)]) rfl rfl dc88_0.1.1.2 ?_
  exact q
theorem v88_3 {sc : Option (Nat × (Nat → Int32))} {d k n : Nat} {P : am_O → Prop} {I : am_I} {J : am_J} {Pf : am_R} (hp : am_PF Pf) {x0 : Nat} (hx0 : am_SH[x0]? = some (.inl 6)) {x1 : Int32} (q : (if x1 < 32 then (P (.inl (some (.int (-1))), (am_SH, I, J, Pf), k, n)) else (am_mth d 78 [.ref x0, .int x1] (am_SH, I, J, Pf) (am_af sc d 88 11 [some (.ref x0), some (.int x1)] [.int x1, .ref x0] [] (am_SH, I, J, Pf) k n true P)))) : am_go sc d 88 (3, [some (.ref x0), some (.int x1)], [], (am_SH, I, J, Pf), k, n) P := by
  refine am_s_iload_n rfl dc88_0.1.2.1 ?_
  refine am_s_bipush am_cb32 dc88_0.1.2.2 ?_
  refine am_s_ic_lt dc88_0.2.1.1 rfl (fun c1 => ?_) (fun c1 => ?_)
  · refine am_s_iconst am_ccm1 dc88_1.2.2.1 ?_
    exact am_s_ireturn dc88_1.2.2.2 rfl ((vi_t q c1))
  · refine am_s_aload_n rfl dc88_0.2.1.2 ?_
    refine am_s_iload_n rfl dc88_0.2.2.1 ?_
    exact am_s_virtual true dc88_0.2.2.2 rfl (by decide) rfl hx0 rfl ((vi_f q c1))
theorem v88_14 {sc : Option (Nat × (Nat → Int32))} {d k n : Nat} {P : am_O → Prop} {I : am_I} {J : am_J} {Pf : am_R} (hp : am_PF Pf) {x0 : Nat} (hx0 : am_SH[x0]? = some (.inl 6)) {x1 : Int32} {s0 : Int32} (q : (if s0 = 0 then (am_go sc d 88 (3, [some (.ref x0), some (.int (x1 + (-1)))], [], (am_SH, I, J, Pf), k, n) P) else (P (.inl (some (.int x1)), (am_SH, I, J, Pf), k, n)))) : am_go sc d 88 (14, [some (.ref x0), some (.int x1)], [.int s0], (am_SH, I, J, Pf), k, n) P := by
  refine am_s_if_eq dc88_1.1.1 rfl (fun c1 => ?_) (fun c1 => ?_)
  · refine am_s_iinc (ls' := [some (.ref x0), some (.int (x1 + (-1)))]) am_ccm1 rfl rfl dc88_1.2.1.1 ?_
    refine am_s_goto rfl dc88_1.2.1.2 ?_
    exact (vi_t q c1)
  · refine am_s_iload_n rfl dc88_1.1.2.1 ?_
    exact am_s_ireturn dc88_1.1.2.2 rfl ((vi_f q c1))
-- stretches ()I
theorem v89_0 {sc : Option (Nat × (Nat → Int32))} {d k n : Nat} {P : am_O → Prop} {I : am_I} {J : am_J} {Pf : am_R} (hp : am_PF Pf) {x0 : Nat} (hx0 : am_SH[x0]? = some (.inl 6)) {l1 : Option Value} {l2 : Option Value} (q : (am_go sc d 89 (5, [some (.ref x0), some (.int 0), some (.int 32)], [], (am_SH, I, J, Pf), k, n) P)) : am_go sc d 89 (0, [some (.ref x0), l1, l2], [], (am_SH, I, J, Pf), k, n) P := by
  refine am_s_iconst am_cc0 dc89_0.1.1.1 ?_
  refine am_s_istore_n (ls' := [some (.ref x0), some (.int 0), l2]) rfl rfl dc89_0.1.1.2 ?_
  refine am_s_bipush am_cb32 dc89_0.1.2.1 ?_
  refine am_s_istore_n (ls' := [some (.ref x0), some (.int 0), some (.int 32)]) rfl rfl dc89_0.1.2.2 ?_
  exact q
theorem v89_5 {sc : Option (Nat × (Nat → Int32))} {d k n : Nat} {P : am_O → Prop} {I : am_I} {J : am_J} {Pf : am_R} (hp : am_PF Pf) {x0 : Nat} (hx0 : am_SH[x0]? = some (.inl 6)) {x1 : Int32} {x2 : Int32} (q : (if 126 < x2 then (P (.inl (some (.int x1)), (am_SH, I, J, Pf), k, n)) else (am_mth d 78 [.ref x0, .int x2] (am_SH, I, J, Pf) (am_af sc d 89 13 [some (.ref x0), some (.int x1), some (.int x2)] [.int x2, .ref x0] [] (am_SH, I, J, Pf) k n true P)))) : am_go sc d 89 (5, [some (.ref x0), some (.int x1), some (.int x2)], [], (am_SH, I, J, Pf), k, n) P := by
  refine am_s_iload_n rfl dc89_0.2.1.1 ?_
  refine am_s_bipush am_cb126 dc89_0.2.1.2 ?_
  refine am_s_ic_gt dc89_0.2.2.1 rfl (fun c1 => ?_) (fun c1 => ?_)
  · refine am_s_iload_n rfl dc89_2.2.2.1 ?_
    exact am_s_ireturn dc89_2.2.2.2 rfl ((vi_t q c1))
  · refine am_s_aload_n rfl dc89_0.2.2.2 ?_
    refine am_s_iload_n rfl dc89_1.1.1.1 ?_
    exact am_s_virtual true dc89_1.1.1.2 rfl (by decide) rfl hx0 rfl ((vi_f q c1))
theorem v89_16 {sc : Option (Nat × (Nat → Int32))} {d k n : Nat} {P : am_O → Prop} {I : am_I} {J : am_J} {Pf : am_R} (hp : am_PF Pf) {x0 : Nat} (hx0 : am_SH[x0]? = some (.inl 6)) {x1 : Int32} {x2 : Int32} {s0 : Int32} (q : (if s0 = 0 then (am_go sc d 89 (5, [some (.ref x0), some (.int x1), some (.int (x2 + 1))], [], (am_SH, I, J, Pf), k, n) P) else (am_mth d 78 [.ref x0, .int (x2 - 1)] (am_SH, I, J, Pf) (am_af sc d 89 23 [some (.ref x0), some (.int x1), some (.int x2)] [.int (x2 - 1), .ref x0] [] (am_SH, I, J, Pf) k n true P)))) : am_go sc d 89 (16, [some (.ref x0), some (.int x1), some (.int x2)], [.int s0], (am_SH, I, J, Pf), k, n) P := by
  refine am_s_if_eq dc89_1.1.2.1 rfl (fun c1 => ?_) (fun c1 => ?_)
  · refine am_s_iinc (ls' := [some (.ref x0), some (.int x1), some (.int (x2 + 1))]) am_cc1 rfl rfl dc89_2.1.2.2 ?_
    refine am_s_goto rfl dc89_2.2.1 ?_
    exact (vi_t q c1)
  · refine am_s_aload_n rfl dc89_1.1.2.2 ?_
    refine am_s_iload_n rfl dc89_1.2.1.1 ?_
    refine am_s_iconst am_cc1 dc89_1.2.1.2 ?_
    refine am_s_isub dc89_1.2.2.1 ?_
    exact am_s_virtual true dc89_1.2.2.2 rfl (by decide) rfl hx0 rfl ((vi_f q c1))
theorem v89_26 {sc : Option (Nat × (Nat → Int32))} {d k n : Nat} {P : am_O → Prop} {I : am_I} {J : am_J} {Pf : am_R} (hp : am_PF Pf) {x0 : Nat} (hx0 : am_SH[x0]? = some (.inl 6)) {x1 : Int32} {x2 : Int32} {s0 : Int32} (q : (if s0 = 0 then (am_go sc d 89 (5, [some (.ref x0), some (.int (x1 + 1)), some (.int (x2 + 1))], [], (am_SH, I, J, Pf), k, n) P) else (am_go sc d 89 (5, [some (.ref x0), some (.int x1), some (.int (x2 + 1))], [], (am_SH, I, J, Pf), k, n) P))) : am_go sc d 89 (26, [some (.ref x0), some (.int x1), some (.int x2)], [.int s0], (am_SH, I, J, Pf), k, n) P := by
  refine am_s_if_ne dc89_2.1.1 rfl (fun c1 => ?_) (fun c1 => ?_)
  · refine am_s_iinc (ls' := [some (.ref x0), some (.int x1), some (.int (x2 + 1))]) am_cc1 rfl rfl dc89_2.1.2.2 ?_
    refine am_s_goto rfl dc89_2.2.1 ?_
    exact (vi_f q c1)
  · refine am_s_iinc (ls' := [some (.ref x0), some (.int (x1 + 1)), some (.int x2)]) am_cc1 rfl rfl dc89_2.1.2.1 ?_
    refine am_s_iinc (ls' := [some (.ref x0), some (.int (x1 + 1)), some (.int (x2 + 1))]) am_cc1 rfl rfl dc89_2.1.2.2 ?_
    refine am_s_goto rfl dc89_2.2.1 ?_
    exact (vi_t q (Decidable.not_not.mp c1))
